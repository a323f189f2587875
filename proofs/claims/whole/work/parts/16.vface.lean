set_option maxRecDepth 20000 in
theorem v_X8_set_0 {g : zGG} {Q : Int → zMem → Prop} {d : zMem} {x1 : Int} {x2 : Int}  (h : ((inR x1) ∧ (x1 < 0 → Q (-2) d) ∧ (0 ≤ x1 → ((inR x1) ∧ (x1 < 4 → ((inR x2) ∧ (x2 < 1 → Q (-2) d) ∧ (1 ≤ x2 → (0 ≤ x1 ∧ x1 < 4) ∧ ((inR x2 ∧ inR (f2 x1.toNat)) ∧ (x2 ≤ (f2 x1.toNat) → Ev g M_X2_remember FUL FUL [zR 31, zR 1] d (fun _ d1 => Ev g M_X7_setting FUL FUL [zR 1, zI x1] d1 (fun v1 d2 => Ev g M_X7_changeSetting FUL FUL [zR 1, zI x1, zI x2] d2 (fun _ d3 => Q v1 d3)))) ∧ ((f2 x1.toNat) < x2 → Q (-2) d))))) ∧ (4 ≤ x1 → Q (-2) d))))) : Fr g (eM g M_X8_set FUL FUL Q) M_X8_set FUL 0 [some (zR 0), some (zI x1), some (zI x2), none] [] d := by
  refine z_iload_n (i := 1) dX8_set_0 rfl rfl ?_
  refine zb_if_lt (tgt := 12) dX8_set_1 (by decide) h.1 ⟨fun c => ?_, fun c => ?_⟩
  · replace h := h.2.1 c
    refine z_bipush dX8_set_12 (by decide +kernel) ?_
    exact zret_i rfl dX8_set_14 h
  · replace h := h.2.2 c
    refine z_iload_n (i := 1) dX8_set_4 rfl rfl ?_
    refine z_gets2 dX8_set_5 wg_X8_62 ?_
    refine z_len2 dX8_set_8 ?_
    refine zb_icmp_lt (tgt := 15) dX8_set_9 (by decide) ⟨h.1, by decide⟩ ⟨fun c => ?_, fun c => ?_⟩
    · replace h := h.2.1 c
      refine z_iload_n (i := 2) dX8_set_15 rfl rfl ?_
      refine z_iconst dX8_set_16 ?_
      refine zb_icmp_lt (tgt := 29) dX8_set_17 (by decide) ⟨h.1, by decide⟩ ⟨fun c => ?_, fun c => ?_⟩
      · replace h := h.2.1 c
        refine z_bipush dX8_set_29 (by decide +kernel) ?_
        exact zret_i rfl dX8_set_31 h
      · replace h := h.2.2 c
        refine z_iload_n (i := 2) dX8_set_20 rfl rfl ?_
        refine z_gets2 dX8_set_21 wg_X8_62 ?_
        refine z_iload_n (i := 1) dX8_set_24 rfl rfl ?_
        refine z_ld2 dX8_set_25 h.1 ?_
        replace h := h.2
        refine zb_icmp_le (tgt := 32) dX8_set_26 (by decide) h.1 ⟨fun c => ?_, fun c => ?_⟩
        · replace h := h.2.1 c
          refine z_aloadR_n (i := 0) dX8_set_32 rfl rfl ?_
          refine z_getR 8 4 (idx := 30) ly0 (by decide) (by decide) rfl (show 0 < 166 by decide) rfl rt_0_4 wf_X8_30 dX8_set_33 ?_
          refine z_aloadR_n (i := 0) dX8_set_36 rfl rfl ?_
          refine z_getR 8 0 (idx := 12) ly0 (by decide) (by decide) rfl (show 0 < 166 by decide) rfl rt_0_0 wf_X8_12 dX8_set_37 ?_
          refine z_callVv (k' := M_X2_remember) (As := [zR 1]) (st := []) dX8_set_40 rfl ly31 (by decide) rfl (show 31 < 166 by decide) wm_X8_66 ok_X2_remember okV_X2_remember rfl (zroom_self (by decide) (by decide)) (Nat.le_of_ble_eq_true rfl) (Nat.le_refl _) rfl (Ev_mono h (fun _ d1 h => ?_))
          refine z_aloadR_n (i := 0) dX8_set_43 rfl rfl ?_
          refine z_getR 8 0 (idx := 12) ly0 (by decide) (by decide) rfl (show 0 < 166 by decide) rfl rt_0_0 wf_X8_12 dX8_set_44 ?_
          refine z_iload_n (i := 1) dX8_set_47 rfl rfl ?_
          refine z_callVi (k' := M_X7_setting) (As := [zI x1]) (st := []) dX8_set_48 rfl (rl0 riv1) (by decide) rfl (rlt0 riv1) wm_X8_70 ok_X7_setting okV_X7_setting rfl (zroom_self (by decide) (by decide)) (Nat.le_of_ble_eq_true rfl) (Nat.le_refl _) rfl (Ev_mono h (fun v1 d2 h => ?_))
          refine z_istore_n (i := 3) (ls2 := [some (zR 0), some (zI x1), some (zI x2), some (zI v1)]) dX8_set_51 rfl (by decide) rfl ?_
          refine z_aloadR_n (i := 0) dX8_set_52 rfl rfl ?_
          refine z_getR 8 0 (idx := 12) ly0 (by decide) (by decide) rfl (show 0 < 166 by decide) rfl rt_0_0 wf_X8_12 dX8_set_53 ?_
          refine z_iload_n (i := 1) dX8_set_56 rfl rfl ?_
          refine z_iload_n (i := 2) dX8_set_57 rfl rfl ?_
          refine z_callVv (k' := M_X7_changeSetting) (As := [zI x1, zI x2]) (st := []) dX8_set_58 rfl (rl0 riv1) (by decide) rfl (rlt0 riv1) wm_X8_74 ok_X7_changeSetting okV_X7_changeSetting rfl (zroom_self (by decide) (by decide)) (Nat.le_of_ble_eq_true rfl) (Nat.le_refl _) rfl (Ev_mono h (fun _ d3 h => ?_))
          refine z_iload_n (i := 3) dX8_set_61 rfl rfl ?_
          exact zret_i rfl dX8_set_62 h
        · replace h := h.2.2 c
          refine z_bipush dX8_set_29 (by decide +kernel) ?_
          exact zret_i rfl dX8_set_31 h
    · replace h := h.2.2 c
      refine z_bipush dX8_set_12 (by decide +kernel) ?_
      exact zret_i rfl dX8_set_14 h
theorem e_X8_set {g : zGG} {Q : Int → zMem → Prop} {d : zMem} {x1 : Int} {x2 : Int} (h : ((inR x1) ∧ (x1 < 0 → Q (-2) d) ∧ (0 ≤ x1 → ((inR x1) ∧ (x1 < 4 → ((inR x2) ∧ (x2 < 1 → Q (-2) d) ∧ (1 ≤ x2 → (0 ≤ x1 ∧ x1 < 4) ∧ ((inR x2 ∧ inR (f2 x1.toNat)) ∧ (x2 ≤ (f2 x1.toNat) → Ev g M_X2_remember FUL FUL [zR 31, zR 1] d (fun _ d1 => Ev g M_X7_setting FUL FUL [zR 1, zI x1] d1 (fun v1 d2 => Ev g M_X7_changeSetting FUL FUL [zR 1, zI x1, zI x2] d2 (fun _ d3 => Q v1 d3)))) ∧ ((f2 x1.toNat) < x2 → Q (-2) d))))) ∧ (4 ≤ x1 → Q (-2) d))))) : Ev g M_X8_set FUL FUL [zR 0, zI x1, zI x2] d Q :=
  Ev_of (by decide +kernel) (Nat.le_of_ble_eq_true rfl) (v_X8_set_0  h)
set_option maxRecDepth 20000 in
theorem v_X8_read_0 {g : zGG} {Q : Int → zMem → Prop} {d : zMem}   (h : Ev g M_X5_scan FUL FUL [zR 117] d (fun v1 d1 => ((inR v1) ∧ (v1 = (-6) → Ev g M_X5_stepCount FUL FUL [zR 117] d1 (fun v2 d2 => ((inR (v2 + 1)) ∧ ((v2 + 1) ≤ 150 → Ev g M_X7_copyFrom FUL FUL [zR 15, zR 1] d2 (fun _ d3 => Ev g M_X7_clearAllButSettings FUL FUL [zR 15] d3 (fun _ d4 => Ev g M_X5_layCourse FUL FUL [zR 117, zR (15 + 2)] d4 (fun v3 d5 => ((inR v3) ∧ (v3 ≠ 0 → Ev g M_X2_remember FUL FUL [zR 31, zR 1] d5 (fun _ d6 => Ev g M_X7_copyFrom FUL FUL [zR 1, zR 15] d6 (fun _ d7 => Ev g M_X5_clear FUL FUL [zR 117] d7 (fun _ d8 => Ev g M_X1_length FUL FUL [zR (1 + 2)] d8 (fun v4 d9 => Q v4 d9))))) ∧ (v3 = 0 → Q (-5) d5)))))) ∧ (150 < (v2 + 1) → Q (-4) d2)))) ∧ (v1 ≠ (-6) → Q (-3) d1)))) : Fr g (eM g M_X8_read FUL FUL Q) M_X8_read FUL 0 [some (zR 0)] [] d := by
  refine z_aloadR_n (i := 0) dX8_read_0 rfl rfl ?_
  refine z_getR 8 5 (idx := 37) ly0 (by decide) (by decide) rfl (show 0 < 166 by decide) rfl rt_0_5 wf_X8_37 dX8_read_1 ?_
  refine z_callVi (k' := M_X5_scan) (As := []) (st := []) dX8_read_4 rfl ly117 (by decide) rfl (show 117 < 166 by decide) wm_X8_78 ok_X5_scan okV_X5_scan rfl (zroom_self (by decide) (by decide)) (Nat.le_of_ble_eq_true rfl) (Nat.le_refl _) rfl (Ev_mono h (fun v1 d1 h => ?_))
  refine z_bipush dX8_read_7 (by decide +kernel) ?_
  refine zb_icmp_eq (tgt := 15) dX8_read_9 (by decide) ⟨h.1, by decide⟩ ⟨fun c => ?_, fun c => ?_⟩
  · replace h := h.2.1 c
    refine z_aloadR_n (i := 0) dX8_read_15 rfl rfl ?_
    refine z_getR 8 5 (idx := 37) ly0 (by decide) (by decide) rfl (show 0 < 166 by decide) rfl rt_0_5 wf_X8_37 dX8_read_16 ?_
    refine z_callVi (k' := M_X5_stepCount) (As := []) (st := []) dX8_read_19 rfl ly117 (by decide) rfl (show 117 < 166 by decide) wm_X8_82 ok_X5_stepCount okV_X5_stepCount rfl (zroom_self (by decide) (by decide)) (Nat.le_of_ble_eq_true rfl) (Nat.le_refl _) rfl (Ev_mono h (fun v2 d2 h => ?_))
    refine z_iconst dX8_read_22 ?_
    refine z_iadd dX8_read_23 ?_
    refine z_sipush dX8_read_24 (by decide +kernel) ?_
    refine zb_icmp_le (tgt := 33) dX8_read_27 (by decide) ⟨h.1, by decide⟩ ⟨fun c => ?_, fun c => ?_⟩
    · replace h := h.2.1 c
      refine z_aloadR_n (i := 0) dX8_read_33 rfl rfl ?_
      refine z_getR 8 1 (idx := 16) ly0 (by decide) (by decide) rfl (show 0 < 166 by decide) rfl rt_0_1 wf_X8_16 dX8_read_34 ?_
      refine z_aloadR_n (i := 0) dX8_read_37 rfl rfl ?_
      refine z_getR 8 0 (idx := 12) ly0 (by decide) (by decide) rfl (show 0 < 166 by decide) rfl rt_0_0 wf_X8_12 dX8_read_38 ?_
      refine z_callVv (k' := M_X7_copyFrom) (As := [zR 1]) (st := []) dX8_read_41 rfl (rl0 riv15) (by decide) rfl (rlt0 riv15) wm_X8_85 ok_X7_copyFrom okV_X7_copyFrom rfl (zroom_self (by decide) (by decide)) (Nat.le_of_ble_eq_true rfl) (Nat.le_refl _) rfl (Ev_mono h (fun _ d3 h => ?_))
      refine z_aloadR_n (i := 0) dX8_read_44 rfl rfl ?_
      refine z_getR 8 1 (idx := 16) ly0 (by decide) (by decide) rfl (show 0 < 166 by decide) rfl rt_0_1 wf_X8_16 dX8_read_45 ?_
      refine z_callVv (k' := M_X7_clearAllButSettings) (As := []) (st := []) dX8_read_48 rfl (rl0 riv15) (by decide) rfl (rlt0 riv15) wm_X8_88 ok_X7_clearAllButSettings okV_X7_clearAllButSettings rfl (zroom_self (by decide) (by decide)) (Nat.le_of_ble_eq_true rfl) (Nat.le_refl _) rfl (Ev_mono h (fun _ d4 h => ?_))
      refine z_aloadR_n (i := 0) dX8_read_51 rfl rfl ?_
      refine z_getR 8 5 (idx := 37) ly0 (by decide) (by decide) rfl (show 0 < 166 by decide) rfl rt_0_5 wf_X8_37 dX8_read_52 ?_
      refine z_aloadR_n (i := 0) dX8_read_55 rfl rfl ?_
      refine z_getR 8 1 (idx := 16) ly0 (by decide) (by decide) rfl (show 0 < 166 by decide) rfl rt_0_1 wf_X8_16 dX8_read_56 ?_
      refine z_getRN 7 1 (idx := 91) (rl0 riv15) (by decide) (by decide) rfl (rlt0 riv15) rfl (rt0_1 riv15) wf_X8_91 dX8_read_59 ?_
      refine z_callVi (k' := M_X5_layCourse) (As := [zR (15 + 2)]) (st := []) dX8_read_62 rfl ly117 (by decide) rfl (show 117 < 166 by decide) wm_X8_95 ok_X5_layCourse okV_X5_layCourse rfl (zroom_self (by decide) (by decide)) (Nat.le_of_ble_eq_true rfl) (Nat.le_refl _) rfl (Ev_mono h (fun v3 d5 h => ?_))
      refine zb_if_ne (tgt := 71) dX8_read_65 (by decide) h.1 ⟨fun c => ?_, fun c => ?_⟩
      · replace h := h.2.1 c
        refine z_aloadR_n (i := 0) dX8_read_71 rfl rfl ?_
        refine z_getR 8 4 (idx := 30) ly0 (by decide) (by decide) rfl (show 0 < 166 by decide) rfl rt_0_4 wf_X8_30 dX8_read_72 ?_
        refine z_aloadR_n (i := 0) dX8_read_75 rfl rfl ?_
        refine z_getR 8 0 (idx := 12) ly0 (by decide) (by decide) rfl (show 0 < 166 by decide) rfl rt_0_0 wf_X8_12 dX8_read_76 ?_
        refine z_callVv (k' := M_X2_remember) (As := [zR 1]) (st := []) dX8_read_79 rfl ly31 (by decide) rfl (show 31 < 166 by decide) wm_X8_66 ok_X2_remember okV_X2_remember rfl (zroom_self (by decide) (by decide)) (Nat.le_of_ble_eq_true rfl) (Nat.le_refl _) rfl (Ev_mono h (fun _ d6 h => ?_))
        refine z_aloadR_n (i := 0) dX8_read_82 rfl rfl ?_
        refine z_getR 8 0 (idx := 12) ly0 (by decide) (by decide) rfl (show 0 < 166 by decide) rfl rt_0_0 wf_X8_12 dX8_read_83 ?_
        refine z_aloadR_n (i := 0) dX8_read_86 rfl rfl ?_
        refine z_getR 8 1 (idx := 16) ly0 (by decide) (by decide) rfl (show 0 < 166 by decide) rfl rt_0_1 wf_X8_16 dX8_read_87 ?_
        refine z_callVv (k' := M_X7_copyFrom) (As := [zR 15]) (st := []) dX8_read_90 rfl (rl0 riv1) (by decide) rfl (rlt0 riv1) wm_X8_85 ok_X7_copyFrom okV_X7_copyFrom rfl (zroom_self (by decide) (by decide)) (Nat.le_of_ble_eq_true rfl) (Nat.le_refl _) rfl (Ev_mono h (fun _ d7 h => ?_))
        refine z_aloadR_n (i := 0) dX8_read_93 rfl rfl ?_
        refine z_getR 8 5 (idx := 37) ly0 (by decide) (by decide) rfl (show 0 < 166 by decide) rfl rt_0_5 wf_X8_37 dX8_read_94 ?_
        refine z_callVv (k' := M_X5_clear) (As := []) (st := []) dX8_read_97 rfl ly117 (by decide) rfl (show 117 < 166 by decide) wm_X8_99 ok_X5_clear okV_X5_clear rfl (zroom_self (by decide) (by decide)) (Nat.le_of_ble_eq_true rfl) (Nat.le_refl _) rfl (Ev_mono h (fun _ d8 h => ?_))
        refine z_aloadR_n (i := 0) dX8_read_100 rfl rfl ?_
        refine z_getR 8 0 (idx := 12) ly0 (by decide) (by decide) rfl (show 0 < 166 by decide) rfl rt_0_0 wf_X8_12 dX8_read_101 ?_
        refine z_getRN 7 1 (idx := 91) (rl0 riv1) (by decide) (by decide) rfl (rlt0 riv1) rfl (rt0_1 riv1) wf_X8_91 dX8_read_104 ?_
        refine z_callVi (k' := M_X1_length) (As := []) (st := []) dX8_read_107 rfl (rl2 riv1) (by decide) rfl (rlt2 riv1) wm_X8_102 ok_X1_length okV_X1_length rfl (zroom_self (by decide) (by decide)) (Nat.le_of_ble_eq_true rfl) (Nat.le_refl _) rfl (Ev_mono h (fun v4 d9 h => ?_))
        exact zret_i rfl dX8_read_110 h
      · replace h := h.2.2 c
        refine z_bipush dX8_read_68 (by decide +kernel) ?_
        exact zret_i rfl dX8_read_70 h
    · replace h := h.2.2 c
      refine z_bipush dX8_read_30 (by decide +kernel) ?_
      exact zret_i rfl dX8_read_32 h
  · replace h := h.2.2 c
    refine z_bipush dX8_read_12 (by decide +kernel) ?_
    exact zret_i rfl dX8_read_14 h
theorem e_X8_read {g : zGG} {Q : Int → zMem → Prop} {d : zMem}  (h : Ev g M_X5_scan FUL FUL [zR 117] d (fun v1 d1 => ((inR v1) ∧ (v1 = (-6) → Ev g M_X5_stepCount FUL FUL [zR 117] d1 (fun v2 d2 => ((inR (v2 + 1)) ∧ ((v2 + 1) ≤ 150 → Ev g M_X7_copyFrom FUL FUL [zR 15, zR 1] d2 (fun _ d3 => Ev g M_X7_clearAllButSettings FUL FUL [zR 15] d3 (fun _ d4 => Ev g M_X5_layCourse FUL FUL [zR 117, zR (15 + 2)] d4 (fun v3 d5 => ((inR v3) ∧ (v3 ≠ 0 → Ev g M_X2_remember FUL FUL [zR 31, zR 1] d5 (fun _ d6 => Ev g M_X7_copyFrom FUL FUL [zR 1, zR 15] d6 (fun _ d7 => Ev g M_X5_clear FUL FUL [zR 117] d7 (fun _ d8 => Ev g M_X1_length FUL FUL [zR (1 + 2)] d8 (fun v4 d9 => Q v4 d9))))) ∧ (v3 = 0 → Q (-5) d5)))))) ∧ (150 < (v2 + 1) → Q (-4) d2)))) ∧ (v1 ≠ (-6) → Q (-3) d1)))) : Ev g M_X8_read FUL FUL [zR 0] d Q :=
  Ev_of (by decide +kernel) (Nat.le_of_ble_eq_true rfl) (v_X8_read_0  h)
set_option maxRecDepth 20000 in
theorem v_X8_dike_0 {g : zGG} {Q : Int → zMem → Prop} {d : zMem} {x1 : Int} {x2 : Int} {x3 : Int}  (h : Ev g M_X8_cellAt FUL FUL [zI x1, zI x2] d (fun v1 d1 => ((inR v1) ∧ (v1 ≠ (-1) → Ev g M_X1_numberOf FUL FUL [zR (1 + 2), zI v1] d1 (fun v2 d2 => ((inR v2) ∧ (v2 ≠ (-1) → Q (-5) d2) ∧ (v2 = (-1) → Ev g M_X7_isDike FUL FUL [zR 1, zI v1] d2 (fun v3 d3 => ((inR v3 ∧ inR x3) ∧ (v3 ≠ x3 → Ev g M_X2_remember FUL FUL [zR 31, zR 1] d3 (fun _ d4 => Ev g M_X7_changeDike FUL FUL [zR 1, zI v1, zI x3] d4 (fun _ d5 => Ev g M_X7_dikeCount FUL FUL [zR 1] d5 (fun v4 d6 => Q v4 d6)))) ∧ (v3 = x3 → Q (-5) d3))))))) ∧ (v1 = (-1) → Q (-1) d1)))) : Fr g (eM g M_X8_dike FUL FUL Q) M_X8_dike FUL 0 [some (zR 0), some (zI x1), some (zI x2), some (zI x3), none] [] d := by
  refine z_iload_n (i := 1) dX8_dike_0 rfl rfl ?_
  refine z_iload_n (i := 2) dX8_dike_1 rfl rfl ?_
  refine z_callS (k' := M_X8_cellAt) (As := [zI x1, zI x2]) (st := []) dX8_dike_2 rfl wm_X8_107 ok_X8_cellAt okS_X8_cellAt rfl (zroom_self (by decide) (by decide)) (Nat.le_of_ble_eq_true rfl) (Nat.le_refl _) (zEnd_i (Nat.le_refl _) rfl (fun _ _ q => q)) (Ev_mono h (fun v1 d1 h => ?_))
  refine z_istore (i := 4) (ls2 := [some (zR 0), some (zI x1), some (zI x2), some (zI x3), some (zI v1)]) dX8_dike_5 (by decide) rfl ?_
  refine z_iload (i := 4) dX8_dike_7 rfl ?_
  refine z_iconst dX8_dike_9 ?_
  refine zb_icmp_ne (tgt := 15) dX8_dike_10 (by decide) ⟨h.1, by decide⟩ ⟨fun c => ?_, fun c => ?_⟩
  · replace h := h.2.1 c
    refine z_aloadR_n (i := 0) dX8_dike_15 rfl rfl ?_
    refine z_getR 8 0 (idx := 12) ly0 (by decide) (by decide) rfl (show 0 < 166 by decide) rfl rt_0_0 wf_X8_12 dX8_dike_16 ?_
    refine z_getRN 7 1 (idx := 91) (rl0 riv1) (by decide) (by decide) rfl (rlt0 riv1) rfl (rt0_1 riv1) wf_X8_91 dX8_dike_19 ?_
    refine z_iload (i := 4) dX8_dike_22 rfl ?_
    refine z_callVi (k' := M_X1_numberOf) (As := [zI v1]) (st := []) dX8_dike_24 rfl (rl2 riv1) (by decide) rfl (rlt2 riv1) wm_X8_111 ok_X1_numberOf okV_X1_numberOf rfl (zroom_self (by decide) (by decide)) (Nat.le_of_ble_eq_true rfl) (Nat.le_refl _) rfl (Ev_mono h (fun v2 d2 h => ?_))
    refine z_iconst dX8_dike_27 ?_
    refine zb_icmp_ne (tgt := 44) dX8_dike_28 (by decide) ⟨h.1, by decide⟩ ⟨fun c => ?_, fun c => ?_⟩
    · replace h := h.2.1 c
      refine z_bipush dX8_dike_44 (by decide +kernel) ?_
      exact zret_i rfl dX8_dike_46 h
    · replace h := h.2.2 c
      refine z_aloadR_n (i := 0) dX8_dike_31 rfl rfl ?_
      refine z_getR 8 0 (idx := 12) ly0 (by decide) (by decide) rfl (show 0 < 166 by decide) rfl rt_0_0 wf_X8_12 dX8_dike_32 ?_
      refine z_iload (i := 4) dX8_dike_35 rfl ?_
      refine z_callVi (k' := M_X7_isDike) (As := [zI v1]) (st := []) dX8_dike_37 rfl (rl0 riv1) (by decide) rfl (rlt0 riv1) wm_X8_114 ok_X7_isDike okV_X7_isDike rfl (zroom_self (by decide) (by decide)) (Nat.le_of_ble_eq_true rfl) (Nat.le_refl _) rfl (Ev_mono h (fun v3 d3 h => ?_))
      refine z_iload_n (i := 3) dX8_dike_40 rfl rfl ?_
      refine zb_icmp_ne (tgt := 47) dX8_dike_41 (by decide) h.1 ⟨fun c => ?_, fun c => ?_⟩
      · replace h := h.2.1 c
        refine z_aloadR_n (i := 0) dX8_dike_47 rfl rfl ?_
        refine z_getR 8 4 (idx := 30) ly0 (by decide) (by decide) rfl (show 0 < 166 by decide) rfl rt_0_4 wf_X8_30 dX8_dike_48 ?_
        refine z_aloadR_n (i := 0) dX8_dike_51 rfl rfl ?_
        refine z_getR 8 0 (idx := 12) ly0 (by decide) (by decide) rfl (show 0 < 166 by decide) rfl rt_0_0 wf_X8_12 dX8_dike_52 ?_
        refine z_callVv (k' := M_X2_remember) (As := [zR 1]) (st := []) dX8_dike_55 rfl ly31 (by decide) rfl (show 31 < 166 by decide) wm_X8_66 ok_X2_remember okV_X2_remember rfl (zroom_self (by decide) (by decide)) (Nat.le_of_ble_eq_true rfl) (Nat.le_refl _) rfl (Ev_mono h (fun _ d4 h => ?_))
        refine z_aloadR_n (i := 0) dX8_dike_58 rfl rfl ?_
        refine z_getR 8 0 (idx := 12) ly0 (by decide) (by decide) rfl (show 0 < 166 by decide) rfl rt_0_0 wf_X8_12 dX8_dike_59 ?_
        refine z_iload (i := 4) dX8_dike_62 rfl ?_
        refine z_iload_n (i := 3) dX8_dike_64 rfl rfl ?_
        refine z_callVv (k' := M_X7_changeDike) (As := [zI v1, zI x3]) (st := []) dX8_dike_65 rfl (rl0 riv1) (by decide) rfl (rlt0 riv1) wm_X8_118 ok_X7_changeDike okV_X7_changeDike rfl (zroom_self (by decide) (by decide)) (Nat.le_of_ble_eq_true rfl) (Nat.le_refl _) rfl (Ev_mono h (fun _ d5 h => ?_))
        refine z_aloadR_n (i := 0) dX8_dike_68 rfl rfl ?_
        refine z_getR 8 0 (idx := 12) ly0 (by decide) (by decide) rfl (show 0 < 166 by decide) rfl rt_0_0 wf_X8_12 dX8_dike_69 ?_
        refine z_callVi (k' := M_X7_dikeCount) (As := []) (st := []) dX8_dike_72 rfl (rl0 riv1) (by decide) rfl (rlt0 riv1) wm_X8_122 ok_X7_dikeCount okV_X7_dikeCount rfl (zroom_self (by decide) (by decide)) (Nat.le_of_ble_eq_true rfl) (Nat.le_refl _) rfl (Ev_mono h (fun v4 d6 h => ?_))
        exact zret_i rfl dX8_dike_75 h
      · replace h := h.2.2 c
        refine z_bipush dX8_dike_44 (by decide +kernel) ?_
        exact zret_i rfl dX8_dike_46 h
  · replace h := h.2.2 c
    refine z_iconst dX8_dike_13 ?_
    exact zret_i rfl dX8_dike_14 h
theorem e_X8_dike {g : zGG} {Q : Int → zMem → Prop} {d : zMem} {x1 : Int} {x2 : Int} {x3 : Int} (h : Ev g M_X8_cellAt FUL FUL [zI x1, zI x2] d (fun v1 d1 => ((inR v1) ∧ (v1 ≠ (-1) → Ev g M_X1_numberOf FUL FUL [zR (1 + 2), zI v1] d1 (fun v2 d2 => ((inR v2) ∧ (v2 ≠ (-1) → Q (-5) d2) ∧ (v2 = (-1) → Ev g M_X7_isDike FUL FUL [zR 1, zI v1] d2 (fun v3 d3 => ((inR v3 ∧ inR x3) ∧ (v3 ≠ x3 → Ev g M_X2_remember FUL FUL [zR 31, zR 1] d3 (fun _ d4 => Ev g M_X7_changeDike FUL FUL [zR 1, zI v1, zI x3] d4 (fun _ d5 => Ev g M_X7_dikeCount FUL FUL [zR 1] d5 (fun v4 d6 => Q v4 d6)))) ∧ (v3 = x3 → Q (-5) d3))))))) ∧ (v1 = (-1) → Q (-1) d1)))) : Ev g M_X8_dike FUL FUL [zR 0, zI x1, zI x2, zI x3] d Q :=
  Ev_of (by decide +kernel) (Nat.le_of_ble_eq_true rfl) (v_X8_dike_0  h)
set_option maxRecDepth 20000 in
theorem v_X8_flood_0 {g : zGG} {Q : Int → zMem → Prop} {d : zMem} {x1 : Int} {x2 : Int}  (h : ((inR x1 ∧ inR (d 1 8)) ∧ (x1 < (d 1 8) → Q (-2) d) ∧ ((d 1 8) ≤ x1 → ((inR x1) ∧ (x1 ≤ 999 → Ev g M_X7_hasFlood FUL FUL [zR 1, zI x1] d (fun v1 d1 => ((inR v1 ∧ inR x2) ∧ (v1 ≠ x2 → ((inR x2) ∧ (x2 = 0 → Ev g M_X2_remember FUL FUL [zR 31, zR 1] d1 (fun _ d2 => Ev g M_X7_changeFlood FUL FUL [zR 1, zI x1, zI x2] d2 (fun _ d3 => Q (d3 1 7) d3))) ∧ (x2 ≠ 0 → ((inR (d1 1 7)) ∧ ((d1 1 7) < 8 → Ev g M_X2_remember FUL FUL [zR 31, zR 1] d1 (fun _ d4 => Ev g M_X7_changeFlood FUL FUL [zR 1, zI x1, zI x2] d4 (fun _ d5 => Q (d5 1 7) d5))) ∧ (8 ≤ (d1 1 7) → Q (-4) d1))))) ∧ (v1 = x2 → Q (-5) d1)))) ∧ (999 < x1 → Q (-2) d))))) : Fr g (eM g M_X8_flood FUL FUL Q) M_X8_flood FUL 0 [some (zR 0), some (zI x1), some (zI x2)] [] d := by
  refine z_iload_n (i := 1) dX8_flood_0 rfl rfl ?_
  refine z_aloadR_n (i := 0) dX8_flood_1 rfl rfl ?_
  refine z_getR 8 0 (idx := 12) ly0 (by decide) (by decide) rfl (show 0 < 166 by decide) rfl rt_0_0 wf_X8_12 dX8_flood_2 ?_
  refine z_getIN' 7 8 (idx := 125) (fv := (d 1 8)) (rl0 riv1) (by decide) (by decide) rfl (rlt0 riv1) wf_X8_125 dX8_flood_5 rfl ?_
  refine zb_icmp_lt (tgt := 18) dX8_flood_8 (by decide) h.1 ⟨fun c => ?_, fun c => ?_⟩
  · replace h := h.2.1 c
    refine z_bipush dX8_flood_18 (by decide +kernel) ?_
    exact zret_i rfl dX8_flood_20 h
  · replace h := h.2.2 c
    refine z_iload_n (i := 1) dX8_flood_11 rfl rfl ?_
    refine z_sipush dX8_flood_12 (by decide +kernel) ?_
    refine zb_icmp_le (tgt := 21) dX8_flood_15 (by decide) ⟨h.1, by decide⟩ ⟨fun c => ?_, fun c => ?_⟩
    · replace h := h.2.1 c
      refine z_aloadR_n (i := 0) dX8_flood_21 rfl rfl ?_
      refine z_getR 8 0 (idx := 12) ly0 (by decide) (by decide) rfl (show 0 < 166 by decide) rfl rt_0_0 wf_X8_12 dX8_flood_22 ?_
      refine z_iload_n (i := 1) dX8_flood_25 rfl rfl ?_
      refine z_callVi (k' := M_X7_hasFlood) (As := [zI x1]) (st := []) dX8_flood_26 rfl (rl0 riv1) (by decide) rfl (rlt0 riv1) wm_X8_129 ok_X7_hasFlood okV_X7_hasFlood rfl (zroom_self (by decide) (by decide)) (Nat.le_of_ble_eq_true rfl) (Nat.le_refl _) rfl (Ev_mono h (fun v1 d1 h => ?_))
      refine z_iload_n (i := 2) dX8_flood_29 rfl rfl ?_
      refine zb_icmp_ne (tgt := 36) dX8_flood_30 (by decide) h.1 ⟨fun c => ?_, fun c => ?_⟩
      · replace h := h.2.1 c
        refine z_iload_n (i := 2) dX8_flood_36 rfl rfl ?_
        refine zb_if_eq (tgt := 55) dX8_flood_37 (by decide) h.1 ⟨fun c => ?_, fun c => ?_⟩
        · replace h := h.2.1 c
          refine z_aloadR_n (i := 0) dX8_flood_55 rfl rfl ?_
          refine z_getR 8 4 (idx := 30) ly0 (by decide) (by decide) rfl (show 0 < 166 by decide) rfl rt_0_4 wf_X8_30 dX8_flood_56 ?_
          refine z_aloadR_n (i := 0) dX8_flood_59 rfl rfl ?_
          refine z_getR 8 0 (idx := 12) ly0 (by decide) (by decide) rfl (show 0 < 166 by decide) rfl rt_0_0 wf_X8_12 dX8_flood_60 ?_
          refine z_callVv (k' := M_X2_remember) (As := [zR 1]) (st := []) dX8_flood_63 rfl ly31 (by decide) rfl (show 31 < 166 by decide) wm_X8_66 ok_X2_remember okV_X2_remember rfl (zroom_self (by decide) (by decide)) (Nat.le_of_ble_eq_true rfl) (Nat.le_refl _) rfl (Ev_mono h (fun _ d2 h => ?_))
          refine z_aloadR_n (i := 0) dX8_flood_66 rfl rfl ?_
          refine z_getR 8 0 (idx := 12) ly0 (by decide) (by decide) rfl (show 0 < 166 by decide) rfl rt_0_0 wf_X8_12 dX8_flood_67 ?_
          refine z_iload_n (i := 1) dX8_flood_70 rfl rfl ?_
          refine z_iload_n (i := 2) dX8_flood_71 rfl rfl ?_
          refine z_callVv (k' := M_X7_changeFlood) (As := [zI x1, zI x2]) (st := []) dX8_flood_72 rfl (rl0 riv1) (by decide) rfl (rlt0 riv1) wm_X8_135 ok_X7_changeFlood okV_X7_changeFlood rfl (zroom_self (by decide) (by decide)) (Nat.le_of_ble_eq_true rfl) (Nat.le_refl _) rfl (Ev_mono h (fun _ d3 h => ?_))
          refine z_aloadR_n (i := 0) dX8_flood_75 rfl rfl ?_
          refine z_getR 8 0 (idx := 12) ly0 (by decide) (by decide) rfl (show 0 < 166 by decide) rfl rt_0_0 wf_X8_12 dX8_flood_76 ?_
          refine z_getIN' 7 7 (idx := 132) (fv := (d3 1 7)) (rl0 riv1) (by decide) (by decide) rfl (rlt0 riv1) wf_X8_132 dX8_flood_79 rfl ?_
          exact zret_i rfl dX8_flood_82 h
        · replace h := h.2.2 c
          refine z_aloadR_n (i := 0) dX8_flood_40 rfl rfl ?_
          refine z_getR 8 0 (idx := 12) ly0 (by decide) (by decide) rfl (show 0 < 166 by decide) rfl rt_0_0 wf_X8_12 dX8_flood_41 ?_
          refine z_getIN' 7 7 (idx := 132) (fv := (d1 1 7)) (rl0 riv1) (by decide) (by decide) rfl (rlt0 riv1) wf_X8_132 dX8_flood_44 rfl ?_
          refine z_bipush dX8_flood_47 (by decide +kernel) ?_
          refine zb_icmp_lt (tgt := 55) dX8_flood_49 (by decide) ⟨h.1, by decide⟩ ⟨fun c => ?_, fun c => ?_⟩
          · replace h := h.2.1 c
            refine z_aloadR_n (i := 0) dX8_flood_55 rfl rfl ?_
            refine z_getR 8 4 (idx := 30) ly0 (by decide) (by decide) rfl (show 0 < 166 by decide) rfl rt_0_4 wf_X8_30 dX8_flood_56 ?_
            refine z_aloadR_n (i := 0) dX8_flood_59 rfl rfl ?_
            refine z_getR 8 0 (idx := 12) ly0 (by decide) (by decide) rfl (show 0 < 166 by decide) rfl rt_0_0 wf_X8_12 dX8_flood_60 ?_
            refine z_callVv (k' := M_X2_remember) (As := [zR 1]) (st := []) dX8_flood_63 rfl ly31 (by decide) rfl (show 31 < 166 by decide) wm_X8_66 ok_X2_remember okV_X2_remember rfl (zroom_self (by decide) (by decide)) (Nat.le_of_ble_eq_true rfl) (Nat.le_refl _) rfl (Ev_mono h (fun _ d4 h => ?_))
            refine z_aloadR_n (i := 0) dX8_flood_66 rfl rfl ?_
            refine z_getR 8 0 (idx := 12) ly0 (by decide) (by decide) rfl (show 0 < 166 by decide) rfl rt_0_0 wf_X8_12 dX8_flood_67 ?_
            refine z_iload_n (i := 1) dX8_flood_70 rfl rfl ?_
            refine z_iload_n (i := 2) dX8_flood_71 rfl rfl ?_
            refine z_callVv (k' := M_X7_changeFlood) (As := [zI x1, zI x2]) (st := []) dX8_flood_72 rfl (rl0 riv1) (by decide) rfl (rlt0 riv1) wm_X8_135 ok_X7_changeFlood okV_X7_changeFlood rfl (zroom_self (by decide) (by decide)) (Nat.le_of_ble_eq_true rfl) (Nat.le_refl _) rfl (Ev_mono h (fun _ d5 h => ?_))
            refine z_aloadR_n (i := 0) dX8_flood_75 rfl rfl ?_
            refine z_getR 8 0 (idx := 12) ly0 (by decide) (by decide) rfl (show 0 < 166 by decide) rfl rt_0_0 wf_X8_12 dX8_flood_76 ?_
            refine z_getIN' 7 7 (idx := 132) (fv := (d5 1 7)) (rl0 riv1) (by decide) (by decide) rfl (rlt0 riv1) wf_X8_132 dX8_flood_79 rfl ?_
            exact zret_i rfl dX8_flood_82 h
          · replace h := h.2.2 c
            refine z_bipush dX8_flood_52 (by decide +kernel) ?_
            exact zret_i rfl dX8_flood_54 h
      · replace h := h.2.2 c
        refine z_bipush dX8_flood_33 (by decide +kernel) ?_
        exact zret_i rfl dX8_flood_35 h
    · replace h := h.2.2 c
      refine z_bipush dX8_flood_18 (by decide +kernel) ?_
      exact zret_i rfl dX8_flood_20 h
theorem e_X8_flood {g : zGG} {Q : Int → zMem → Prop} {d : zMem} {x1 : Int} {x2 : Int} (h : ((inR x1 ∧ inR (d 1 8)) ∧ (x1 < (d 1 8) → Q (-2) d) ∧ ((d 1 8) ≤ x1 → ((inR x1) ∧ (x1 ≤ 999 → Ev g M_X7_hasFlood FUL FUL [zR 1, zI x1] d (fun v1 d1 => ((inR v1 ∧ inR x2) ∧ (v1 ≠ x2 → ((inR x2) ∧ (x2 = 0 → Ev g M_X2_remember FUL FUL [zR 31, zR 1] d1 (fun _ d2 => Ev g M_X7_changeFlood FUL FUL [zR 1, zI x1, zI x2] d2 (fun _ d3 => Q (d3 1 7) d3))) ∧ (x2 ≠ 0 → ((inR (d1 1 7)) ∧ ((d1 1 7) < 8 → Ev g M_X2_remember FUL FUL [zR 31, zR 1] d1 (fun _ d4 => Ev g M_X7_changeFlood FUL FUL [zR 1, zI x1, zI x2] d4 (fun _ d5 => Q (d5 1 7) d5))) ∧ (8 ≤ (d1 1 7) → Q (-4) d1))))) ∧ (v1 = x2 → Q (-5) d1)))) ∧ (999 < x1 → Q (-2) d))))) : Ev g M_X8_flood FUL FUL [zR 0, zI x1, zI x2] d Q :=
  Ev_of (by decide +kernel) (Nat.le_of_ble_eq_true rfl) (v_X8_flood_0  h)
set_option maxRecDepth 20000 in
theorem v_X8_cut_0 {g : zGG} {Q : Int → zMem → Prop} {d : zMem} {x1 : Int}  (h : Ev g M_X3_seekNumbered FUL FUL [zR 124, zR (1 + 2), zI x1] d (fun v1 d1 => ((inR v1) ∧ (v1 ≠ 0 → Ev g M_X2_remember FUL FUL [zR 31, zR 1] d1 (fun _ d2 => Ev g M_X7_cutBetween FUL FUL [zR 1, zI (d2 124 0), zI (d2 124 1)] d2 (fun _ d3 => Ev g M_X1_length FUL FUL [zR (1 + 2)] d3 (fun v2 d4 => Q v2 d4)))) ∧ (v1 = 0 → Q (-1) d1)))) : Fr g (eM g M_X8_cut FUL FUL Q) M_X8_cut FUL 0 [some (zR 0), some (zI x1)] [] d := by
  refine z_aloadR_n (i := 0) dX8_cut_0 rfl rfl ?_
  refine z_getR 8 8 (idx := 58) ly0 (by decide) (by decide) rfl (show 0 < 166 by decide) rfl rt_0_8 wf_X8_58 dX8_cut_1 ?_
  refine z_aloadR_n (i := 0) dX8_cut_4 rfl rfl ?_
  refine z_getR 8 0 (idx := 12) ly0 (by decide) (by decide) rfl (show 0 < 166 by decide) rfl rt_0_0 wf_X8_12 dX8_cut_5 ?_
  refine z_getRN 7 1 (idx := 91) (rl0 riv1) (by decide) (by decide) rfl (rlt0 riv1) rfl (rt0_1 riv1) wf_X8_91 dX8_cut_8 ?_
  refine z_iload_n (i := 1) dX8_cut_11 rfl rfl ?_
  refine z_callVi (k' := M_X3_seekNumbered) (As := [zR (1 + 2), zI x1]) (st := []) dX8_cut_12 rfl ly124 (by decide) rfl (show 124 < 166 by decide) wm_X8_138 ok_X3_seekNumbered okV_X3_seekNumbered rfl (zroom_self (by decide) (by decide)) (Nat.le_of_ble_eq_true rfl) (Nat.le_refl _) rfl (Ev_mono h (fun v1 d1 h => ?_))
  refine zb_if_ne (tgt := 20) dX8_cut_15 (by decide) h.1 ⟨fun c => ?_, fun c => ?_⟩
  · replace h := h.2.1 c
    refine z_aloadR_n (i := 0) dX8_cut_20 rfl rfl ?_
    refine z_getR 8 4 (idx := 30) ly0 (by decide) (by decide) rfl (show 0 < 166 by decide) rfl rt_0_4 wf_X8_30 dX8_cut_21 ?_
    refine z_aloadR_n (i := 0) dX8_cut_24 rfl rfl ?_
    refine z_getR 8 0 (idx := 12) ly0 (by decide) (by decide) rfl (show 0 < 166 by decide) rfl rt_0_0 wf_X8_12 dX8_cut_25 ?_
    refine z_callVv (k' := M_X2_remember) (As := [zR 1]) (st := []) dX8_cut_28 rfl ly31 (by decide) rfl (show 31 < 166 by decide) wm_X8_66 ok_X2_remember okV_X2_remember rfl (zroom_self (by decide) (by decide)) (Nat.le_of_ble_eq_true rfl) (Nat.le_refl _) rfl (Ev_mono h (fun _ d2 h => ?_))
    refine z_aloadR_n (i := 0) dX8_cut_31 rfl rfl ?_
    refine z_getR 8 0 (idx := 12) ly0 (by decide) (by decide) rfl (show 0 < 166 by decide) rfl rt_0_0 wf_X8_12 dX8_cut_32 ?_
    refine z_aloadR_n (i := 0) dX8_cut_35 rfl rfl ?_
    refine z_getR 8 8 (idx := 58) ly0 (by decide) (by decide) rfl (show 0 < 166 by decide) rfl rt_0_8 wf_X8_58 dX8_cut_36 ?_
    refine z_getIN' 3 0 (idx := 142) (fv := (d2 124 0)) ly124 (by decide) (by decide) rfl (show 124 < 166 by decide) wf_X8_142 dX8_cut_39 rfl ?_
    refine z_aloadR_n (i := 0) dX8_cut_42 rfl rfl ?_
    refine z_getR 8 8 (idx := 58) ly0 (by decide) (by decide) rfl (show 0 < 166 by decide) rfl rt_0_8 wf_X8_58 dX8_cut_43 ?_
    refine z_getIN' 3 1 (idx := 145) (fv := (d2 124 1)) ly124 (by decide) (by decide) rfl (show 124 < 166 by decide) wf_X8_145 dX8_cut_46 rfl ?_
    refine z_callVv (k' := M_X7_cutBetween) (As := [zI (d2 124 0), zI (d2 124 1)]) (st := []) dX8_cut_49 rfl (rl0 riv1) (by decide) rfl (rlt0 riv1) wm_X8_148 ok_X7_cutBetween okV_X7_cutBetween rfl (zroom_self (by decide) (by decide)) (Nat.le_of_ble_eq_true rfl) (Nat.le_refl _) rfl (Ev_mono h (fun _ d3 h => ?_))
    refine z_aloadR_n (i := 0) dX8_cut_52 rfl rfl ?_
    refine z_getR 8 0 (idx := 12) ly0 (by decide) (by decide) rfl (show 0 < 166 by decide) rfl rt_0_0 wf_X8_12 dX8_cut_53 ?_
    refine z_getRN 7 1 (idx := 91) (rl0 riv1) (by decide) (by decide) rfl (rlt0 riv1) rfl (rt0_1 riv1) wf_X8_91 dX8_cut_56 ?_
    refine z_callVi (k' := M_X1_length) (As := []) (st := []) dX8_cut_59 rfl (rl2 riv1) (by decide) rfl (rlt2 riv1) wm_X8_102 ok_X1_length okV_X1_length rfl (zroom_self (by decide) (by decide)) (Nat.le_of_ble_eq_true rfl) (Nat.le_refl _) rfl (Ev_mono h (fun v2 d4 h => ?_))
    exact zret_i rfl dX8_cut_62 h
  · replace h := h.2.2 c
    refine z_iconst dX8_cut_18 ?_
    exact zret_i rfl dX8_cut_19 h
theorem e_X8_cut {g : zGG} {Q : Int → zMem → Prop} {d : zMem} {x1 : Int} (h : Ev g M_X3_seekNumbered FUL FUL [zR 124, zR (1 + 2), zI x1] d (fun v1 d1 => ((inR v1) ∧ (v1 ≠ 0 → Ev g M_X2_remember FUL FUL [zR 31, zR 1] d1 (fun _ d2 => Ev g M_X7_cutBetween FUL FUL [zR 1, zI (d2 124 0), zI (d2 124 1)] d2 (fun _ d3 => Ev g M_X1_length FUL FUL [zR (1 + 2)] d3 (fun v2 d4 => Q v2 d4)))) ∧ (v1 = 0 → Q (-1) d1)))) : Ev g M_X8_cut FUL FUL [zR 0, zI x1] d Q :=
  Ev_of (by decide +kernel) (Nat.le_of_ble_eq_true rfl) (v_X8_cut_0  h)
set_option maxRecDepth 20000 in
theorem v_X8_pass_0 {g : zGG} {Q : Int → zMem → Prop} {d : zMem} {x1 : Int}  (h : ((inR x1) ∧ (x1 < 1 → Q (-2) d) ∧ (1 ≤ x1 → ((inR x1) ∧ (x1 ≤ 50 → ((inR ((d 1 8) + x1)) ∧ (((d 1 8) + x1) ≤ 999 → Ev g M_X2_remember FUL FUL [zR 31, zR 1] d (fun _ d1 => (Fr g (eM g M_X8_pass FUL FUL Q) M_X8_pass FUL 53 [some (zR 0), some (zI x1), some (zI (d1 1 9)), some (zI 0)] [] d1))) ∧ (999 < ((d 1 8) + x1) → Q (-4) d))) ∧ (50 < x1 → Q (-2) d))))) : Fr g (eM g M_X8_pass FUL FUL Q) M_X8_pass FUL 0 [some (zR 0), some (zI x1), none, none] [] d := by
  refine z_iload_n (i := 1) dX8_pass_0 rfl rfl ?_
  refine z_iconst dX8_pass_1 ?_
  refine zb_icmp_lt (tgt := 11) dX8_pass_2 (by decide) ⟨h.1, by decide⟩ ⟨fun c => ?_, fun c => ?_⟩
  · replace h := h.2.1 c
    refine z_bipush dX8_pass_11 (by decide +kernel) ?_
    exact zret_i rfl dX8_pass_13 h
  · replace h := h.2.2 c
    refine z_iload_n (i := 1) dX8_pass_5 rfl rfl ?_
    refine z_bipush dX8_pass_6 (by decide +kernel) ?_
    refine zb_icmp_le (tgt := 14) dX8_pass_8 (by decide) ⟨h.1, by decide⟩ ⟨fun c => ?_, fun c => ?_⟩
    · replace h := h.2.1 c
      refine z_aloadR_n (i := 0) dX8_pass_14 rfl rfl ?_
      refine z_getR 8 0 (idx := 12) ly0 (by decide) (by decide) rfl (show 0 < 166 by decide) rfl rt_0_0 wf_X8_12 dX8_pass_15 ?_
      refine z_getIN' 7 8 (idx := 125) (fv := (d 1 8)) (rl0 riv1) (by decide) (by decide) rfl (rlt0 riv1) wf_X8_125 dX8_pass_18 rfl ?_
      refine z_iload_n (i := 1) dX8_pass_21 rfl rfl ?_
      refine z_iadd dX8_pass_22 ?_
      refine z_sipush dX8_pass_23 (by decide +kernel) ?_
      refine zb_icmp_le (tgt := 32) dX8_pass_26 (by decide) ⟨h.1, by decide⟩ ⟨fun c => ?_, fun c => ?_⟩
      · replace h := h.2.1 c
        refine z_aloadR_n (i := 0) dX8_pass_32 rfl rfl ?_
        refine z_getR 8 4 (idx := 30) ly0 (by decide) (by decide) rfl (show 0 < 166 by decide) rfl rt_0_4 wf_X8_30 dX8_pass_33 ?_
        refine z_aloadR_n (i := 0) dX8_pass_36 rfl rfl ?_
        refine z_getR 8 0 (idx := 12) ly0 (by decide) (by decide) rfl (show 0 < 166 by decide) rfl rt_0_0 wf_X8_12 dX8_pass_37 ?_
        refine z_callVv (k' := M_X2_remember) (As := [zR 1]) (st := []) dX8_pass_40 rfl ly31 (by decide) rfl (show 31 < 166 by decide) wm_X8_66 ok_X2_remember okV_X2_remember rfl (zroom_self (by decide) (by decide)) (Nat.le_of_ble_eq_true rfl) (Nat.le_refl _) rfl (Ev_mono h (fun _ d1 h => ?_))
        refine z_aloadR_n (i := 0) dX8_pass_43 rfl rfl ?_
        refine z_getR 8 0 (idx := 12) ly0 (by decide) (by decide) rfl (show 0 < 166 by decide) rfl rt_0_0 wf_X8_12 dX8_pass_44 ?_
        refine z_getIN' 7 9 (idx := 151) (fv := (d1 1 9)) (rl0 riv1) (by decide) (by decide) rfl (rlt0 riv1) wf_X8_151 dX8_pass_47 rfl ?_
        refine z_istore_n (i := 2) (ls2 := [some (zR 0), some (zI x1), some (zI (d1 1 9)), none]) dX8_pass_50 rfl (by decide) rfl ?_
        refine z_iconst dX8_pass_51 ?_
        refine z_istore_n (i := 3) (ls2 := [some (zR 0), some (zI x1), some (zI (d1 1 9)), some (zI 0)]) dX8_pass_52 rfl (by decide) rfl ?_
        exact h
      · replace h := h.2.2 c
        refine z_bipush dX8_pass_29 (by decide +kernel) ?_
        exact zret_i rfl dX8_pass_31 h
    · replace h := h.2.2 c
      refine z_bipush dX8_pass_11 (by decide +kernel) ?_
      exact zret_i rfl dX8_pass_13 h
theorem e_X8_pass {g : zGG} {Q : Int → zMem → Prop} {d : zMem} {x1 : Int} (h : ((inR x1) ∧ (x1 < 1 → Q (-2) d) ∧ (1 ≤ x1 → ((inR x1) ∧ (x1 ≤ 50 → ((inR ((d 1 8) + x1)) ∧ (((d 1 8) + x1) ≤ 999 → Ev g M_X2_remember FUL FUL [zR 31, zR 1] d (fun _ d1 => (Fr g (eM g M_X8_pass FUL FUL Q) M_X8_pass FUL 53 [some (zR 0), some (zI x1), some (zI (d1 1 9)), some (zI 0)] [] d1))) ∧ (999 < ((d 1 8) + x1) → Q (-4) d))) ∧ (50 < x1 → Q (-2) d))))) : Ev g M_X8_pass FUL FUL [zR 0, zI x1] d Q :=
  Ev_of (by decide +kernel) (Nat.le_of_ble_eq_true rfl) (v_X8_pass_0  h)
set_option maxRecDepth 20000 in
theorem v_X8_pass_53 {g : zGG} {Q : Int → zMem → Prop} {d : zMem} {x1 : Int} {x2 : Int} {x3 : Int} (h : ((inR x3 ∧ inR x1) ∧ (x1 ≤ x3 → Q ((d 1 9) - x2) d) ∧ (x3 < x1 → Ev g M_X6_passYear FUL FUL [zR 120, zR 1] d (fun _ d1 => (Fr g (eM g M_X8_pass FUL FUL Q) M_X8_pass FUL 53 [some (zR 0), some (zI x1), some (zI x2), some (zI (x3 + 1))] [] d1))))) : Fr g (eM g M_X8_pass FUL FUL Q) M_X8_pass FUL 53 [some (zR 0), some (zI x1), some (zI x2), some (zI x3)] [] d := by
  refine z_iload_n (i := 3) dX8_pass_53 rfl rfl ?_
  refine z_iload_n (i := 1) dX8_pass_54 rfl rfl ?_
  refine zb_icmp_ge (tgt := 75) dX8_pass_55 (by decide) h.1 ⟨fun c => ?_, fun c => ?_⟩
  · replace h := h.2.1 c
    refine z_aloadR_n (i := 0) dX8_pass_75 rfl rfl ?_
    refine z_getR 8 0 (idx := 12) ly0 (by decide) (by decide) rfl (show 0 < 166 by decide) rfl rt_0_0 wf_X8_12 dX8_pass_76 ?_
    refine z_getIN' 7 9 (idx := 151) (fv := (d 1 9)) (rl0 riv1) (by decide) (by decide) rfl (rlt0 riv1) wf_X8_151 dX8_pass_79 rfl ?_
    refine z_iload_n (i := 2) dX8_pass_82 rfl rfl ?_
    refine z_isub dX8_pass_83 ?_
    exact zret_i rfl dX8_pass_84 h
  · replace h := h.2.2 c
    refine z_aloadR_n (i := 0) dX8_pass_58 rfl rfl ?_
    refine z_getR 8 6 (idx := 44) ly0 (by decide) (by decide) rfl (show 0 < 166 by decide) rfl rt_0_6 wf_X8_44 dX8_pass_59 ?_
    refine z_aloadR_n (i := 0) dX8_pass_62 rfl rfl ?_
    refine z_getR 8 0 (idx := 12) ly0 (by decide) (by decide) rfl (show 0 < 166 by decide) rfl rt_0_0 wf_X8_12 dX8_pass_63 ?_
    refine z_callVv (k' := M_X6_passYear) (As := [zR 1]) (st := []) dX8_pass_66 rfl ly120 (by decide) rfl (show 120 < 166 by decide) wm_X8_154 ok_X6_passYear okV_X6_passYear rfl (zroom_self (by decide) (by decide)) (Nat.le_of_ble_eq_true rfl) (Nat.le_refl _) rfl (Ev_mono h (fun _ d1 h => ?_))
    refine z_iinc (i := 3) (ls2 := [some (zR 0), some (zI x1), some (zI x2), some (zI (x3 + 1))]) dX8_pass_69 (by decide) rfl rfl ?_
    refine z_goto (tgt := 53) dX8_pass_72 (by decide) ?_
    exact h
set_option maxRecDepth 20000 in
theorem v_X8_cell_0 {g : zGG} {Q : Int → zMem → Prop} {d : zMem} {x1 : Int} {x2 : Int} {x3 : Int}  (h : Ev g M_X8_cellAt FUL FUL [zI x1, zI x2] d (fun v1 d1 => ((inR v1) ∧ (v1 ≠ (-1) → ((inR x3) ∧ ((x3 < 0 ∨ 3 < x3) → Q (-2) d1) ∧ (x3 = 0 → Ev g M_X1_numberOf FUL FUL [zR (1 + 2), zI v1] d1 (fun v2 d2 => Ev g M_X8_orNone FUL FUL [zI v2] d2 (fun v3 d3 => Q v3 d3))) ∧ (x3 = 1 → Ev g M_X7_wearOf FUL FUL [zR 1, zI v1] d1 (fun v4 d4 => Q v4 d4)) ∧ (x3 = 2 → Ev g M_X7_isDike FUL FUL [zR 1, zI v1] d1 (fun v5 d5 => Ev g M_X8_asNumber FUL FUL [zI v5] d5 (fun v6 d6 => Q v6 d6))) ∧ (x3 = 3 → Ev g M_X4_ownerOf FUL FUL [zR (1 + 5), zI v1] d1 (fun v7 d7 => Ev g M_X8_orNone FUL FUL [zI v7] d7 (fun v8 d8 => Q v8 d8))))) ∧ (v1 = (-1) → Q (-1) d1)))) : Fr g (eM g M_X8_cell FUL FUL Q) M_X8_cell FUL 0 [some (zR 0), some (zI x1), some (zI x2), some (zI x3), none] [] d := by
  refine z_iload_n (i := 1) dX8_cell_0 rfl rfl ?_
  refine z_iload_n (i := 2) dX8_cell_1 rfl rfl ?_
  refine z_callS (k' := M_X8_cellAt) (As := [zI x1, zI x2]) (st := []) dX8_cell_2 rfl wm_X8_107 ok_X8_cellAt okS_X8_cellAt rfl (zroom_self (by decide) (by decide)) (Nat.le_of_ble_eq_true rfl) (Nat.le_refl _) (zEnd_i (Nat.le_refl _) rfl (fun _ _ q => q)) (Ev_mono h (fun v1 d1 h => ?_))
  refine z_istore (i := 4) (ls2 := [some (zR 0), some (zI x1), some (zI x2), some (zI x3), some (zI v1)]) dX8_cell_5 (by decide) rfl ?_
  refine z_iload (i := 4) dX8_cell_7 rfl ?_
  refine z_iconst dX8_cell_9 ?_
  refine zb_icmp_ne (tgt := 15) dX8_cell_10 (by decide) ⟨h.1, by decide⟩ ⟨fun c => ?_, fun c => ?_⟩
  · replace h := h.2.1 c
    refine z_iload_n (i := 3) dX8_cell_15 rfl rfl ?_
    have hr := h.1
    rcases (show (x3 < 0 ∨ 3 < x3) ∨ x3 = 0 ∨ x3 = 1 ∨ x3 = 2 ∨ x3 = 3 by omega) with c | c | c | c | c
    · replace h := h.2.1 c
      refine z_tsOut (tgt := 103) dX8_cell_16 (by decide) hr c ?_
      refine z_bipush dX8_cell_103 (by decide +kernel) ?_
      exact zret_i rfl dX8_cell_105 h
    · replace h := h.2.2.1 c
      refine z_tsCase (0) (off := 32) (tgt := 48) dX8_cell_16 rfl (by decide) (by decide) c ?_
      refine z_aloadR_n (i := 0) dX8_cell_48 rfl rfl ?_
      refine z_getR 8 0 (idx := 12) ly0 (by decide) (by decide) rfl (show 0 < 166 by decide) rfl rt_0_0 wf_X8_12 dX8_cell_49 ?_
      refine z_getRN 7 1 (idx := 91) (rl0 riv1) (by decide) (by decide) rfl (rlt0 riv1) rfl (rt0_1 riv1) wf_X8_91 dX8_cell_52 ?_
      refine z_iload (i := 4) dX8_cell_55 rfl ?_
      refine z_callVi (k' := M_X1_numberOf) (As := [zI v1]) (st := []) dX8_cell_57 rfl (rl2 riv1) (by decide) rfl (rlt2 riv1) wm_X8_111 ok_X1_numberOf okV_X1_numberOf rfl (zroom_self (by decide) (by decide)) (Nat.le_of_ble_eq_true rfl) (Nat.le_refl _) rfl (Ev_mono h (fun v2 d2 h => ?_))
      refine z_callS (k' := M_X8_orNone) (As := [zI v2]) (st := []) dX8_cell_60 rfl wm_X8_157 ok_X8_orNone okS_X8_orNone rfl (zroom_self (by decide) (by decide)) (Nat.le_of_ble_eq_true rfl) (Nat.le_refl _) (zEnd_i (Nat.le_refl _) rfl (fun _ _ q => q)) (Ev_mono h (fun v3 d3 h => ?_))
      exact zret_i rfl dX8_cell_63 h
    · replace h := h.2.2.2.1 c
      refine z_tsCase (1) (off := 48) (tgt := 64) dX8_cell_16 rfl (by decide) (by decide) c ?_
      refine z_aloadR_n (i := 0) dX8_cell_64 rfl rfl ?_
      refine z_getR 8 0 (idx := 12) ly0 (by decide) (by decide) rfl (show 0 < 166 by decide) rfl rt_0_0 wf_X8_12 dX8_cell_65 ?_
      refine z_iload (i := 4) dX8_cell_68 rfl ?_
      refine z_callVi (k' := M_X7_wearOf) (As := [zI v1]) (st := []) dX8_cell_70 rfl (rl0 riv1) (by decide) rfl (rlt0 riv1) wm_X8_160 ok_X7_wearOf okV_X7_wearOf rfl (zroom_self (by decide) (by decide)) (Nat.le_of_ble_eq_true rfl) (Nat.le_refl _) rfl (Ev_mono h (fun v4 d4 h => ?_))
      exact zret_i rfl dX8_cell_73 h
    · replace h := h.2.2.2.2.1 c
      refine z_tsCase (2) (off := 58) (tgt := 74) dX8_cell_16 rfl (by decide) (by decide) c ?_
      refine z_aloadR_n (i := 0) dX8_cell_74 rfl rfl ?_
      refine z_getR 8 0 (idx := 12) ly0 (by decide) (by decide) rfl (show 0 < 166 by decide) rfl rt_0_0 wf_X8_12 dX8_cell_75 ?_
      refine z_iload (i := 4) dX8_cell_78 rfl ?_
      refine z_callVi (k' := M_X7_isDike) (As := [zI v1]) (st := []) dX8_cell_80 rfl (rl0 riv1) (by decide) rfl (rlt0 riv1) wm_X8_114 ok_X7_isDike okV_X7_isDike rfl (zroom_self (by decide) (by decide)) (Nat.le_of_ble_eq_true rfl) (Nat.le_refl _) rfl (Ev_mono h (fun v5 d5 h => ?_))
      refine z_callS (k' := M_X8_asNumber) (As := [zI v5]) (st := []) dX8_cell_83 rfl wm_X8_163 ok_X8_asNumber okS_X8_asNumber rfl (zroom_self (by decide) (by decide)) (Nat.le_of_ble_eq_true rfl) (Nat.le_refl _) (zEnd_i (Nat.le_refl _) rfl (fun _ _ q => q)) (Ev_mono h (fun v6 d6 h => ?_))
      exact zret_i rfl dX8_cell_86 h
    · replace h := h.2.2.2.2.2 c
      refine z_tsCase (3) (off := 71) (tgt := 87) dX8_cell_16 rfl (by decide) (by decide) c ?_
      refine z_aloadR_n (i := 0) dX8_cell_87 rfl rfl ?_
      refine z_getR 8 0 (idx := 12) ly0 (by decide) (by decide) rfl (show 0 < 166 by decide) rfl rt_0_0 wf_X8_12 dX8_cell_88 ?_
      refine z_getRN 7 2 (idx := 167) (rl0 riv1) (by decide) (by decide) rfl (rlt0 riv1) rfl (rt0_2 riv1) wf_X8_167 dX8_cell_91 ?_
      refine z_iload (i := 4) dX8_cell_94 rfl ?_
      refine z_callVi (k' := M_X4_ownerOf) (As := [zI v1]) (st := []) dX8_cell_96 rfl (rl5 riv1) (by decide) rfl (rlt5 riv1) wm_X8_171 ok_X4_ownerOf okV_X4_ownerOf rfl (zroom_self (by decide) (by decide)) (Nat.le_of_ble_eq_true rfl) (Nat.le_refl _) rfl (Ev_mono h (fun v7 d7 h => ?_))
      refine z_callS (k' := M_X8_orNone) (As := [zI v7]) (st := []) dX8_cell_99 rfl wm_X8_157 ok_X8_orNone okS_X8_orNone rfl (zroom_self (by decide) (by decide)) (Nat.le_of_ble_eq_true rfl) (Nat.le_refl _) (zEnd_i (Nat.le_refl _) rfl (fun _ _ q => q)) (Ev_mono h (fun v8 d8 h => ?_))
      exact zret_i rfl dX8_cell_102 h
  · replace h := h.2.2 c
    refine z_iconst dX8_cell_13 ?_
    exact zret_i rfl dX8_cell_14 h
theorem e_X8_cell {g : zGG} {Q : Int → zMem → Prop} {d : zMem} {x1 : Int} {x2 : Int} {x3 : Int} (h : Ev g M_X8_cellAt FUL FUL [zI x1, zI x2] d (fun v1 d1 => ((inR v1) ∧ (v1 ≠ (-1) → ((inR x3) ∧ ((x3 < 0 ∨ 3 < x3) → Q (-2) d1) ∧ (x3 = 0 → Ev g M_X1_numberOf FUL FUL [zR (1 + 2), zI v1] d1 (fun v2 d2 => Ev g M_X8_orNone FUL FUL [zI v2] d2 (fun v3 d3 => Q v3 d3))) ∧ (x3 = 1 → Ev g M_X7_wearOf FUL FUL [zR 1, zI v1] d1 (fun v4 d4 => Q v4 d4)) ∧ (x3 = 2 → Ev g M_X7_isDike FUL FUL [zR 1, zI v1] d1 (fun v5 d5 => Ev g M_X8_asNumber FUL FUL [zI v5] d5 (fun v6 d6 => Q v6 d6))) ∧ (x3 = 3 → Ev g M_X4_ownerOf FUL FUL [zR (1 + 5), zI v1] d1 (fun v7 d7 => Ev g M_X8_orNone FUL FUL [zI v7] d7 (fun v8 d8 => Q v8 d8))))) ∧ (v1 = (-1) → Q (-1) d1)))) : Ev g M_X8_cell FUL FUL [zR 0, zI x1, zI x2, zI x3] d Q :=
  Ev_of (by decide +kernel) (Nat.le_of_ble_eq_true rfl) (v_X8_cell_0  h)
set_option maxRecDepth 20000 in
theorem v_X8_course_0 {g : zGG} {Q : Int → zMem → Prop} {d : zMem} {x1 : Int} {x2 : Int}  (h : Ev g M_X1_cellOf FUL FUL [zR (1 + 2), zI x1] d (fun v1 d1 => ((inR v1) ∧ (v1 ≠ (-1) → ((inR x2) ∧ ((x2 < 0 ∨ 2 < x2) → Q (-2) d1) ∧ (x2 = 0 → (0 ≤ v1 ∧ inR v1) ∧ Q (v1 % 20) d1) ∧ (x2 = 1 → (0 ≤ v1 ∧ inR v1) ∧ Q (v1 / 20) d1) ∧ (x2 = 2 → Ev g M_X1_wayFrom FUL FUL [zR (1 + 2), zI x1] d1 (fun v2 d2 => Ev g M_X8_orNone FUL FUL [zI v2] d2 (fun v3 d3 => Q v3 d3))))) ∧ (v1 = (-1) → Q (-1) d1)))) : Fr g (eM g M_X8_course FUL FUL Q) M_X8_course FUL 0 [some (zR 0), some (zI x1), some (zI x2), none] [] d := by
  refine z_aloadR_n (i := 0) dX8_course_0 rfl rfl ?_
  refine z_getR 8 0 (idx := 12) ly0 (by decide) (by decide) rfl (show 0 < 166 by decide) rfl rt_0_0 wf_X8_12 dX8_course_1 ?_
  refine z_getRN 7 1 (idx := 91) (rl0 riv1) (by decide) (by decide) rfl (rlt0 riv1) rfl (rt0_1 riv1) wf_X8_91 dX8_course_4 ?_
  refine z_iload_n (i := 1) dX8_course_7 rfl rfl ?_
  refine z_callVi (k' := M_X1_cellOf) (As := [zI x1]) (st := []) dX8_course_8 rfl (rl2 riv1) (by decide) rfl (rlt2 riv1) wm_X8_176 ok_X1_cellOf okV_X1_cellOf rfl (zroom_self (by decide) (by decide)) (Nat.le_of_ble_eq_true rfl) (Nat.le_refl _) rfl (Ev_mono h (fun v1 d1 h => ?_))
  refine z_istore_n (i := 3) (ls2 := [some (zR 0), some (zI x1), some (zI x2), some (zI v1)]) dX8_course_11 rfl (by decide) rfl ?_
  refine z_iload_n (i := 3) dX8_course_12 rfl rfl ?_
  refine z_iconst dX8_course_13 ?_
  refine zb_icmp_ne (tgt := 19) dX8_course_14 (by decide) ⟨h.1, by decide⟩ ⟨fun c => ?_, fun c => ?_⟩
  · replace h := h.2.1 c
    refine z_iload_n (i := 2) dX8_course_19 rfl rfl ?_
    have hr := h.1
    rcases (show (x2 < 0 ∨ 2 < x2) ∨ x2 = 0 ∨ x2 = 1 ∨ x2 = 2 by omega) with c | c | c | c
    · replace h := h.2.1 c
      refine z_tsOut (tgt := 73) dX8_course_20 (by decide) hr c ?_
      refine z_bipush dX8_course_73 (by decide +kernel) ?_
      exact zret_i rfl dX8_course_75 h
    · replace h := h.2.2.1 c
      refine z_tsCase (0) (off := 28) (tgt := 48) dX8_course_20 rfl (by decide) (by decide) c ?_
      refine z_iload_n (i := 3) dX8_course_48 rfl rfl ?_
      refine z_bipush dX8_course_49 (by decide +kernel) ?_
      refine z_irem dX8_course_51 ⟨h.1.1, h.1.2, by decide, by decide⟩ ?_
      replace h := h.2
      exact zret_i rfl dX8_course_52 h
    · replace h := h.2.2.2.1 c
      refine z_tsCase (1) (off := 33) (tgt := 53) dX8_course_20 rfl (by decide) (by decide) c ?_
      refine z_iload_n (i := 3) dX8_course_53 rfl rfl ?_
      refine z_bipush dX8_course_54 (by decide +kernel) ?_
      refine z_idiv dX8_course_56 ⟨h.1.1, h.1.2, by decide, by decide⟩ ?_
      replace h := h.2
      exact zret_i rfl dX8_course_57 h
    · replace h := h.2.2.2.2 c
      refine z_tsCase (2) (off := 38) (tgt := 58) dX8_course_20 rfl (by decide) (by decide) c ?_
      refine z_aloadR_n (i := 0) dX8_course_58 rfl rfl ?_
      refine z_getR 8 0 (idx := 12) ly0 (by decide) (by decide) rfl (show 0 < 166 by decide) rfl rt_0_0 wf_X8_12 dX8_course_59 ?_
      refine z_getRN 7 1 (idx := 91) (rl0 riv1) (by decide) (by decide) rfl (rlt0 riv1) rfl (rt0_1 riv1) wf_X8_91 dX8_course_62 ?_
      refine z_iload_n (i := 1) dX8_course_65 rfl rfl ?_
      refine z_callVi (k' := M_X1_wayFrom) (As := [zI x1]) (st := []) dX8_course_66 rfl (rl2 riv1) (by decide) rfl (rlt2 riv1) wm_X8_179 ok_X1_wayFrom okV_X1_wayFrom rfl (zroom_self (by decide) (by decide)) (Nat.le_of_ble_eq_true rfl) (Nat.le_refl _) rfl (Ev_mono h (fun v2 d2 h => ?_))
      refine z_callS (k' := M_X8_orNone) (As := [zI v2]) (st := []) dX8_course_69 rfl wm_X8_157 ok_X8_orNone okS_X8_orNone rfl (zroom_self (by decide) (by decide)) (Nat.le_of_ble_eq_true rfl) (Nat.le_refl _) (zEnd_i (Nat.le_refl _) rfl (fun _ _ q => q)) (Ev_mono h (fun v3 d3 h => ?_))
      exact zret_i rfl dX8_course_72 h
  · replace h := h.2.2 c
    refine z_iconst dX8_course_17 ?_
    exact zret_i rfl dX8_course_18 h
theorem e_X8_course {g : zGG} {Q : Int → zMem → Prop} {d : zMem} {x1 : Int} {x2 : Int} (h : Ev g M_X1_cellOf FUL FUL [zR (1 + 2), zI x1] d (fun v1 d1 => ((inR v1) ∧ (v1 ≠ (-1) → ((inR x2) ∧ ((x2 < 0 ∨ 2 < x2) → Q (-2) d1) ∧ (x2 = 0 → (0 ≤ v1 ∧ inR v1) ∧ Q (v1 % 20) d1) ∧ (x2 = 1 → (0 ≤ v1 ∧ inR v1) ∧ Q (v1 / 20) d1) ∧ (x2 = 2 → Ev g M_X1_wayFrom FUL FUL [zR (1 + 2), zI x1] d1 (fun v2 d2 => Ev g M_X8_orNone FUL FUL [zI v2] d2 (fun v3 d3 => Q v3 d3))))) ∧ (v1 = (-1) → Q (-1) d1)))) : Ev g M_X8_course FUL FUL [zR 0, zI x1, zI x2] d Q :=
  Ev_of (by decide +kernel) (Nat.le_of_ble_eq_true rfl) (v_X8_course_0  h)
set_option maxRecDepth 20000 in
theorem v_X8_bend_0 {g : zGG} {Q : Int → zMem → Prop} {d : zMem} {x1 : Int} {x2 : Int}  (h : Ev g M_X0_seekNumbered FUL FUL [zR 123, zR (1 + 2), zI x1] d (fun v1 d1 => ((inR v1) ∧ (v1 ≠ 0 → ((inR x2) ∧ ((x2 < 0 ∨ 5 < x2) → Q (-2) d1) ∧ (x2 = 0 → Q (d1 123 0) d1) ∧ (x2 = 1 → Q (d1 123 1) d1) ∧ (x2 = 2 → Q (d1 123 2) d1) ∧ (x2 = 3 → Ev g M_X7_isFirm FUL FUL [zR 1, zR 123] d1 (fun v2 d2 => Ev g M_X8_asNumber FUL FUL [zI v2] d2 (fun v3 d3 => Q v3 d3))) ∧ (x2 = 4 → Ev g M_X7_isFirm FUL FUL [zR 1, zR 123] d1 (fun v4 d4 => ((inR v4) ∧ (v4 = 0 → Ev g M_X7_leastWear FUL FUL [zR 1, zR 123] d4 (fun v5 d5 => Q v5 d5)) ∧ (v4 ≠ 0 → Q (-6) d4)))) ∧ (x2 = 5 → Ev g M_X7_canGrow FUL FUL [zR 1, zR 123] d1 (fun v6 d6 => Ev g M_X8_asNumber FUL FUL [zI v6] d6 (fun v7 d7 => Q v7 d7))))) ∧ (v1 = 0 → Q (-1) d1)))) : Fr g (eM g M_X8_bend FUL FUL Q) M_X8_bend FUL 0 [some (zR 0), some (zI x1), some (zI x2)] [] d := by
  refine z_aloadR_n (i := 0) dX8_bend_0 rfl rfl ?_
  refine z_getR 8 7 (idx := 51) ly0 (by decide) (by decide) rfl (show 0 < 166 by decide) rfl rt_0_7 wf_X8_51 dX8_bend_1 ?_
  refine z_aloadR_n (i := 0) dX8_bend_4 rfl rfl ?_
  refine z_getR 8 0 (idx := 12) ly0 (by decide) (by decide) rfl (show 0 < 166 by decide) rfl rt_0_0 wf_X8_12 dX8_bend_5 ?_
  refine z_getRN 7 1 (idx := 91) (rl0 riv1) (by decide) (by decide) rfl (rlt0 riv1) rfl (rt0_1 riv1) wf_X8_91 dX8_bend_8 ?_
  refine z_iload_n (i := 1) dX8_bend_11 rfl rfl ?_
  refine z_callVi (k' := M_X0_seekNumbered) (As := [zR (1 + 2), zI x1]) (st := []) dX8_bend_12 rfl ly123 (by decide) rfl (show 123 < 166 by decide) wm_X8_182 ok_X0_seekNumbered okV_X0_seekNumbered rfl (zroom_self (by decide) (by decide)) (Nat.le_of_ble_eq_true rfl) (Nat.le_refl _) rfl (Ev_mono h (fun v1 d1 h => ?_))
  refine zb_if_ne (tgt := 20) dX8_bend_15 (by decide) h.1 ⟨fun c => ?_, fun c => ?_⟩
  · replace h := h.2.1 c
    refine z_iload_n (i := 2) dX8_bend_20 rfl rfl ?_
    have hr := h.1
    rcases (show (x2 < 0 ∨ 5 < x2) ∨ x2 = 0 ∨ x2 = 1 ∨ x2 = 2 ∨ x2 = 3 ∨ x2 = 4 ∨ x2 = 5 by omega) with c | c | c | c | c | c | c
    · replace h := h.2.1 c
      refine z_tsOut (tgt := 145) dX8_bend_21 (by decide) hr c ?_
      refine z_bipush dX8_bend_145 (by decide +kernel) ?_
      exact zret_i rfl dX8_bend_147 h
    · replace h := h.2.2.1 c
      refine z_tsCase (0) (off := 39) (tgt := 60) dX8_bend_21 rfl (by decide) (by decide) c ?_
      refine z_aloadR_n (i := 0) dX8_bend_60 rfl rfl ?_
      refine z_getR 8 7 (idx := 51) ly0 (by decide) (by decide) rfl (show 0 < 166 by decide) rfl rt_0_7 wf_X8_51 dX8_bend_61 ?_
      refine z_getIN' 0 0 (idx := 183) (fv := (d1 123 0)) ly123 (by decide) (by decide) rfl (show 123 < 166 by decide) wf_X8_183 dX8_bend_64 rfl ?_
      exact zret_i rfl dX8_bend_67 h
    · replace h := h.2.2.2.1 c
      refine z_tsCase (1) (off := 47) (tgt := 68) dX8_bend_21 rfl (by decide) (by decide) c ?_
      refine z_aloadR_n (i := 0) dX8_bend_68 rfl rfl ?_
      refine z_getR 8 7 (idx := 51) ly0 (by decide) (by decide) rfl (show 0 < 166 by decide) rfl rt_0_7 wf_X8_51 dX8_bend_69 ?_
      refine z_getIN' 0 1 (idx := 186) (fv := (d1 123 1)) ly123 (by decide) (by decide) rfl (show 123 < 166 by decide) wf_X8_186 dX8_bend_72 rfl ?_
      exact zret_i rfl dX8_bend_75 h
    · replace h := h.2.2.2.2.1 c
      refine z_tsCase (2) (off := 55) (tgt := 76) dX8_bend_21 rfl (by decide) (by decide) c ?_
      refine z_aloadR_n (i := 0) dX8_bend_76 rfl rfl ?_
      refine z_getR 8 7 (idx := 51) ly0 (by decide) (by decide) rfl (show 0 < 166 by decide) rfl rt_0_7 wf_X8_51 dX8_bend_77 ?_
      refine z_getIN' 0 2 (idx := 189) (fv := (d1 123 2)) ly123 (by decide) (by decide) rfl (show 123 < 166 by decide) wf_X8_189 dX8_bend_80 rfl ?_
      exact zret_i rfl dX8_bend_83 h
    · replace h := h.2.2.2.2.2.1 c
      refine z_tsCase (3) (off := 63) (tgt := 84) dX8_bend_21 rfl (by decide) (by decide) c ?_
      refine z_aloadR_n (i := 0) dX8_bend_84 rfl rfl ?_
      refine z_getR 8 0 (idx := 12) ly0 (by decide) (by decide) rfl (show 0 < 166 by decide) rfl rt_0_0 wf_X8_12 dX8_bend_85 ?_
      refine z_aloadR_n (i := 0) dX8_bend_88 rfl rfl ?_
      refine z_getR 8 7 (idx := 51) ly0 (by decide) (by decide) rfl (show 0 < 166 by decide) rfl rt_0_7 wf_X8_51 dX8_bend_89 ?_
      refine z_callVi (k' := M_X7_isFirm) (As := [zR 123]) (st := []) dX8_bend_92 rfl (rl0 riv1) (by decide) rfl (rlt0 riv1) wm_X8_192 ok_X7_isFirm okV_X7_isFirm rfl (zroom_self (by decide) (by decide)) (Nat.le_of_ble_eq_true rfl) (Nat.le_refl _) rfl (Ev_mono h (fun v2 d2 h => ?_))
      refine z_callS (k' := M_X8_asNumber) (As := [zI v2]) (st := []) dX8_bend_95 rfl wm_X8_163 ok_X8_asNumber okS_X8_asNumber rfl (zroom_self (by decide) (by decide)) (Nat.le_of_ble_eq_true rfl) (Nat.le_refl _) (zEnd_i (Nat.le_refl _) rfl (fun _ _ q => q)) (Ev_mono h (fun v3 d3 h => ?_))
      exact zret_i rfl dX8_bend_98 h
    · replace h := h.2.2.2.2.2.2.1 c
      refine z_tsCase (4) (off := 78) (tgt := 99) dX8_bend_21 rfl (by decide) (by decide) c ?_
      refine z_aloadR_n (i := 0) dX8_bend_99 rfl rfl ?_
      refine z_getR 8 0 (idx := 12) ly0 (by decide) (by decide) rfl (show 0 < 166 by decide) rfl rt_0_0 wf_X8_12 dX8_bend_100 ?_
      refine z_aloadR_n (i := 0) dX8_bend_103 rfl rfl ?_
      refine z_getR 8 7 (idx := 51) ly0 (by decide) (by decide) rfl (show 0 < 166 by decide) rfl rt_0_7 wf_X8_51 dX8_bend_104 ?_
      refine z_callVi (k' := M_X7_isFirm) (As := [zR 123]) (st := []) dX8_bend_107 rfl (rl0 riv1) (by decide) rfl (rlt0 riv1) wm_X8_192 ok_X7_isFirm okV_X7_isFirm rfl (zroom_self (by decide) (by decide)) (Nat.le_of_ble_eq_true rfl) (Nat.le_refl _) rfl (Ev_mono h (fun v4 d4 h => ?_))
      refine zb_if_eq (tgt := 118) dX8_bend_110 (by decide) h.1 ⟨fun c => ?_, fun c => ?_⟩
      · replace h := h.2.1 c
        refine z_aloadR_n (i := 0) dX8_bend_118 rfl rfl ?_
        refine z_getR 8 0 (idx := 12) ly0 (by decide) (by decide) rfl (show 0 < 166 by decide) rfl rt_0_0 wf_X8_12 dX8_bend_119 ?_
        refine z_aloadR_n (i := 0) dX8_bend_122 rfl rfl ?_
        refine z_getR 8 7 (idx := 51) ly0 (by decide) (by decide) rfl (show 0 < 166 by decide) rfl rt_0_7 wf_X8_51 dX8_bend_123 ?_
        refine z_callVi (k' := M_X7_leastWear) (As := [zR 123]) (st := []) dX8_bend_126 rfl (rl0 riv1) (by decide) rfl (rlt0 riv1) wm_X8_196 ok_X7_leastWear okV_X7_leastWear rfl (zroom_self (by decide) (by decide)) (Nat.le_of_ble_eq_true rfl) (Nat.le_refl _) rfl (Ev_mono h (fun v5 d5 h => ?_))
        exact zret_i rfl dX8_bend_129 h
      · replace h := h.2.2 c
        refine z_bipush dX8_bend_113 (by decide +kernel) ?_
        refine z_goto (tgt := 129) dX8_bend_115 (by decide) ?_
        exact zret_i rfl dX8_bend_129 h
    · replace h := h.2.2.2.2.2.2.2 c
      refine z_tsCase (5) (off := 109) (tgt := 130) dX8_bend_21 rfl (by decide) (by decide) c ?_
      refine z_aloadR_n (i := 0) dX8_bend_130 rfl rfl ?_
      refine z_getR 8 0 (idx := 12) ly0 (by decide) (by decide) rfl (show 0 < 166 by decide) rfl rt_0_0 wf_X8_12 dX8_bend_131 ?_
      refine z_aloadR_n (i := 0) dX8_bend_134 rfl rfl ?_
      refine z_getR 8 7 (idx := 51) ly0 (by decide) (by decide) rfl (show 0 < 166 by decide) rfl rt_0_7 wf_X8_51 dX8_bend_135 ?_
      refine z_callVi (k' := M_X7_canGrow) (As := [zR 123]) (st := []) dX8_bend_138 rfl (rl0 riv1) (by decide) rfl (rlt0 riv1) wm_X8_200 ok_X7_canGrow okV_X7_canGrow rfl (zroom_self (by decide) (by decide)) (Nat.le_of_ble_eq_true rfl) (Nat.le_refl _) rfl (Ev_mono h (fun v6 d6 h => ?_))
      refine z_callS (k' := M_X8_asNumber) (As := [zI v6]) (st := []) dX8_bend_141 rfl wm_X8_163 ok_X8_asNumber okS_X8_asNumber rfl (zroom_self (by decide) (by decide)) (Nat.le_of_ble_eq_true rfl) (Nat.le_refl _) (zEnd_i (Nat.le_refl _) rfl (fun _ _ q => q)) (Ev_mono h (fun v7 d7 h => ?_))
      exact zret_i rfl dX8_bend_144 h
  · replace h := h.2.2 c
    refine z_iconst dX8_bend_18 ?_
    exact zret_i rfl dX8_bend_19 h
theorem e_X8_bend {g : zGG} {Q : Int → zMem → Prop} {d : zMem} {x1 : Int} {x2 : Int} (h : Ev g M_X0_seekNumbered FUL FUL [zR 123, zR (1 + 2), zI x1] d (fun v1 d1 => ((inR v1) ∧ (v1 ≠ 0 → ((inR x2) ∧ ((x2 < 0 ∨ 5 < x2) → Q (-2) d1) ∧ (x2 = 0 → Q (d1 123 0) d1) ∧ (x2 = 1 → Q (d1 123 1) d1) ∧ (x2 = 2 → Q (d1 123 2) d1) ∧ (x2 = 3 → Ev g M_X7_isFirm FUL FUL [zR 1, zR 123] d1 (fun v2 d2 => Ev g M_X8_asNumber FUL FUL [zI v2] d2 (fun v3 d3 => Q v3 d3))) ∧ (x2 = 4 → Ev g M_X7_isFirm FUL FUL [zR 1, zR 123] d1 (fun v4 d4 => ((inR v4) ∧ (v4 = 0 → Ev g M_X7_leastWear FUL FUL [zR 1, zR 123] d4 (fun v5 d5 => Q v5 d5)) ∧ (v4 ≠ 0 → Q (-6) d4)))) ∧ (x2 = 5 → Ev g M_X7_canGrow FUL FUL [zR 1, zR 123] d1 (fun v6 d6 => Ev g M_X8_asNumber FUL FUL [zI v6] d6 (fun v7 d7 => Q v7 d7))))) ∧ (v1 = 0 → Q (-1) d1)))) : Ev g M_X8_bend FUL FUL [zR 0, zI x1, zI x2] d Q :=
  Ev_of (by decide +kernel) (Nat.le_of_ble_eq_true rfl) (v_X8_bend_0  h)
set_option maxRecDepth 20000 in
theorem v_X8_neck_0 {g : zGG} {Q : Int → zMem → Prop} {d : zMem} {x1 : Int} {x2 : Int}  (h : Ev g M_X3_seekNumbered FUL FUL [zR 124, zR (1 + 2), zI x1] d (fun v1 d1 => ((inR v1) ∧ (v1 ≠ 0 → ((inR x2) ∧ ((x2 < 0 ∨ 2 < x2) → Q (-2) d1) ∧ (x2 = 0 → Q (d1 124 0) d1) ∧ (x2 = 1 → Q (d1 124 1) d1) ∧ (x2 = 2 → Ev g M_X7_ageOf FUL FUL [zR 1, zI (d1 124 0), zI (d1 124 1)] d1 (fun v2 d2 => Q v2 d2)))) ∧ (v1 = 0 → Q (-1) d1)))) : Fr g (eM g M_X8_neck FUL FUL Q) M_X8_neck FUL 0 [some (zR 0), some (zI x1), some (zI x2)] [] d := by
  refine z_aloadR_n (i := 0) dX8_neck_0 rfl rfl ?_
  refine z_getR 8 8 (idx := 58) ly0 (by decide) (by decide) rfl (show 0 < 166 by decide) rfl rt_0_8 wf_X8_58 dX8_neck_1 ?_
  refine z_aloadR_n (i := 0) dX8_neck_4 rfl rfl ?_
  refine z_getR 8 0 (idx := 12) ly0 (by decide) (by decide) rfl (show 0 < 166 by decide) rfl rt_0_0 wf_X8_12 dX8_neck_5 ?_
  refine z_getRN 7 1 (idx := 91) (rl0 riv1) (by decide) (by decide) rfl (rlt0 riv1) rfl (rt0_1 riv1) wf_X8_91 dX8_neck_8 ?_
  refine z_iload_n (i := 1) dX8_neck_11 rfl rfl ?_
  refine z_callVi (k' := M_X3_seekNumbered) (As := [zR (1 + 2), zI x1]) (st := []) dX8_neck_12 rfl ly124 (by decide) rfl (show 124 < 166 by decide) wm_X8_138 ok_X3_seekNumbered okV_X3_seekNumbered rfl (zroom_self (by decide) (by decide)) (Nat.le_of_ble_eq_true rfl) (Nat.le_refl _) rfl (Ev_mono h (fun v1 d1 h => ?_))
  refine zb_if_ne (tgt := 20) dX8_neck_15 (by decide) h.1 ⟨fun c => ?_, fun c => ?_⟩
  · replace h := h.2.1 c
    refine z_iload_n (i := 2) dX8_neck_20 rfl rfl ?_
    have hr := h.1
    rcases (show (x2 < 0 ∨ 2 < x2) ∨ x2 = 0 ∨ x2 = 1 ∨ x2 = 2 by omega) with c | c | c | c
    · replace h := h.2.1 c
      refine z_tsOut (tgt := 86) dX8_neck_21 (by decide) hr c ?_
      refine z_bipush dX8_neck_86 (by decide +kernel) ?_
      exact zret_i rfl dX8_neck_88 h
    · replace h := h.2.2.1 c
      refine z_tsCase (0) (off := 27) (tgt := 48) dX8_neck_21 rfl (by decide) (by decide) c ?_
      refine z_aloadR_n (i := 0) dX8_neck_48 rfl rfl ?_
      refine z_getR 8 8 (idx := 58) ly0 (by decide) (by decide) rfl (show 0 < 166 by decide) rfl rt_0_8 wf_X8_58 dX8_neck_49 ?_
      refine z_getIN' 3 0 (idx := 142) (fv := (d1 124 0)) ly124 (by decide) (by decide) rfl (show 124 < 166 by decide) wf_X8_142 dX8_neck_52 rfl ?_
      exact zret_i rfl dX8_neck_55 h
    · replace h := h.2.2.2.1 c
      refine z_tsCase (1) (off := 35) (tgt := 56) dX8_neck_21 rfl (by decide) (by decide) c ?_
      refine z_aloadR_n (i := 0) dX8_neck_56 rfl rfl ?_
      refine z_getR 8 8 (idx := 58) ly0 (by decide) (by decide) rfl (show 0 < 166 by decide) rfl rt_0_8 wf_X8_58 dX8_neck_57 ?_
      refine z_getIN' 3 1 (idx := 145) (fv := (d1 124 1)) ly124 (by decide) (by decide) rfl (show 124 < 166 by decide) wf_X8_145 dX8_neck_60 rfl ?_
      exact zret_i rfl dX8_neck_63 h
    · replace h := h.2.2.2.2 c
      refine z_tsCase (2) (off := 43) (tgt := 64) dX8_neck_21 rfl (by decide) (by decide) c ?_
      refine z_aloadR_n (i := 0) dX8_neck_64 rfl rfl ?_
      refine z_getR 8 0 (idx := 12) ly0 (by decide) (by decide) rfl (show 0 < 166 by decide) rfl rt_0_0 wf_X8_12 dX8_neck_65 ?_
      refine z_aloadR_n (i := 0) dX8_neck_68 rfl rfl ?_
      refine z_getR 8 8 (idx := 58) ly0 (by decide) (by decide) rfl (show 0 < 166 by decide) rfl rt_0_8 wf_X8_58 dX8_neck_69 ?_
      refine z_getIN' 3 0 (idx := 142) (fv := (d1 124 0)) ly124 (by decide) (by decide) rfl (show 124 < 166 by decide) wf_X8_142 dX8_neck_72 rfl ?_
      refine z_aloadR_n (i := 0) dX8_neck_75 rfl rfl ?_
      refine z_getR 8 8 (idx := 58) ly0 (by decide) (by decide) rfl (show 0 < 166 by decide) rfl rt_0_8 wf_X8_58 dX8_neck_76 ?_
      refine z_getIN' 3 1 (idx := 145) (fv := (d1 124 1)) ly124 (by decide) (by decide) rfl (show 124 < 166 by decide) wf_X8_145 dX8_neck_79 rfl ?_
      refine z_callVi (k' := M_X7_ageOf) (As := [zI (d1 124 0), zI (d1 124 1)]) (st := []) dX8_neck_82 rfl (rl0 riv1) (by decide) rfl (rlt0 riv1) wm_X8_203 ok_X7_ageOf okV_X7_ageOf rfl (zroom_self (by decide) (by decide)) (Nat.le_of_ble_eq_true rfl) (Nat.le_refl _) rfl (Ev_mono h (fun v2 d2 h => ?_))
      exact zret_i rfl dX8_neck_85 h
  · replace h := h.2.2 c
    refine z_iconst dX8_neck_18 ?_
    exact zret_i rfl dX8_neck_19 h
theorem e_X8_neck {g : zGG} {Q : Int → zMem → Prop} {d : zMem} {x1 : Int} {x2 : Int} (h : Ev g M_X3_seekNumbered FUL FUL [zR 124, zR (1 + 2), zI x1] d (fun v1 d1 => ((inR v1) ∧ (v1 ≠ 0 → ((inR x2) ∧ ((x2 < 0 ∨ 2 < x2) → Q (-2) d1) ∧ (x2 = 0 → Q (d1 124 0) d1) ∧ (x2 = 1 → Q (d1 124 1) d1) ∧ (x2 = 2 → Ev g M_X7_ageOf FUL FUL [zR 1, zI (d1 124 0), zI (d1 124 1)] d1 (fun v2 d2 => Q v2 d2)))) ∧ (v1 = 0 → Q (-1) d1)))) : Ev g M_X8_neck FUL FUL [zR 0, zI x1, zI x2] d Q :=
  Ev_of (by decide +kernel) (Nat.le_of_ble_eq_true rfl) (v_X8_neck_0  h)
set_option maxRecDepth 20000 in
theorem v_X8_oxbow_0 {g : zGG} {Q : Int → zMem → Prop} {d : zMem} {x1 : Int} {x2 : Int}  (h : Ev g M_X4_has FUL FUL [zR (1 + 5), zI x1] d (fun v1 d1 => ((inR v1) ∧ (v1 ≠ 0 → ((inR x2) ∧ ((x2 < 0 ∨ 3 < x2) → Q (-2) d1) ∧ (x2 = 0 → Ev g M_X4_sizeOf FUL FUL [zR (1 + 5), zI x1] d1 (fun v2 d2 => Q v2 d2)) ∧ (x2 = 1 → Ev g M_X4_yearsOf FUL FUL [zR (1 + 5), zI x1] d1 (fun v3 d3 => Q v3 d3)) ∧ (x2 = 2 → Ev g M_X4_firstCellOf FUL FUL [zR (1 + 5), zI x1] d1 (fun v4 d4 => (0 ≤ v4 ∧ inR v4) ∧ Q (v4 % 20) d4)) ∧ (x2 = 3 → Ev g M_X4_firstCellOf FUL FUL [zR (1 + 5), zI x1] d1 (fun v5 d5 => (0 ≤ v5 ∧ inR v5) ∧ Q (v5 / 20) d5)))) ∧ (v1 = 0 → Q (-1) d1)))) : Fr g (eM g M_X8_oxbow FUL FUL Q) M_X8_oxbow FUL 0 [some (zR 0), some (zI x1), some (zI x2)] [] d := by
  refine z_aloadR_n (i := 0) dX8_oxbow_0 rfl rfl ?_
  refine z_getR 8 0 (idx := 12) ly0 (by decide) (by decide) rfl (show 0 < 166 by decide) rfl rt_0_0 wf_X8_12 dX8_oxbow_1 ?_
  refine z_getRN 7 2 (idx := 167) (rl0 riv1) (by decide) (by decide) rfl (rlt0 riv1) rfl (rt0_2 riv1) wf_X8_167 dX8_oxbow_4 ?_
  refine z_iload_n (i := 1) dX8_oxbow_7 rfl rfl ?_
  refine z_callVi (k' := M_X4_has) (As := [zI x1]) (st := []) dX8_oxbow_8 rfl (rl5 riv1) (by decide) rfl (rlt5 riv1) wm_X8_206 ok_X4_has okV_X4_has rfl (zroom_self (by decide) (by decide)) (Nat.le_of_ble_eq_true rfl) (Nat.le_refl _) rfl (Ev_mono h (fun v1 d1 h => ?_))
  refine zb_if_ne (tgt := 16) dX8_oxbow_11 (by decide) h.1 ⟨fun c => ?_, fun c => ?_⟩
  · replace h := h.2.1 c
    refine z_iload_n (i := 2) dX8_oxbow_16 rfl rfl ?_
    have hr := h.1
    rcases (show (x2 < 0 ∨ 3 < x2) ∨ x2 = 0 ∨ x2 = 1 ∨ x2 = 2 ∨ x2 = 3 by omega) with c | c | c | c | c
    · replace h := h.2.1 c
      refine z_tsOut (tgt := 102) dX8_oxbow_17 (by decide) hr c ?_
      refine z_bipush dX8_oxbow_102 (by decide +kernel) ?_
      exact zret_i rfl dX8_oxbow_104 h
    · replace h := h.2.2.1 c
      refine z_tsCase (0) (off := 31) (tgt := 48) dX8_oxbow_17 rfl (by decide) (by decide) c ?_
      refine z_aloadR_n (i := 0) dX8_oxbow_48 rfl rfl ?_
      refine z_getR 8 0 (idx := 12) ly0 (by decide) (by decide) rfl (show 0 < 166 by decide) rfl rt_0_0 wf_X8_12 dX8_oxbow_49 ?_
      refine z_getRN 7 2 (idx := 167) (rl0 riv1) (by decide) (by decide) rfl (rlt0 riv1) rfl (rt0_2 riv1) wf_X8_167 dX8_oxbow_52 ?_
      refine z_iload_n (i := 1) dX8_oxbow_55 rfl rfl ?_
      refine z_callVi (k' := M_X4_sizeOf) (As := [zI x1]) (st := []) dX8_oxbow_56 rfl (rl5 riv1) (by decide) rfl (rlt5 riv1) wm_X8_209 ok_X4_sizeOf okV_X4_sizeOf rfl (zroom_self (by decide) (by decide)) (Nat.le_of_ble_eq_true rfl) (Nat.le_refl _) rfl (Ev_mono h (fun v2 d2 h => ?_))
      exact zret_i rfl dX8_oxbow_59 h
    · replace h := h.2.2.2.1 c
      refine z_tsCase (1) (off := 43) (tgt := 60) dX8_oxbow_17 rfl (by decide) (by decide) c ?_
      refine z_aloadR_n (i := 0) dX8_oxbow_60 rfl rfl ?_
      refine z_getR 8 0 (idx := 12) ly0 (by decide) (by decide) rfl (show 0 < 166 by decide) rfl rt_0_0 wf_X8_12 dX8_oxbow_61 ?_
      refine z_getRN 7 2 (idx := 167) (rl0 riv1) (by decide) (by decide) rfl (rlt0 riv1) rfl (rt0_2 riv1) wf_X8_167 dX8_oxbow_64 ?_
      refine z_iload_n (i := 1) dX8_oxbow_67 rfl rfl ?_
      refine z_callVi (k' := M_X4_yearsOf) (As := [zI x1]) (st := []) dX8_oxbow_68 rfl (rl5 riv1) (by decide) rfl (rlt5 riv1) wm_X8_212 ok_X4_yearsOf okV_X4_yearsOf rfl (zroom_self (by decide) (by decide)) (Nat.le_of_ble_eq_true rfl) (Nat.le_refl _) rfl (Ev_mono h (fun v3 d3 h => ?_))
      exact zret_i rfl dX8_oxbow_71 h
    · replace h := h.2.2.2.2.1 c
      refine z_tsCase (2) (off := 55) (tgt := 72) dX8_oxbow_17 rfl (by decide) (by decide) c ?_
      refine z_aloadR_n (i := 0) dX8_oxbow_72 rfl rfl ?_
      refine z_getR 8 0 (idx := 12) ly0 (by decide) (by decide) rfl (show 0 < 166 by decide) rfl rt_0_0 wf_X8_12 dX8_oxbow_73 ?_
      refine z_getRN 7 2 (idx := 167) (rl0 riv1) (by decide) (by decide) rfl (rlt0 riv1) rfl (rt0_2 riv1) wf_X8_167 dX8_oxbow_76 ?_
      refine z_iload_n (i := 1) dX8_oxbow_79 rfl rfl ?_
      refine z_callVi (k' := M_X4_firstCellOf) (As := [zI x1]) (st := []) dX8_oxbow_80 rfl (rl5 riv1) (by decide) rfl (rlt5 riv1) wm_X8_215 ok_X4_firstCellOf okV_X4_firstCellOf rfl (zroom_self (by decide) (by decide)) (Nat.le_of_ble_eq_true rfl) (Nat.le_refl _) rfl (Ev_mono h (fun v4 d4 h => ?_))
      refine z_bipush dX8_oxbow_83 (by decide +kernel) ?_
      refine z_irem dX8_oxbow_85 ⟨h.1.1, h.1.2, by decide, by decide⟩ ?_
      replace h := h.2
      exact zret_i rfl dX8_oxbow_86 h
    · replace h := h.2.2.2.2.2 c
      refine z_tsCase (3) (off := 70) (tgt := 87) dX8_oxbow_17 rfl (by decide) (by decide) c ?_
      refine z_aloadR_n (i := 0) dX8_oxbow_87 rfl rfl ?_
      refine z_getR 8 0 (idx := 12) ly0 (by decide) (by decide) rfl (show 0 < 166 by decide) rfl rt_0_0 wf_X8_12 dX8_oxbow_88 ?_
      refine z_getRN 7 2 (idx := 167) (rl0 riv1) (by decide) (by decide) rfl (rlt0 riv1) rfl (rt0_2 riv1) wf_X8_167 dX8_oxbow_91 ?_
      refine z_iload_n (i := 1) dX8_oxbow_94 rfl rfl ?_
      refine z_callVi (k' := M_X4_firstCellOf) (As := [zI x1]) (st := []) dX8_oxbow_95 rfl (rl5 riv1) (by decide) rfl (rlt5 riv1) wm_X8_215 ok_X4_firstCellOf okV_X4_firstCellOf rfl (zroom_self (by decide) (by decide)) (Nat.le_of_ble_eq_true rfl) (Nat.le_refl _) rfl (Ev_mono h (fun v5 d5 h => ?_))
      refine z_bipush dX8_oxbow_98 (by decide +kernel) ?_
      refine z_idiv dX8_oxbow_100 ⟨h.1.1, h.1.2, by decide, by decide⟩ ?_
      replace h := h.2
      exact zret_i rfl dX8_oxbow_101 h
  · replace h := h.2.2 c
    refine z_iconst dX8_oxbow_14 ?_
    exact zret_i rfl dX8_oxbow_15 h
theorem e_X8_oxbow {g : zGG} {Q : Int → zMem → Prop} {d : zMem} {x1 : Int} {x2 : Int} (h : Ev g M_X4_has FUL FUL [zR (1 + 5), zI x1] d (fun v1 d1 => ((inR v1) ∧ (v1 ≠ 0 → ((inR x2) ∧ ((x2 < 0 ∨ 3 < x2) → Q (-2) d1) ∧ (x2 = 0 → Ev g M_X4_sizeOf FUL FUL [zR (1 + 5), zI x1] d1 (fun v2 d2 => Q v2 d2)) ∧ (x2 = 1 → Ev g M_X4_yearsOf FUL FUL [zR (1 + 5), zI x1] d1 (fun v3 d3 => Q v3 d3)) ∧ (x2 = 2 → Ev g M_X4_firstCellOf FUL FUL [zR (1 + 5), zI x1] d1 (fun v4 d4 => (0 ≤ v4 ∧ inR v4) ∧ Q (v4 % 20) d4)) ∧ (x2 = 3 → Ev g M_X4_firstCellOf FUL FUL [zR (1 + 5), zI x1] d1 (fun v5 d5 => (0 ≤ v5 ∧ inR v5) ∧ Q (v5 / 20) d5)))) ∧ (v1 = 0 → Q (-1) d1)))) : Ev g M_X8_oxbow FUL FUL [zR 0, zI x1, zI x2] d Q :=
  Ev_of (by decide +kernel) (Nat.le_of_ble_eq_true rfl) (v_X8_oxbow_0  h)
set_option maxRecDepth 20000 in
theorem v_X8_count_0 {g : zGG} {Q : Int → zMem → Prop} {d : zMem} {x1 : Int}  (h : ((inR x1) ∧ ((x1 < 0 ∨ 17 < x1) → Q (-2) d) ∧ (x1 = 0 → Ev g M_X1_length FUL FUL [zR (1 + 2)] d (fun v1 d1 => Q v1 d1)) ∧ (x1 = 1 → Ev g M_X8_countBends FUL FUL [zR 0, zI 0] d (fun v2 d2 => Q v2 d2)) ∧ (x1 = 2 → Ev g M_X8_countBends FUL FUL [zR 0, zI 1] d (fun v3 d3 => Q v3 d3)) ∧ (x1 = 3 → Ev g M_X8_countNecks FUL FUL [zR 0] d (fun v4 d4 => Q v4 d4)) ∧ (x1 = 4 → Ev g M_X4_length FUL FUL [zR (1 + 5)] d (fun v5 d5 => Q v5 d5)) ∧ (x1 = 5 → Q (d 1 8) d) ∧ (x1 = 6 → Q (d 1 7) d) ∧ (x1 = 7 → Ev g M_X7_dikeCount FUL FUL [zR 1] d (fun v6 d6 => Q v6 d6)) ∧ (x1 = 8 → Q (d 1 9) d) ∧ (x1 = 9 → Q (d 1 10) d) ∧ (x1 = 10 → Ev g M_X1_winding FUL FUL [zR (1 + 2)] d (fun v7 d7 => Q v7 d7)) ∧ (x1 = 11 → Ev g M_X7_wearSum FUL FUL [zR 1] d (fun v8 d8 => Q v8 d8)) ∧ (x1 = 12 → Ev g M_X7_setting FUL FUL [zR 1, zI (x1 - 12)] d (fun v9 d9 => Q v9 d9)) ∧ (x1 = 13 → Ev g M_X7_setting FUL FUL [zR 1, zI (x1 - 12)] d (fun v10 d10 => Q v10 d10)) ∧ (x1 = 14 → Ev g M_X7_setting FUL FUL [zR 1, zI (x1 - 12)] d (fun v11 d11 => Q v11 d11)) ∧ (x1 = 15 → Ev g M_X7_setting FUL FUL [zR 1, zI (x1 - 12)] d (fun v12 d12 => Q v12 d12)) ∧ (x1 = 16 → Ev g M_X5_length FUL FUL [zR 117] d (fun v13 d13 => Q v13 d13)) ∧ (x1 = 17 → Ev g M_X2_length FUL FUL [zR 31] d (fun v14 d14 => Q v14 d14)))) : Fr g (eM g M_X8_count FUL FUL Q) M_X8_count FUL 0 [some (zR 0), some (zI x1)] [] d := by
  refine z_iload_n (i := 1) dX8_count_0 rfl rfl ?_
  have hr := h.1
  rcases (show (x1 < 0 ∨ 17 < x1) ∨ x1 = 0 ∨ x1 = 1 ∨ x1 = 2 ∨ x1 = 3 ∨ x1 = 4 ∨ x1 = 5 ∨ x1 = 6 ∨ x1 = 7 ∨ x1 = 8 ∨ x1 = 9 ∨ x1 = 10 ∨ x1 = 11 ∨ x1 = 12 ∨ x1 = 13 ∨ x1 = 14 ∨ x1 = 15 ∨ x1 = 16 ∨ x1 = 17 by omega) with c | c | c | c | c | c | c | c | c | c | c | c | c | c | c | c | c | c | c
  · replace h := h.2.1 c
    refine z_tsOut (tgt := 214) dX8_count_1 (by decide) hr c ?_
    refine z_bipush dX8_count_214 (by decide +kernel) ?_
    exact zret_i rfl dX8_count_216 h
  · replace h := h.2.2.1 c
    refine z_tsCase (0) (off := 87) (tgt := 88) dX8_count_1 rfl (by decide) (by decide) c ?_
    refine z_aloadR_n (i := 0) dX8_count_88 rfl rfl ?_
    refine z_getR 8 0 (idx := 12) ly0 (by decide) (by decide) rfl (show 0 < 166 by decide) rfl rt_0_0 wf_X8_12 dX8_count_89 ?_
    refine z_getRN 7 1 (idx := 91) (rl0 riv1) (by decide) (by decide) rfl (rlt0 riv1) rfl (rt0_1 riv1) wf_X8_91 dX8_count_92 ?_
    refine z_callVi (k' := M_X1_length) (As := []) (st := []) dX8_count_95 rfl (rl2 riv1) (by decide) rfl (rlt2 riv1) wm_X8_102 ok_X1_length okV_X1_length rfl (zroom_self (by decide) (by decide)) (Nat.le_of_ble_eq_true rfl) (Nat.le_refl _) rfl (Ev_mono h (fun v1 d1 h => ?_))
    exact zret_i rfl dX8_count_98 h
  · replace h := h.2.2.2.1 c
    refine z_tsCase (1) (off := 98) (tgt := 99) dX8_count_1 rfl (by decide) (by decide) c ?_
    refine z_aloadR_n (i := 0) dX8_count_99 rfl rfl ?_
    refine z_iconst dX8_count_100 ?_
    refine z_callVi (k' := M_X8_countBends) (As := [zI 0]) (st := []) dX8_count_101 rfl ly0 (by decide) rfl (show 0 < 166 by decide) wm_X8_218 ok_X8_countBends okV_X8_countBends rfl (zroom_self (by decide) (by decide)) (Nat.le_of_ble_eq_true rfl) (Nat.le_refl _) rfl (Ev_mono h (fun v2 d2 h => ?_))
    exact zret_i rfl dX8_count_104 h
  · replace h := h.2.2.2.2.1 c
    refine z_tsCase (2) (off := 104) (tgt := 105) dX8_count_1 rfl (by decide) (by decide) c ?_
    refine z_aloadR_n (i := 0) dX8_count_105 rfl rfl ?_
    refine z_iconst dX8_count_106 ?_
    refine z_callVi (k' := M_X8_countBends) (As := [zI 1]) (st := []) dX8_count_107 rfl ly0 (by decide) rfl (show 0 < 166 by decide) wm_X8_218 ok_X8_countBends okV_X8_countBends rfl (zroom_self (by decide) (by decide)) (Nat.le_of_ble_eq_true rfl) (Nat.le_refl _) rfl (Ev_mono h (fun v3 d3 h => ?_))
    exact zret_i rfl dX8_count_110 h
  · replace h := h.2.2.2.2.2.1 c
    refine z_tsCase (3) (off := 110) (tgt := 111) dX8_count_1 rfl (by decide) (by decide) c ?_
    refine z_aloadR_n (i := 0) dX8_count_111 rfl rfl ?_
    refine z_callVi (k' := M_X8_countNecks) (As := []) (st := []) dX8_count_112 rfl ly0 (by decide) rfl (show 0 < 166 by decide) wm_X8_221 ok_X8_countNecks okV_X8_countNecks rfl (zroom_self (by decide) (by decide)) (Nat.le_of_ble_eq_true rfl) (Nat.le_refl _) rfl (Ev_mono h (fun v4 d4 h => ?_))
    exact zret_i rfl dX8_count_115 h
  · replace h := h.2.2.2.2.2.2.1 c
    refine z_tsCase (4) (off := 115) (tgt := 116) dX8_count_1 rfl (by decide) (by decide) c ?_
    refine z_aloadR_n (i := 0) dX8_count_116 rfl rfl ?_
    refine z_getR 8 0 (idx := 12) ly0 (by decide) (by decide) rfl (show 0 < 166 by decide) rfl rt_0_0 wf_X8_12 dX8_count_117 ?_
    refine z_getRN 7 2 (idx := 167) (rl0 riv1) (by decide) (by decide) rfl (rlt0 riv1) rfl (rt0_2 riv1) wf_X8_167 dX8_count_120 ?_
    refine z_callVi (k' := M_X4_length) (As := []) (st := []) dX8_count_123 rfl (rl5 riv1) (by decide) rfl (rlt5 riv1) wm_X8_224 ok_X4_length okV_X4_length rfl (zroom_self (by decide) (by decide)) (Nat.le_of_ble_eq_true rfl) (Nat.le_refl _) rfl (Ev_mono h (fun v5 d5 h => ?_))
    exact zret_i rfl dX8_count_126 h
  · replace h := h.2.2.2.2.2.2.2.1 c
    refine z_tsCase (5) (off := 126) (tgt := 127) dX8_count_1 rfl (by decide) (by decide) c ?_
    refine z_aloadR_n (i := 0) dX8_count_127 rfl rfl ?_
    refine z_getR 8 0 (idx := 12) ly0 (by decide) (by decide) rfl (show 0 < 166 by decide) rfl rt_0_0 wf_X8_12 dX8_count_128 ?_
    refine z_getIN' 7 8 (idx := 125) (fv := (d 1 8)) (rl0 riv1) (by decide) (by decide) rfl (rlt0 riv1) wf_X8_125 dX8_count_131 rfl ?_
    exact zret_i rfl dX8_count_134 h
  · replace h := h.2.2.2.2.2.2.2.2.1 c
    refine z_tsCase (6) (off := 134) (tgt := 135) dX8_count_1 rfl (by decide) (by decide) c ?_
    refine z_aloadR_n (i := 0) dX8_count_135 rfl rfl ?_
    refine z_getR 8 0 (idx := 12) ly0 (by decide) (by decide) rfl (show 0 < 166 by decide) rfl rt_0_0 wf_X8_12 dX8_count_136 ?_
    refine z_getIN' 7 7 (idx := 132) (fv := (d 1 7)) (rl0 riv1) (by decide) (by decide) rfl (rlt0 riv1) wf_X8_132 dX8_count_139 rfl ?_
    exact zret_i rfl dX8_count_142 h
  · replace h := h.2.2.2.2.2.2.2.2.2.1 c
    refine z_tsCase (7) (off := 142) (tgt := 143) dX8_count_1 rfl (by decide) (by decide) c ?_
    refine z_aloadR_n (i := 0) dX8_count_143 rfl rfl ?_
    refine z_getR 8 0 (idx := 12) ly0 (by decide) (by decide) rfl (show 0 < 166 by decide) rfl rt_0_0 wf_X8_12 dX8_count_144 ?_
    refine z_callVi (k' := M_X7_dikeCount) (As := []) (st := []) dX8_count_147 rfl (rl0 riv1) (by decide) rfl (rlt0 riv1) wm_X8_122 ok_X7_dikeCount okV_X7_dikeCount rfl (zroom_self (by decide) (by decide)) (Nat.le_of_ble_eq_true rfl) (Nat.le_refl _) rfl (Ev_mono h (fun v6 d6 h => ?_))
    exact zret_i rfl dX8_count_150 h
  · replace h := h.2.2.2.2.2.2.2.2.2.2.1 c
    refine z_tsCase (8) (off := 150) (tgt := 151) dX8_count_1 rfl (by decide) (by decide) c ?_
    refine z_aloadR_n (i := 0) dX8_count_151 rfl rfl ?_
    refine z_getR 8 0 (idx := 12) ly0 (by decide) (by decide) rfl (show 0 < 166 by decide) rfl rt_0_0 wf_X8_12 dX8_count_152 ?_
    refine z_getIN' 7 9 (idx := 151) (fv := (d 1 9)) (rl0 riv1) (by decide) (by decide) rfl (rlt0 riv1) wf_X8_151 dX8_count_155 rfl ?_
    exact zret_i rfl dX8_count_158 h
  · replace h := h.2.2.2.2.2.2.2.2.2.2.2.1 c
    refine z_tsCase (9) (off := 158) (tgt := 159) dX8_count_1 rfl (by decide) (by decide) c ?_
    refine z_aloadR_n (i := 0) dX8_count_159 rfl rfl ?_
    refine z_getR 8 0 (idx := 12) ly0 (by decide) (by decide) rfl (show 0 < 166 by decide) rfl rt_0_0 wf_X8_12 dX8_count_160 ?_
    refine z_getIN' 7 10 (idx := 225) (fv := (d 1 10)) (rl0 riv1) (by decide) (by decide) rfl (rlt0 riv1) wf_X8_225 dX8_count_163 rfl ?_
    exact zret_i rfl dX8_count_166 h
  · replace h := h.2.2.2.2.2.2.2.2.2.2.2.2.1 c
    refine z_tsCase (10) (off := 166) (tgt := 167) dX8_count_1 rfl (by decide) (by decide) c ?_
    refine z_aloadR_n (i := 0) dX8_count_167 rfl rfl ?_
    refine z_getR 8 0 (idx := 12) ly0 (by decide) (by decide) rfl (show 0 < 166 by decide) rfl rt_0_0 wf_X8_12 dX8_count_168 ?_
    refine z_getRN 7 1 (idx := 91) (rl0 riv1) (by decide) (by decide) rfl (rlt0 riv1) rfl (rt0_1 riv1) wf_X8_91 dX8_count_171 ?_
    refine z_callVi (k' := M_X1_winding) (As := []) (st := []) dX8_count_174 rfl (rl2 riv1) (by decide) rfl (rlt2 riv1) wm_X8_228 ok_X1_winding okV_X1_winding rfl (zroom_self (by decide) (by decide)) (Nat.le_of_ble_eq_true rfl) (Nat.le_refl _) rfl (Ev_mono h (fun v7 d7 h => ?_))
    exact zret_i rfl dX8_count_177 h
  · replace h := h.2.2.2.2.2.2.2.2.2.2.2.2.2.1 c
    refine z_tsCase (11) (off := 177) (tgt := 178) dX8_count_1 rfl (by decide) (by decide) c ?_
    refine z_aloadR_n (i := 0) dX8_count_178 rfl rfl ?_
    refine z_getR 8 0 (idx := 12) ly0 (by decide) (by decide) rfl (show 0 < 166 by decide) rfl rt_0_0 wf_X8_12 dX8_count_179 ?_
    refine z_callVi (k' := M_X7_wearSum) (As := []) (st := []) dX8_count_182 rfl (rl0 riv1) (by decide) rfl (rlt0 riv1) wm_X8_231 ok_X7_wearSum okV_X7_wearSum rfl (zroom_self (by decide) (by decide)) (Nat.le_of_ble_eq_true rfl) (Nat.le_refl _) rfl (Ev_mono h (fun v8 d8 h => ?_))
    exact zret_i rfl dX8_count_185 h
  · replace h := h.2.2.2.2.2.2.2.2.2.2.2.2.2.2.1 c
    refine z_tsCase (12) (off := 185) (tgt := 186) dX8_count_1 rfl (by decide) (by decide) c ?_
    refine z_aloadR_n (i := 0) dX8_count_186 rfl rfl ?_
    refine z_getR 8 0 (idx := 12) ly0 (by decide) (by decide) rfl (show 0 < 166 by decide) rfl rt_0_0 wf_X8_12 dX8_count_187 ?_
    refine z_iload_n (i := 1) dX8_count_190 rfl rfl ?_
    refine z_bipush dX8_count_191 (by decide +kernel) ?_
    refine z_isub dX8_count_193 ?_
    refine z_callVi (k' := M_X7_setting) (As := [zI (x1 - 12)]) (st := []) dX8_count_194 rfl (rl0 riv1) (by decide) rfl (rlt0 riv1) wm_X8_70 ok_X7_setting okV_X7_setting rfl (zroom_self (by decide) (by decide)) (Nat.le_of_ble_eq_true rfl) (Nat.le_refl _) rfl (Ev_mono h (fun v9 d9 h => ?_))
    exact zret_i rfl dX8_count_197 h
  · replace h := h.2.2.2.2.2.2.2.2.2.2.2.2.2.2.2.1 c
    refine z_tsCase (13) (off := 185) (tgt := 186) dX8_count_1 rfl (by decide) (by decide) c ?_
    refine z_aloadR_n (i := 0) dX8_count_186 rfl rfl ?_
    refine z_getR 8 0 (idx := 12) ly0 (by decide) (by decide) rfl (show 0 < 166 by decide) rfl rt_0_0 wf_X8_12 dX8_count_187 ?_
    refine z_iload_n (i := 1) dX8_count_190 rfl rfl ?_
    refine z_bipush dX8_count_191 (by decide +kernel) ?_
    refine z_isub dX8_count_193 ?_
    refine z_callVi (k' := M_X7_setting) (As := [zI (x1 - 12)]) (st := []) dX8_count_194 rfl (rl0 riv1) (by decide) rfl (rlt0 riv1) wm_X8_70 ok_X7_setting okV_X7_setting rfl (zroom_self (by decide) (by decide)) (Nat.le_of_ble_eq_true rfl) (Nat.le_refl _) rfl (Ev_mono h (fun v10 d10 h => ?_))
    exact zret_i rfl dX8_count_197 h
  · replace h := h.2.2.2.2.2.2.2.2.2.2.2.2.2.2.2.2.1 c
    refine z_tsCase (14) (off := 185) (tgt := 186) dX8_count_1 rfl (by decide) (by decide) c ?_
    refine z_aloadR_n (i := 0) dX8_count_186 rfl rfl ?_
    refine z_getR 8 0 (idx := 12) ly0 (by decide) (by decide) rfl (show 0 < 166 by decide) rfl rt_0_0 wf_X8_12 dX8_count_187 ?_
    refine z_iload_n (i := 1) dX8_count_190 rfl rfl ?_
    refine z_bipush dX8_count_191 (by decide +kernel) ?_
    refine z_isub dX8_count_193 ?_
    refine z_callVi (k' := M_X7_setting) (As := [zI (x1 - 12)]) (st := []) dX8_count_194 rfl (rl0 riv1) (by decide) rfl (rlt0 riv1) wm_X8_70 ok_X7_setting okV_X7_setting rfl (zroom_self (by decide) (by decide)) (Nat.le_of_ble_eq_true rfl) (Nat.le_refl _) rfl (Ev_mono h (fun v11 d11 h => ?_))
    exact zret_i rfl dX8_count_197 h
  · replace h := h.2.2.2.2.2.2.2.2.2.2.2.2.2.2.2.2.2.1 c
    refine z_tsCase (15) (off := 185) (tgt := 186) dX8_count_1 rfl (by decide) (by decide) c ?_
    refine z_aloadR_n (i := 0) dX8_count_186 rfl rfl ?_
    refine z_getR 8 0 (idx := 12) ly0 (by decide) (by decide) rfl (show 0 < 166 by decide) rfl rt_0_0 wf_X8_12 dX8_count_187 ?_
    refine z_iload_n (i := 1) dX8_count_190 rfl rfl ?_
    refine z_bipush dX8_count_191 (by decide +kernel) ?_
    refine z_isub dX8_count_193 ?_
    refine z_callVi (k' := M_X7_setting) (As := [zI (x1 - 12)]) (st := []) dX8_count_194 rfl (rl0 riv1) (by decide) rfl (rlt0 riv1) wm_X8_70 ok_X7_setting okV_X7_setting rfl (zroom_self (by decide) (by decide)) (Nat.le_of_ble_eq_true rfl) (Nat.le_refl _) rfl (Ev_mono h (fun v12 d12 h => ?_))
    exact zret_i rfl dX8_count_197 h
  · replace h := h.2.2.2.2.2.2.2.2.2.2.2.2.2.2.2.2.2.2.1 c
    refine z_tsCase (16) (off := 197) (tgt := 198) dX8_count_1 rfl (by decide) (by decide) c ?_
    refine z_aloadR_n (i := 0) dX8_count_198 rfl rfl ?_
    refine z_getR 8 5 (idx := 37) ly0 (by decide) (by decide) rfl (show 0 < 166 by decide) rfl rt_0_5 wf_X8_37 dX8_count_199 ?_
    refine z_callVi (k' := M_X5_length) (As := []) (st := []) dX8_count_202 rfl ly117 (by decide) rfl (show 117 < 166 by decide) wm_X8_234 ok_X5_length okV_X5_length rfl (zroom_self (by decide) (by decide)) (Nat.le_of_ble_eq_true rfl) (Nat.le_refl _) rfl (Ev_mono h (fun v13 d13 h => ?_))
    exact zret_i rfl dX8_count_205 h
  · replace h := h.2.2.2.2.2.2.2.2.2.2.2.2.2.2.2.2.2.2.2 c
    refine z_tsCase (17) (off := 205) (tgt := 206) dX8_count_1 rfl (by decide) (by decide) c ?_
    refine z_aloadR_n (i := 0) dX8_count_206 rfl rfl ?_
    refine z_getR 8 4 (idx := 30) ly0 (by decide) (by decide) rfl (show 0 < 166 by decide) rfl rt_0_4 wf_X8_30 dX8_count_207 ?_
    refine z_callVi (k' := M_X2_length) (As := []) (st := []) dX8_count_210 rfl ly31 (by decide) rfl (show 31 < 166 by decide) wm_X8_235 ok_X2_length okV_X2_length rfl (zroom_self (by decide) (by decide)) (Nat.le_of_ble_eq_true rfl) (Nat.le_refl _) rfl (Ev_mono h (fun v14 d14 h => ?_))
    exact zret_i rfl dX8_count_213 h
theorem e_X8_count {g : zGG} {Q : Int → zMem → Prop} {d : zMem} {x1 : Int} (h : ((inR x1) ∧ ((x1 < 0 ∨ 17 < x1) → Q (-2) d) ∧ (x1 = 0 → Ev g M_X1_length FUL FUL [zR (1 + 2)] d (fun v1 d1 => Q v1 d1)) ∧ (x1 = 1 → Ev g M_X8_countBends FUL FUL [zR 0, zI 0] d (fun v2 d2 => Q v2 d2)) ∧ (x1 = 2 → Ev g M_X8_countBends FUL FUL [zR 0, zI 1] d (fun v3 d3 => Q v3 d3)) ∧ (x1 = 3 → Ev g M_X8_countNecks FUL FUL [zR 0] d (fun v4 d4 => Q v4 d4)) ∧ (x1 = 4 → Ev g M_X4_length FUL FUL [zR (1 + 5)] d (fun v5 d5 => Q v5 d5)) ∧ (x1 = 5 → Q (d 1 8) d) ∧ (x1 = 6 → Q (d 1 7) d) ∧ (x1 = 7 → Ev g M_X7_dikeCount FUL FUL [zR 1] d (fun v6 d6 => Q v6 d6)) ∧ (x1 = 8 → Q (d 1 9) d) ∧ (x1 = 9 → Q (d 1 10) d) ∧ (x1 = 10 → Ev g M_X1_winding FUL FUL [zR (1 + 2)] d (fun v7 d7 => Q v7 d7)) ∧ (x1 = 11 → Ev g M_X7_wearSum FUL FUL [zR 1] d (fun v8 d8 => Q v8 d8)) ∧ (x1 = 12 → Ev g M_X7_setting FUL FUL [zR 1, zI (x1 - 12)] d (fun v9 d9 => Q v9 d9)) ∧ (x1 = 13 → Ev g M_X7_setting FUL FUL [zR 1, zI (x1 - 12)] d (fun v10 d10 => Q v10 d10)) ∧ (x1 = 14 → Ev g M_X7_setting FUL FUL [zR 1, zI (x1 - 12)] d (fun v11 d11 => Q v11 d11)) ∧ (x1 = 15 → Ev g M_X7_setting FUL FUL [zR 1, zI (x1 - 12)] d (fun v12 d12 => Q v12 d12)) ∧ (x1 = 16 → Ev g M_X5_length FUL FUL [zR 117] d (fun v13 d13 => Q v13 d13)) ∧ (x1 = 17 → Ev g M_X2_length FUL FUL [zR 31] d (fun v14 d14 => Q v14 d14)))) : Ev g M_X8_count FUL FUL [zR 0, zI x1] d Q :=
  Ev_of (by decide +kernel) (Nat.le_of_ble_eq_true rfl) (v_X8_count_0  h)
set_option maxRecDepth 20000 in
theorem v_X8_isFlood_0 {g : zGG} {Q : Int → zMem → Prop} {d : zMem} {x1 : Int}  (h : ((inR x1) ∧ (x1 < 0 → Q (-2) d) ∧ (0 ≤ x1 → ((inR x1) ∧ (x1 ≤ 999 → Ev g M_X7_hasFlood FUL FUL [zR 1, zI x1] d (fun v1 d1 => Ev g M_X8_asNumber FUL FUL [zI v1] d1 (fun v2 d2 => Q v2 d2))) ∧ (999 < x1 → Q (-2) d))))) : Fr g (eM g M_X8_isFlood FUL FUL Q) M_X8_isFlood FUL 0 [some (zR 0), some (zI x1)] [] d := by
  refine z_iload_n (i := 1) dX8_isFlood_0 rfl rfl ?_
  refine zb_if_lt (tgt := 11) dX8_isFlood_1 (by decide) h.1 ⟨fun c => ?_, fun c => ?_⟩
  · replace h := h.2.1 c
    refine z_bipush dX8_isFlood_11 (by decide +kernel) ?_
    exact zret_i rfl dX8_isFlood_13 h
  · replace h := h.2.2 c
    refine z_iload_n (i := 1) dX8_isFlood_4 rfl rfl ?_
    refine z_sipush dX8_isFlood_5 (by decide +kernel) ?_
    refine zb_icmp_le (tgt := 14) dX8_isFlood_8 (by decide) ⟨h.1, by decide⟩ ⟨fun c => ?_, fun c => ?_⟩
    · replace h := h.2.1 c
      refine z_aloadR_n (i := 0) dX8_isFlood_14 rfl rfl ?_
      refine z_getR 8 0 (idx := 12) ly0 (by decide) (by decide) rfl (show 0 < 166 by decide) rfl rt_0_0 wf_X8_12 dX8_isFlood_15 ?_
      refine z_iload_n (i := 1) dX8_isFlood_18 rfl rfl ?_
      refine z_callVi (k' := M_X7_hasFlood) (As := [zI x1]) (st := []) dX8_isFlood_19 rfl (rl0 riv1) (by decide) rfl (rlt0 riv1) wm_X8_129 ok_X7_hasFlood okV_X7_hasFlood rfl (zroom_self (by decide) (by decide)) (Nat.le_of_ble_eq_true rfl) (Nat.le_refl _) rfl (Ev_mono h (fun v1 d1 h => ?_))
      refine z_callS (k' := M_X8_asNumber) (As := [zI v1]) (st := []) dX8_isFlood_22 rfl wm_X8_163 ok_X8_asNumber okS_X8_asNumber rfl (zroom_self (by decide) (by decide)) (Nat.le_of_ble_eq_true rfl) (Nat.le_refl _) (zEnd_i (Nat.le_refl _) rfl (fun _ _ q => q)) (Ev_mono h (fun v2 d2 h => ?_))
      exact zret_i rfl dX8_isFlood_25 h
    · replace h := h.2.2 c
      refine z_bipush dX8_isFlood_11 (by decide +kernel) ?_
      exact zret_i rfl dX8_isFlood_13 h
theorem e_X8_isFlood {g : zGG} {Q : Int → zMem → Prop} {d : zMem} {x1 : Int} (h : ((inR x1) ∧ (x1 < 0 → Q (-2) d) ∧ (0 ≤ x1 → ((inR x1) ∧ (x1 ≤ 999 → Ev g M_X7_hasFlood FUL FUL [zR 1, zI x1] d (fun v1 d1 => Ev g M_X8_asNumber FUL FUL [zI v1] d1 (fun v2 d2 => Q v2 d2))) ∧ (999 < x1 → Q (-2) d))))) : Ev g M_X8_isFlood FUL FUL [zR 0, zI x1] d Q :=
  Ev_of (by decide +kernel) (Nat.le_of_ble_eq_true rfl) (v_X8_isFlood_0  h)
set_option maxRecDepth 20000 in
theorem v_X8_ifPassed_0 {g : zGG} {Q : Int → zMem → Prop} {d : zMem} {x1 : Int} {x2 : Int}  (h : ((inR x1) ∧ (x1 < 1 → Q (-2) d) ∧ (1 ≤ x1 → ((inR x1) ∧ (50 < x1 → Q (-2) d) ∧ (x1 ≤ 50 → ((inR x2) ∧ (x2 < 0 → Q (-2) d) ∧ (0 ≤ x2 → ((inR x2) ∧ (x2 ≤ 3 → Ev g M_X7_copyFrom FUL FUL [zR 15, zR 1] d (fun _ d1 => (Fr g (eM g M_X8_ifPassed FUL FUL Q) M_X8_ifPassed FUL 36 [some (zR 0), some (zI x1), some (zI x2), some (zI 0)] [] d1))) ∧ (3 < x2 → Q (-2) d))))))))) : Fr g (eM g M_X8_ifPassed FUL FUL Q) M_X8_ifPassed FUL 0 [some (zR 0), some (zI x1), some (zI x2), none] [] d := by
  refine z_iload_n (i := 1) dX8_ifPassed_0 rfl rfl ?_
  refine z_iconst dX8_ifPassed_1 ?_
  refine zb_icmp_lt (tgt := 20) dX8_ifPassed_2 (by decide) ⟨h.1, by decide⟩ ⟨fun c => ?_, fun c => ?_⟩
  · replace h := h.2.1 c
    refine z_bipush dX8_ifPassed_20 (by decide +kernel) ?_
    exact zret_i rfl dX8_ifPassed_22 h
  · replace h := h.2.2 c
    refine z_iload_n (i := 1) dX8_ifPassed_5 rfl rfl ?_
    refine z_bipush dX8_ifPassed_6 (by decide +kernel) ?_
    refine zb_icmp_gt (tgt := 20) dX8_ifPassed_8 (by decide) ⟨h.1, by decide⟩ ⟨fun c => ?_, fun c => ?_⟩
    · replace h := h.2.1 c
      refine z_bipush dX8_ifPassed_20 (by decide +kernel) ?_
      exact zret_i rfl dX8_ifPassed_22 h
    · replace h := h.2.2 c
      refine z_iload_n (i := 2) dX8_ifPassed_11 rfl rfl ?_
      refine zb_if_lt (tgt := 20) dX8_ifPassed_12 (by decide) h.1 ⟨fun c => ?_, fun c => ?_⟩
      · replace h := h.2.1 c
        refine z_bipush dX8_ifPassed_20 (by decide +kernel) ?_
        exact zret_i rfl dX8_ifPassed_22 h
      · replace h := h.2.2 c
        refine z_iload_n (i := 2) dX8_ifPassed_15 rfl rfl ?_
        refine z_iconst dX8_ifPassed_16 ?_
        refine zb_icmp_le (tgt := 23) dX8_ifPassed_17 (by decide) ⟨h.1, by decide⟩ ⟨fun c => ?_, fun c => ?_⟩
        · replace h := h.2.1 c
          refine z_aloadR_n (i := 0) dX8_ifPassed_23 rfl rfl ?_
          refine z_getR 8 1 (idx := 16) ly0 (by decide) (by decide) rfl (show 0 < 166 by decide) rfl rt_0_1 wf_X8_16 dX8_ifPassed_24 ?_
          refine z_aloadR_n (i := 0) dX8_ifPassed_27 rfl rfl ?_
          refine z_getR 8 0 (idx := 12) ly0 (by decide) (by decide) rfl (show 0 < 166 by decide) rfl rt_0_0 wf_X8_12 dX8_ifPassed_28 ?_
          refine z_callVv (k' := M_X7_copyFrom) (As := [zR 1]) (st := []) dX8_ifPassed_31 rfl (rl0 riv15) (by decide) rfl (rlt0 riv15) wm_X8_85 ok_X7_copyFrom okV_X7_copyFrom rfl (zroom_self (by decide) (by decide)) (Nat.le_of_ble_eq_true rfl) (Nat.le_refl _) rfl (Ev_mono h (fun _ d1 h => ?_))
          refine z_iconst dX8_ifPassed_34 ?_
          refine z_istore_n (i := 3) (ls2 := [some (zR 0), some (zI x1), some (zI x2), some (zI 0)]) dX8_ifPassed_35 rfl (by decide) rfl ?_
          exact h
        · replace h := h.2.2 c
          refine z_bipush dX8_ifPassed_20 (by decide +kernel) ?_
          exact zret_i rfl dX8_ifPassed_22 h
theorem e_X8_ifPassed {g : zGG} {Q : Int → zMem → Prop} {d : zMem} {x1 : Int} {x2 : Int} (h : ((inR x1) ∧ (x1 < 1 → Q (-2) d) ∧ (1 ≤ x1 → ((inR x1) ∧ (50 < x1 → Q (-2) d) ∧ (x1 ≤ 50 → ((inR x2) ∧ (x2 < 0 → Q (-2) d) ∧ (0 ≤ x2 → ((inR x2) ∧ (x2 ≤ 3 → Ev g M_X7_copyFrom FUL FUL [zR 15, zR 1] d (fun _ d1 => (Fr g (eM g M_X8_ifPassed FUL FUL Q) M_X8_ifPassed FUL 36 [some (zR 0), some (zI x1), some (zI x2), some (zI 0)] [] d1))) ∧ (3 < x2 → Q (-2) d))))))))) : Ev g M_X8_ifPassed FUL FUL [zR 0, zI x1, zI x2] d Q :=
  Ev_of (by decide +kernel) (Nat.le_of_ble_eq_true rfl) (v_X8_ifPassed_0  h)
set_option maxRecDepth 20000 in
theorem v_X8_ifPassed_36 {g : zGG} {Q : Int → zMem → Prop} {d : zMem} {x1 : Int} {x2 : Int} {x3 : Int} (h : ((inR x3 ∧ inR x1) ∧ (x1 ≤ x3 → ((inR x2) ∧ ((x2 < 0 ∨ 2 < x2) → Ev g M_X4_length FUL FUL [zR (15 + 5)] d (fun v1 d1 => Q v1 d1)) ∧ (x2 = 0 → Q ((d 15 9) - (d 1 9)) d) ∧ (x2 = 1 → Q ((d 15 10) - (d 1 10)) d) ∧ (x2 = 2 → Ev g M_X1_length FUL FUL [zR (15 + 2)] d (fun v2 d2 => Q v2 d2)))) ∧ (x3 < x1 → Ev g M_X6_passYear FUL FUL [zR 120, zR 15] d (fun _ d3 => (Fr g (eM g M_X8_ifPassed FUL FUL Q) M_X8_ifPassed FUL 36 [some (zR 0), some (zI x1), some (zI x2), some (zI (x3 + 1))] [] d3))))) : Fr g (eM g M_X8_ifPassed FUL FUL Q) M_X8_ifPassed FUL 36 [some (zR 0), some (zI x1), some (zI x2), some (zI x3)] [] d := by
  refine z_iload_n (i := 3) dX8_ifPassed_36 rfl rfl ?_
  refine z_iload_n (i := 1) dX8_ifPassed_37 rfl rfl ?_
  refine zb_icmp_ge (tgt := 58) dX8_ifPassed_38 (by decide) h.1 ⟨fun c => ?_, fun c => ?_⟩
  · replace h := h.2.1 c
    refine z_iload_n (i := 2) dX8_ifPassed_58 rfl rfl ?_
    have hr := h.1
    rcases (show (x2 < 0 ∨ 2 < x2) ∨ x2 = 0 ∨ x2 = 1 ∨ x2 = 2 by omega) with c | c | c | c
    · replace h := h.2.1 c
      refine z_tsOut (tgt := 127) dX8_ifPassed_59 (by decide) hr c ?_
      refine z_aloadR_n (i := 0) dX8_ifPassed_127 rfl rfl ?_
      refine z_getR 8 1 (idx := 16) ly0 (by decide) (by decide) rfl (show 0 < 166 by decide) rfl rt_0_1 wf_X8_16 dX8_ifPassed_128 ?_
      refine z_getRN 7 2 (idx := 167) (rl0 riv15) (by decide) (by decide) rfl (rlt0 riv15) rfl (rt0_2 riv15) wf_X8_167 dX8_ifPassed_131 ?_
      refine z_callVi (k' := M_X4_length) (As := []) (st := []) dX8_ifPassed_134 rfl (rl5 riv15) (by decide) rfl (rlt5 riv15) wm_X8_224 ok_X4_length okV_X4_length rfl (zroom_self (by decide) (by decide)) (Nat.le_of_ble_eq_true rfl) (Nat.le_refl _) rfl (Ev_mono h (fun v1 d1 h => ?_))
      exact zret_i rfl dX8_ifPassed_137 h
    · replace h := h.2.2.1 c
      refine z_tsCase (0) (off := 25) (tgt := 84) dX8_ifPassed_59 rfl (by decide) (by decide) c ?_
      refine z_aloadR_n (i := 0) dX8_ifPassed_84 rfl rfl ?_
      refine z_getR 8 1 (idx := 16) ly0 (by decide) (by decide) rfl (show 0 < 166 by decide) rfl rt_0_1 wf_X8_16 dX8_ifPassed_85 ?_
      refine z_getIN' 7 9 (idx := 151) (fv := (d 15 9)) (rl0 riv15) (by decide) (by decide) rfl (rlt0 riv15) wf_X8_151 dX8_ifPassed_88 rfl ?_
      refine z_aloadR_n (i := 0) dX8_ifPassed_91 rfl rfl ?_
      refine z_getR 8 0 (idx := 12) ly0 (by decide) (by decide) rfl (show 0 < 166 by decide) rfl rt_0_0 wf_X8_12 dX8_ifPassed_92 ?_
      refine z_getIN' 7 9 (idx := 151) (fv := (d 1 9)) (rl0 riv1) (by decide) (by decide) rfl (rlt0 riv1) wf_X8_151 dX8_ifPassed_95 rfl ?_
      refine z_isub dX8_ifPassed_98 ?_
      exact zret_i rfl dX8_ifPassed_99 h
    · replace h := h.2.2.2.1 c
      refine z_tsCase (1) (off := 41) (tgt := 100) dX8_ifPassed_59 rfl (by decide) (by decide) c ?_
      refine z_aloadR_n (i := 0) dX8_ifPassed_100 rfl rfl ?_
      refine z_getR 8 1 (idx := 16) ly0 (by decide) (by decide) rfl (show 0 < 166 by decide) rfl rt_0_1 wf_X8_16 dX8_ifPassed_101 ?_
      refine z_getIN' 7 10 (idx := 225) (fv := (d 15 10)) (rl0 riv15) (by decide) (by decide) rfl (rlt0 riv15) wf_X8_225 dX8_ifPassed_104 rfl ?_
      refine z_aloadR_n (i := 0) dX8_ifPassed_107 rfl rfl ?_
      refine z_getR 8 0 (idx := 12) ly0 (by decide) (by decide) rfl (show 0 < 166 by decide) rfl rt_0_0 wf_X8_12 dX8_ifPassed_108 ?_
      refine z_getIN' 7 10 (idx := 225) (fv := (d 1 10)) (rl0 riv1) (by decide) (by decide) rfl (rlt0 riv1) wf_X8_225 dX8_ifPassed_111 rfl ?_
      refine z_isub dX8_ifPassed_114 ?_
      exact zret_i rfl dX8_ifPassed_115 h
    · replace h := h.2.2.2.2 c
      refine z_tsCase (2) (off := 57) (tgt := 116) dX8_ifPassed_59 rfl (by decide) (by decide) c ?_
      refine z_aloadR_n (i := 0) dX8_ifPassed_116 rfl rfl ?_
      refine z_getR 8 1 (idx := 16) ly0 (by decide) (by decide) rfl (show 0 < 166 by decide) rfl rt_0_1 wf_X8_16 dX8_ifPassed_117 ?_
      refine z_getRN 7 1 (idx := 91) (rl0 riv15) (by decide) (by decide) rfl (rlt0 riv15) rfl (rt0_1 riv15) wf_X8_91 dX8_ifPassed_120 ?_
      refine z_callVi (k' := M_X1_length) (As := []) (st := []) dX8_ifPassed_123 rfl (rl2 riv15) (by decide) rfl (rlt2 riv15) wm_X8_102 ok_X1_length okV_X1_length rfl (zroom_self (by decide) (by decide)) (Nat.le_of_ble_eq_true rfl) (Nat.le_refl _) rfl (Ev_mono h (fun v2 d2 h => ?_))
      exact zret_i rfl dX8_ifPassed_126 h
  · replace h := h.2.2 c
    refine z_aloadR_n (i := 0) dX8_ifPassed_41 rfl rfl ?_
    refine z_getR 8 6 (idx := 44) ly0 (by decide) (by decide) rfl (show 0 < 166 by decide) rfl rt_0_6 wf_X8_44 dX8_ifPassed_42 ?_
    refine z_aloadR_n (i := 0) dX8_ifPassed_45 rfl rfl ?_
    refine z_getR 8 1 (idx := 16) ly0 (by decide) (by decide) rfl (show 0 < 166 by decide) rfl rt_0_1 wf_X8_16 dX8_ifPassed_46 ?_
    refine z_callVv (k' := M_X6_passYear) (As := [zR 15]) (st := []) dX8_ifPassed_49 rfl ly120 (by decide) rfl (show 120 < 166 by decide) wm_X8_154 ok_X6_passYear okV_X6_passYear rfl (zroom_self (by decide) (by decide)) (Nat.le_of_ble_eq_true rfl) (Nat.le_refl _) rfl (Ev_mono h (fun _ d3 h => ?_))
    refine z_iinc (i := 3) (ls2 := [some (zR 0), some (zI x1), some (zI x2), some (zI (x3 + 1))]) dX8_ifPassed_52 (by decide) rfl rfl ?_
    refine z_goto (tgt := 36) dX8_ifPassed_55 (by decide) ?_
    exact h
set_option maxRecDepth 20000 in
theorem v_X8_nextCut_0 {g : zGG} {Q : Int → zMem → Prop} {d : zMem} {x1 : Int}  (h : ((inR x1) ∧ (x1 = 0 → Ev g M_X7_copyFrom FUL FUL [zR 15, zR 1] d (fun _ d1 => (Fr g (eM g M_X8_nextCut FUL FUL Q) M_X8_nextCut FUL 25 [some (zR 0), some (zI x1), some (zI 0)] [] d1))) ∧ (x1 ≠ 0 → ((inR x1) ∧ (x1 = 1 → Ev g M_X7_copyFrom FUL FUL [zR 15, zR 1] d (fun _ d2 => (Fr g (eM g M_X8_nextCut FUL FUL Q) M_X8_nextCut FUL 25 [some (zR 0), some (zI x1), some (zI 0)] [] d2))) ∧ (x1 ≠ 1 → Q (-2) d))))) : Fr g (eM g M_X8_nextCut FUL FUL Q) M_X8_nextCut FUL 0 [some (zR 0), some (zI x1), none] [] d := by
  refine z_iload_n (i := 1) dX8_nextCut_0 rfl rfl ?_
  refine zb_if_eq (tgt := 12) dX8_nextCut_1 (by decide) h.1 ⟨fun c => ?_, fun c => ?_⟩
  · replace h := h.2.1 c
    refine z_aloadR_n (i := 0) dX8_nextCut_12 rfl rfl ?_
    refine z_getR 8 1 (idx := 16) ly0 (by decide) (by decide) rfl (show 0 < 166 by decide) rfl rt_0_1 wf_X8_16 dX8_nextCut_13 ?_
    refine z_aloadR_n (i := 0) dX8_nextCut_16 rfl rfl ?_
    refine z_getR 8 0 (idx := 12) ly0 (by decide) (by decide) rfl (show 0 < 166 by decide) rfl rt_0_0 wf_X8_12 dX8_nextCut_17 ?_
    refine z_callVv (k' := M_X7_copyFrom) (As := [zR 1]) (st := []) dX8_nextCut_20 rfl (rl0 riv15) (by decide) rfl (rlt0 riv15) wm_X8_85 ok_X7_copyFrom okV_X7_copyFrom rfl (zroom_self (by decide) (by decide)) (Nat.le_of_ble_eq_true rfl) (Nat.le_refl _) rfl (Ev_mono h (fun _ d1 h => ?_))
    refine z_iconst dX8_nextCut_23 ?_
    refine z_istore_n (i := 2) (ls2 := [some (zR 0), some (zI x1), some (zI 0)]) dX8_nextCut_24 rfl (by decide) rfl ?_
    exact h
  · replace h := h.2.2 c
    refine z_iload_n (i := 1) dX8_nextCut_4 rfl rfl ?_
    refine z_iconst dX8_nextCut_5 ?_
    refine zb_icmp_eq (tgt := 12) dX8_nextCut_6 (by decide) ⟨h.1, by decide⟩ ⟨fun c => ?_, fun c => ?_⟩
    · replace h := h.2.1 c
      refine z_aloadR_n (i := 0) dX8_nextCut_12 rfl rfl ?_
      refine z_getR 8 1 (idx := 16) ly0 (by decide) (by decide) rfl (show 0 < 166 by decide) rfl rt_0_1 wf_X8_16 dX8_nextCut_13 ?_
      refine z_aloadR_n (i := 0) dX8_nextCut_16 rfl rfl ?_
      refine z_getR 8 0 (idx := 12) ly0 (by decide) (by decide) rfl (show 0 < 166 by decide) rfl rt_0_0 wf_X8_12 dX8_nextCut_17 ?_
      refine z_callVv (k' := M_X7_copyFrom) (As := [zR 1]) (st := []) dX8_nextCut_20 rfl (rl0 riv15) (by decide) rfl (rlt0 riv15) wm_X8_85 ok_X7_copyFrom okV_X7_copyFrom rfl (zroom_self (by decide) (by decide)) (Nat.le_of_ble_eq_true rfl) (Nat.le_refl _) rfl (Ev_mono h (fun _ d2 h => ?_))
      refine z_iconst dX8_nextCut_23 ?_
      refine z_istore_n (i := 2) (ls2 := [some (zR 0), some (zI x1), some (zI 0)]) dX8_nextCut_24 rfl (by decide) rfl ?_
      exact h
    · replace h := h.2.2 c
      refine z_bipush dX8_nextCut_9 (by decide +kernel) ?_
      exact zret_i rfl dX8_nextCut_11 h
theorem e_X8_nextCut {g : zGG} {Q : Int → zMem → Prop} {d : zMem} {x1 : Int} (h : ((inR x1) ∧ (x1 = 0 → Ev g M_X7_copyFrom FUL FUL [zR 15, zR 1] d (fun _ d1 => (Fr g (eM g M_X8_nextCut FUL FUL Q) M_X8_nextCut FUL 25 [some (zR 0), some (zI x1), some (zI 0)] [] d1))) ∧ (x1 ≠ 0 → ((inR x1) ∧ (x1 = 1 → Ev g M_X7_copyFrom FUL FUL [zR 15, zR 1] d (fun _ d2 => (Fr g (eM g M_X8_nextCut FUL FUL Q) M_X8_nextCut FUL 25 [some (zR 0), some (zI x1), some (zI 0)] [] d2))) ∧ (x1 ≠ 1 → Q (-2) d))))) : Ev g M_X8_nextCut FUL FUL [zR 0, zI x1] d Q :=
  Ev_of (by decide +kernel) (Nat.le_of_ble_eq_true rfl) (v_X8_nextCut_0  h)
set_option maxRecDepth 20000 in
theorem v_X8_nextCut_25 {g : zGG} {Q : Int → zMem → Prop} {d : zMem} {x1 : Int} {x2 : Int} (h : ((inR x2) ∧ (60 ≤ x2 → Q (-6) d) ∧ (x2 < 60 → Ev g M_X6_passYear FUL FUL [zR 120, zR 15] d (fun _ d1 => ((inR (d1 120 4)) ∧ ((d1 120 4) ≤ 0 → (Fr g (eM g M_X8_nextCut FUL FUL Q) M_X8_nextCut FUL 25 [some (zR 0), some (zI x1), some (zI (x2 + 1))] [] d1)) ∧ (0 < (d1 120 4) → ((inR x1) ∧ (x1 ≠ 0 → Q (d1 120 4) d1) ∧ (x1 = 0 → Q x2 d1)))))))) : Fr g (eM g M_X8_nextCut FUL FUL Q) M_X8_nextCut FUL 25 [some (zR 0), some (zI x1), some (zI x2)] [] d := by
  refine z_iload_n (i := 2) dX8_nextCut_25 rfl rfl ?_
  refine z_bipush dX8_nextCut_26 (by decide +kernel) ?_
  refine zb_icmp_ge (tgt := 74) dX8_nextCut_28 (by decide) ⟨h.1, by decide⟩ ⟨fun c => ?_, fun c => ?_⟩
  · replace h := h.2.1 c
    refine z_bipush dX8_nextCut_74 (by decide +kernel) ?_
    exact zret_i rfl dX8_nextCut_76 h
  · replace h := h.2.2 c
    refine z_aloadR_n (i := 0) dX8_nextCut_31 rfl rfl ?_
    refine z_getR 8 6 (idx := 44) ly0 (by decide) (by decide) rfl (show 0 < 166 by decide) rfl rt_0_6 wf_X8_44 dX8_nextCut_32 ?_
    refine z_aloadR_n (i := 0) dX8_nextCut_35 rfl rfl ?_
    refine z_getR 8 1 (idx := 16) ly0 (by decide) (by decide) rfl (show 0 < 166 by decide) rfl rt_0_1 wf_X8_16 dX8_nextCut_36 ?_
    refine z_callVv (k' := M_X6_passYear) (As := [zR 15]) (st := []) dX8_nextCut_39 rfl ly120 (by decide) rfl (show 120 < 166 by decide) wm_X8_154 ok_X6_passYear okV_X6_passYear rfl (zroom_self (by decide) (by decide)) (Nat.le_of_ble_eq_true rfl) (Nat.le_refl _) rfl (Ev_mono h (fun _ d1 h => ?_))
    refine z_aloadR_n (i := 0) dX8_nextCut_42 rfl rfl ?_
    refine z_getR 8 6 (idx := 44) ly0 (by decide) (by decide) rfl (show 0 < 166 by decide) rfl rt_0_6 wf_X8_44 dX8_nextCut_43 ?_
    refine z_getIN' 6 4 (idx := 236) (fv := (d1 120 4)) ly120 (by decide) (by decide) rfl (show 120 < 166 by decide) wf_X8_236 dX8_nextCut_46 rfl ?_
    refine zb_if_le (tgt := 68) dX8_nextCut_49 (by decide) h.1 ⟨fun c => ?_, fun c => ?_⟩
    · replace h := h.2.1 c
      refine z_iinc (i := 2) (ls2 := [some (zR 0), some (zI x1), some (zI (x2 + 1))]) dX8_nextCut_68 (by decide) rfl rfl ?_
      refine z_goto (tgt := 25) dX8_nextCut_71 (by decide) ?_
      exact h
    · replace h := h.2.2 c
      refine z_iload_n (i := 1) dX8_nextCut_52 rfl rfl ?_
      refine zb_if_ne (tgt := 60) dX8_nextCut_53 (by decide) h.1 ⟨fun c => ?_, fun c => ?_⟩
      · replace h := h.2.1 c
        refine z_aloadR_n (i := 0) dX8_nextCut_60 rfl rfl ?_
        refine z_getR 8 6 (idx := 44) ly0 (by decide) (by decide) rfl (show 0 < 166 by decide) rfl rt_0_6 wf_X8_44 dX8_nextCut_61 ?_
        refine z_getIN' 6 4 (idx := 236) (fv := (d1 120 4)) ly120 (by decide) (by decide) rfl (show 120 < 166 by decide) wf_X8_236 dX8_nextCut_64 rfl ?_
        exact zret_i rfl dX8_nextCut_67 h
      · replace h := h.2.2 c
        refine z_iload_n (i := 2) dX8_nextCut_56 rfl rfl ?_
        refine z_goto (tgt := 67) dX8_nextCut_57 (by decide) ?_
        exact zret_i rfl dX8_nextCut_67 h
set_option maxRecDepth 20000 in
theorem v_X8_taken_0 {g : zGG} {Q : Int → zMem → Prop} {d : zMem} {x1 : Int} {x2 : Int}  (h : Ev g M_X8_cellAt FUL FUL [zI x1, zI x2] d (fun v1 d1 => ((inR v1) ∧ (v1 ≠ (-1) → Ev g M_X1_numberOf FUL FUL [zR (1 + 2), zI v1] d1 (fun v2 d2 => ((inR v2) ∧ (v2 = (-1) → Ev g M_X7_copyFrom FUL FUL [zR 15, zR 1] d2 (fun _ d3 => Ev g M_X6_watch FUL FUL [zR 120, zI v1] d3 (fun _ d4 => (Fr g (eM g M_X8_taken FUL FUL Q) M_X8_taken FUL 53 [some (zR 0), some (zI x1), some (zI x2), some (zI v1), some (zI 0)] [] d4)))) ∧ (v2 ≠ (-1) → Q (-6) d2)))) ∧ (v1 = (-1) → Q (-1) d1)))) : Fr g (eM g M_X8_taken FUL FUL Q) M_X8_taken FUL 0 [some (zR 0), some (zI x1), some (zI x2), none, none] [] d := by
  refine z_iload_n (i := 1) dX8_taken_0 rfl rfl ?_
  refine z_iload_n (i := 2) dX8_taken_1 rfl rfl ?_
  refine z_callS (k' := M_X8_cellAt) (As := [zI x1, zI x2]) (st := []) dX8_taken_2 rfl wm_X8_107 ok_X8_cellAt okS_X8_cellAt rfl (zroom_self (by decide) (by decide)) (Nat.le_of_ble_eq_true rfl) (Nat.le_refl _) (zEnd_i (Nat.le_refl _) rfl (fun _ _ q => q)) (Ev_mono h (fun v1 d1 h => ?_))
  refine z_istore_n (i := 3) (ls2 := [some (zR 0), some (zI x1), some (zI x2), some (zI v1), none]) dX8_taken_5 rfl (by decide) rfl ?_
  refine z_iload_n (i := 3) dX8_taken_6 rfl rfl ?_
  refine z_iconst dX8_taken_7 ?_
  refine zb_icmp_ne (tgt := 13) dX8_taken_8 (by decide) ⟨h.1, by decide⟩ ⟨fun c => ?_, fun c => ?_⟩
  · replace h := h.2.1 c
    refine z_aloadR_n (i := 0) dX8_taken_13 rfl rfl ?_
    refine z_getR 8 0 (idx := 12) ly0 (by decide) (by decide) rfl (show 0 < 166 by decide) rfl rt_0_0 wf_X8_12 dX8_taken_14 ?_
    refine z_getRN 7 1 (idx := 91) (rl0 riv1) (by decide) (by decide) rfl (rlt0 riv1) rfl (rt0_1 riv1) wf_X8_91 dX8_taken_17 ?_
    refine z_iload_n (i := 3) dX8_taken_20 rfl rfl ?_
    refine z_callVi (k' := M_X1_numberOf) (As := [zI v1]) (st := []) dX8_taken_21 rfl (rl2 riv1) (by decide) rfl (rlt2 riv1) wm_X8_111 ok_X1_numberOf okV_X1_numberOf rfl (zroom_self (by decide) (by decide)) (Nat.le_of_ble_eq_true rfl) (Nat.le_refl _) rfl (Ev_mono h (fun v2 d2 h => ?_))
    refine z_iconst dX8_taken_24 ?_
    refine zb_icmp_eq (tgt := 31) dX8_taken_25 (by decide) ⟨h.1, by decide⟩ ⟨fun c => ?_, fun c => ?_⟩
    · replace h := h.2.1 c
      refine z_aloadR_n (i := 0) dX8_taken_31 rfl rfl ?_
      refine z_getR 8 1 (idx := 16) ly0 (by decide) (by decide) rfl (show 0 < 166 by decide) rfl rt_0_1 wf_X8_16 dX8_taken_32 ?_
      refine z_aloadR_n (i := 0) dX8_taken_35 rfl rfl ?_
      refine z_getR 8 0 (idx := 12) ly0 (by decide) (by decide) rfl (show 0 < 166 by decide) rfl rt_0_0 wf_X8_12 dX8_taken_36 ?_
      refine z_callVv (k' := M_X7_copyFrom) (As := [zR 1]) (st := []) dX8_taken_39 rfl (rl0 riv15) (by decide) rfl (rlt0 riv15) wm_X8_85 ok_X7_copyFrom okV_X7_copyFrom rfl (zroom_self (by decide) (by decide)) (Nat.le_of_ble_eq_true rfl) (Nat.le_refl _) rfl (Ev_mono h (fun _ d3 h => ?_))
      refine z_aloadR_n (i := 0) dX8_taken_42 rfl rfl ?_
      refine z_getR 8 6 (idx := 44) ly0 (by decide) (by decide) rfl (show 0 < 166 by decide) rfl rt_0_6 wf_X8_44 dX8_taken_43 ?_
      refine z_iload_n (i := 3) dX8_taken_46 rfl rfl ?_
      refine z_callVv (k' := M_X6_watch) (As := [zI v1]) (st := []) dX8_taken_47 rfl ly120 (by decide) rfl (show 120 < 166 by decide) wm_X8_239 ok_X6_watch okV_X6_watch rfl (zroom_self (by decide) (by decide)) (Nat.le_of_ble_eq_true rfl) (Nat.le_refl _) rfl (Ev_mono h (fun _ d4 h => ?_))
      refine z_iconst dX8_taken_50 ?_
      refine z_istore (i := 4) (ls2 := [some (zR 0), some (zI x1), some (zI x2), some (zI v1), some (zI 0)]) dX8_taken_51 (by decide) rfl ?_
      exact h
    · replace h := h.2.2 c
      refine z_bipush dX8_taken_28 (by decide +kernel) ?_
      exact zret_i rfl dX8_taken_30 h
  · replace h := h.2.2 c
    refine z_iconst dX8_taken_11 ?_
    exact zret_i rfl dX8_taken_12 h
theorem e_X8_taken {g : zGG} {Q : Int → zMem → Prop} {d : zMem} {x1 : Int} {x2 : Int} (h : Ev g M_X8_cellAt FUL FUL [zI x1, zI x2] d (fun v1 d1 => ((inR v1) ∧ (v1 ≠ (-1) → Ev g M_X1_numberOf FUL FUL [zR (1 + 2), zI v1] d1 (fun v2 d2 => ((inR v2) ∧ (v2 = (-1) → Ev g M_X7_copyFrom FUL FUL [zR 15, zR 1] d2 (fun _ d3 => Ev g M_X6_watch FUL FUL [zR 120, zI v1] d3 (fun _ d4 => (Fr g (eM g M_X8_taken FUL FUL Q) M_X8_taken FUL 53 [some (zR 0), some (zI x1), some (zI x2), some (zI v1), some (zI 0)] [] d4)))) ∧ (v2 ≠ (-1) → Q (-6) d2)))) ∧ (v1 = (-1) → Q (-1) d1)))) : Ev g M_X8_taken FUL FUL [zR 0, zI x1, zI x2] d Q :=
  Ev_of (by decide +kernel) (Nat.le_of_ble_eq_true rfl) (v_X8_taken_0  h)
set_option maxRecDepth 20000 in
theorem v_X8_taken_53 {g : zGG} {Q : Int → zMem → Prop} {d : zMem} {x1 : Int} {x2 : Int} {x3 : Int} {x4 : Int} (h : ((inR x4) ∧ (60 ≤ x4 → Q (-6) d) ∧ (x4 < 60 → Ev g M_X6_passYear FUL FUL [zR 120, zR 15] d (fun _ d1 => ((inR (d1 120 3)) ∧ ((d1 120 3) = 0 → (Fr g (eM g M_X8_taken FUL FUL Q) M_X8_taken FUL 53 [some (zR 0), some (zI x1), some (zI x2), some (zI x3), some (zI (x4 + 1))] [] d1)) ∧ ((d1 120 3) ≠ 0 → Q x4 d1)))))) : Fr g (eM g M_X8_taken FUL FUL Q) M_X8_taken FUL 53 [some (zR 0), some (zI x1), some (zI x2), some (zI x3), some (zI x4)] [] d := by
  refine z_iload (i := 4) dX8_taken_53 rfl ?_
  refine z_bipush dX8_taken_55 (by decide +kernel) ?_
  refine zb_icmp_ge (tgt := 90) dX8_taken_57 (by decide) ⟨h.1, by decide⟩ ⟨fun c => ?_, fun c => ?_⟩
  · replace h := h.2.1 c
    refine z_bipush dX8_taken_90 (by decide +kernel) ?_
    exact zret_i rfl dX8_taken_92 h
  · replace h := h.2.2 c
    refine z_aloadR_n (i := 0) dX8_taken_60 rfl rfl ?_
    refine z_getR 8 6 (idx := 44) ly0 (by decide) (by decide) rfl (show 0 < 166 by decide) rfl rt_0_6 wf_X8_44 dX8_taken_61 ?_
    refine z_aloadR_n (i := 0) dX8_taken_64 rfl rfl ?_
    refine z_getR 8 1 (idx := 16) ly0 (by decide) (by decide) rfl (show 0 < 166 by decide) rfl rt_0_1 wf_X8_16 dX8_taken_65 ?_
    refine z_callVv (k' := M_X6_passYear) (As := [zR 15]) (st := []) dX8_taken_68 rfl ly120 (by decide) rfl (show 120 < 166 by decide) wm_X8_154 ok_X6_passYear okV_X6_passYear rfl (zroom_self (by decide) (by decide)) (Nat.le_of_ble_eq_true rfl) (Nat.le_refl _) rfl (Ev_mono h (fun _ d1 h => ?_))
    refine z_aloadR_n (i := 0) dX8_taken_71 rfl rfl ?_
    refine z_getR 8 6 (idx := 44) ly0 (by decide) (by decide) rfl (show 0 < 166 by decide) rfl rt_0_6 wf_X8_44 dX8_taken_72 ?_
    refine z_getIN' 6 3 (idx := 243) (fv := (d1 120 3)) ly120 (by decide) (by decide) rfl (show 120 < 166 by decide) wf_X8_243 dX8_taken_75 rfl ?_
    refine zb_if_eq (tgt := 84) dX8_taken_78 (by decide) h.1 ⟨fun c => ?_, fun c => ?_⟩
    · replace h := h.2.1 c
      refine z_iinc (i := 4) (ls2 := [some (zR 0), some (zI x1), some (zI x2), some (zI x3), some (zI (x4 + 1))]) dX8_taken_84 (by decide) rfl rfl ?_
      refine z_goto (tgt := 53) dX8_taken_87 (by decide) ?_
      exact h
    · replace h := h.2.2 c
      refine z_iload (i := 4) dX8_taken_81 rfl ?_
      exact zret_i rfl dX8_taken_83 h
set_option maxRecDepth 20000 in
theorem v_X8_put_0 {g : zGG} {Q : Int → zMem → Prop} {d : zMem} {n1 : Int}  (h : Ev g M_X5_sizeOf FUL FUL [zL n1] d (fun v1 d1 => ((inR v1) ∧ (v1 ≠ 0 → Ev g M_X5_hasRoomFor FUL FUL [zR 117, zI v1] d1 (fun v2 d2 => ((inR v2) ∧ (v2 ≠ 0 → Ev g M_X5_append FUL FUL [zR 117, zL n1, zI v1] d2 (fun _ d3 => Ev g M_X5_length FUL FUL [zR 117] d3 (fun v3 d4 => Q v3 d4))) ∧ (v2 = 0 → Q (-4) d2)))) ∧ (v1 = 0 → Q (-2) d1)))) : Fr g (eM g M_X8_put FUL FUL Q) M_X8_put FUL 0 [some (zR 0), some (zL n1), none, none] [] d := by
  refine z_lload_n (i := 1) dX8_put_0 rfl rfl ?_
  refine z_callS (k' := M_X5_sizeOf) (As := [zL n1]) (st := []) dX8_put_1 rfl wm_X8_247 ok_X5_sizeOf okS_X5_sizeOf rfl (zroom_self (by decide) (by decide)) (Nat.le_of_ble_eq_true rfl) (Nat.le_refl _) (zEnd_i (Nat.le_refl _) rfl (fun _ _ q => q)) (Ev_mono h (fun v1 d1 h => ?_))
  refine z_istore_n (i := 3) (ls2 := [some (zR 0), some (zL n1), none, some (zI v1)]) dX8_put_4 rfl (by decide) rfl ?_
  refine z_iload_n (i := 3) dX8_put_5 rfl rfl ?_
  refine zb_if_ne (tgt := 12) dX8_put_6 (by decide) h.1 ⟨fun c => ?_, fun c => ?_⟩
  · replace h := h.2.1 c
    refine z_aloadR_n (i := 0) dX8_put_12 rfl rfl ?_
    refine z_getR 8 5 (idx := 37) ly0 (by decide) (by decide) rfl (show 0 < 166 by decide) rfl rt_0_5 wf_X8_37 dX8_put_13 ?_
    refine z_iload_n (i := 3) dX8_put_16 rfl rfl ?_
    refine z_callVi (k' := M_X5_hasRoomFor) (As := [zI v1]) (st := []) dX8_put_17 rfl ly117 (by decide) rfl (show 117 < 166 by decide) wm_X8_250 ok_X5_hasRoomFor okV_X5_hasRoomFor rfl (zroom_self (by decide) (by decide)) (Nat.le_of_ble_eq_true rfl) (Nat.le_refl _) rfl (Ev_mono h (fun v2 d2 h => ?_))
    refine zb_if_ne (tgt := 26) dX8_put_20 (by decide) h.1 ⟨fun c => ?_, fun c => ?_⟩
    · replace h := h.2.1 c
      refine z_aloadR_n (i := 0) dX8_put_26 rfl rfl ?_
      refine z_getR 8 5 (idx := 37) ly0 (by decide) (by decide) rfl (show 0 < 166 by decide) rfl rt_0_5 wf_X8_37 dX8_put_27 ?_
      refine z_lload_n (i := 1) dX8_put_30 rfl rfl ?_
      refine z_iload_n (i := 3) dX8_put_31 rfl rfl ?_
      refine z_callVv (k' := M_X5_append) (As := [zL n1, zI v1]) (st := []) dX8_put_32 rfl ly117 (by decide) rfl (show 117 < 166 by decide) wm_X8_253 ok_X5_append okV_X5_append rfl (zroom_self (by decide) (by decide)) (Nat.le_of_ble_eq_true rfl) (Nat.le_refl _) rfl (Ev_mono h (fun _ d3 h => ?_))
      refine z_aloadR_n (i := 0) dX8_put_35 rfl rfl ?_
      refine z_getR 8 5 (idx := 37) ly0 (by decide) (by decide) rfl (show 0 < 166 by decide) rfl rt_0_5 wf_X8_37 dX8_put_36 ?_
      refine z_callVi (k' := M_X5_length) (As := []) (st := []) dX8_put_39 rfl ly117 (by decide) rfl (show 117 < 166 by decide) wm_X8_234 ok_X5_length okV_X5_length rfl (zroom_self (by decide) (by decide)) (Nat.le_of_ble_eq_true rfl) (Nat.le_refl _) rfl (Ev_mono h (fun v3 d4 h => ?_))
      exact zret_i rfl dX8_put_42 h
    · replace h := h.2.2 c
      refine z_bipush dX8_put_23 (by decide +kernel) ?_
      exact zret_i rfl dX8_put_25 h
  · replace h := h.2.2 c
    refine z_bipush dX8_put_9 (by decide +kernel) ?_
    exact zret_i rfl dX8_put_11 h
theorem e_X8_put {g : zGG} {Q : Int → zMem → Prop} {d : zMem} {n1 : Int} (h : Ev g M_X5_sizeOf FUL FUL [zL n1] d (fun v1 d1 => ((inR v1) ∧ (v1 ≠ 0 → Ev g M_X5_hasRoomFor FUL FUL [zR 117, zI v1] d1 (fun v2 d2 => ((inR v2) ∧ (v2 ≠ 0 → Ev g M_X5_append FUL FUL [zR 117, zL n1, zI v1] d2 (fun _ d3 => Ev g M_X5_length FUL FUL [zR 117] d3 (fun v3 d4 => Q v3 d4))) ∧ (v2 = 0 → Q (-4) d2)))) ∧ (v1 = 0 → Q (-2) d1)))) : Ev g M_X8_put FUL FUL [zR 0, zL n1] d Q :=
  Ev_of (by decide +kernel) (Nat.le_of_ble_eq_true rfl) (v_X8_put_0  h)
set_option maxRecDepth 20000 in
theorem v_X8_wipe_0 {g : zGG} {Q : Int → zMem → Prop} {d : zMem}   (h : Ev g M_X5_length FUL FUL [zR 117] d (fun v1 d1 => Ev g M_X5_clear FUL FUL [zR 117] d1 (fun _ d2 => Q v1 d2))) : Fr g (eM g M_X8_wipe FUL FUL Q) M_X8_wipe FUL 0 [some (zR 0), none] [] d := by
  refine z_aloadR_n (i := 0) dX8_wipe_0 rfl rfl ?_
  refine z_getR 8 5 (idx := 37) ly0 (by decide) (by decide) rfl (show 0 < 166 by decide) rfl rt_0_5 wf_X8_37 dX8_wipe_1 ?_
  refine z_callVi (k' := M_X5_length) (As := []) (st := []) dX8_wipe_4 rfl ly117 (by decide) rfl (show 117 < 166 by decide) wm_X8_234 ok_X5_length okV_X5_length rfl (zroom_self (by decide) (by decide)) (Nat.le_of_ble_eq_true rfl) (Nat.le_refl _) rfl (Ev_mono h (fun v1 d1 h => ?_))
  refine z_istore_n (i := 1) (ls2 := [some (zR 0), some (zI v1)]) dX8_wipe_7 rfl (by decide) rfl ?_
  refine z_aloadR_n (i := 0) dX8_wipe_8 rfl rfl ?_
  refine z_getR 8 5 (idx := 37) ly0 (by decide) (by decide) rfl (show 0 < 166 by decide) rfl rt_0_5 wf_X8_37 dX8_wipe_9 ?_
  refine z_callVv (k' := M_X5_clear) (As := []) (st := []) dX8_wipe_12 rfl ly117 (by decide) rfl (show 117 < 166 by decide) wm_X8_99 ok_X5_clear okV_X5_clear rfl (zroom_self (by decide) (by decide)) (Nat.le_of_ble_eq_true rfl) (Nat.le_refl _) rfl (Ev_mono h (fun _ d2 h => ?_))
  refine z_iload_n (i := 1) dX8_wipe_15 rfl rfl ?_
  exact zret_i rfl dX8_wipe_16 h
theorem e_X8_wipe {g : zGG} {Q : Int → zMem → Prop} {d : zMem}  (h : Ev g M_X5_length FUL FUL [zR 117] d (fun v1 d1 => Ev g M_X5_clear FUL FUL [zR 117] d1 (fun _ d2 => Q v1 d2))) : Ev g M_X8_wipe FUL FUL [zR 0] d Q :=
  Ev_of (by decide +kernel) (Nat.le_of_ble_eq_true rfl) (v_X8_wipe_0  h)
set_option maxRecDepth 20000 in
theorem v_X8_fault_0 {g : zGG} {Q : Int → zMem → Prop} {d : zMem}   (h : Ev g M_X5_scan FUL FUL [zR 117] d (fun v1 d1 => Q v1 d1)) : Fr g (eM g M_X8_fault FUL FUL Q) M_X8_fault FUL 0 [some (zR 0)] [] d := by
  refine z_aloadR_n (i := 0) dX8_fault_0 rfl rfl ?_
  refine z_getR 8 5 (idx := 37) ly0 (by decide) (by decide) rfl (show 0 < 166 by decide) rfl rt_0_5 wf_X8_37 dX8_fault_1 ?_
  refine z_callVi (k' := M_X5_scan) (As := []) (st := []) dX8_fault_4 rfl ly117 (by decide) rfl (show 117 < 166 by decide) wm_X8_78 ok_X5_scan okV_X5_scan rfl (zroom_self (by decide) (by decide)) (Nat.le_of_ble_eq_true rfl) (Nat.le_refl _) rfl (Ev_mono h (fun v1 d1 h => ?_))
  exact zret_i rfl dX8_fault_7 h
theorem e_X8_fault {g : zGG} {Q : Int → zMem → Prop} {d : zMem}  (h : Ev g M_X5_scan FUL FUL [zR 117] d (fun v1 d1 => Q v1 d1)) : Ev g M_X8_fault FUL FUL [zR 0] d Q :=
  Ev_of (by decide +kernel) (Nat.le_of_ble_eq_true rfl) (v_X8_fault_0  h)
set_option maxRecDepth 20000 in
theorem v_X8_undo_0 {g : zGG} {Q : Int → zMem → Prop} {d : zMem}   (h : Ev g M_X2_takeBack FUL FUL [zR 31, zR 1] d (fun v1 d1 => ((inR v1) ∧ (v1 ≠ 0 → Ev g M_X2_length FUL FUL [zR 31] d1 (fun v2 d2 => Q v2 d2)) ∧ (v1 = 0 → Q (-5) d1)))) : Fr g (eM g M_X8_undo FUL FUL Q) M_X8_undo FUL 0 [some (zR 0)] [] d := by
  refine z_aloadR_n (i := 0) dX8_undo_0 rfl rfl ?_
  refine z_getR 8 4 (idx := 30) ly0 (by decide) (by decide) rfl (show 0 < 166 by decide) rfl rt_0_4 wf_X8_30 dX8_undo_1 ?_
  refine z_aloadR_n (i := 0) dX8_undo_4 rfl rfl ?_
  refine z_getR 8 0 (idx := 12) ly0 (by decide) (by decide) rfl (show 0 < 166 by decide) rfl rt_0_0 wf_X8_12 dX8_undo_5 ?_
  refine z_callVi (k' := M_X2_takeBack) (As := [zR 1]) (st := []) dX8_undo_8 rfl ly31 (by decide) rfl (show 31 < 166 by decide) wm_X8_257 ok_X2_takeBack okV_X2_takeBack rfl (zroom_self (by decide) (by decide)) (Nat.le_of_ble_eq_true rfl) (Nat.le_refl _) rfl (Ev_mono h (fun v1 d1 h => ?_))
  refine zb_if_ne (tgt := 17) dX8_undo_11 (by decide) h.1 ⟨fun c => ?_, fun c => ?_⟩
  · replace h := h.2.1 c
    refine z_aloadR_n (i := 0) dX8_undo_17 rfl rfl ?_
    refine z_getR 8 4 (idx := 30) ly0 (by decide) (by decide) rfl (show 0 < 166 by decide) rfl rt_0_4 wf_X8_30 dX8_undo_18 ?_
    refine z_callVi (k' := M_X2_length) (As := []) (st := []) dX8_undo_21 rfl ly31 (by decide) rfl (show 31 < 166 by decide) wm_X8_235 ok_X2_length okV_X2_length rfl (zroom_self (by decide) (by decide)) (Nat.le_of_ble_eq_true rfl) (Nat.le_refl _) rfl (Ev_mono h (fun v2 d2 h => ?_))
    exact zret_i rfl dX8_undo_24 h
  · replace h := h.2.2 c
    refine z_bipush dX8_undo_14 (by decide +kernel) ?_
    exact zret_i rfl dX8_undo_16 h
theorem e_X8_undo {g : zGG} {Q : Int → zMem → Prop} {d : zMem}  (h : Ev g M_X2_takeBack FUL FUL [zR 31, zR 1] d (fun v1 d1 => ((inR v1) ∧ (v1 ≠ 0 → Ev g M_X2_length FUL FUL [zR 31] d1 (fun v2 d2 => Q v2 d2)) ∧ (v1 = 0 → Q (-5) d1)))) : Ev g M_X8_undo FUL FUL [zR 0] d Q :=
  Ev_of (by decide +kernel) (Nat.le_of_ble_eq_true rfl) (v_X8_undo_0  h)
set_option maxRecDepth 20000 in
theorem v_X8_save_0 {g : zGG} {Q : Int → zMem → Prop} {d : zMem} {x1 : Int}  (h : ((inR x1) ∧ (x1 < 0 → Q (-2) d) ∧ (0 ≤ x1 → ((inR x1) ∧ (2 ≤ x1 → Q (-2) d) ∧ (x1 < 2 → ((inR x1) ∧ (2 ≤ x1 → Q (-2) d) ∧ (x1 < 2 → (0 ≤ x1 ∧ x1 < 2) ∧ (0 ≤ x1 ∧ x1 < 2) ∧ Ev g M_X7_copyFrom FUL FUL [zR (RT 29 (x1).toNat), zR 1] d (fun _ d1 => (0 ≤ x1 ∧ x1 < 2) ∧ ∀ d2, d2 = mu d1 30 x1 1 → Ev g M_X1_length FUL FUL [zR (1 + 2)] d2 (fun v1 d3 => Q v1 d3))))))))) : Fr g (eM g M_X8_save FUL FUL Q) M_X8_save FUL 0 [some (zR 0), some (zI x1)] [] d := by
  refine z_iload_n (i := 1) dX8_save_0 rfl rfl ?_
  refine zb_if_lt (tgt := 31) dX8_save_1 (by decide) h.1 ⟨fun c => ?_, fun c => ?_⟩
  · replace h := h.2.1 c
    refine z_bipush dX8_save_31 (by decide +kernel) ?_
    exact zret_i rfl dX8_save_33 h
  · replace h := h.2.2 c
    refine z_iload_n (i := 1) dX8_save_4 rfl rfl ?_
    refine z_aloadR_n (i := 0) dX8_save_5 rfl rfl ?_
    refine z_getR 8 2 (idx := 19) ly0 (by decide) (by decide) rfl (show 0 < 166 by decide) rfl rt_0_2 wf_X8_19 dX8_save_6 ?_
    refine z_alen' (v := 2) ly29 (by decide) (show 29 < 166 by decide) rfl dX8_save_9 ?_
    refine zb_icmp_ge (tgt := 31) dX8_save_10 (by decide) ⟨h.1, by decide⟩ ⟨fun c => ?_, fun c => ?_⟩
    · replace h := h.2.1 c
      refine z_bipush dX8_save_31 (by decide +kernel) ?_
      exact zret_i rfl dX8_save_33 h
    · replace h := h.2.2 c
      refine z_iload_n (i := 1) dX8_save_13 rfl rfl ?_
      refine z_aloadR_n (i := 0) dX8_save_14 rfl rfl ?_
      refine z_getR 8 3 (idx := 23) ly0 (by decide) (by decide) rfl (show 0 < 166 by decide) rfl rt_0_3 wf_X8_23 dX8_save_15 ?_
      refine z_alen' (v := 2) ly30 (by decide) (show 30 < 166 by decide) rfl dX8_save_18 ?_
      refine zb_icmp_ge (tgt := 31) dX8_save_19 (by decide) ⟨h.1, by decide⟩ ⟨fun c => ?_, fun c => ?_⟩
      · replace h := h.2.1 c
        refine z_bipush dX8_save_31 (by decide +kernel) ?_
        exact zret_i rfl dX8_save_33 h
      · replace h := h.2.2 c
        refine z_aloadR_n (i := 0) dX8_save_22 rfl rfl ?_
        refine z_getR 8 2 (idx := 19) ly0 (by decide) (by decide) rfl (show 0 < 166 by decide) rfl rt_0_2 wf_X8_19 dX8_save_23 ?_
        refine z_iload_n (i := 1) dX8_save_26 rfl rfl ?_
        have hix := h.1
        refine z_aaload ly29 (show 29 < 166 by decide) (by decide) dX8_save_27 h.1 rfl ?_
        replace h := h.2
        refine z_ifnonnull (tgt := 34) dX8_save_28 (by decide) ?_
        refine z_aloadR_n (i := 0) dX8_save_34 rfl rfl ?_
        refine z_getR 8 2 (idx := 19) ly0 (by decide) (by decide) rfl (show 0 < 166 by decide) rfl rt_0_2 wf_X8_19 dX8_save_35 ?_
        refine z_iload_n (i := 1) dX8_save_38 rfl rfl ?_
        have hix := h.1
        refine z_aaload ly29 (show 29 < 166 by decide) (by decide) dX8_save_39 h.1 rfl ?_
        replace h := h.2
        refine z_aloadR_n (i := 0) dX8_save_40 rfl rfl ?_
        refine z_getR 8 0 (idx := 12) ly0 (by decide) (by decide) rfl (show 0 < 166 by decide) rfl rt_0_0 wf_X8_12 dX8_save_41 ?_
        refine z_callVv (k' := M_X7_copyFrom) (As := [zR 1]) (st := []) dX8_save_44 rfl (rl0 (rivS (x1).toNat)) (by decide) rfl (rlt0 (rivS (x1).toNat)) wm_X8_85 ok_X7_copyFrom okV_X7_copyFrom rfl (zroom_self (by decide) (by decide)) (Nat.le_of_ble_eq_true rfl) (Nat.le_refl _) rfl (Ev_mono h (fun _ d1 h => ?_))
        refine z_aloadR_n (i := 0) dX8_save_47 rfl rfl ?_
        refine z_getR 8 3 (idx := 23) ly0 (by decide) (by decide) rfl (show 0 < 166 by decide) rfl rt_0_3 wf_X8_23 dX8_save_48 ?_
        refine z_iload_n (i := 1) dX8_save_51 rfl rfl ?_
        refine z_iconst dX8_save_52 ?_
        refine z_bastore ly30 (show 30 < 166 by decide) (by decide) dX8_save_53 h.1 (by decide) ?_
        replace h := h.2
        generalize hd2 : mu d1 30 x1 1 = d2
        replace hd2 := hd2.symm
        replace h := h d2 hd2
        refine z_aloadR_n (i := 0) dX8_save_54 rfl rfl ?_
        refine z_getR 8 0 (idx := 12) ly0 (by decide) (by decide) rfl (show 0 < 166 by decide) rfl rt_0_0 wf_X8_12 dX8_save_55 ?_
        refine z_getRN 7 1 (idx := 91) (rl0 riv1) (by decide) (by decide) rfl (rlt0 riv1) rfl (rt0_1 riv1) wf_X8_91 dX8_save_58 ?_
        refine z_callVi (k' := M_X1_length) (As := []) (st := []) dX8_save_61 rfl (rl2 riv1) (by decide) rfl (rlt2 riv1) wm_X8_102 ok_X1_length okV_X1_length rfl (zroom_self (by decide) (by decide)) (Nat.le_of_ble_eq_true rfl) (Nat.le_refl _) rfl (Ev_mono h (fun v1 d3 h => ?_))
        exact zret_i rfl dX8_save_64 h
theorem e_X8_save {g : zGG} {Q : Int → zMem → Prop} {d : zMem} {x1 : Int} (h : ((inR x1) ∧ (x1 < 0 → Q (-2) d) ∧ (0 ≤ x1 → ((inR x1) ∧ (2 ≤ x1 → Q (-2) d) ∧ (x1 < 2 → ((inR x1) ∧ (2 ≤ x1 → Q (-2) d) ∧ (x1 < 2 → (0 ≤ x1 ∧ x1 < 2) ∧ (0 ≤ x1 ∧ x1 < 2) ∧ Ev g M_X7_copyFrom FUL FUL [zR (RT 29 (x1).toNat), zR 1] d (fun _ d1 => (0 ≤ x1 ∧ x1 < 2) ∧ ∀ d2, d2 = mu d1 30 x1 1 → Ev g M_X1_length FUL FUL [zR (1 + 2)] d2 (fun v1 d3 => Q v1 d3))))))))) : Ev g M_X8_save FUL FUL [zR 0, zI x1] d Q :=
  Ev_of (by decide +kernel) (Nat.le_of_ble_eq_true rfl) (v_X8_save_0  h)
set_option maxRecDepth 20000 in
theorem v_X8_restore_0 {g : zGG} {Q : Int → zMem → Prop} {d : zMem} {x1 : Int}  (h : ((inR x1) ∧ (x1 < 0 → Q (-2) d) ∧ (0 ≤ x1 → ((inR x1) ∧ (2 ≤ x1 → Q (-2) d) ∧ (x1 < 2 → ((inR x1) ∧ (2 ≤ x1 → Q (-2) d) ∧ (x1 < 2 → (0 ≤ x1 ∧ x1 < 2) ∧ (0 ≤ x1 ∧ x1 < 2) ∧ ((inR (d 30 x1)) ∧ ((d 30 x1) ≠ 0 → Ev g M_X2_remember FUL FUL [zR 31, zR 1] d (fun _ d1 => (0 ≤ x1 ∧ x1 < 2) ∧ Ev g M_X7_copyFrom FUL FUL [zR 1, zR (RT 29 (x1).toNat)] d1 (fun _ d2 => Ev g M_X1_length FUL FUL [zR (1 + 2)] d2 (fun v1 d3 => Q v1 d3)))) ∧ ((d 30 x1) = 0 → Q (-5) d))))))))) : Fr g (eM g M_X8_restore FUL FUL Q) M_X8_restore FUL 0 [some (zR 0), some (zI x1)] [] d := by
  refine z_iload_n (i := 1) dX8_restore_0 rfl rfl ?_
  refine zb_if_lt (tgt := 31) dX8_restore_1 (by decide) h.1 ⟨fun c => ?_, fun c => ?_⟩
  · replace h := h.2.1 c
    refine z_bipush dX8_restore_31 (by decide +kernel) ?_
    exact zret_i rfl dX8_restore_33 h
  · replace h := h.2.2 c
    refine z_iload_n (i := 1) dX8_restore_4 rfl rfl ?_
    refine z_aloadR_n (i := 0) dX8_restore_5 rfl rfl ?_
    refine z_getR 8 2 (idx := 19) ly0 (by decide) (by decide) rfl (show 0 < 166 by decide) rfl rt_0_2 wf_X8_19 dX8_restore_6 ?_
    refine z_alen' (v := 2) ly29 (by decide) (show 29 < 166 by decide) rfl dX8_restore_9 ?_
    refine zb_icmp_ge (tgt := 31) dX8_restore_10 (by decide) ⟨h.1, by decide⟩ ⟨fun c => ?_, fun c => ?_⟩
    · replace h := h.2.1 c
      refine z_bipush dX8_restore_31 (by decide +kernel) ?_
      exact zret_i rfl dX8_restore_33 h
    · replace h := h.2.2 c
      refine z_iload_n (i := 1) dX8_restore_13 rfl rfl ?_
      refine z_aloadR_n (i := 0) dX8_restore_14 rfl rfl ?_
      refine z_getR 8 3 (idx := 23) ly0 (by decide) (by decide) rfl (show 0 < 166 by decide) rfl rt_0_3 wf_X8_23 dX8_restore_15 ?_
      refine z_alen' (v := 2) ly30 (by decide) (show 30 < 166 by decide) rfl dX8_restore_18 ?_
      refine zb_icmp_ge (tgt := 31) dX8_restore_19 (by decide) ⟨h.1, by decide⟩ ⟨fun c => ?_, fun c => ?_⟩
      · replace h := h.2.1 c
        refine z_bipush dX8_restore_31 (by decide +kernel) ?_
        exact zret_i rfl dX8_restore_33 h
      · replace h := h.2.2 c
        refine z_aloadR_n (i := 0) dX8_restore_22 rfl rfl ?_
        refine z_getR 8 2 (idx := 19) ly0 (by decide) (by decide) rfl (show 0 < 166 by decide) rfl rt_0_2 wf_X8_19 dX8_restore_23 ?_
        refine z_iload_n (i := 1) dX8_restore_26 rfl rfl ?_
        have hix := h.1
        refine z_aaload ly29 (show 29 < 166 by decide) (by decide) dX8_restore_27 h.1 rfl ?_
        replace h := h.2
        refine z_ifnonnull (tgt := 34) dX8_restore_28 (by decide) ?_
        refine z_aloadR_n (i := 0) dX8_restore_34 rfl rfl ?_
        refine z_getR 8 3 (idx := 23) ly0 (by decide) (by decide) rfl (show 0 < 166 by decide) rfl rt_0_3 wf_X8_23 dX8_restore_35 ?_
        refine z_iload_n (i := 1) dX8_restore_38 rfl rfl ?_
        refine z_baload' (fv := (d 30 x1)) ly30 (show 30 < 166 by decide) (by decide) dX8_restore_39 h.1 rfl ?_
        replace h := h.2
        refine zb_if_ne (tgt := 46) dX8_restore_40 (by decide) h.1 ⟨fun c => ?_, fun c => ?_⟩
        · replace h := h.2.1 c
          refine z_aloadR_n (i := 0) dX8_restore_46 rfl rfl ?_
          refine z_getR 8 4 (idx := 30) ly0 (by decide) (by decide) rfl (show 0 < 166 by decide) rfl rt_0_4 wf_X8_30 dX8_restore_47 ?_
          refine z_aloadR_n (i := 0) dX8_restore_50 rfl rfl ?_
          refine z_getR 8 0 (idx := 12) ly0 (by decide) (by decide) rfl (show 0 < 166 by decide) rfl rt_0_0 wf_X8_12 dX8_restore_51 ?_
          refine z_callVv (k' := M_X2_remember) (As := [zR 1]) (st := []) dX8_restore_54 rfl ly31 (by decide) rfl (show 31 < 166 by decide) wm_X8_66 ok_X2_remember okV_X2_remember rfl (zroom_self (by decide) (by decide)) (Nat.le_of_ble_eq_true rfl) (Nat.le_refl _) rfl (Ev_mono h (fun _ d1 h => ?_))
          refine z_aloadR_n (i := 0) dX8_restore_57 rfl rfl ?_
          refine z_getR 8 0 (idx := 12) ly0 (by decide) (by decide) rfl (show 0 < 166 by decide) rfl rt_0_0 wf_X8_12 dX8_restore_58 ?_
          refine z_aloadR_n (i := 0) dX8_restore_61 rfl rfl ?_
          refine z_getR 8 2 (idx := 19) ly0 (by decide) (by decide) rfl (show 0 < 166 by decide) rfl rt_0_2 wf_X8_19 dX8_restore_62 ?_
          refine z_iload_n (i := 1) dX8_restore_65 rfl rfl ?_
          have hix := h.1
          refine z_aaload ly29 (show 29 < 166 by decide) (by decide) dX8_restore_66 h.1 rfl ?_
          replace h := h.2
          refine z_callVv (k' := M_X7_copyFrom) (As := [zR (RT 29 (x1).toNat)]) (st := []) dX8_restore_67 rfl (rl0 riv1) (by decide) rfl (rlt0 riv1) wm_X8_85 ok_X7_copyFrom okV_X7_copyFrom rfl (zroom_self (by decide) (by decide)) (Nat.le_of_ble_eq_true rfl) (Nat.le_refl _) rfl (Ev_mono h (fun _ d2 h => ?_))
          refine z_aloadR_n (i := 0) dX8_restore_70 rfl rfl ?_
          refine z_getR 8 0 (idx := 12) ly0 (by decide) (by decide) rfl (show 0 < 166 by decide) rfl rt_0_0 wf_X8_12 dX8_restore_71 ?_
          refine z_getRN 7 1 (idx := 91) (rl0 riv1) (by decide) (by decide) rfl (rlt0 riv1) rfl (rt0_1 riv1) wf_X8_91 dX8_restore_74 ?_
          refine z_callVi (k' := M_X1_length) (As := []) (st := []) dX8_restore_77 rfl (rl2 riv1) (by decide) rfl (rlt2 riv1) wm_X8_102 ok_X1_length okV_X1_length rfl (zroom_self (by decide) (by decide)) (Nat.le_of_ble_eq_true rfl) (Nat.le_refl _) rfl (Ev_mono h (fun v1 d3 h => ?_))
          exact zret_i rfl dX8_restore_80 h
        · replace h := h.2.2 c
          refine z_bipush dX8_restore_43 (by decide +kernel) ?_
          exact zret_i rfl dX8_restore_45 h
theorem e_X8_restore {g : zGG} {Q : Int → zMem → Prop} {d : zMem} {x1 : Int} (h : ((inR x1) ∧ (x1 < 0 → Q (-2) d) ∧ (0 ≤ x1 → ((inR x1) ∧ (2 ≤ x1 → Q (-2) d) ∧ (x1 < 2 → ((inR x1) ∧ (2 ≤ x1 → Q (-2) d) ∧ (x1 < 2 → (0 ≤ x1 ∧ x1 < 2) ∧ (0 ≤ x1 ∧ x1 < 2) ∧ ((inR (d 30 x1)) ∧ ((d 30 x1) ≠ 0 → Ev g M_X2_remember FUL FUL [zR 31, zR 1] d (fun _ d1 => (0 ≤ x1 ∧ x1 < 2) ∧ Ev g M_X7_copyFrom FUL FUL [zR 1, zR (RT 29 (x1).toNat)] d1 (fun _ d2 => Ev g M_X1_length FUL FUL [zR (1 + 2)] d2 (fun v1 d3 => Q v1 d3)))) ∧ ((d 30 x1) = 0 → Q (-5) d))))))))) : Ev g M_X8_restore FUL FUL [zR 0, zI x1] d Q :=
  Ev_of (by decide +kernel) (Nat.le_of_ble_eq_true rfl) (v_X8_restore_0  h)
set_option maxRecDepth 20000 in
theorem v_X8_countBends_0 {g : zGG} {Q : Int → zMem → Prop} {d : zMem} {x1 : Int}  (h : (Fr g (eM g M_X8_countBends FUL FUL Q) M_X8_countBends FUL 7 [some (zR 0), some (zI x1), some (zI 0), some (zI 0), some (zI 0)] [] d)) : Fr g (eM g M_X8_countBends FUL FUL Q) M_X8_countBends FUL 0 [some (zR 0), some (zI x1), none, none, none] [] d := by
  refine z_iconst dX8_countBends_0 ?_
  refine z_istore_n (i := 2) (ls2 := [some (zR 0), some (zI x1), some (zI 0), none, none]) dX8_countBends_1 rfl (by decide) rfl ?_
  refine z_iconst dX8_countBends_2 ?_
  refine z_istore_n (i := 3) (ls2 := [some (zR 0), some (zI x1), some (zI 0), some (zI 0), none]) dX8_countBends_3 rfl (by decide) rfl ?_
  refine z_iconst dX8_countBends_4 ?_
  refine z_istore (i := 4) (ls2 := [some (zR 0), some (zI x1), some (zI 0), some (zI 0), some (zI 0)]) dX8_countBends_5 (by decide) rfl ?_
  exact h
theorem e_X8_countBends {g : zGG} {Q : Int → zMem → Prop} {d : zMem} {x1 : Int} (h : (Fr g (eM g M_X8_countBends FUL FUL Q) M_X8_countBends FUL 7 [some (zR 0), some (zI x1), some (zI 0), some (zI 0), some (zI 0)] [] d)) : Ev g M_X8_countBends FUL FUL [zR 0, zI x1] d Q :=
  Ev_of (by decide +kernel) (Nat.le_of_ble_eq_true rfl) (v_X8_countBends_0  h)
set_option maxRecDepth 20000 in
theorem v_X8_countBends_7 {g : zGG} {Q : Int → zMem → Prop} {d : zMem} {x1 : Int} {x2 : Int} {x3 : Int} {x4 : Int} (h : ((inR x4) ∧ (150 ≤ x4 → Q x2 d) ∧ (x4 < 150 → Ev g M_X0_seekFrom FUL FUL [zR 123, zR (1 + 2), zI x3] d (fun v1 d1 => ((inR v1) ∧ (v1 = 0 → Q x2 d1) ∧ (v1 ≠ 0 → ((inR x1) ∧ (x1 = 0 → (Fr g (eM g M_X8_countBends FUL FUL Q) M_X8_countBends FUL 7 [some (zR 0), some (zI x1), some (zI (x2 + 1)), some (zI ((d1 123 0) + 1)), some (zI (x4 + 1))] [] d1)) ∧ (x1 ≠ 0 → Ev g M_X7_isFirm FUL FUL [zR 1, zR 123] d1 (fun v2 d2 => ((inR v2) ∧ (v2 = 0 → (Fr g (eM g M_X8_countBends FUL FUL Q) M_X8_countBends FUL 7 [some (zR 0), some (zI x1), some (zI x2), some (zI ((d2 123 0) + 1)), some (zI (x4 + 1))] [] d2)) ∧ (v2 ≠ 0 → (Fr g (eM g M_X8_countBends FUL FUL Q) M_X8_countBends FUL 7 [some (zR 0), some (zI x1), some (zI (x2 + 1)), some (zI ((d2 123 0) + 1)), some (zI (x4 + 1))] [] d2)))))))))))) : Fr g (eM g M_X8_countBends FUL FUL Q) M_X8_countBends FUL 7 [some (zR 0), some (zI x1), some (zI x2), some (zI x3), some (zI x4)] [] d := by
  refine z_iload (i := 4) dX8_countBends_7 rfl ?_
  refine z_sipush dX8_countBends_9 (by decide +kernel) ?_
  refine zb_icmp_ge (tgt := 70) dX8_countBends_12 (by decide) ⟨h.1, by decide⟩ ⟨fun c => ?_, fun c => ?_⟩
  · replace h := h.2.1 c
    refine z_iload_n (i := 2) dX8_countBends_70 rfl rfl ?_
    exact zret_i rfl dX8_countBends_71 h
  · replace h := h.2.2 c
    refine z_aloadR_n (i := 0) dX8_countBends_15 rfl rfl ?_
    refine z_getR 8 7 (idx := 51) ly0 (by decide) (by decide) rfl (show 0 < 166 by decide) rfl rt_0_7 wf_X8_51 dX8_countBends_16 ?_
    refine z_aloadR_n (i := 0) dX8_countBends_19 rfl rfl ?_
    refine z_getR 8 0 (idx := 12) ly0 (by decide) (by decide) rfl (show 0 < 166 by decide) rfl rt_0_0 wf_X8_12 dX8_countBends_20 ?_
    refine z_getRN 7 1 (idx := 91) (rl0 riv1) (by decide) (by decide) rfl (rlt0 riv1) rfl (rt0_1 riv1) wf_X8_91 dX8_countBends_23 ?_
    refine z_iload_n (i := 3) dX8_countBends_26 rfl rfl ?_
    refine z_callVi (k' := M_X0_seekFrom) (As := [zR (1 + 2), zI x3]) (st := []) dX8_countBends_27 rfl ly123 (by decide) rfl (show 123 < 166 by decide) wm_X8_261 ok_X0_seekFrom okV_X0_seekFrom rfl (zroom_self (by decide) (by decide)) (Nat.le_of_ble_eq_true rfl) (Nat.le_refl _) rfl (Ev_mono h (fun v1 d1 h => ?_))
    refine zb_if_eq (tgt := 70) dX8_countBends_30 (by decide) h.1 ⟨fun c => ?_, fun c => ?_⟩
    · replace h := h.2.1 c
      refine z_iload_n (i := 2) dX8_countBends_70 rfl rfl ?_
      exact zret_i rfl dX8_countBends_71 h
    · replace h := h.2.2 c
      refine z_iload_n (i := 1) dX8_countBends_33 rfl rfl ?_
      refine zb_if_eq (tgt := 51) dX8_countBends_34 (by decide) h.1 ⟨fun c => ?_, fun c => ?_⟩
      · replace h := h.2.1 c
        refine z_iinc (i := 2) (ls2 := [some (zR 0), some (zI x1), some (zI (x2 + 1)), some (zI x3), some (zI x4)]) dX8_countBends_51 (by decide) rfl rfl ?_
        refine z_aloadR_n (i := 0) dX8_countBends_54 rfl rfl ?_
        refine z_getR 8 7 (idx := 51) ly0 (by decide) (by decide) rfl (show 0 < 166 by decide) rfl rt_0_7 wf_X8_51 dX8_countBends_55 ?_
        refine z_getIN' 0 0 (idx := 183) (fv := (d1 123 0)) ly123 (by decide) (by decide) rfl (show 123 < 166 by decide) wf_X8_183 dX8_countBends_58 rfl ?_
        refine z_iconst dX8_countBends_61 ?_
        refine z_iadd dX8_countBends_62 ?_
        refine z_istore_n (i := 3) (ls2 := [some (zR 0), some (zI x1), some (zI (x2 + 1)), some (zI ((d1 123 0) + 1)), some (zI x4)]) dX8_countBends_63 rfl (by decide) rfl ?_
        refine z_iinc (i := 4) (ls2 := [some (zR 0), some (zI x1), some (zI (x2 + 1)), some (zI ((d1 123 0) + 1)), some (zI (x4 + 1))]) dX8_countBends_64 (by decide) rfl rfl ?_
        refine z_goto (tgt := 7) dX8_countBends_67 (by decide) ?_
        exact h
      · replace h := h.2.2 c
        refine z_aloadR_n (i := 0) dX8_countBends_37 rfl rfl ?_
        refine z_getR 8 0 (idx := 12) ly0 (by decide) (by decide) rfl (show 0 < 166 by decide) rfl rt_0_0 wf_X8_12 dX8_countBends_38 ?_
        refine z_aloadR_n (i := 0) dX8_countBends_41 rfl rfl ?_
        refine z_getR 8 7 (idx := 51) ly0 (by decide) (by decide) rfl (show 0 < 166 by decide) rfl rt_0_7 wf_X8_51 dX8_countBends_42 ?_
        refine z_callVi (k' := M_X7_isFirm) (As := [zR 123]) (st := []) dX8_countBends_45 rfl (rl0 riv1) (by decide) rfl (rlt0 riv1) wm_X8_192 ok_X7_isFirm okV_X7_isFirm rfl (zroom_self (by decide) (by decide)) (Nat.le_of_ble_eq_true rfl) (Nat.le_refl _) rfl (Ev_mono h (fun v2 d2 h => ?_))
        refine zb_if_eq (tgt := 54) dX8_countBends_48 (by decide) h.1 ⟨fun c => ?_, fun c => ?_⟩
        · replace h := h.2.1 c
          refine z_aloadR_n (i := 0) dX8_countBends_54 rfl rfl ?_
          refine z_getR 8 7 (idx := 51) ly0 (by decide) (by decide) rfl (show 0 < 166 by decide) rfl rt_0_7 wf_X8_51 dX8_countBends_55 ?_
          refine z_getIN' 0 0 (idx := 183) (fv := (d2 123 0)) ly123 (by decide) (by decide) rfl (show 123 < 166 by decide) wf_X8_183 dX8_countBends_58 rfl ?_
          refine z_iconst dX8_countBends_61 ?_
          refine z_iadd dX8_countBends_62 ?_
          refine z_istore_n (i := 3) (ls2 := [some (zR 0), some (zI x1), some (zI x2), some (zI ((d2 123 0) + 1)), some (zI x4)]) dX8_countBends_63 rfl (by decide) rfl ?_
          refine z_iinc (i := 4) (ls2 := [some (zR 0), some (zI x1), some (zI x2), some (zI ((d2 123 0) + 1)), some (zI (x4 + 1))]) dX8_countBends_64 (by decide) rfl rfl ?_
          refine z_goto (tgt := 7) dX8_countBends_67 (by decide) ?_
          exact h
        · replace h := h.2.2 c
          refine z_iinc (i := 2) (ls2 := [some (zR 0), some (zI x1), some (zI (x2 + 1)), some (zI x3), some (zI x4)]) dX8_countBends_51 (by decide) rfl rfl ?_
          refine z_aloadR_n (i := 0) dX8_countBends_54 rfl rfl ?_
          refine z_getR 8 7 (idx := 51) ly0 (by decide) (by decide) rfl (show 0 < 166 by decide) rfl rt_0_7 wf_X8_51 dX8_countBends_55 ?_
          refine z_getIN' 0 0 (idx := 183) (fv := (d2 123 0)) ly123 (by decide) (by decide) rfl (show 123 < 166 by decide) wf_X8_183 dX8_countBends_58 rfl ?_
          refine z_iconst dX8_countBends_61 ?_
          refine z_iadd dX8_countBends_62 ?_
          refine z_istore_n (i := 3) (ls2 := [some (zR 0), some (zI x1), some (zI (x2 + 1)), some (zI ((d2 123 0) + 1)), some (zI x4)]) dX8_countBends_63 rfl (by decide) rfl ?_
          refine z_iinc (i := 4) (ls2 := [some (zR 0), some (zI x1), some (zI (x2 + 1)), some (zI ((d2 123 0) + 1)), some (zI (x4 + 1))]) dX8_countBends_64 (by decide) rfl rfl ?_
          refine z_goto (tgt := 7) dX8_countBends_67 (by decide) ?_
          exact h
set_option maxRecDepth 20000 in
theorem v_X8_countNecks_0 {g : zGG} {Q : Int → zMem → Prop} {d : zMem}   (h : (Fr g (eM g M_X8_countNecks FUL FUL Q) M_X8_countNecks FUL 4 [some (zR 0), some (zI 0), some (zI 0), none] [] d)) : Fr g (eM g M_X8_countNecks FUL FUL Q) M_X8_countNecks FUL 0 [some (zR 0), none, none, none] [] d := by
  refine z_iconst dX8_countNecks_0 ?_
  refine z_istore_n (i := 1) (ls2 := [some (zR 0), some (zI 0), none, none]) dX8_countNecks_1 rfl (by decide) rfl ?_
  refine z_iconst dX8_countNecks_2 ?_
  refine z_istore_n (i := 2) (ls2 := [some (zR 0), some (zI 0), some (zI 0), none]) dX8_countNecks_3 rfl (by decide) rfl ?_
  exact h
theorem e_X8_countNecks {g : zGG} {Q : Int → zMem → Prop} {d : zMem}  (h : (Fr g (eM g M_X8_countNecks FUL FUL Q) M_X8_countNecks FUL 4 [some (zR 0), some (zI 0), some (zI 0), none] [] d)) : Ev g M_X8_countNecks FUL FUL [zR 0] d Q :=
  Ev_of (by decide +kernel) (Nat.le_of_ble_eq_true rfl) (v_X8_countNecks_0  h)
set_option maxRecDepth 20000 in
theorem v_X8_countNecks_4 {g : zGG} {Q : Int → zMem → Prop} {d : zMem}  {x1 : Int} {x2 : Int} (h : Ev g M_X1_length FUL FUL [zR (1 + 2)] d (fun v1 d1 => ((inR x2 ∧ inR v1) ∧ (v1 ≤ x2 → Q x1 d1) ∧ (x2 < v1 → (Fr g (eM g M_X8_countNecks FUL FUL Q) M_X8_countNecks FUL 20 [some (zR 0), some (zI x1), some (zI x2), some (zI 0)] [] d1))))) : Fr g (eM g M_X8_countNecks FUL FUL Q) M_X8_countNecks FUL 4 [some (zR 0), some (zI x1), some (zI x2), none] [] d := by
  refine z_iload_n (i := 2) dX8_countNecks_4 rfl rfl ?_
  refine z_aloadR_n (i := 0) dX8_countNecks_5 rfl rfl ?_
  refine z_getR 8 0 (idx := 12) ly0 (by decide) (by decide) rfl (show 0 < 166 by decide) rfl rt_0_0 wf_X8_12 dX8_countNecks_6 ?_
  refine z_getRN 7 1 (idx := 91) (rl0 riv1) (by decide) (by decide) rfl (rlt0 riv1) rfl (rt0_1 riv1) wf_X8_91 dX8_countNecks_9 ?_
  refine z_callVi (k' := M_X1_length) (As := []) (st := [zI x2]) dX8_countNecks_12 rfl (rl2 riv1) (by decide) rfl (rlt2 riv1) wm_X8_102 ok_X1_length okV_X1_length rfl (zroom_self (by decide) (by decide)) (Nat.le_of_ble_eq_true rfl) (Nat.le_refl _) rfl (Ev_mono h (fun v1 d1 h => ?_))
  refine zb_icmp_ge (tgt := 58) dX8_countNecks_15 (by decide) h.1 ⟨fun c => ?_, fun c => ?_⟩
  · replace h := h.2.1 c
    refine z_iload_n (i := 1) dX8_countNecks_58 rfl rfl ?_
    exact zret_i rfl dX8_countNecks_59 h
  · replace h := h.2.2 c
    refine z_iconst dX8_countNecks_18 ?_
    refine z_istore_n (i := 3) (ls2 := [some (zR 0), some (zI x1), some (zI x2), some (zI 0)]) dX8_countNecks_19 rfl (by decide) rfl ?_
    exact h
set_option maxRecDepth 20000 in
theorem v_X8_countNecks_20 {g : zGG} {Q : Int → zMem → Prop} {d : zMem}  {x1 : Int} {x2 : Int} {x3 : Int} (h : ((inR x3) ∧ (4 ≤ x3 → (Fr g (eM g M_X8_countNecks FUL FUL Q) M_X8_countNecks FUL 4 [some (zR 0), some (zI x1), some (zI (x2 + 1)), none] [] d)) ∧ (x3 < 4 → Ev g M_X1_numberBeside FUL FUL [zR (1 + 2), zI x2, zI x3] d (fun v1 d1 => ((inR v1 ∧ inR (x2 + 3)) ∧ (v1 < (x2 + 3) → (Fr g (eM g M_X8_countNecks FUL FUL Q) M_X8_countNecks FUL 20 [some (zR 0), some (zI x1), some (zI x2), some (zI (x3 + 1))] [] d1)) ∧ ((x2 + 3) ≤ v1 → (Fr g (eM g M_X8_countNecks FUL FUL Q) M_X8_countNecks FUL 20 [some (zR 0), some (zI (x1 + 1)), some (zI x2), some (zI (x3 + 1))] [] d1))))))) : Fr g (eM g M_X8_countNecks FUL FUL Q) M_X8_countNecks FUL 20 [some (zR 0), some (zI x1), some (zI x2), some (zI x3)] [] d := by
  refine z_iload_n (i := 3) dX8_countNecks_20 rfl rfl ?_
  refine z_iconst dX8_countNecks_21 ?_
  refine zb_icmp_ge (tgt := 52) dX8_countNecks_22 (by decide) ⟨h.1, by decide⟩ ⟨fun c => ?_, fun c => ?_⟩
  · replace h := h.2.1 c
    refine z_iinc (i := 2) (ls2 := [some (zR 0), some (zI x1), some (zI (x2 + 1)), some (zI x3)]) dX8_countNecks_52 (by decide) rfl rfl ?_
    refine z_goto (tgt := 4) dX8_countNecks_55 (by decide) ?_
    exact Fr_weak (ls2 := [some (zR 0), some (zI x1), some (zI (x2 + 1)), none]) (by exact ⟨Or.inr rfl, Or.inr rfl, Or.inr rfl, Or.inl rfl, trivial⟩) h
  · replace h := h.2.2 c
    refine z_aloadR_n (i := 0) dX8_countNecks_25 rfl rfl ?_
    refine z_getR 8 0 (idx := 12) ly0 (by decide) (by decide) rfl (show 0 < 166 by decide) rfl rt_0_0 wf_X8_12 dX8_countNecks_26 ?_
    refine z_getRN 7 1 (idx := 91) (rl0 riv1) (by decide) (by decide) rfl (rlt0 riv1) rfl (rt0_1 riv1) wf_X8_91 dX8_countNecks_29 ?_
    refine z_iload_n (i := 2) dX8_countNecks_32 rfl rfl ?_
    refine z_iload_n (i := 3) dX8_countNecks_33 rfl rfl ?_
    refine z_callVi (k' := M_X1_numberBeside) (As := [zI x2, zI x3]) (st := []) dX8_countNecks_34 rfl (rl2 riv1) (by decide) rfl (rlt2 riv1) wm_X8_264 ok_X1_numberBeside okV_X1_numberBeside rfl (zroom_self (by decide) (by decide)) (Nat.le_of_ble_eq_true rfl) (Nat.le_refl _) rfl (Ev_mono h (fun v1 d1 h => ?_))
    refine z_iload_n (i := 2) dX8_countNecks_37 rfl rfl ?_
    refine z_iconst dX8_countNecks_38 ?_
    refine z_iadd dX8_countNecks_39 ?_
    refine zb_icmp_lt (tgt := 46) dX8_countNecks_40 (by decide) h.1 ⟨fun c => ?_, fun c => ?_⟩
    · replace h := h.2.1 c
      refine z_iinc (i := 3) (ls2 := [some (zR 0), some (zI x1), some (zI x2), some (zI (x3 + 1))]) dX8_countNecks_46 (by decide) rfl rfl ?_
      refine z_goto (tgt := 20) dX8_countNecks_49 (by decide) ?_
      exact h
    · replace h := h.2.2 c
      refine z_iinc (i := 1) (ls2 := [some (zR 0), some (zI (x1 + 1)), some (zI x2), some (zI x3)]) dX8_countNecks_43 (by decide) rfl rfl ?_
      refine z_iinc (i := 3) (ls2 := [some (zR 0), some (zI (x1 + 1)), some (zI x2), some (zI (x3 + 1))]) dX8_countNecks_46 (by decide) rfl rfl ?_
      refine z_goto (tgt := 20) dX8_countNecks_49 (by decide) ?_
      exact h
