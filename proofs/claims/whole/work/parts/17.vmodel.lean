set_option maxRecDepth 20000 in
theorem v_X9_begin_0 {g : zGG} {φ : zPhi} {Q : Int → zMem → Prop} {d : zMem} (h0 : 154 < φ.1) (hw0 : φ.2 153 0 = true)  (h : (Fr g (eM g M_X9_begin φ φ Q) M_X9_begin φ 2 [some (zR 153), some (zI 4)] [] d)) : Fr g (eM g M_X9_begin φ φ Q) M_X9_begin φ 0 [some (zR 153), none] [] d := by
  refine z_iconst dX9_begin_0 ?_
  refine z_istore_n (i := 1) (ls2 := [some (zR 153), some (zI 4)]) dX9_begin_1 rfl (by decide) rfl ?_
  exact h
theorem e_X9_begin {g : zGG} {φ : zPhi} {Q : Int → zMem → Prop} {d : zMem} (h0 : 154 < φ.1) (hw0 : φ.2 153 0 = true) (h : (Fr g (eM g M_X9_begin φ φ Q) M_X9_begin φ 2 [some (zR 153), some (zI 4)] [] d)) : Ev g M_X9_begin φ φ [zR 153] d Q :=
  Ev_of (by decide +kernel) (Nat.le_of_ble_eq_true rfl) (v_X9_begin_0 h0 hw0 h)
set_option maxRecDepth 20000 in
theorem v_X9_begin_2 {g : zGG} {φ : zPhi} {Q : Int → zMem → Prop} {d : zMem} (h0 : 154 < φ.1) (hw0 : φ.2 153 0 = true) {x1 : Int} (h : ((inR x1) ∧ (1407 ≤ x1 → (Fr g (eM g M_X9_begin φ φ Q) M_X9_begin φ 24 [some (zR 153), some (zI 0)] [] d)) ∧ (x1 < 1407 → (0 ≤ x1 ∧ x1 < 1407) ∧ ∀ d1, d1 = mu d 154 x1 0 → (Fr g (eM g M_X9_begin φ φ Q) M_X9_begin φ 2 [some (zR 153), some (zI (x1 + 1))] [] d1)))) : Fr g (eM g M_X9_begin φ φ Q) M_X9_begin φ 2 [some (zR 153), some (zI x1)] [] d := by
  refine z_iload_n (i := 1) dX9_begin_2 rfl rfl ?_
  refine z_sipush dX9_begin_3 (by decide +kernel) ?_
  refine zb_icmp_ge (tgt := 22) dX9_begin_6 (by decide) ⟨h.1, by decide⟩ ⟨fun c => ?_, fun c => ?_⟩
  · replace h := h.2.1 c
    refine z_iconst dX9_begin_22 ?_
    refine z_istore_n (i := 1) (ls2 := [some (zR 153), some (zI 0)]) dX9_begin_23 rfl (by decide) rfl ?_
    exact h
  · replace h := h.2.2 c
    refine z_aloadR_n (i := 0) dX9_begin_9 rfl rfl ?_
    refine z_getR 9 0 (idx := 7) ly153 (by decide) (by decide) rfl (by omega) hw0 rt_153_0 wf_X9_7 dX9_begin_10 ?_
    refine z_iload_n (i := 1) dX9_begin_13 rfl rfl ?_
    refine z_iconst dX9_begin_14 ?_
    refine z_iastore ly154 (by omega) (by decide) dX9_begin_15 h.1 ?_
    replace h := h.2
    generalize hd1 : mu d 154 x1 0 = d1
    replace hd1 := hd1.symm
    replace h := h d1 hd1
    refine z_iinc (i := 1) (ls2 := [some (zR 153), some (zI (x1 + 1))]) dX9_begin_16 (by decide) rfl rfl ?_
    refine z_goto (tgt := 2) dX9_begin_19 (by decide) ?_
    exact h
set_option maxRecDepth 20000 in
theorem v_X9_begin_24 {g : zGG} {φ : zPhi} {Q : Int → zMem → Prop} {d : zMem} (h0 : 154 < φ.1) (hw0 : φ.2 153 0 = true) {x1 : Int} (h : ((inR x1) ∧ (240 ≤ x1 → Q 0 d) ∧ (x1 < 240 → (0 ≤ (1115 + x1) ∧ (1115 + x1) < 1407) ∧ ∀ d1, d1 = mu d 154 (1115 + x1) (-6) → (Fr g (eM g M_X9_begin φ φ Q) M_X9_begin φ 24 [some (zR 153), some (zI (x1 + 1))] [] d1)))) : Fr g (eM g M_X9_begin φ φ Q) M_X9_begin φ 24 [some (zR 153), some (zI x1)] [] d := by
  refine z_iload_n (i := 1) dX9_begin_24 rfl rfl ?_
  refine z_sipush dX9_begin_25 (by decide +kernel) ?_
  refine zb_icmp_ge (tgt := 49) dX9_begin_28 (by decide) ⟨h.1, by decide⟩ ⟨fun c => ?_, fun c => ?_⟩
  · replace h := h.2.1 c
    exact zret_v rfl dX9_begin_49 h
  · replace h := h.2.2 c
    refine z_aloadR_n (i := 0) dX9_begin_31 rfl rfl ?_
    refine z_getR 9 0 (idx := 7) ly153 (by decide) (by decide) rfl (by omega) hw0 rt_153_0 wf_X9_7 dX9_begin_32 ?_
    refine z_sipush dX9_begin_35 (by decide +kernel) ?_
    refine z_iload_n (i := 1) dX9_begin_38 rfl rfl ?_
    refine z_iadd dX9_begin_39 ?_
    refine z_bipush dX9_begin_40 (by decide +kernel) ?_
    refine z_iastore ly154 (by omega) (by decide) dX9_begin_42 h.1 ?_
    replace h := h.2
    generalize hd1 : mu d 154 (1115 + x1) (-6) = d1
    replace hd1 := hd1.symm
    replace h := h d1 hd1
    refine z_iinc (i := 1) (ls2 := [some (zR 153), some (zI (x1 + 1))]) dX9_begin_43 (by decide) rfl rfl ?_
    refine z_goto (tgt := 24) dX9_begin_46 (by decide) ?_
    exact h
set_option maxRecDepth 20000 in
theorem v_X9_in_0 {g : zGG} {Q : Int → zMem → Prop} {d : zMem} {x0 : Int} {x1 : Int} {x2 : Int}  (h : ((inR x0 ∧ inR x1) ∧ (x0 < x1 → Q 0 d) ∧ (x1 ≤ x0 → ((inR x0 ∧ inR x2) ∧ (x2 < x0 → Q 0 d) ∧ (x0 ≤ x2 → Q 1 d))))) : Fr g (eM g M_X9_in FUL FUL Q) M_X9_in FUL 0 [some (zI x0), some (zI x1), some (zI x2)] [] d := by
  refine z_iload_n (i := 0) dX9_in_0 rfl rfl ?_
  refine z_iload_n (i := 1) dX9_in_1 rfl rfl ?_
  refine zb_icmp_lt (tgt := 14) dX9_in_2 (by decide) h.1 ⟨fun c => ?_, fun c => ?_⟩
  · replace h := h.2.1 c
    refine z_iconst dX9_in_14 ?_
    exact zret_z rfl dX9_in_15 (by decide) h
  · replace h := h.2.2 c
    refine z_iload_n (i := 0) dX9_in_5 rfl rfl ?_
    refine z_iload_n (i := 2) dX9_in_6 rfl rfl ?_
    refine zb_icmp_gt (tgt := 14) dX9_in_7 (by decide) h.1 ⟨fun c => ?_, fun c => ?_⟩
    · replace h := h.2.1 c
      refine z_iconst dX9_in_14 ?_
      exact zret_z rfl dX9_in_15 (by decide) h
    · replace h := h.2.2 c
      refine z_iconst dX9_in_10 ?_
      refine z_goto (tgt := 15) dX9_in_11 (by decide) ?_
      exact zret_z rfl dX9_in_15 (by decide) h
theorem e_X9_in {g : zGG} {Q : Int → zMem → Prop} {d : zMem} {x0 : Int} {x1 : Int} {x2 : Int} (h : ((inR x0 ∧ inR x1) ∧ (x0 < x1 → Q 0 d) ∧ (x1 ≤ x0 → ((inR x0 ∧ inR x2) ∧ (x2 < x0 → Q 0 d) ∧ (x0 ≤ x2 → Q 1 d))))) : Ev g M_X9_in FUL FUL [zI x0, zI x1, zI x2] d Q :=
  Ev_of (by decide +kernel) (Nat.le_of_ble_eq_true rfl) (v_X9_in_0  h)
set_option maxRecDepth 20000 in
theorem v_X9_isCell_0 {g : zGG} {Q : Int → zMem → Prop} {d : zMem} {x0 : Int} {x1 : Int}  (h : Ev g M_X9_in FUL FUL [zI x0, zI 0, zI 19] d (fun v1 d1 => ((inR v1) ∧ (v1 = 0 → Q 0 d1) ∧ (v1 ≠ 0 → Ev g M_X9_in FUL FUL [zI x1, zI 0, zI 11] d1 (fun v2 d2 => ((inR v2) ∧ (v2 = 0 → Q 0 d2) ∧ (v2 ≠ 0 → Q 1 d2))))))) : Fr g (eM g M_X9_isCell FUL FUL Q) M_X9_isCell FUL 0 [some (zI x0), some (zI x1)] [] d := by
  refine z_iload_n (i := 0) dX9_isCell_0 rfl rfl ?_
  refine z_iconst dX9_isCell_1 ?_
  refine z_bipush dX9_isCell_2 (by decide +kernel) ?_
  refine z_callS (k' := M_X9_in) (As := [zI x0, zI 0, zI 19]) (st := []) dX9_isCell_4 rfl wm_X9_50 ok_X9_in okS_X9_in rfl (zroom_self (by decide) (by decide)) (Nat.le_of_ble_eq_true rfl) (Nat.le_refl _) (zEnd_i (Nat.le_refl _) rfl (fun _ _ q => q)) (Ev_mono h (fun v1 d1 h => ?_))
  refine zb_if_eq (tgt := 24) dX9_isCell_7 (by decide) h.1 ⟨fun c => ?_, fun c => ?_⟩
  · replace h := h.2.1 c
    refine z_iconst dX9_isCell_24 ?_
    exact zret_z rfl dX9_isCell_25 (by decide) h
  · replace h := h.2.2 c
    refine z_iload_n (i := 1) dX9_isCell_10 rfl rfl ?_
    refine z_iconst dX9_isCell_11 ?_
    refine z_bipush dX9_isCell_12 (by decide +kernel) ?_
    refine z_callS (k' := M_X9_in) (As := [zI x1, zI 0, zI 11]) (st := []) dX9_isCell_14 rfl wm_X9_50 ok_X9_in okS_X9_in rfl (zroom_self (by decide) (by decide)) (Nat.le_of_ble_eq_true rfl) (Nat.le_refl _) (zEnd_i (Nat.le_refl _) rfl (fun _ _ q => q)) (Ev_mono h (fun v2 d2 h => ?_))
    refine zb_if_eq (tgt := 24) dX9_isCell_17 (by decide) h.1 ⟨fun c => ?_, fun c => ?_⟩
    · replace h := h.2.1 c
      refine z_iconst dX9_isCell_24 ?_
      exact zret_z rfl dX9_isCell_25 (by decide) h
    · replace h := h.2.2 c
      refine z_iconst dX9_isCell_20 ?_
      refine z_goto (tgt := 25) dX9_isCell_21 (by decide) ?_
      exact zret_z rfl dX9_isCell_25 (by decide) h
theorem e_X9_isCell {g : zGG} {Q : Int → zMem → Prop} {d : zMem} {x0 : Int} {x1 : Int} (h : Ev g M_X9_in FUL FUL [zI x0, zI 0, zI 19] d (fun v1 d1 => ((inR v1) ∧ (v1 = 0 → Q 0 d1) ∧ (v1 ≠ 0 → Ev g M_X9_in FUL FUL [zI x1, zI 0, zI 11] d1 (fun v2 d2 => ((inR v2) ∧ (v2 = 0 → Q 0 d2) ∧ (v2 ≠ 0 → Q 1 d2))))))) : Ev g M_X9_isCell FUL FUL [zI x0, zI x1] d Q :=
  Ev_of (by decide +kernel) (Nat.le_of_ble_eq_true rfl) (v_X9_isCell_0  h)
set_option maxRecDepth 20000 in
theorem v_X9_know_0 {g : zGG} {Q : Int → zMem → Prop} {d : zMem}   (h : ((inR (d 153 3)) ∧ ((d 153 3) ≠ 6 → (Fr g (eM g M_X9_know FUL FUL Q) M_X9_know FUL 52 [some (zR 153), some (zI 0)] [] d)) ∧ ((d 153 3) = 6 → (Fr g (eM g M_X9_know FUL FUL Q) M_X9_know FUL 11 [some (zR 153), some (zI 0)] [] d)))) : Fr g (eM g M_X9_know FUL FUL Q) M_X9_know FUL 0 [some (zR 153), none] [] d := by
  refine z_aloadR_n (i := 0) dX9_know_0 rfl rfl ?_
  refine z_getI' 9 3 (idx := 54) (fv := (d 153 3)) ly153 (by decide) (by decide) rfl (show 153 < 166 by decide) wf_X9_54 dX9_know_1 rfl ?_
  refine z_bipush dX9_know_4 (by decide +kernel) ?_
  refine zb_icmp_ne (tgt := 50) dX9_know_6 (by decide) ⟨h.1, by decide⟩ ⟨fun c => ?_, fun c => ?_⟩
  · replace h := h.2.1 c
    refine z_iconst dX9_know_50 ?_
    refine z_istore_n (i := 1) (ls2 := [some (zR 153), some (zI 0)]) dX9_know_51 rfl (by decide) rfl ?_
    exact h
  · replace h := h.2.2 c
    refine z_iconst dX9_know_9 ?_
    refine z_istore_n (i := 1) (ls2 := [some (zR 153), some (zI 0)]) dX9_know_10 rfl (by decide) rfl ?_
    exact h
theorem e_X9_know {g : zGG} {Q : Int → zMem → Prop} {d : zMem}  (h : ((inR (d 153 3)) ∧ ((d 153 3) ≠ 6 → (Fr g (eM g M_X9_know FUL FUL Q) M_X9_know FUL 52 [some (zR 153), some (zI 0)] [] d)) ∧ ((d 153 3) = 6 → (Fr g (eM g M_X9_know FUL FUL Q) M_X9_know FUL 11 [some (zR 153), some (zI 0)] [] d)))) : Ev g M_X9_know FUL FUL [zR 153] d Q :=
  Ev_of (by decide +kernel) (Nat.le_of_ble_eq_true rfl) (v_X9_know_0  h)
set_option maxRecDepth 20000 in
theorem v_X9_know_11 {g : zGG} {Q : Int → zMem → Prop} {d : zMem}  {x1 : Int} (h : ((inR x1) ∧ (7035 ≤ x1 → ∀ d1, d1 = mu d 153 3 ((d 153 3) - 1) → (Fr g (eM g M_X9_know FUL FUL Q) M_X9_know FUL 52 [some (zR 153), some (zI 0)] [] d1)) ∧ (x1 < 7035 → (0 ≤ (1407 + x1) ∧ (1407 + x1) < 8442) ∧ (0 ≤ x1 ∧ x1 < 8442) ∧ ∀ d2, d2 = mu d 156 x1 (d 156 (1407 + x1)) → (Fr g (eM g M_X9_know FUL FUL Q) M_X9_know FUL 11 [some (zR 153), some (zI (x1 + 1))] [] d2)))) : Fr g (eM g M_X9_know FUL FUL Q) M_X9_know FUL 11 [some (zR 153), some (zI x1)] [] d := by
  refine z_iload_n (i := 1) dX9_know_11 rfl rfl ?_
  refine z_sipush dX9_know_12 (by decide +kernel) ?_
  refine zb_icmp_ge (tgt := 40) dX9_know_15 (by decide) ⟨h.1, by decide⟩ ⟨fun c => ?_, fun c => ?_⟩
  · replace h := h.2.1 c
    refine z_aloadR_n (i := 0) dX9_know_40 rfl rfl ?_
    refine z_dup dX9_know_41 (Nat.le_of_ble_eq_true rfl) ?_
    refine z_getI' 9 3 (idx := 54) (fv := (d 153 3)) ly153 (by decide) (by decide) rfl (show 153 < 166 by decide) wf_X9_54 dX9_know_42 rfl ?_
    refine z_iconst dX9_know_45 ?_
    refine z_isub dX9_know_46 ?_
    refine z_putI 9 3 (idx := 54) ly153 (by decide) (by decide) rfl (show 153 < 166 by decide) rfl wf_X9_54 dX9_know_47 (Or.inl rfl) ?_
    generalize hd1 : mu d 153 ((3 : Nat) : Int) ((d 153 3) - 1) = d1
    replace hd1 : d1 = mu d 153 3 ((d 153 3) - 1) := hd1.symm
    replace h := h d1 hd1
    refine z_iconst dX9_know_50 ?_
    refine z_istore_n (i := 1) (ls2 := [some (zR 153), some (zI 0)]) dX9_know_51 rfl (by decide) rfl ?_
    exact h
  · replace h := h.2.2 c
    refine z_aloadR_n (i := 0) dX9_know_18 rfl rfl ?_
    refine z_getR 9 2 (idx := 16) ly153 (by decide) (by decide) rfl (show 153 < 166 by decide) rfl rt_153_2 wf_X9_16 dX9_know_19 ?_
    refine z_iload_n (i := 1) dX9_know_22 rfl rfl ?_
    refine z_aloadR_n (i := 0) dX9_know_23 rfl rfl ?_
    refine z_getR 9 2 (idx := 16) ly153 (by decide) (by decide) rfl (show 153 < 166 by decide) rfl rt_153_2 wf_X9_16 dX9_know_24 ?_
    refine z_sipush dX9_know_27 (by decide +kernel) ?_
    refine z_iload_n (i := 1) dX9_know_30 rfl rfl ?_
    refine z_iadd dX9_know_31 ?_
    refine z_iaload' (fv := (d 156 (1407 + x1))) ly156 (show 156 < 166 by decide) (by decide) dX9_know_32 h.1 rfl ?_
    replace h := h.2
    refine z_iastore ly156 (show 156 < 166 by decide) (by decide) dX9_know_33 h.1 ?_
    replace h := h.2
    generalize hd2 : mu d 156 x1 (d 156 (1407 + x1)) = d2
    replace hd2 := hd2.symm
    replace h := h d2 hd2
    refine z_iinc (i := 1) (ls2 := [some (zR 153), some (zI (x1 + 1))]) dX9_know_34 (by decide) rfl rfl ?_
    refine z_goto (tgt := 11) dX9_know_37 (by decide) ?_
    exact h
set_option maxRecDepth 20000 in
theorem v_X9_know_52 {g : zGG} {Q : Int → zMem → Prop} {d : zMem}  {x1 : Int} (h : ((inR x1) ∧ (1407 ≤ x1 → ∀ d1, d1 = mu d 153 3 ((d 153 3) + 1) → Q 0 d1) ∧ (x1 < 1407 → (0 ≤ x1 ∧ x1 < 1407) ∧ (0 ≤ ((1407 * (d 153 3)) + x1) ∧ ((1407 * (d 153 3)) + x1) < 8442) ∧ ∀ d2, d2 = mu d 156 ((1407 * (d 153 3)) + x1) (d 154 x1) → (Fr g (eM g M_X9_know FUL FUL Q) M_X9_know FUL 52 [some (zR 153), some (zI (x1 + 1))] [] d2)))) : Fr g (eM g M_X9_know FUL FUL Q) M_X9_know FUL 52 [some (zR 153), some (zI x1)] [] d := by
  refine z_iload_n (i := 1) dX9_know_52 rfl rfl ?_
  refine z_sipush dX9_know_53 (by decide +kernel) ?_
  refine zb_icmp_ge (tgt := 86) dX9_know_56 (by decide) ⟨h.1, by decide⟩ ⟨fun c => ?_, fun c => ?_⟩
  · replace h := h.2.1 c
    refine z_aloadR_n (i := 0) dX9_know_86 rfl rfl ?_
    refine z_dup dX9_know_87 (Nat.le_of_ble_eq_true rfl) ?_
    refine z_getI' 9 3 (idx := 54) (fv := (d 153 3)) ly153 (by decide) (by decide) rfl (show 153 < 166 by decide) wf_X9_54 dX9_know_88 rfl ?_
    refine z_iconst dX9_know_91 ?_
    refine z_iadd dX9_know_92 ?_
    refine z_putI 9 3 (idx := 54) ly153 (by decide) (by decide) rfl (show 153 < 166 by decide) rfl wf_X9_54 dX9_know_93 (Or.inl rfl) ?_
    generalize hd1 : mu d 153 ((3 : Nat) : Int) ((d 153 3) + 1) = d1
    replace hd1 : d1 = mu d 153 3 ((d 153 3) + 1) := hd1.symm
    replace h := h d1 hd1
    exact zret_v rfl dX9_know_96 h
  · replace h := h.2.2 c
    refine z_aloadR_n (i := 0) dX9_know_59 rfl rfl ?_
    refine z_getR 9 2 (idx := 16) ly153 (by decide) (by decide) rfl (show 153 < 166 by decide) rfl rt_153_2 wf_X9_16 dX9_know_60 ?_
    refine z_sipush dX9_know_63 (by decide +kernel) ?_
    refine z_aloadR_n (i := 0) dX9_know_66 rfl rfl ?_
    refine z_getI' 9 3 (idx := 54) (fv := (d 153 3)) ly153 (by decide) (by decide) rfl (show 153 < 166 by decide) wf_X9_54 dX9_know_67 rfl ?_
    refine z_imul dX9_know_70 ?_
    refine z_iload_n (i := 1) dX9_know_71 rfl rfl ?_
    refine z_iadd dX9_know_72 ?_
    refine z_aloadR_n (i := 0) dX9_know_73 rfl rfl ?_
    refine z_getR 9 0 (idx := 7) ly153 (by decide) (by decide) rfl (show 153 < 166 by decide) rfl rt_153_0 wf_X9_7 dX9_know_74 ?_
    refine z_iload_n (i := 1) dX9_know_77 rfl rfl ?_
    refine z_iaload' (fv := (d 154 x1)) ly154 (show 154 < 166 by decide) (by decide) dX9_know_78 h.1 rfl ?_
    replace h := h.2
    refine z_iastore ly156 (show 156 < 166 by decide) (by decide) dX9_know_79 h.1 ?_
    replace h := h.2
    generalize hd2 : mu d 156 ((1407 * (d 153 3)) + x1) (d 154 x1) = d2
    replace hd2 := hd2.symm
    replace h := h d2 hd2
    refine z_iinc (i := 1) (ls2 := [some (zR 153), some (zI (x1 + 1))]) dX9_know_80 (by decide) rfl rfl ?_
    refine z_goto (tgt := 52) dX9_know_83 (by decide) ?_
    exact h
set_option maxRecDepth 20000 in
theorem v_X9_putAside_0 {g : zGG} {Q : Int → zMem → Prop} {d : zMem}   (h : (Fr g (eM g M_X9_putAside FUL FUL Q) M_X9_putAside FUL 2 [some (zR 153), some (zI 0)] [] d)) : Fr g (eM g M_X9_putAside FUL FUL Q) M_X9_putAside FUL 0 [some (zR 153), none] [] d := by
  refine z_iconst dX9_putAside_0 ?_
  refine z_istore_n (i := 1) (ls2 := [some (zR 153), some (zI 0)]) dX9_putAside_1 rfl (by decide) rfl ?_
  exact h
theorem e_X9_putAside {g : zGG} {Q : Int → zMem → Prop} {d : zMem}  (h : (Fr g (eM g M_X9_putAside FUL FUL Q) M_X9_putAside FUL 2 [some (zR 153), some (zI 0)] [] d)) : Ev g M_X9_putAside FUL FUL [zR 153] d Q :=
  Ev_of (by decide +kernel) (Nat.le_of_ble_eq_true rfl) (v_X9_putAside_0  h)
set_option maxRecDepth 20000 in
theorem v_X9_putAside_2 {g : zGG} {Q : Int → zMem → Prop} {d : zMem}  {x1 : Int} (h : ((inR x1) ∧ (1407 ≤ x1 → Q 0 d) ∧ (x1 < 1407 → (0 ≤ x1 ∧ x1 < 1407) ∧ (0 ≤ x1 ∧ x1 < 1407) ∧ ∀ d1, d1 = mu d 155 x1 (d 154 x1) → (Fr g (eM g M_X9_putAside FUL FUL Q) M_X9_putAside FUL 2 [some (zR 153), some (zI (x1 + 1))] [] d1)))) : Fr g (eM g M_X9_putAside FUL FUL Q) M_X9_putAside FUL 2 [some (zR 153), some (zI x1)] [] d := by
  refine z_iload_n (i := 1) dX9_putAside_2 rfl rfl ?_
  refine z_sipush dX9_putAside_3 (by decide +kernel) ?_
  refine zb_icmp_ge (tgt := 27) dX9_putAside_6 (by decide) ⟨h.1, by decide⟩ ⟨fun c => ?_, fun c => ?_⟩
  · replace h := h.2.1 c
    exact zret_v rfl dX9_putAside_27 h
  · replace h := h.2.2 c
    refine z_aloadR_n (i := 0) dX9_putAside_9 rfl rfl ?_
    refine z_getR 9 1 (idx := 13) ly153 (by decide) (by decide) rfl (show 153 < 166 by decide) rfl rt_153_1 wf_X9_13 dX9_putAside_10 ?_
    refine z_iload_n (i := 1) dX9_putAside_13 rfl rfl ?_
    refine z_aloadR_n (i := 0) dX9_putAside_14 rfl rfl ?_
    refine z_getR 9 0 (idx := 7) ly153 (by decide) (by decide) rfl (show 153 < 166 by decide) rfl rt_153_0 wf_X9_7 dX9_putAside_15 ?_
    refine z_iload_n (i := 1) dX9_putAside_18 rfl rfl ?_
    refine z_iaload' (fv := (d 154 x1)) ly154 (show 154 < 166 by decide) (by decide) dX9_putAside_19 h.1 rfl ?_
    replace h := h.2
    refine z_iastore ly155 (show 155 < 166 by decide) (by decide) dX9_putAside_20 h.1 ?_
    replace h := h.2
    generalize hd1 : mu d 155 x1 (d 154 x1) = d1
    replace hd1 := hd1.symm
    replace h := h d1 hd1
    refine z_iinc (i := 1) (ls2 := [some (zR 153), some (zI (x1 + 1))]) dX9_putAside_21 (by decide) rfl rfl ?_
    refine z_goto (tgt := 2) dX9_putAside_24 (by decide) ?_
    exact h
set_option maxRecDepth 20000 in
theorem v_X9_putBack_0 {g : zGG} {Q : Int → zMem → Prop} {d : zMem}   (h : (Fr g (eM g M_X9_putBack FUL FUL Q) M_X9_putBack FUL 2 [some (zR 153), some (zI 0)] [] d)) : Fr g (eM g M_X9_putBack FUL FUL Q) M_X9_putBack FUL 0 [some (zR 153), none] [] d := by
  refine z_iconst dX9_putBack_0 ?_
  refine z_istore_n (i := 1) (ls2 := [some (zR 153), some (zI 0)]) dX9_putBack_1 rfl (by decide) rfl ?_
  exact h
theorem e_X9_putBack {g : zGG} {Q : Int → zMem → Prop} {d : zMem}  (h : (Fr g (eM g M_X9_putBack FUL FUL Q) M_X9_putBack FUL 2 [some (zR 153), some (zI 0)] [] d)) : Ev g M_X9_putBack FUL FUL [zR 153] d Q :=
  Ev_of (by decide +kernel) (Nat.le_of_ble_eq_true rfl) (v_X9_putBack_0  h)
set_option maxRecDepth 20000 in
theorem v_X9_putBack_2 {g : zGG} {Q : Int → zMem → Prop} {d : zMem}  {x1 : Int} (h : ((inR x1) ∧ (1407 ≤ x1 → Q 0 d) ∧ (x1 < 1407 → (0 ≤ x1 ∧ x1 < 1407) ∧ (0 ≤ x1 ∧ x1 < 1407) ∧ ∀ d1, d1 = mu d 154 x1 (d 155 x1) → (Fr g (eM g M_X9_putBack FUL FUL Q) M_X9_putBack FUL 2 [some (zR 153), some (zI (x1 + 1))] [] d1)))) : Fr g (eM g M_X9_putBack FUL FUL Q) M_X9_putBack FUL 2 [some (zR 153), some (zI x1)] [] d := by
  refine z_iload_n (i := 1) dX9_putBack_2 rfl rfl ?_
  refine z_sipush dX9_putBack_3 (by decide +kernel) ?_
  refine zb_icmp_ge (tgt := 27) dX9_putBack_6 (by decide) ⟨h.1, by decide⟩ ⟨fun c => ?_, fun c => ?_⟩
  · replace h := h.2.1 c
    exact zret_v rfl dX9_putBack_27 h
  · replace h := h.2.2 c
    refine z_aloadR_n (i := 0) dX9_putBack_9 rfl rfl ?_
    refine z_getR 9 0 (idx := 7) ly153 (by decide) (by decide) rfl (show 153 < 166 by decide) rfl rt_153_0 wf_X9_7 dX9_putBack_10 ?_
    refine z_iload_n (i := 1) dX9_putBack_13 rfl rfl ?_
    refine z_aloadR_n (i := 0) dX9_putBack_14 rfl rfl ?_
    refine z_getR 9 1 (idx := 13) ly153 (by decide) (by decide) rfl (show 153 < 166 by decide) rfl rt_153_1 wf_X9_13 dX9_putBack_15 ?_
    refine z_iload_n (i := 1) dX9_putBack_18 rfl rfl ?_
    refine z_iaload' (fv := (d 155 x1)) ly155 (show 155 < 166 by decide) (by decide) dX9_putBack_19 h.1 rfl ?_
    replace h := h.2
    refine z_iastore ly154 (show 154 < 166 by decide) (by decide) dX9_putBack_20 h.1 ?_
    replace h := h.2
    generalize hd1 : mu d 154 x1 (d 155 x1) = d1
    replace hd1 := hd1.symm
    replace h := h d1 hd1
    refine z_iinc (i := 1) (ls2 := [some (zR 153), some (zI (x1 + 1))]) dX9_putBack_21 (by decide) rfl rfl ?_
    refine z_goto (tgt := 2) dX9_putBack_24 (by decide) ?_
    exact h
set_option maxRecDepth 20000 in
theorem v_X9_stepped_0 {g : zGG} {Q : Int → zMem → Prop} {d : zMem} {x0 : Int} {x1 : Int}  (h : (0 ≤ x0 ∧ inR x0) ∧ ((inR x1) ∧ (x1 ≠ 0 → ((inR x1) ∧ (x1 ≠ 2 → (0 ≤ x0 ∧ inR x0) ∧ ((inR x1) ∧ (x1 ≠ 1 → ((inR x1) ∧ (x1 ≠ 3 → Ev g M_X9_isCell FUL FUL [zI ((x0 % 20) + 0), zI ((x0 / 20) + 0)] d (fun v1 d1 => ((inR v1) ∧ (v1 = 0 → Q (-6) d1) ∧ (v1 ≠ 0 → Q ((20 * ((x0 / 20) + 0)) + ((x0 % 20) + 0)) d1)))) ∧ (x1 = 3 → Ev g M_X9_isCell FUL FUL [zI ((x0 % 20) + 0), zI ((x0 / 20) + (-1))] d (fun v2 d2 => ((inR v2) ∧ (v2 = 0 → Q (-6) d2) ∧ (v2 ≠ 0 → Q ((20 * ((x0 / 20) + (-1))) + ((x0 % 20) + 0)) d2)))))) ∧ (x1 = 1 → Ev g M_X9_isCell FUL FUL [zI ((x0 % 20) + 0), zI ((x0 / 20) + 1)] d (fun v3 d3 => ((inR v3) ∧ (v3 = 0 → Q (-6) d3) ∧ (v3 ≠ 0 → Q ((20 * ((x0 / 20) + 1)) + ((x0 % 20) + 0)) d3)))))) ∧ (x1 = 2 → (0 ≤ x0 ∧ inR x0) ∧ ((inR x1) ∧ (x1 ≠ 1 → ((inR x1) ∧ (x1 ≠ 3 → Ev g M_X9_isCell FUL FUL [zI ((x0 % 20) + (-1)), zI ((x0 / 20) + 0)] d (fun v4 d4 => ((inR v4) ∧ (v4 = 0 → Q (-6) d4) ∧ (v4 ≠ 0 → Q ((20 * ((x0 / 20) + 0)) + ((x0 % 20) + (-1))) d4)))) ∧ (x1 = 3 → Ev g M_X9_isCell FUL FUL [zI ((x0 % 20) + (-1)), zI ((x0 / 20) + (-1))] d (fun v5 d5 => ((inR v5) ∧ (v5 = 0 → Q (-6) d5) ∧ (v5 ≠ 0 → Q ((20 * ((x0 / 20) + (-1))) + ((x0 % 20) + (-1))) d5)))))) ∧ (x1 = 1 → Ev g M_X9_isCell FUL FUL [zI ((x0 % 20) + (-1)), zI ((x0 / 20) + 1)] d (fun v6 d6 => ((inR v6) ∧ (v6 = 0 → Q (-6) d6) ∧ (v6 ≠ 0 → Q ((20 * ((x0 / 20) + 1)) + ((x0 % 20) + (-1))) d6)))))))) ∧ (x1 = 0 → (0 ≤ x0 ∧ inR x0) ∧ ((inR x1) ∧ (x1 ≠ 1 → ((inR x1) ∧ (x1 ≠ 3 → Ev g M_X9_isCell FUL FUL [zI ((x0 % 20) + 1), zI ((x0 / 20) + 0)] d (fun v7 d7 => ((inR v7) ∧ (v7 = 0 → Q (-6) d7) ∧ (v7 ≠ 0 → Q ((20 * ((x0 / 20) + 0)) + ((x0 % 20) + 1)) d7)))) ∧ (x1 = 3 → Ev g M_X9_isCell FUL FUL [zI ((x0 % 20) + 1), zI ((x0 / 20) + (-1))] d (fun v8 d8 => ((inR v8) ∧ (v8 = 0 → Q (-6) d8) ∧ (v8 ≠ 0 → Q ((20 * ((x0 / 20) + (-1))) + ((x0 % 20) + 1)) d8)))))) ∧ (x1 = 1 → Ev g M_X9_isCell FUL FUL [zI ((x0 % 20) + 1), zI ((x0 / 20) + 1)] d (fun v9 d9 => ((inR v9) ∧ (v9 = 0 → Q (-6) d9) ∧ (v9 ≠ 0 → Q ((20 * ((x0 / 20) + 1)) + ((x0 % 20) + 1)) d9)))))))) : Fr g (eM g M_X9_stepped FUL FUL Q) M_X9_stepped FUL 0 [some (zI x0), some (zI x1), none, none] [] d := by
  refine z_iload_n (i := 0) dX9_stepped_0 rfl rfl ?_
  refine z_bipush dX9_stepped_1 (by decide +kernel) ?_
  refine z_irem dX9_stepped_3 ⟨h.1.1, h.1.2, by decide, by decide⟩ ?_
  replace h := h.2
  refine z_iload_n (i := 1) dX9_stepped_4 rfl rfl ?_
  refine zb_if_ne (tgt := 12) dX9_stepped_5 (by decide) h.1 ⟨fun c => ?_, fun c => ?_⟩
  · replace h := h.2.1 c
    refine z_iload_n (i := 1) dX9_stepped_12 rfl rfl ?_
    refine z_iconst dX9_stepped_13 ?_
    refine zb_icmp_ne (tgt := 21) dX9_stepped_14 (by decide) ⟨h.1, by decide⟩ ⟨fun c => ?_, fun c => ?_⟩
    · replace h := h.2.1 c
      refine z_iconst dX9_stepped_21 ?_
      refine z_iadd dX9_stepped_22 ?_
      refine z_istore_n (i := 2) (ls2 := [some (zI x0), some (zI x1), some (zI ((x0 % 20) + 0)), none]) dX9_stepped_23 rfl (by decide) rfl ?_
      refine z_iload_n (i := 0) dX9_stepped_24 rfl rfl ?_
      refine z_bipush dX9_stepped_25 (by decide +kernel) ?_
      refine z_idiv dX9_stepped_27 ⟨h.1.1, h.1.2, by decide, by decide⟩ ?_
      replace h := h.2
      refine z_iload_n (i := 1) dX9_stepped_28 rfl rfl ?_
      refine z_iconst dX9_stepped_29 ?_
      refine zb_icmp_ne (tgt := 37) dX9_stepped_30 (by decide) ⟨h.1, by decide⟩ ⟨fun c => ?_, fun c => ?_⟩
      · replace h := h.2.1 c
        refine z_iload_n (i := 1) dX9_stepped_37 rfl rfl ?_
        refine z_iconst dX9_stepped_38 ?_
        refine zb_icmp_ne (tgt := 46) dX9_stepped_39 (by decide) ⟨h.1, by decide⟩ ⟨fun c => ?_, fun c => ?_⟩
        · replace h := h.2.1 c
          refine z_iconst dX9_stepped_46 ?_
          refine z_iadd dX9_stepped_47 ?_
          refine z_istore_n (i := 3) (ls2 := [some (zI x0), some (zI x1), some (zI ((x0 % 20) + 0)), some (zI ((x0 / 20) + 0))]) dX9_stepped_48 rfl (by decide) rfl ?_
          refine z_iload_n (i := 2) dX9_stepped_49 rfl rfl ?_
          refine z_iload_n (i := 3) dX9_stepped_50 rfl rfl ?_
          refine z_callS (k' := M_X9_isCell) (As := [zI ((x0 % 20) + 0), zI ((x0 / 20) + 0)]) (st := []) dX9_stepped_51 rfl wm_X9_58 ok_X9_isCell okS_X9_isCell rfl (zroom_self (by decide) (by decide)) (Nat.le_of_ble_eq_true rfl) (Nat.le_refl _) (zEnd_i (Nat.le_refl _) rfl (fun _ _ q => q)) (Ev_mono h (fun v1 d1 h => ?_))
          refine zb_if_eq (tgt := 66) dX9_stepped_54 (by decide) h.1 ⟨fun c => ?_, fun c => ?_⟩
          · replace h := h.2.1 c
            refine z_bipush dX9_stepped_66 (by decide +kernel) ?_
            exact zret_i rfl dX9_stepped_68 h
          · replace h := h.2.2 c
            refine z_bipush dX9_stepped_57 (by decide +kernel) ?_
            refine z_iload_n (i := 3) dX9_stepped_59 rfl rfl ?_
            refine z_imul dX9_stepped_60 ?_
            refine z_iload_n (i := 2) dX9_stepped_61 rfl rfl ?_
            refine z_iadd dX9_stepped_62 ?_
            refine z_goto (tgt := 68) dX9_stepped_63 (by decide) ?_
            exact zret_i rfl dX9_stepped_68 h
        · replace h := h.2.2 c
          refine z_iconst dX9_stepped_42 ?_
          refine z_goto (tgt := 47) dX9_stepped_43 (by decide) ?_
          refine z_iadd dX9_stepped_47 ?_
          refine z_istore_n (i := 3) (ls2 := [some (zI x0), some (zI x1), some (zI ((x0 % 20) + 0)), some (zI ((x0 / 20) + (-1)))]) dX9_stepped_48 rfl (by decide) rfl ?_
          refine z_iload_n (i := 2) dX9_stepped_49 rfl rfl ?_
          refine z_iload_n (i := 3) dX9_stepped_50 rfl rfl ?_
          refine z_callS (k' := M_X9_isCell) (As := [zI ((x0 % 20) + 0), zI ((x0 / 20) + (-1))]) (st := []) dX9_stepped_51 rfl wm_X9_58 ok_X9_isCell okS_X9_isCell rfl (zroom_self (by decide) (by decide)) (Nat.le_of_ble_eq_true rfl) (Nat.le_refl _) (zEnd_i (Nat.le_refl _) rfl (fun _ _ q => q)) (Ev_mono h (fun v2 d2 h => ?_))
          refine zb_if_eq (tgt := 66) dX9_stepped_54 (by decide) h.1 ⟨fun c => ?_, fun c => ?_⟩
          · replace h := h.2.1 c
            refine z_bipush dX9_stepped_66 (by decide +kernel) ?_
            exact zret_i rfl dX9_stepped_68 h
          · replace h := h.2.2 c
            refine z_bipush dX9_stepped_57 (by decide +kernel) ?_
            refine z_iload_n (i := 3) dX9_stepped_59 rfl rfl ?_
            refine z_imul dX9_stepped_60 ?_
            refine z_iload_n (i := 2) dX9_stepped_61 rfl rfl ?_
            refine z_iadd dX9_stepped_62 ?_
            refine z_goto (tgt := 68) dX9_stepped_63 (by decide) ?_
            exact zret_i rfl dX9_stepped_68 h
      · replace h := h.2.2 c
        refine z_iconst dX9_stepped_33 ?_
        refine z_goto (tgt := 47) dX9_stepped_34 (by decide) ?_
        refine z_iadd dX9_stepped_47 ?_
        refine z_istore_n (i := 3) (ls2 := [some (zI x0), some (zI x1), some (zI ((x0 % 20) + 0)), some (zI ((x0 / 20) + 1))]) dX9_stepped_48 rfl (by decide) rfl ?_
        refine z_iload_n (i := 2) dX9_stepped_49 rfl rfl ?_
        refine z_iload_n (i := 3) dX9_stepped_50 rfl rfl ?_
        refine z_callS (k' := M_X9_isCell) (As := [zI ((x0 % 20) + 0), zI ((x0 / 20) + 1)]) (st := []) dX9_stepped_51 rfl wm_X9_58 ok_X9_isCell okS_X9_isCell rfl (zroom_self (by decide) (by decide)) (Nat.le_of_ble_eq_true rfl) (Nat.le_refl _) (zEnd_i (Nat.le_refl _) rfl (fun _ _ q => q)) (Ev_mono h (fun v3 d3 h => ?_))
        refine zb_if_eq (tgt := 66) dX9_stepped_54 (by decide) h.1 ⟨fun c => ?_, fun c => ?_⟩
        · replace h := h.2.1 c
          refine z_bipush dX9_stepped_66 (by decide +kernel) ?_
          exact zret_i rfl dX9_stepped_68 h
        · replace h := h.2.2 c
          refine z_bipush dX9_stepped_57 (by decide +kernel) ?_
          refine z_iload_n (i := 3) dX9_stepped_59 rfl rfl ?_
          refine z_imul dX9_stepped_60 ?_
          refine z_iload_n (i := 2) dX9_stepped_61 rfl rfl ?_
          refine z_iadd dX9_stepped_62 ?_
          refine z_goto (tgt := 68) dX9_stepped_63 (by decide) ?_
          exact zret_i rfl dX9_stepped_68 h
    · replace h := h.2.2 c
      refine z_iconst dX9_stepped_17 ?_
      refine z_goto (tgt := 22) dX9_stepped_18 (by decide) ?_
      refine z_iadd dX9_stepped_22 ?_
      refine z_istore_n (i := 2) (ls2 := [some (zI x0), some (zI x1), some (zI ((x0 % 20) + (-1))), none]) dX9_stepped_23 rfl (by decide) rfl ?_
      refine z_iload_n (i := 0) dX9_stepped_24 rfl rfl ?_
      refine z_bipush dX9_stepped_25 (by decide +kernel) ?_
      refine z_idiv dX9_stepped_27 ⟨h.1.1, h.1.2, by decide, by decide⟩ ?_
      replace h := h.2
      refine z_iload_n (i := 1) dX9_stepped_28 rfl rfl ?_
      refine z_iconst dX9_stepped_29 ?_
      refine zb_icmp_ne (tgt := 37) dX9_stepped_30 (by decide) ⟨h.1, by decide⟩ ⟨fun c => ?_, fun c => ?_⟩
      · replace h := h.2.1 c
        refine z_iload_n (i := 1) dX9_stepped_37 rfl rfl ?_
        refine z_iconst dX9_stepped_38 ?_
        refine zb_icmp_ne (tgt := 46) dX9_stepped_39 (by decide) ⟨h.1, by decide⟩ ⟨fun c => ?_, fun c => ?_⟩
        · replace h := h.2.1 c
          refine z_iconst dX9_stepped_46 ?_
          refine z_iadd dX9_stepped_47 ?_
          refine z_istore_n (i := 3) (ls2 := [some (zI x0), some (zI x1), some (zI ((x0 % 20) + (-1))), some (zI ((x0 / 20) + 0))]) dX9_stepped_48 rfl (by decide) rfl ?_
          refine z_iload_n (i := 2) dX9_stepped_49 rfl rfl ?_
          refine z_iload_n (i := 3) dX9_stepped_50 rfl rfl ?_
          refine z_callS (k' := M_X9_isCell) (As := [zI ((x0 % 20) + (-1)), zI ((x0 / 20) + 0)]) (st := []) dX9_stepped_51 rfl wm_X9_58 ok_X9_isCell okS_X9_isCell rfl (zroom_self (by decide) (by decide)) (Nat.le_of_ble_eq_true rfl) (Nat.le_refl _) (zEnd_i (Nat.le_refl _) rfl (fun _ _ q => q)) (Ev_mono h (fun v4 d4 h => ?_))
          refine zb_if_eq (tgt := 66) dX9_stepped_54 (by decide) h.1 ⟨fun c => ?_, fun c => ?_⟩
          · replace h := h.2.1 c
            refine z_bipush dX9_stepped_66 (by decide +kernel) ?_
            exact zret_i rfl dX9_stepped_68 h
          · replace h := h.2.2 c
            refine z_bipush dX9_stepped_57 (by decide +kernel) ?_
            refine z_iload_n (i := 3) dX9_stepped_59 rfl rfl ?_
            refine z_imul dX9_stepped_60 ?_
            refine z_iload_n (i := 2) dX9_stepped_61 rfl rfl ?_
            refine z_iadd dX9_stepped_62 ?_
            refine z_goto (tgt := 68) dX9_stepped_63 (by decide) ?_
            exact zret_i rfl dX9_stepped_68 h
        · replace h := h.2.2 c
          refine z_iconst dX9_stepped_42 ?_
          refine z_goto (tgt := 47) dX9_stepped_43 (by decide) ?_
          refine z_iadd dX9_stepped_47 ?_
          refine z_istore_n (i := 3) (ls2 := [some (zI x0), some (zI x1), some (zI ((x0 % 20) + (-1))), some (zI ((x0 / 20) + (-1)))]) dX9_stepped_48 rfl (by decide) rfl ?_
          refine z_iload_n (i := 2) dX9_stepped_49 rfl rfl ?_
          refine z_iload_n (i := 3) dX9_stepped_50 rfl rfl ?_
          refine z_callS (k' := M_X9_isCell) (As := [zI ((x0 % 20) + (-1)), zI ((x0 / 20) + (-1))]) (st := []) dX9_stepped_51 rfl wm_X9_58 ok_X9_isCell okS_X9_isCell rfl (zroom_self (by decide) (by decide)) (Nat.le_of_ble_eq_true rfl) (Nat.le_refl _) (zEnd_i (Nat.le_refl _) rfl (fun _ _ q => q)) (Ev_mono h (fun v5 d5 h => ?_))
          refine zb_if_eq (tgt := 66) dX9_stepped_54 (by decide) h.1 ⟨fun c => ?_, fun c => ?_⟩
          · replace h := h.2.1 c
            refine z_bipush dX9_stepped_66 (by decide +kernel) ?_
            exact zret_i rfl dX9_stepped_68 h
          · replace h := h.2.2 c
            refine z_bipush dX9_stepped_57 (by decide +kernel) ?_
            refine z_iload_n (i := 3) dX9_stepped_59 rfl rfl ?_
            refine z_imul dX9_stepped_60 ?_
            refine z_iload_n (i := 2) dX9_stepped_61 rfl rfl ?_
            refine z_iadd dX9_stepped_62 ?_
            refine z_goto (tgt := 68) dX9_stepped_63 (by decide) ?_
            exact zret_i rfl dX9_stepped_68 h
      · replace h := h.2.2 c
        refine z_iconst dX9_stepped_33 ?_
        refine z_goto (tgt := 47) dX9_stepped_34 (by decide) ?_
        refine z_iadd dX9_stepped_47 ?_
        refine z_istore_n (i := 3) (ls2 := [some (zI x0), some (zI x1), some (zI ((x0 % 20) + (-1))), some (zI ((x0 / 20) + 1))]) dX9_stepped_48 rfl (by decide) rfl ?_
        refine z_iload_n (i := 2) dX9_stepped_49 rfl rfl ?_
        refine z_iload_n (i := 3) dX9_stepped_50 rfl rfl ?_
        refine z_callS (k' := M_X9_isCell) (As := [zI ((x0 % 20) + (-1)), zI ((x0 / 20) + 1)]) (st := []) dX9_stepped_51 rfl wm_X9_58 ok_X9_isCell okS_X9_isCell rfl (zroom_self (by decide) (by decide)) (Nat.le_of_ble_eq_true rfl) (Nat.le_refl _) (zEnd_i (Nat.le_refl _) rfl (fun _ _ q => q)) (Ev_mono h (fun v6 d6 h => ?_))
        refine zb_if_eq (tgt := 66) dX9_stepped_54 (by decide) h.1 ⟨fun c => ?_, fun c => ?_⟩
        · replace h := h.2.1 c
          refine z_bipush dX9_stepped_66 (by decide +kernel) ?_
          exact zret_i rfl dX9_stepped_68 h
        · replace h := h.2.2 c
          refine z_bipush dX9_stepped_57 (by decide +kernel) ?_
          refine z_iload_n (i := 3) dX9_stepped_59 rfl rfl ?_
          refine z_imul dX9_stepped_60 ?_
          refine z_iload_n (i := 2) dX9_stepped_61 rfl rfl ?_
          refine z_iadd dX9_stepped_62 ?_
          refine z_goto (tgt := 68) dX9_stepped_63 (by decide) ?_
          exact zret_i rfl dX9_stepped_68 h
  · replace h := h.2.2 c
    refine z_iconst dX9_stepped_8 ?_
    refine z_goto (tgt := 22) dX9_stepped_9 (by decide) ?_
    refine z_iadd dX9_stepped_22 ?_
    refine z_istore_n (i := 2) (ls2 := [some (zI x0), some (zI x1), some (zI ((x0 % 20) + 1)), none]) dX9_stepped_23 rfl (by decide) rfl ?_
    refine z_iload_n (i := 0) dX9_stepped_24 rfl rfl ?_
    refine z_bipush dX9_stepped_25 (by decide +kernel) ?_
    refine z_idiv dX9_stepped_27 ⟨h.1.1, h.1.2, by decide, by decide⟩ ?_
    replace h := h.2
    refine z_iload_n (i := 1) dX9_stepped_28 rfl rfl ?_
    refine z_iconst dX9_stepped_29 ?_
    refine zb_icmp_ne (tgt := 37) dX9_stepped_30 (by decide) ⟨h.1, by decide⟩ ⟨fun c => ?_, fun c => ?_⟩
    · replace h := h.2.1 c
      refine z_iload_n (i := 1) dX9_stepped_37 rfl rfl ?_
      refine z_iconst dX9_stepped_38 ?_
      refine zb_icmp_ne (tgt := 46) dX9_stepped_39 (by decide) ⟨h.1, by decide⟩ ⟨fun c => ?_, fun c => ?_⟩
      · replace h := h.2.1 c
        refine z_iconst dX9_stepped_46 ?_
        refine z_iadd dX9_stepped_47 ?_
        refine z_istore_n (i := 3) (ls2 := [some (zI x0), some (zI x1), some (zI ((x0 % 20) + 1)), some (zI ((x0 / 20) + 0))]) dX9_stepped_48 rfl (by decide) rfl ?_
        refine z_iload_n (i := 2) dX9_stepped_49 rfl rfl ?_
        refine z_iload_n (i := 3) dX9_stepped_50 rfl rfl ?_
        refine z_callS (k' := M_X9_isCell) (As := [zI ((x0 % 20) + 1), zI ((x0 / 20) + 0)]) (st := []) dX9_stepped_51 rfl wm_X9_58 ok_X9_isCell okS_X9_isCell rfl (zroom_self (by decide) (by decide)) (Nat.le_of_ble_eq_true rfl) (Nat.le_refl _) (zEnd_i (Nat.le_refl _) rfl (fun _ _ q => q)) (Ev_mono h (fun v7 d7 h => ?_))
        refine zb_if_eq (tgt := 66) dX9_stepped_54 (by decide) h.1 ⟨fun c => ?_, fun c => ?_⟩
        · replace h := h.2.1 c
          refine z_bipush dX9_stepped_66 (by decide +kernel) ?_
          exact zret_i rfl dX9_stepped_68 h
        · replace h := h.2.2 c
          refine z_bipush dX9_stepped_57 (by decide +kernel) ?_
          refine z_iload_n (i := 3) dX9_stepped_59 rfl rfl ?_
          refine z_imul dX9_stepped_60 ?_
          refine z_iload_n (i := 2) dX9_stepped_61 rfl rfl ?_
          refine z_iadd dX9_stepped_62 ?_
          refine z_goto (tgt := 68) dX9_stepped_63 (by decide) ?_
          exact zret_i rfl dX9_stepped_68 h
      · replace h := h.2.2 c
        refine z_iconst dX9_stepped_42 ?_
        refine z_goto (tgt := 47) dX9_stepped_43 (by decide) ?_
        refine z_iadd dX9_stepped_47 ?_
        refine z_istore_n (i := 3) (ls2 := [some (zI x0), some (zI x1), some (zI ((x0 % 20) + 1)), some (zI ((x0 / 20) + (-1)))]) dX9_stepped_48 rfl (by decide) rfl ?_
        refine z_iload_n (i := 2) dX9_stepped_49 rfl rfl ?_
        refine z_iload_n (i := 3) dX9_stepped_50 rfl rfl ?_
        refine z_callS (k' := M_X9_isCell) (As := [zI ((x0 % 20) + 1), zI ((x0 / 20) + (-1))]) (st := []) dX9_stepped_51 rfl wm_X9_58 ok_X9_isCell okS_X9_isCell rfl (zroom_self (by decide) (by decide)) (Nat.le_of_ble_eq_true rfl) (Nat.le_refl _) (zEnd_i (Nat.le_refl _) rfl (fun _ _ q => q)) (Ev_mono h (fun v8 d8 h => ?_))
        refine zb_if_eq (tgt := 66) dX9_stepped_54 (by decide) h.1 ⟨fun c => ?_, fun c => ?_⟩
        · replace h := h.2.1 c
          refine z_bipush dX9_stepped_66 (by decide +kernel) ?_
          exact zret_i rfl dX9_stepped_68 h
        · replace h := h.2.2 c
          refine z_bipush dX9_stepped_57 (by decide +kernel) ?_
          refine z_iload_n (i := 3) dX9_stepped_59 rfl rfl ?_
          refine z_imul dX9_stepped_60 ?_
          refine z_iload_n (i := 2) dX9_stepped_61 rfl rfl ?_
          refine z_iadd dX9_stepped_62 ?_
          refine z_goto (tgt := 68) dX9_stepped_63 (by decide) ?_
          exact zret_i rfl dX9_stepped_68 h
    · replace h := h.2.2 c
      refine z_iconst dX9_stepped_33 ?_
      refine z_goto (tgt := 47) dX9_stepped_34 (by decide) ?_
      refine z_iadd dX9_stepped_47 ?_
      refine z_istore_n (i := 3) (ls2 := [some (zI x0), some (zI x1), some (zI ((x0 % 20) + 1)), some (zI ((x0 / 20) + 1))]) dX9_stepped_48 rfl (by decide) rfl ?_
      refine z_iload_n (i := 2) dX9_stepped_49 rfl rfl ?_
      refine z_iload_n (i := 3) dX9_stepped_50 rfl rfl ?_
      refine z_callS (k' := M_X9_isCell) (As := [zI ((x0 % 20) + 1), zI ((x0 / 20) + 1)]) (st := []) dX9_stepped_51 rfl wm_X9_58 ok_X9_isCell okS_X9_isCell rfl (zroom_self (by decide) (by decide)) (Nat.le_of_ble_eq_true rfl) (Nat.le_refl _) (zEnd_i (Nat.le_refl _) rfl (fun _ _ q => q)) (Ev_mono h (fun v9 d9 h => ?_))
      refine zb_if_eq (tgt := 66) dX9_stepped_54 (by decide) h.1 ⟨fun c => ?_, fun c => ?_⟩
      · replace h := h.2.1 c
        refine z_bipush dX9_stepped_66 (by decide +kernel) ?_
        exact zret_i rfl dX9_stepped_68 h
      · replace h := h.2.2 c
        refine z_bipush dX9_stepped_57 (by decide +kernel) ?_
        refine z_iload_n (i := 3) dX9_stepped_59 rfl rfl ?_
        refine z_imul dX9_stepped_60 ?_
        refine z_iload_n (i := 2) dX9_stepped_61 rfl rfl ?_
        refine z_iadd dX9_stepped_62 ?_
        refine z_goto (tgt := 68) dX9_stepped_63 (by decide) ?_
        exact zret_i rfl dX9_stepped_68 h
theorem e_X9_stepped {g : zGG} {Q : Int → zMem → Prop} {d : zMem} {x0 : Int} {x1 : Int} (h : (0 ≤ x0 ∧ inR x0) ∧ ((inR x1) ∧ (x1 ≠ 0 → ((inR x1) ∧ (x1 ≠ 2 → (0 ≤ x0 ∧ inR x0) ∧ ((inR x1) ∧ (x1 ≠ 1 → ((inR x1) ∧ (x1 ≠ 3 → Ev g M_X9_isCell FUL FUL [zI ((x0 % 20) + 0), zI ((x0 / 20) + 0)] d (fun v1 d1 => ((inR v1) ∧ (v1 = 0 → Q (-6) d1) ∧ (v1 ≠ 0 → Q ((20 * ((x0 / 20) + 0)) + ((x0 % 20) + 0)) d1)))) ∧ (x1 = 3 → Ev g M_X9_isCell FUL FUL [zI ((x0 % 20) + 0), zI ((x0 / 20) + (-1))] d (fun v2 d2 => ((inR v2) ∧ (v2 = 0 → Q (-6) d2) ∧ (v2 ≠ 0 → Q ((20 * ((x0 / 20) + (-1))) + ((x0 % 20) + 0)) d2)))))) ∧ (x1 = 1 → Ev g M_X9_isCell FUL FUL [zI ((x0 % 20) + 0), zI ((x0 / 20) + 1)] d (fun v3 d3 => ((inR v3) ∧ (v3 = 0 → Q (-6) d3) ∧ (v3 ≠ 0 → Q ((20 * ((x0 / 20) + 1)) + ((x0 % 20) + 0)) d3)))))) ∧ (x1 = 2 → (0 ≤ x0 ∧ inR x0) ∧ ((inR x1) ∧ (x1 ≠ 1 → ((inR x1) ∧ (x1 ≠ 3 → Ev g M_X9_isCell FUL FUL [zI ((x0 % 20) + (-1)), zI ((x0 / 20) + 0)] d (fun v4 d4 => ((inR v4) ∧ (v4 = 0 → Q (-6) d4) ∧ (v4 ≠ 0 → Q ((20 * ((x0 / 20) + 0)) + ((x0 % 20) + (-1))) d4)))) ∧ (x1 = 3 → Ev g M_X9_isCell FUL FUL [zI ((x0 % 20) + (-1)), zI ((x0 / 20) + (-1))] d (fun v5 d5 => ((inR v5) ∧ (v5 = 0 → Q (-6) d5) ∧ (v5 ≠ 0 → Q ((20 * ((x0 / 20) + (-1))) + ((x0 % 20) + (-1))) d5)))))) ∧ (x1 = 1 → Ev g M_X9_isCell FUL FUL [zI ((x0 % 20) + (-1)), zI ((x0 / 20) + 1)] d (fun v6 d6 => ((inR v6) ∧ (v6 = 0 → Q (-6) d6) ∧ (v6 ≠ 0 → Q ((20 * ((x0 / 20) + 1)) + ((x0 % 20) + (-1))) d6)))))))) ∧ (x1 = 0 → (0 ≤ x0 ∧ inR x0) ∧ ((inR x1) ∧ (x1 ≠ 1 → ((inR x1) ∧ (x1 ≠ 3 → Ev g M_X9_isCell FUL FUL [zI ((x0 % 20) + 1), zI ((x0 / 20) + 0)] d (fun v7 d7 => ((inR v7) ∧ (v7 = 0 → Q (-6) d7) ∧ (v7 ≠ 0 → Q ((20 * ((x0 / 20) + 0)) + ((x0 % 20) + 1)) d7)))) ∧ (x1 = 3 → Ev g M_X9_isCell FUL FUL [zI ((x0 % 20) + 1), zI ((x0 / 20) + (-1))] d (fun v8 d8 => ((inR v8) ∧ (v8 = 0 → Q (-6) d8) ∧ (v8 ≠ 0 → Q ((20 * ((x0 / 20) + (-1))) + ((x0 % 20) + 1)) d8)))))) ∧ (x1 = 1 → Ev g M_X9_isCell FUL FUL [zI ((x0 % 20) + 1), zI ((x0 / 20) + 1)] d (fun v9 d9 => ((inR v9) ∧ (v9 = 0 → Q (-6) d9) ∧ (v9 ≠ 0 → Q ((20 * ((x0 / 20) + 1)) + ((x0 % 20) + 1)) d9)))))))) : Ev g M_X9_stepped FUL FUL [zI x0, zI x1] d Q :=
  Ev_of (by decide +kernel) (Nat.le_of_ble_eq_true rfl) (v_X9_stepped_0  h)
set_option maxRecDepth 20000 in
theorem v_X9_way_0 {g : zGG} {Q : Int → zMem → Prop} {d : zMem} {x1 : Int}  (h : (0 ≤ ((5 + x1) + 1) ∧ ((5 + x1) + 1) < 1407) ∧ (0 ≤ (5 + x1) ∧ (5 + x1) < 1407) ∧ ((inR ((d 154 ((5 + x1) + 1)) - (d 154 (5 + x1)))) ∧ (((d 154 ((5 + x1) + 1)) - (d 154 (5 + x1))) ≠ 1 → ((inR ((d 154 ((5 + x1) + 1)) - (d 154 (5 + x1)))) ∧ (((d 154 ((5 + x1) + 1)) - (d 154 (5 + x1))) ≠ 20 → ((inR ((d 154 ((5 + x1) + 1)) - (d 154 (5 + x1)))) ∧ (((d 154 ((5 + x1) + 1)) - (d 154 (5 + x1))) ≠ (-1) → Q 3 d) ∧ (((d 154 ((5 + x1) + 1)) - (d 154 (5 + x1))) = (-1) → Q 2 d))) ∧ (((d 154 ((5 + x1) + 1)) - (d 154 (5 + x1))) = 20 → Q 1 d))) ∧ (((d 154 ((5 + x1) + 1)) - (d 154 (5 + x1))) = 1 → Q 0 d))) : Fr g (eM g M_X9_way FUL FUL Q) M_X9_way FUL 0 [some (zR 153), some (zI x1), none] [] d := by
  refine z_aloadR_n (i := 0) dX9_way_0 rfl rfl ?_
  refine z_getR 9 0 (idx := 7) ly153 (by decide) (by decide) rfl (show 153 < 166 by decide) rfl rt_153_0 wf_X9_7 dX9_way_1 ?_
  refine z_iconst dX9_way_4 ?_
  refine z_iload_n (i := 1) dX9_way_5 rfl rfl ?_
  refine z_iadd dX9_way_6 ?_
  refine z_iconst dX9_way_7 ?_
  refine z_iadd dX9_way_8 ?_
  refine z_iaload' (fv := (d 154 ((5 + x1) + 1))) ly154 (show 154 < 166 by decide) (by decide) dX9_way_9 h.1 rfl ?_
  replace h := h.2
  refine z_aloadR_n (i := 0) dX9_way_10 rfl rfl ?_
  refine z_getR 9 0 (idx := 7) ly153 (by decide) (by decide) rfl (show 153 < 166 by decide) rfl rt_153_0 wf_X9_7 dX9_way_11 ?_
  refine z_iconst dX9_way_14 ?_
  refine z_iload_n (i := 1) dX9_way_15 rfl rfl ?_
  refine z_iadd dX9_way_16 ?_
  refine z_iaload' (fv := (d 154 (5 + x1))) ly154 (show 154 < 166 by decide) (by decide) dX9_way_17 h.1 rfl ?_
  replace h := h.2
  refine z_isub dX9_way_18 ?_
  refine z_istore_n (i := 2) (ls2 := [some (zR 153), some (zI x1), some (zI ((d 154 ((5 + x1) + 1)) - (d 154 (5 + x1))))]) dX9_way_19 rfl (by decide) rfl ?_
  refine z_iload_n (i := 2) dX9_way_20 rfl rfl ?_
  refine z_iconst dX9_way_21 ?_
  refine zb_icmp_ne (tgt := 29) dX9_way_22 (by decide) ⟨h.1, by decide⟩ ⟨fun c => ?_, fun c => ?_⟩
  · replace h := h.2.1 c
    refine z_iload_n (i := 2) dX9_way_29 rfl rfl ?_
    refine z_bipush dX9_way_30 (by decide +kernel) ?_
    refine zb_icmp_ne (tgt := 39) dX9_way_32 (by decide) ⟨h.1, by decide⟩ ⟨fun c => ?_, fun c => ?_⟩
    · replace h := h.2.1 c
      refine z_iload_n (i := 2) dX9_way_39 rfl rfl ?_
      refine z_iconst dX9_way_40 ?_
      refine zb_icmp_ne (tgt := 48) dX9_way_41 (by decide) ⟨h.1, by decide⟩ ⟨fun c => ?_, fun c => ?_⟩
      · replace h := h.2.1 c
        refine z_iconst dX9_way_48 ?_
        exact zret_i rfl dX9_way_49 h
      · replace h := h.2.2 c
        refine z_iconst dX9_way_44 ?_
        refine z_goto (tgt := 49) dX9_way_45 (by decide) ?_
        exact zret_i rfl dX9_way_49 h
    · replace h := h.2.2 c
      refine z_iconst dX9_way_35 ?_
      refine z_goto (tgt := 49) dX9_way_36 (by decide) ?_
      exact zret_i rfl dX9_way_49 h
  · replace h := h.2.2 c
    refine z_iconst dX9_way_25 ?_
    refine z_goto (tgt := 49) dX9_way_26 (by decide) ?_
    exact zret_i rfl dX9_way_49 h
theorem e_X9_way {g : zGG} {Q : Int → zMem → Prop} {d : zMem} {x1 : Int} (h : (0 ≤ ((5 + x1) + 1) ∧ ((5 + x1) + 1) < 1407) ∧ (0 ≤ (5 + x1) ∧ (5 + x1) < 1407) ∧ ((inR ((d 154 ((5 + x1) + 1)) - (d 154 (5 + x1)))) ∧ (((d 154 ((5 + x1) + 1)) - (d 154 (5 + x1))) ≠ 1 → ((inR ((d 154 ((5 + x1) + 1)) - (d 154 (5 + x1)))) ∧ (((d 154 ((5 + x1) + 1)) - (d 154 (5 + x1))) ≠ 20 → ((inR ((d 154 ((5 + x1) + 1)) - (d 154 (5 + x1)))) ∧ (((d 154 ((5 + x1) + 1)) - (d 154 (5 + x1))) ≠ (-1) → Q 3 d) ∧ (((d 154 ((5 + x1) + 1)) - (d 154 (5 + x1))) = (-1) → Q 2 d))) ∧ (((d 154 ((5 + x1) + 1)) - (d 154 (5 + x1))) = 20 → Q 1 d))) ∧ (((d 154 ((5 + x1) + 1)) - (d 154 (5 + x1))) = 1 → Q 0 d))) : Ev g M_X9_way FUL FUL [zR 153, zI x1] d Q :=
  Ev_of (by decide +kernel) (Nat.le_of_ble_eq_true rfl) (v_X9_way_0  h)
set_option maxRecDepth 20000 in
theorem v_X9_numberOf_0 {g : zGG} {Q : Int → zMem → Prop} {d : zMem} {x1 : Int}  (h : (Fr g (eM g M_X9_numberOf FUL FUL Q) M_X9_numberOf FUL 5 [some (zR 153), some (zI x1), some (zI (-6)), some (zI 0)] [] d)) : Fr g (eM g M_X9_numberOf FUL FUL Q) M_X9_numberOf FUL 0 [some (zR 153), some (zI x1), none, none] [] d := by
  refine z_bipush dX9_numberOf_0 (by decide +kernel) ?_
  refine z_istore_n (i := 2) (ls2 := [some (zR 153), some (zI x1), some (zI (-6)), none]) dX9_numberOf_2 rfl (by decide) rfl ?_
  refine z_iconst dX9_numberOf_3 ?_
  refine z_istore_n (i := 3) (ls2 := [some (zR 153), some (zI x1), some (zI (-6)), some (zI 0)]) dX9_numberOf_4 rfl (by decide) rfl ?_
  exact h
theorem e_X9_numberOf {g : zGG} {Q : Int → zMem → Prop} {d : zMem} {x1 : Int} (h : (Fr g (eM g M_X9_numberOf FUL FUL Q) M_X9_numberOf FUL 5 [some (zR 153), some (zI x1), some (zI (-6)), some (zI 0)] [] d)) : Ev g M_X9_numberOf FUL FUL [zR 153, zI x1] d Q :=
  Ev_of (by decide +kernel) (Nat.le_of_ble_eq_true rfl) (v_X9_numberOf_0  h)
set_option maxRecDepth 20000 in
theorem v_X9_numberOf_5 {g : zGG} {Q : Int → zMem → Prop} {d : zMem} {x1 : Int} {x2 : Int} {x3 : Int} (h : ((inR x3 ∧ inR (d 154 4)) ∧ ((d 154 4) ≤ x3 → Q x2 d) ∧ (x3 < (d 154 4) → (0 ≤ (5 + x3) ∧ (5 + x3) < 1407) ∧ ((inR (d 154 (5 + x3)) ∧ inR x1) ∧ ((d 154 (5 + x3)) ≠ x1 → (Fr g (eM g M_X9_numberOf FUL FUL Q) M_X9_numberOf FUL 5 [some (zR 153), some (zI x1), some (zI x2), some (zI (x3 + 1))] [] d)) ∧ ((d 154 (5 + x3)) = x1 → (Fr g (eM g M_X9_numberOf FUL FUL Q) M_X9_numberOf FUL 5 [some (zR 153), some (zI x1), some (zI x3), some (zI (x3 + 1))] [] d)))))) : Fr g (eM g M_X9_numberOf FUL FUL Q) M_X9_numberOf FUL 5 [some (zR 153), some (zI x1), some (zI x2), some (zI x3)] [] d := by
  refine z_iload_n (i := 3) dX9_numberOf_5 rfl rfl ?_
  refine z_aloadR_n (i := 0) dX9_numberOf_6 rfl rfl ?_
  refine z_getR 9 0 (idx := 7) ly153 (by decide) (by decide) rfl (show 153 < 166 by decide) rfl rt_153_0 wf_X9_7 dX9_numberOf_7 ?_
  refine z_iconst dX9_numberOf_10 ?_
  refine z_iaload' (fv := (d 154 4)) ly154 (show 154 < 166 by decide) (by decide) dX9_numberOf_11 (by decide) rfl ?_
  refine zb_icmp_ge (tgt := 39) dX9_numberOf_12 (by decide) h.1 ⟨fun c => ?_, fun c => ?_⟩
  · replace h := h.2.1 c
    refine z_iload_n (i := 2) dX9_numberOf_39 rfl rfl ?_
    exact zret_i rfl dX9_numberOf_40 h
  · replace h := h.2.2 c
    refine z_aloadR_n (i := 0) dX9_numberOf_15 rfl rfl ?_
    refine z_getR 9 0 (idx := 7) ly153 (by decide) (by decide) rfl (show 153 < 166 by decide) rfl rt_153_0 wf_X9_7 dX9_numberOf_16 ?_
    refine z_iconst dX9_numberOf_19 ?_
    refine z_iload_n (i := 3) dX9_numberOf_20 rfl rfl ?_
    refine z_iadd dX9_numberOf_21 ?_
    refine z_iaload' (fv := (d 154 (5 + x3))) ly154 (show 154 < 166 by decide) (by decide) dX9_numberOf_22 h.1 rfl ?_
    replace h := h.2
    refine z_iload_n (i := 1) dX9_numberOf_23 rfl rfl ?_
    refine zb_icmp_ne (tgt := 31) dX9_numberOf_24 (by decide) h.1 ⟨fun c => ?_, fun c => ?_⟩
    · replace h := h.2.1 c
      refine z_iload_n (i := 2) dX9_numberOf_31 rfl rfl ?_
      refine z_istore_n (i := 2) (ls2 := [some (zR 153), some (zI x1), some (zI x2), some (zI x3)]) dX9_numberOf_32 rfl (by decide) rfl ?_
      refine z_iinc (i := 3) (ls2 := [some (zR 153), some (zI x1), some (zI x2), some (zI (x3 + 1))]) dX9_numberOf_33 (by decide) rfl rfl ?_
      refine z_goto (tgt := 5) dX9_numberOf_36 (by decide) ?_
      exact h
    · replace h := h.2.2 c
      refine z_iload_n (i := 3) dX9_numberOf_27 rfl rfl ?_
      refine z_goto (tgt := 32) dX9_numberOf_28 (by decide) ?_
      refine z_istore_n (i := 2) (ls2 := [some (zR 153), some (zI x1), some (zI x3), some (zI x3)]) dX9_numberOf_32 rfl (by decide) rfl ?_
      refine z_iinc (i := 3) (ls2 := [some (zR 153), some (zI x1), some (zI x3), some (zI (x3 + 1))]) dX9_numberOf_33 (by decide) rfl rfl ?_
      refine z_goto (tgt := 5) dX9_numberOf_36 (by decide) ?_
      exact h
set_option maxRecDepth 20000 in
theorem v_X9_findBends_0 {g : zGG} {Q : Int → zMem → Prop} {d : zMem}   (h : (Fr g (eM g M_X9_findBends FUL FUL Q) M_X9_findBends FUL 2 [some (zR 153), some (zI 0), none] [] d)) : Fr g (eM g M_X9_findBends FUL FUL Q) M_X9_findBends FUL 0 [some (zR 153), none, none] [] d := by
  refine z_iconst dX9_findBends_0 ?_
  refine z_istore_n (i := 1) (ls2 := [some (zR 153), some (zI 0), none]) dX9_findBends_1 rfl (by decide) rfl ?_
  exact h
theorem e_X9_findBends {g : zGG} {Q : Int → zMem → Prop} {d : zMem}  (h : (Fr g (eM g M_X9_findBends FUL FUL Q) M_X9_findBends FUL 2 [some (zR 153), some (zI 0), none] [] d)) : Ev g M_X9_findBends FUL FUL [zR 153] d Q :=
  Ev_of (by decide +kernel) (Nat.le_of_ble_eq_true rfl) (v_X9_findBends_0  h)
set_option maxRecDepth 20000 in
theorem v_X9_findBends_2 {g : zGG} {Q : Int → zMem → Prop} {d : zMem}  {x1 : Int} (h : ((inR x1) ∧ (240 ≤ x1 → (Fr g (eM g M_X9_findBends FUL FUL Q) M_X9_findBends FUL 24 [some (zR 153), some (zI 0), none] [] d)) ∧ (x1 < 240 → (0 ≤ x1 ∧ x1 < 240) ∧ ∀ d1, d1 = mu d 162 x1 0 → (Fr g (eM g M_X9_findBends FUL FUL Q) M_X9_findBends FUL 2 [some (zR 153), some (zI (x1 + 1)), none] [] d1)))) : Fr g (eM g M_X9_findBends FUL FUL Q) M_X9_findBends FUL 2 [some (zR 153), some (zI x1), none] [] d := by
  refine z_iload_n (i := 1) dX9_findBends_2 rfl rfl ?_
  refine z_sipush dX9_findBends_3 (by decide +kernel) ?_
  refine zb_icmp_ge (tgt := 22) dX9_findBends_6 (by decide) ⟨h.1, by decide⟩ ⟨fun c => ?_, fun c => ?_⟩
  · replace h := h.2.1 c
    refine z_iconst dX9_findBends_22 ?_
    refine z_istore_n (i := 1) (ls2 := [some (zR 153), some (zI 0), none]) dX9_findBends_23 rfl (by decide) rfl ?_
    exact h
  · replace h := h.2.2 c
    refine z_aloadR_n (i := 0) dX9_findBends_9 rfl rfl ?_
    refine z_getR 9 10 (idx := 35) ly153 (by decide) (by decide) rfl (show 153 < 166 by decide) rfl rt_153_10 wf_X9_35 dX9_findBends_10 ?_
    refine z_iload_n (i := 1) dX9_findBends_13 rfl rfl ?_
    refine z_iconst dX9_findBends_14 ?_
    refine z_bastore ly162 (show 162 < 166 by decide) (by decide) dX9_findBends_15 h.1 (by decide) ?_
    replace h := h.2
    generalize hd1 : mu d 162 x1 0 = d1
    replace hd1 := hd1.symm
    replace h := h d1 hd1
    refine z_iinc (i := 1) (ls2 := [some (zR 153), some (zI (x1 + 1)), none]) dX9_findBends_16 (by decide) rfl rfl ?_
    refine z_goto (tgt := 2) dX9_findBends_19 (by decide) ?_
    exact h
set_option maxRecDepth 20000 in
theorem v_X9_findBends_24 {g : zGG} {Q : Int → zMem → Prop} {d : zMem}  {x1 : Int} (h : ((inR x1 ∧ inR (d 154 4)) ∧ ((d 154 4) ≤ x1 → ∀ d1, d1 = mu d 153 11 0 → (Fr g (eM g M_X9_findBends FUL FUL Q) M_X9_findBends FUL 63 [some (zR 153), some (zI 0), some (zI 1)] [] d1)) ∧ (x1 < (d 154 4) → (0 ≤ (5 + x1) ∧ (5 + x1) < 1407) ∧ (0 ≤ (d 154 (5 + x1)) ∧ (d 154 (5 + x1)) < 240) ∧ ∀ d2, d2 = mu d 162 (d 154 (5 + x1)) 1 → (Fr g (eM g M_X9_findBends FUL FUL Q) M_X9_findBends FUL 24 [some (zR 153), some (zI (x1 + 1)), none] [] d2)))) : Fr g (eM g M_X9_findBends FUL FUL Q) M_X9_findBends FUL 24 [some (zR 153), some (zI x1), none] [] d := by
  refine z_iload_n (i := 1) dX9_findBends_24 rfl rfl ?_
  refine z_aloadR_n (i := 0) dX9_findBends_25 rfl rfl ?_
  refine z_getR 9 0 (idx := 7) ly153 (by decide) (by decide) rfl (show 153 < 166 by decide) rfl rt_153_0 wf_X9_7 dX9_findBends_26 ?_
  refine z_iconst dX9_findBends_29 ?_
  refine z_iaload' (fv := (d 154 4)) ly154 (show 154 < 166 by decide) (by decide) dX9_findBends_30 (by decide) rfl ?_
  refine zb_icmp_ge (tgt := 54) dX9_findBends_31 (by decide) h.1 ⟨fun c => ?_, fun c => ?_⟩
  · replace h := h.2.1 c
    refine z_aloadR_n (i := 0) dX9_findBends_54 rfl rfl ?_
    refine z_iconst dX9_findBends_55 ?_
    refine z_putI 9 11 (idx := 62) ly153 (by decide) (by decide) rfl (show 153 < 166 by decide) rfl wf_X9_62 dX9_findBends_56 (Or.inl rfl) ?_
    generalize hd1 : mu d 153 ((11 : Nat) : Int) 0 = d1
    replace hd1 : d1 = mu d 153 11 0 := hd1.symm
    replace h := h d1 hd1
    refine z_iconst dX9_findBends_59 ?_
    refine z_istore_n (i := 1) (ls2 := [some (zR 153), some (zI 0), none]) dX9_findBends_60 rfl (by decide) rfl ?_
    refine z_iconst dX9_findBends_61 ?_
    refine z_istore_n (i := 2) (ls2 := [some (zR 153), some (zI 0), some (zI 1)]) dX9_findBends_62 rfl (by decide) rfl ?_
    exact h
  · replace h := h.2.2 c
    refine z_aloadR_n (i := 0) dX9_findBends_34 rfl rfl ?_
    refine z_getR 9 10 (idx := 35) ly153 (by decide) (by decide) rfl (show 153 < 166 by decide) rfl rt_153_10 wf_X9_35 dX9_findBends_35 ?_
    refine z_aloadR_n (i := 0) dX9_findBends_38 rfl rfl ?_
    refine z_getR 9 0 (idx := 7) ly153 (by decide) (by decide) rfl (show 153 < 166 by decide) rfl rt_153_0 wf_X9_7 dX9_findBends_39 ?_
    refine z_iconst dX9_findBends_42 ?_
    refine z_iload_n (i := 1) dX9_findBends_43 rfl rfl ?_
    refine z_iadd dX9_findBends_44 ?_
    refine z_iaload' (fv := (d 154 (5 + x1))) ly154 (show 154 < 166 by decide) (by decide) dX9_findBends_45 h.1 rfl ?_
    replace h := h.2
    refine z_iconst dX9_findBends_46 ?_
    refine z_bastore ly162 (show 162 < 166 by decide) (by decide) dX9_findBends_47 h.1 (by decide) ?_
    replace h := h.2
    generalize hd2 : mu d 162 (d 154 (5 + x1)) 1 = d2
    replace hd2 := hd2.symm
    replace h := h d2 hd2
    refine z_iinc (i := 1) (ls2 := [some (zR 153), some (zI (x1 + 1)), none]) dX9_findBends_48 (by decide) rfl rfl ?_
    refine z_goto (tgt := 24) dX9_findBends_51 (by decide) ?_
    exact h
set_option maxRecDepth 20000 in
theorem v_X9_findBends_63 {g : zGG} {Q : Int → zMem → Prop} {d : zMem}  {x1 : Int} {x2 : Int} (h : ((inR x2 ∧ inR ((d 154 4) - 1)) ∧ (((d 154 4) - 1) ≤ x2 → Q 0 d) ∧ (x2 < ((d 154 4) - 1) → Ev g M_X9_way FUL FUL [zR 153, zI x2] d (fun v1 d1 => Ev g M_X9_way FUL FUL [zR 153, zI (x2 - 1)] d1 (fun v2 d2 => ((inR v1 ∧ inR v2) ∧ (v1 = v2 → (Fr g (eM g M_X9_findBends FUL FUL Q) M_X9_findBends FUL 63 [some (zR 153), some (zI x1), some (zI (x2 + 1))] [] d2)) ∧ (v1 ≠ v2 → ((inR x1) ∧ (x1 ≤ 0 → (Fr g (eM g M_X9_findBends FUL FUL Q) M_X9_findBends FUL 63 [some (zR 153), some (zI x2), some (zI (x2 + 1))] [] d2)) ∧ (0 < x1 → Ev g M_X9_way FUL FUL [zR 153, zI x2] d2 (fun v3 d3 => Ev g M_X9_way FUL FUL [zR 153, zI (x1 - 1)] d3 (fun v4 d4 => (0 ≤ (v4 + 2) ∧ inR (v4 + 2)) ∧ ((inR v3 ∧ inR ((v4 + 2) % 4)) ∧ (v3 ≠ ((v4 + 2) % 4) → (Fr g (eM g M_X9_findBends FUL FUL Q) M_X9_findBends FUL 63 [some (zR 153), some (zI x2), some (zI (x2 + 1))] [] d4)) ∧ (v3 = ((v4 + 2) % 4) → (0 ≤ (d4 153 11) ∧ (d4 153 11) < 150) ∧ ∀ d5, d5 = mu d4 160 (d4 153 11) x1 → (0 ≤ (d4 153 11) ∧ (d4 153 11) < 150) ∧ ∀ d6, d6 = mu d5 161 (d4 153 11) x2 → ∀ d7, d7 = mu d6 153 11 ((d4 153 11) + 1) → (Fr g (eM g M_X9_findBends FUL FUL Q) M_X9_findBends FUL 63 [some (zR 153), some (zI x2), some (zI (x2 + 1))] [] d7)))))))))))))) : Fr g (eM g M_X9_findBends FUL FUL Q) M_X9_findBends FUL 63 [some (zR 153), some (zI x1), some (zI x2)] [] d := by
  refine z_iload_n (i := 2) dX9_findBends_63 rfl rfl ?_
  refine z_aloadR_n (i := 0) dX9_findBends_64 rfl rfl ?_
  refine z_getR 9 0 (idx := 7) ly153 (by decide) (by decide) rfl (show 153 < 166 by decide) rfl rt_153_0 wf_X9_7 dX9_findBends_65 ?_
  refine z_iconst dX9_findBends_68 ?_
  refine z_iaload' (fv := (d 154 4)) ly154 (show 154 < 166 by decide) (by decide) dX9_findBends_69 (by decide) rfl ?_
  refine z_iconst dX9_findBends_70 ?_
  refine z_isub dX9_findBends_71 ?_
  refine zb_icmp_ge (tgt := 151) dX9_findBends_72 (by decide) h.1 ⟨fun c => ?_, fun c => ?_⟩
  · replace h := h.2.1 c
    exact zret_v rfl dX9_findBends_151 h
  · replace h := h.2.2 c
    refine z_aloadR_n (i := 0) dX9_findBends_75 rfl rfl ?_
    refine z_iload_n (i := 2) dX9_findBends_76 rfl rfl ?_
    refine z_callVi (k' := M_X9_way) (As := [zI x2]) (st := []) dX9_findBends_77 rfl ly153 (by decide) rfl (show 153 < 166 by decide) wm_X9_65 ok_X9_way okV_X9_way rfl (zroom_self (by decide) (by decide)) (Nat.le_of_ble_eq_true rfl) (Nat.le_refl _) rfl (Ev_mono h (fun v1 d1 h => ?_))
    refine z_aloadR_n (i := 0) dX9_findBends_80 rfl rfl ?_
    refine z_iload_n (i := 2) dX9_findBends_81 rfl rfl ?_
    refine z_iconst dX9_findBends_82 ?_
    refine z_isub dX9_findBends_83 ?_
    refine z_callVi (k' := M_X9_way) (As := [zI (x2 - 1)]) (st := [zI v1]) dX9_findBends_84 rfl ly153 (by decide) rfl (show 153 < 166 by decide) wm_X9_65 ok_X9_way okV_X9_way rfl (zroom_self (by decide) (by decide)) (Nat.le_of_ble_eq_true rfl) (Nat.le_refl _) rfl (Ev_mono h (fun v2 d2 h => ?_))
    refine zb_icmp_eq (tgt := 145) dX9_findBends_87 (by decide) h.1 ⟨fun c => ?_, fun c => ?_⟩
    · replace h := h.2.1 c
      refine z_iinc (i := 2) (ls2 := [some (zR 153), some (zI x1), some (zI (x2 + 1))]) dX9_findBends_145 (by decide) rfl rfl ?_
      refine z_goto (tgt := 63) dX9_findBends_148 (by decide) ?_
      exact h
    · replace h := h.2.2 c
      refine z_iload_n (i := 1) dX9_findBends_90 rfl rfl ?_
      refine zb_if_le (tgt := 143) dX9_findBends_91 (by decide) h.1 ⟨fun c => ?_, fun c => ?_⟩
      · replace h := h.2.1 c
        refine z_iload_n (i := 2) dX9_findBends_143 rfl rfl ?_
        refine z_istore_n (i := 1) (ls2 := [some (zR 153), some (zI x2), some (zI x2)]) dX9_findBends_144 rfl (by decide) rfl ?_
        refine z_iinc (i := 2) (ls2 := [some (zR 153), some (zI x2), some (zI (x2 + 1))]) dX9_findBends_145 (by decide) rfl rfl ?_
        refine z_goto (tgt := 63) dX9_findBends_148 (by decide) ?_
        exact h
      · replace h := h.2.2 c
        refine z_aloadR_n (i := 0) dX9_findBends_94 rfl rfl ?_
        refine z_iload_n (i := 2) dX9_findBends_95 rfl rfl ?_
        refine z_callVi (k' := M_X9_way) (As := [zI x2]) (st := []) dX9_findBends_96 rfl ly153 (by decide) rfl (show 153 < 166 by decide) wm_X9_65 ok_X9_way okV_X9_way rfl (zroom_self (by decide) (by decide)) (Nat.le_of_ble_eq_true rfl) (Nat.le_refl _) rfl (Ev_mono h (fun v3 d3 h => ?_))
        refine z_aloadR_n (i := 0) dX9_findBends_99 rfl rfl ?_
        refine z_iload_n (i := 1) dX9_findBends_100 rfl rfl ?_
        refine z_iconst dX9_findBends_101 ?_
        refine z_isub dX9_findBends_102 ?_
        refine z_callVi (k' := M_X9_way) (As := [zI (x1 - 1)]) (st := [zI v3]) dX9_findBends_103 rfl ly153 (by decide) rfl (show 153 < 166 by decide) wm_X9_65 ok_X9_way okV_X9_way rfl (zroom_self (by decide) (by decide)) (Nat.le_of_ble_eq_true rfl) (Nat.le_refl _) rfl (Ev_mono h (fun v4 d4 h => ?_))
        refine z_iconst dX9_findBends_106 ?_
        refine z_iadd dX9_findBends_107 ?_
        refine z_iconst dX9_findBends_108 ?_
        refine z_irem dX9_findBends_109 ⟨h.1.1, h.1.2, by decide, by decide⟩ ?_
        replace h := h.2
        refine zb_icmp_ne (tgt := 143) dX9_findBends_110 (by decide) h.1 ⟨fun c => ?_, fun c => ?_⟩
        · replace h := h.2.1 c
          refine z_iload_n (i := 2) dX9_findBends_143 rfl rfl ?_
          refine z_istore_n (i := 1) (ls2 := [some (zR 153), some (zI x2), some (zI x2)]) dX9_findBends_144 rfl (by decide) rfl ?_
          refine z_iinc (i := 2) (ls2 := [some (zR 153), some (zI x2), some (zI (x2 + 1))]) dX9_findBends_145 (by decide) rfl rfl ?_
          refine z_goto (tgt := 63) dX9_findBends_148 (by decide) ?_
          exact h
        · replace h := h.2.2 c
          refine z_aloadR_n (i := 0) dX9_findBends_113 rfl rfl ?_
          refine z_getR 9 8 (idx := 29) ly153 (by decide) (by decide) rfl (show 153 < 166 by decide) rfl rt_153_8 wf_X9_29 dX9_findBends_114 ?_
          refine z_aloadR_n (i := 0) dX9_findBends_117 rfl rfl ?_
          refine z_getI' 9 11 (idx := 62) (fv := (d4 153 11)) ly153 (by decide) (by decide) rfl (show 153 < 166 by decide) wf_X9_62 dX9_findBends_118 rfl ?_
          refine z_iload_n (i := 1) dX9_findBends_121 rfl rfl ?_
          refine z_iastore ly160 (show 160 < 166 by decide) (by decide) dX9_findBends_122 h.1 ?_
          replace h := h.2
          generalize hd5 : mu d4 160 (d4 153 11) x1 = d5
          replace hd5 := hd5.symm
          replace h := h d5 hd5
          refine z_aloadR_n (i := 0) dX9_findBends_123 rfl rfl ?_
          refine z_getR 9 9 (idx := 32) ly153 (by decide) (by decide) rfl (show 153 < 166 by decide) rfl rt_153_9 wf_X9_32 dX9_findBends_124 ?_
          refine z_aloadR_n (i := 0) dX9_findBends_127 rfl rfl ?_
          refine z_getI' 9 11 (idx := 62) (fv := (d4 153 11)) ly153 (by decide) (by decide) rfl (show 153 < 166 by decide) wf_X9_62 dX9_findBends_128 (by show d5 153 11 = _; rw [hd5, mu_na (by omega)]) ?_
          refine z_iload_n (i := 2) dX9_findBends_131 rfl rfl ?_
          refine z_iastore ly161 (show 161 < 166 by decide) (by decide) dX9_findBends_132 h.1 ?_
          replace h := h.2
          generalize hd6 : mu d5 161 (d4 153 11) x2 = d6
          replace hd6 := hd6.symm
          replace h := h d6 hd6
          refine z_aloadR_n (i := 0) dX9_findBends_133 rfl rfl ?_
          refine z_dup dX9_findBends_134 (Nat.le_of_ble_eq_true rfl) ?_
          refine z_getI' 9 11 (idx := 62) (fv := (d4 153 11)) ly153 (by decide) (by decide) rfl (show 153 < 166 by decide) wf_X9_62 dX9_findBends_135 (by show d6 153 11 = _; rw [hd6, mu_na (by omega)]; rw [hd5, mu_na (by omega)]) ?_
          refine z_iconst dX9_findBends_138 ?_
          refine z_iadd dX9_findBends_139 ?_
          refine z_putI 9 11 (idx := 62) ly153 (by decide) (by decide) rfl (show 153 < 166 by decide) rfl wf_X9_62 dX9_findBends_140 (Or.inl rfl) ?_
          generalize hd7 : mu d6 153 ((11 : Nat) : Int) ((d4 153 11) + 1) = d7
          replace hd7 : d7 = mu d6 153 11 ((d4 153 11) + 1) := hd7.symm
          replace h := h d7 hd7
          refine z_iload_n (i := 2) dX9_findBends_143 rfl rfl ?_
          refine z_istore_n (i := 1) (ls2 := [some (zR 153), some (zI x2), some (zI x2)]) dX9_findBends_144 rfl (by decide) rfl ?_
          refine z_iinc (i := 2) (ls2 := [some (zR 153), some (zI x2), some (zI (x2 + 1))]) dX9_findBends_145 (by decide) rfl rfl ?_
          refine z_goto (tgt := 63) dX9_findBends_148 (by decide) ?_
          exact h
set_option maxRecDepth 20000 in
theorem v_X9_wayOf_0 {g : zGG} {Q : Int → zMem → Prop} {d : zMem} {x1 : Int}  (h : (0 ≤ x1 ∧ x1 < 150) ∧ Ev g M_X9_way FUL FUL [zR 153, zI ((d 160 x1) - 1)] d (fun v1 d1 => Q v1 d1)) : Fr g (eM g M_X9_wayOf FUL FUL Q) M_X9_wayOf FUL 0 [some (zR 153), some (zI x1)] [] d := by
  refine z_aloadR_n (i := 0) dX9_wayOf_0 rfl rfl ?_
  refine z_aloadR_n (i := 0) dX9_wayOf_1 rfl rfl ?_
  refine z_getR 9 8 (idx := 29) ly153 (by decide) (by decide) rfl (show 153 < 166 by decide) rfl rt_153_8 wf_X9_29 dX9_wayOf_2 ?_
  refine z_iload_n (i := 1) dX9_wayOf_5 rfl rfl ?_
  refine z_iaload' (fv := (d 160 x1)) ly160 (show 160 < 166 by decide) (by decide) dX9_wayOf_6 h.1 rfl ?_
  replace h := h.2
  refine z_iconst dX9_wayOf_7 ?_
  refine z_isub dX9_wayOf_8 ?_
  refine z_callVi (k' := M_X9_way) (As := [zI ((d 160 x1) - 1)]) (st := []) dX9_wayOf_9 rfl ly153 (by decide) rfl (show 153 < 166 by decide) wm_X9_65 ok_X9_way okV_X9_way rfl (zroom_self (by decide) (by decide)) (Nat.le_of_ble_eq_true rfl) (Nat.le_refl _) rfl (Ev_mono h (fun v1 d1 h => ?_))
  exact zret_i rfl dX9_wayOf_12 h
theorem e_X9_wayOf {g : zGG} {Q : Int → zMem → Prop} {d : zMem} {x1 : Int} (h : (0 ≤ x1 ∧ x1 < 150) ∧ Ev g M_X9_way FUL FUL [zR 153, zI ((d 160 x1) - 1)] d (fun v1 d1 => Q v1 d1)) : Ev g M_X9_wayOf FUL FUL [zR 153, zI x1] d Q :=
  Ev_of (by decide +kernel) (Nat.le_of_ble_eq_true rfl) (v_X9_wayOf_0  h)
set_option maxRecDepth 20000 in
theorem v_X9_bank_0 {g : zGG} {Q : Int → zMem → Prop} {d : zMem} {x1 : Int} {x2 : Int}  (h : (0 ≤ (5 + x2) ∧ (5 + x2) < 1407) ∧ Ev g M_X9_wayOf FUL FUL [zR 153, zI x1] d (fun v1 d1 => Ev g M_X9_stepped FUL FUL [zI (d 154 (5 + x2)), zI v1] d1 (fun v2 d2 => Q v2 d2))) : Fr g (eM g M_X9_bank FUL FUL Q) M_X9_bank FUL 0 [some (zR 153), some (zI x1), some (zI x2)] [] d := by
  refine z_aloadR_n (i := 0) dX9_bank_0 rfl rfl ?_
  refine z_getR 9 0 (idx := 7) ly153 (by decide) (by decide) rfl (show 153 < 166 by decide) rfl rt_153_0 wf_X9_7 dX9_bank_1 ?_
  refine z_iconst dX9_bank_4 ?_
  refine z_iload_n (i := 2) dX9_bank_5 rfl rfl ?_
  refine z_iadd dX9_bank_6 ?_
  refine z_iaload' (fv := (d 154 (5 + x2))) ly154 (show 154 < 166 by decide) (by decide) dX9_bank_7 h.1 rfl ?_
  replace h := h.2
  refine z_aloadR_n (i := 0) dX9_bank_8 rfl rfl ?_
  refine z_iload_n (i := 1) dX9_bank_9 rfl rfl ?_
  refine z_callVi (k' := M_X9_wayOf) (As := [zI x1]) (st := [zI (d 154 (5 + x2))]) dX9_bank_10 rfl ly153 (by decide) rfl (show 153 < 166 by decide) wm_X9_69 ok_X9_wayOf okV_X9_wayOf rfl (zroom_self (by decide) (by decide)) (Nat.le_of_ble_eq_true rfl) (Nat.le_refl _) rfl (Ev_mono h (fun v1 d1 h => ?_))
  refine z_callS (k' := M_X9_stepped) (As := [zI (d 154 (5 + x2)), zI v1]) (st := []) dX9_bank_13 rfl wm_X9_72 ok_X9_stepped okS_X9_stepped rfl (zroom_self (by decide) (by decide)) (Nat.le_of_ble_eq_true rfl) (Nat.le_refl _) (zEnd_i (Nat.le_refl _) rfl (fun _ _ q => q)) (Ev_mono h (fun v2 d2 h => ?_))
  exact zret_i rfl dX9_bank_16 h
theorem e_X9_bank {g : zGG} {Q : Int → zMem → Prop} {d : zMem} {x1 : Int} {x2 : Int} (h : (0 ≤ (5 + x2) ∧ (5 + x2) < 1407) ∧ Ev g M_X9_wayOf FUL FUL [zR 153, zI x1] d (fun v1 d1 => Ev g M_X9_stepped FUL FUL [zI (d 154 (5 + x2)), zI v1] d1 (fun v2 d2 => Q v2 d2))) : Ev g M_X9_bank FUL FUL [zR 153, zI x1, zI x2] d Q :=
  Ev_of (by decide +kernel) (Nat.le_of_ble_eq_true rfl) (v_X9_bank_0  h)
set_option maxRecDepth 20000 in
theorem v_X9_isFirm_0 {g : zGG} {Q : Int → zMem → Prop} {d : zMem} {x1 : Int}  (h : (0 ≤ x1 ∧ x1 < 150) ∧ (Fr g (eM g M_X9_isFirm FUL FUL Q) M_X9_isFirm FUL 9 [some (zR 153), some (zI x1), some (zI 0), some (zI (d 160 x1)), none] [] d)) : Fr g (eM g M_X9_isFirm FUL FUL Q) M_X9_isFirm FUL 0 [some (zR 153), some (zI x1), none, none, none] [] d := by
  refine z_iconst dX9_isFirm_0 ?_
  refine z_istore_n (i := 2) (ls2 := [some (zR 153), some (zI x1), some (zI 0), none, none]) dX9_isFirm_1 rfl (by decide) rfl ?_
  refine z_aloadR_n (i := 0) dX9_isFirm_2 rfl rfl ?_
  refine z_getR 9 8 (idx := 29) ly153 (by decide) (by decide) rfl (show 153 < 166 by decide) rfl rt_153_8 wf_X9_29 dX9_isFirm_3 ?_
  refine z_iload_n (i := 1) dX9_isFirm_6 rfl rfl ?_
  refine z_iaload' (fv := (d 160 x1)) ly160 (show 160 < 166 by decide) (by decide) dX9_isFirm_7 h.1 rfl ?_
  replace h := h.2
  refine z_istore_n (i := 3) (ls2 := [some (zR 153), some (zI x1), some (zI 0), some (zI (d 160 x1)), none]) dX9_isFirm_8 rfl (by decide) rfl ?_
  exact h
theorem e_X9_isFirm {g : zGG} {Q : Int → zMem → Prop} {d : zMem} {x1 : Int} (h : (0 ≤ x1 ∧ x1 < 150) ∧ (Fr g (eM g M_X9_isFirm FUL FUL Q) M_X9_isFirm FUL 9 [some (zR 153), some (zI x1), some (zI 0), some (zI (d 160 x1)), none] [] d)) : Ev g M_X9_isFirm FUL FUL [zR 153, zI x1] d Q :=
  Ev_of (by decide +kernel) (Nat.le_of_ble_eq_true rfl) (v_X9_isFirm_0  h)
set_option maxRecDepth 20000 in
theorem v_X9_isFirm_9 {g : zGG} {Q : Int → zMem → Prop} {d : zMem} {x1 : Int} {x2 : Int} {x3 : Int} (h : (0 ≤ x1 ∧ x1 < 150) ∧ ((inR x3 ∧ inR (d 161 x1)) ∧ ((d 161 x1) < x3 → ((x2 = 0 ∨ x2 = 1) ∧ Q x2 d)) ∧ (x3 ≤ (d 161 x1) → ((inR x2) ∧ (x2 ≠ 0 → ((x2 = 0 ∨ x2 = 1) ∧ Q x2 d)) ∧ (x2 = 0 → Ev g M_X9_bank FUL FUL [zR 153, zI x1, zI x3] d (fun v1 d1 => ((inR v1) ∧ (v1 = (-6) → (Fr g (eM g M_X9_isFirm FUL FUL Q) M_X9_isFirm FUL 9 [some (zR 153), some (zI x1), some (zI 1), some (zI (x3 + 1)), none] [] d1)) ∧ (v1 ≠ (-6) → (0 ≤ (395 + v1) ∧ (395 + v1) < 1407) ∧ ((inR (d1 154 (395 + v1))) ∧ ((d1 154 (395 + v1)) = 1 → (Fr g (eM g M_X9_isFirm FUL FUL Q) M_X9_isFirm FUL 9 [some (zR 153), some (zI x1), some (zI 1), some (zI (x3 + 1)), none] [] d1)) ∧ ((d1 154 (395 + v1)) ≠ 1 → (0 ≤ v1 ∧ v1 < 240) ∧ ((inR (d1 162 v1)) ∧ ((d1 162 v1) = 0 → (Fr g (eM g M_X9_isFirm FUL FUL Q) M_X9_isFirm FUL 9 [some (zR 153), some (zI x1), some (zI 0), some (zI (x3 + 1)), none] [] d1)) ∧ ((d1 162 v1) ≠ 0 → (Fr g (eM g M_X9_isFirm FUL FUL Q) M_X9_isFirm FUL 9 [some (zR 153), some (zI x1), some (zI 1), some (zI (x3 + 1)), none] [] d1))))))))))))) : Fr g (eM g M_X9_isFirm FUL FUL Q) M_X9_isFirm FUL 9 [some (zR 153), some (zI x1), some (zI x2), some (zI x3), none] [] d := by
  refine z_iload_n (i := 3) dX9_isFirm_9 rfl rfl ?_
  refine z_aloadR_n (i := 0) dX9_isFirm_10 rfl rfl ?_
  refine z_getR 9 9 (idx := 32) ly153 (by decide) (by decide) rfl (show 153 < 166 by decide) rfl rt_153_9 wf_X9_32 dX9_isFirm_11 ?_
  refine z_iload_n (i := 1) dX9_isFirm_14 rfl rfl ?_
  refine z_iaload' (fv := (d 161 x1)) ly161 (show 161 < 166 by decide) (by decide) dX9_isFirm_15 h.1 rfl ?_
  replace h := h.2
  refine zb_icmp_gt (tgt := 75) dX9_isFirm_16 (by decide) h.1 ⟨fun c => ?_, fun c => ?_⟩
  · replace h := h.2.1 c
    refine z_iload_n (i := 2) dX9_isFirm_75 rfl rfl ?_
    exact zret_z rfl dX9_isFirm_76 h.1 h.2
  · replace h := h.2.2 c
    refine z_iload_n (i := 2) dX9_isFirm_19 rfl rfl ?_
    refine zb_if_ne (tgt := 75) dX9_isFirm_20 (by decide) h.1 ⟨fun c => ?_, fun c => ?_⟩
    · replace h := h.2.1 c
      refine z_iload_n (i := 2) dX9_isFirm_75 rfl rfl ?_
      exact zret_z rfl dX9_isFirm_76 h.1 h.2
    · replace h := h.2.2 c
      refine z_aloadR_n (i := 0) dX9_isFirm_23 rfl rfl ?_
      refine z_iload_n (i := 1) dX9_isFirm_24 rfl rfl ?_
      refine z_iload_n (i := 3) dX9_isFirm_25 rfl rfl ?_
      refine z_callVi (k' := M_X9_bank) (As := [zI x1, zI x3]) (st := []) dX9_isFirm_26 rfl ly153 (by decide) rfl (show 153 < 166 by decide) wm_X9_76 ok_X9_bank okV_X9_bank rfl (zroom_self (by decide) (by decide)) (Nat.le_of_ble_eq_true rfl) (Nat.le_refl _) rfl (Ev_mono h (fun v1 d1 h => ?_))
      refine z_istore (i := 4) (ls2 := [some (zR 153), some (zI x1), some (zI x2), some (zI x3), some (zI v1)]) dX9_isFirm_29 (by decide) rfl ?_
      refine z_iload (i := 4) dX9_isFirm_31 rfl ?_
      refine z_bipush dX9_isFirm_33 (by decide +kernel) ?_
      refine zb_icmp_eq (tgt := 63) dX9_isFirm_35 (by decide) ⟨h.1, by decide⟩ ⟨fun c => ?_, fun c => ?_⟩
      · replace h := h.2.1 c
        refine z_iconst dX9_isFirm_63 ?_
        refine z_goto (tgt := 68) dX9_isFirm_64 (by decide) ?_
        refine z_istore_n (i := 2) (ls2 := [some (zR 153), some (zI x1), some (zI 1), some (zI x3), some (zI v1)]) dX9_isFirm_68 rfl (by decide) rfl ?_
        refine z_iinc (i := 3) (ls2 := [some (zR 153), some (zI x1), some (zI 1), some (zI (x3 + 1)), some (zI v1)]) dX9_isFirm_69 (by decide) rfl rfl ?_
        refine z_goto (tgt := 9) dX9_isFirm_72 (by decide) ?_
        exact Fr_weak (ls2 := [some (zR 153), some (zI x1), some (zI 1), some (zI (x3 + 1)), none]) (by exact ⟨Or.inr rfl, Or.inr rfl, Or.inr rfl, Or.inr rfl, Or.inl rfl, trivial⟩) h
      · replace h := h.2.2 c
        refine z_aloadR_n (i := 0) dX9_isFirm_38 rfl rfl ?_
        refine z_getR 9 0 (idx := 7) ly153 (by decide) (by decide) rfl (show 153 < 166 by decide) rfl rt_153_0 wf_X9_7 dX9_isFirm_39 ?_
        refine z_sipush dX9_isFirm_42 (by decide +kernel) ?_
        refine z_iload (i := 4) dX9_isFirm_45 rfl ?_
        refine z_iadd dX9_isFirm_47 ?_
        refine z_iaload' (fv := (d1 154 (395 + v1))) ly154 (show 154 < 166 by decide) (by decide) dX9_isFirm_48 h.1 rfl ?_
        replace h := h.2
        refine z_iconst dX9_isFirm_49 ?_
        refine zb_icmp_eq (tgt := 63) dX9_isFirm_50 (by decide) ⟨h.1, by decide⟩ ⟨fun c => ?_, fun c => ?_⟩
        · replace h := h.2.1 c
          refine z_iconst dX9_isFirm_63 ?_
          refine z_goto (tgt := 68) dX9_isFirm_64 (by decide) ?_
          refine z_istore_n (i := 2) (ls2 := [some (zR 153), some (zI x1), some (zI 1), some (zI x3), some (zI v1)]) dX9_isFirm_68 rfl (by decide) rfl ?_
          refine z_iinc (i := 3) (ls2 := [some (zR 153), some (zI x1), some (zI 1), some (zI (x3 + 1)), some (zI v1)]) dX9_isFirm_69 (by decide) rfl rfl ?_
          refine z_goto (tgt := 9) dX9_isFirm_72 (by decide) ?_
          exact Fr_weak (ls2 := [some (zR 153), some (zI x1), some (zI 1), some (zI (x3 + 1)), none]) (by exact ⟨Or.inr rfl, Or.inr rfl, Or.inr rfl, Or.inr rfl, Or.inl rfl, trivial⟩) h
        · replace h := h.2.2 c
          refine z_aloadR_n (i := 0) dX9_isFirm_53 rfl rfl ?_
          refine z_getR 9 10 (idx := 35) ly153 (by decide) (by decide) rfl (show 153 < 166 by decide) rfl rt_153_10 wf_X9_35 dX9_isFirm_54 ?_
          refine z_iload (i := 4) dX9_isFirm_57 rfl ?_
          refine z_baload' (fv := (d1 162 v1)) ly162 (show 162 < 166 by decide) (by decide) dX9_isFirm_59 h.1 rfl ?_
          replace h := h.2
          refine zb_if_eq (tgt := 67) dX9_isFirm_60 (by decide) h.1 ⟨fun c => ?_, fun c => ?_⟩
          · replace h := h.2.1 c
            refine z_iconst dX9_isFirm_67 ?_
            refine z_istore_n (i := 2) (ls2 := [some (zR 153), some (zI x1), some (zI 0), some (zI x3), some (zI v1)]) dX9_isFirm_68 rfl (by decide) rfl ?_
            refine z_iinc (i := 3) (ls2 := [some (zR 153), some (zI x1), some (zI 0), some (zI (x3 + 1)), some (zI v1)]) dX9_isFirm_69 (by decide) rfl rfl ?_
            refine z_goto (tgt := 9) dX9_isFirm_72 (by decide) ?_
            exact Fr_weak (ls2 := [some (zR 153), some (zI x1), some (zI 0), some (zI (x3 + 1)), none]) (by exact ⟨Or.inr rfl, Or.inr rfl, Or.inr rfl, Or.inr rfl, Or.inl rfl, trivial⟩) h
          · replace h := h.2.2 c
            refine z_iconst dX9_isFirm_63 ?_
            refine z_goto (tgt := 68) dX9_isFirm_64 (by decide) ?_
            refine z_istore_n (i := 2) (ls2 := [some (zR 153), some (zI x1), some (zI 1), some (zI x3), some (zI v1)]) dX9_isFirm_68 rfl (by decide) rfl ?_
            refine z_iinc (i := 3) (ls2 := [some (zR 153), some (zI x1), some (zI 1), some (zI (x3 + 1)), some (zI v1)]) dX9_isFirm_69 (by decide) rfl rfl ?_
            refine z_goto (tgt := 9) dX9_isFirm_72 (by decide) ?_
            exact Fr_weak (ls2 := [some (zR 153), some (zI x1), some (zI 1), some (zI (x3 + 1)), none]) (by exact ⟨Or.inr rfl, Or.inr rfl, Or.inr rfl, Or.inr rfl, Or.inl rfl, trivial⟩) h
set_option maxRecDepth 20000 in
theorem v_X9_leastWear_0 {g : zGG} {Q : Int → zMem → Prop} {d : zMem} {x1 : Int}  (h : (0 ≤ x1 ∧ x1 < 150) ∧ (Fr g (eM g M_X9_leastWear FUL FUL Q) M_X9_leastWear FUL 10 [some (zR 153), some (zI x1), some (zI 99), some (zI (d 160 x1)), none] [] d)) : Fr g (eM g M_X9_leastWear FUL FUL Q) M_X9_leastWear FUL 0 [some (zR 153), some (zI x1), none, none, none] [] d := by
  refine z_bipush dX9_leastWear_0 (by decide +kernel) ?_
  refine z_istore_n (i := 2) (ls2 := [some (zR 153), some (zI x1), some (zI 99), none, none]) dX9_leastWear_2 rfl (by decide) rfl ?_
  refine z_aloadR_n (i := 0) dX9_leastWear_3 rfl rfl ?_
  refine z_getR 9 8 (idx := 29) ly153 (by decide) (by decide) rfl (show 153 < 166 by decide) rfl rt_153_8 wf_X9_29 dX9_leastWear_4 ?_
  refine z_iload_n (i := 1) dX9_leastWear_7 rfl rfl ?_
  refine z_iaload' (fv := (d 160 x1)) ly160 (show 160 < 166 by decide) (by decide) dX9_leastWear_8 h.1 rfl ?_
  replace h := h.2
  refine z_istore_n (i := 3) (ls2 := [some (zR 153), some (zI x1), some (zI 99), some (zI (d 160 x1)), none]) dX9_leastWear_9 rfl (by decide) rfl ?_
  exact h
theorem e_X9_leastWear {g : zGG} {Q : Int → zMem → Prop} {d : zMem} {x1 : Int} (h : (0 ≤ x1 ∧ x1 < 150) ∧ (Fr g (eM g M_X9_leastWear FUL FUL Q) M_X9_leastWear FUL 10 [some (zR 153), some (zI x1), some (zI 99), some (zI (d 160 x1)), none] [] d)) : Ev g M_X9_leastWear FUL FUL [zR 153, zI x1] d Q :=
  Ev_of (by decide +kernel) (Nat.le_of_ble_eq_true rfl) (v_X9_leastWear_0  h)
set_option maxRecDepth 20000 in
theorem v_X9_leastWear_10 {g : zGG} {Q : Int → zMem → Prop} {d : zMem} {x1 : Int} {x2 : Int} {x3 : Int} (h : (0 ≤ x1 ∧ x1 < 150) ∧ ((inR x3 ∧ inR (d 161 x1)) ∧ ((d 161 x1) < x3 → Q x2 d) ∧ (x3 ≤ (d 161 x1) → Ev g M_X9_bank FUL FUL [zR 153, zI x1, zI x3] d (fun v1 d1 => (0 ≤ (155 + v1) ∧ (155 + v1) < 1407) ∧ ((inR (d1 154 (155 + v1)) ∧ inR x2) ∧ (x2 ≤ (d1 154 (155 + v1)) → (Fr g (eM g M_X9_leastWear FUL FUL Q) M_X9_leastWear FUL 10 [some (zR 153), some (zI x1), some (zI x2), some (zI (x3 + 1)), none] [] d1)) ∧ ((d1 154 (155 + v1)) < x2 → (Fr g (eM g M_X9_leastWear FUL FUL Q) M_X9_leastWear FUL 10 [some (zR 153), some (zI x1), some (zI (d1 154 (155 + v1))), some (zI (x3 + 1)), none] [] d1))))))) : Fr g (eM g M_X9_leastWear FUL FUL Q) M_X9_leastWear FUL 10 [some (zR 153), some (zI x1), some (zI x2), some (zI x3), none] [] d := by
  refine z_iload_n (i := 3) dX9_leastWear_10 rfl rfl ?_
  refine z_aloadR_n (i := 0) dX9_leastWear_11 rfl rfl ?_
  refine z_getR 9 9 (idx := 32) ly153 (by decide) (by decide) rfl (show 153 < 166 by decide) rfl rt_153_9 wf_X9_32 dX9_leastWear_12 ?_
  refine z_iload_n (i := 1) dX9_leastWear_15 rfl rfl ?_
  refine z_iaload' (fv := (d 161 x1)) ly161 (show 161 < 166 by decide) (by decide) dX9_leastWear_16 h.1 rfl ?_
  replace h := h.2
  refine zb_icmp_gt (tgt := 56) dX9_leastWear_17 (by decide) h.1 ⟨fun c => ?_, fun c => ?_⟩
  · replace h := h.2.1 c
    refine z_iload_n (i := 2) dX9_leastWear_56 rfl rfl ?_
    exact zret_i rfl dX9_leastWear_57 h
  · replace h := h.2.2 c
    refine z_aloadR_n (i := 0) dX9_leastWear_20 rfl rfl ?_
    refine z_getR 9 0 (idx := 7) ly153 (by decide) (by decide) rfl (show 153 < 166 by decide) rfl rt_153_0 wf_X9_7 dX9_leastWear_21 ?_
    refine z_sipush dX9_leastWear_24 (by decide +kernel) ?_
    refine z_aloadR_n (i := 0) dX9_leastWear_27 rfl rfl ?_
    refine z_iload_n (i := 1) dX9_leastWear_28 rfl rfl ?_
    refine z_iload_n (i := 3) dX9_leastWear_29 rfl rfl ?_
    refine z_callVi (k' := M_X9_bank) (As := [zI x1, zI x3]) (st := [zI 155, zR 154]) dX9_leastWear_30 rfl ly153 (by decide) rfl (show 153 < 166 by decide) wm_X9_76 ok_X9_bank okV_X9_bank rfl (zroom_self (by decide) (by decide)) (Nat.le_of_ble_eq_true rfl) (Nat.le_refl _) rfl (Ev_mono h (fun v1 d1 h => ?_))
    refine z_iadd dX9_leastWear_33 ?_
    refine z_iaload' (fv := (d1 154 (155 + v1))) ly154 (show 154 < 166 by decide) (by decide) dX9_leastWear_34 h.1 rfl ?_
    replace h := h.2
    refine z_istore (i := 4) (ls2 := [some (zR 153), some (zI x1), some (zI x2), some (zI x3), some (zI (d1 154 (155 + v1)))]) dX9_leastWear_35 (by decide) rfl ?_
    refine z_iload (i := 4) dX9_leastWear_37 rfl ?_
    refine z_iload_n (i := 2) dX9_leastWear_39 rfl rfl ?_
    refine zb_icmp_ge (tgt := 48) dX9_leastWear_40 (by decide) h.1 ⟨fun c => ?_, fun c => ?_⟩
    · replace h := h.2.1 c
      refine z_iload_n (i := 2) dX9_leastWear_48 rfl rfl ?_
      refine z_istore_n (i := 2) (ls2 := [some (zR 153), some (zI x1), some (zI x2), some (zI x3), some (zI (d1 154 (155 + v1)))]) dX9_leastWear_49 rfl (by decide) rfl ?_
      refine z_iinc (i := 3) (ls2 := [some (zR 153), some (zI x1), some (zI x2), some (zI (x3 + 1)), some (zI (d1 154 (155 + v1)))]) dX9_leastWear_50 (by decide) rfl rfl ?_
      refine z_goto (tgt := 10) dX9_leastWear_53 (by decide) ?_
      exact Fr_weak (ls2 := [some (zR 153), some (zI x1), some (zI x2), some (zI (x3 + 1)), none]) (by exact ⟨Or.inr rfl, Or.inr rfl, Or.inr rfl, Or.inr rfl, Or.inl rfl, trivial⟩) h
    · replace h := h.2.2 c
      refine z_iload (i := 4) dX9_leastWear_43 rfl ?_
      refine z_goto (tgt := 49) dX9_leastWear_45 (by decide) ?_
      refine z_istore_n (i := 2) (ls2 := [some (zR 153), some (zI x1), some (zI (d1 154 (155 + v1))), some (zI x3), some (zI (d1 154 (155 + v1)))]) dX9_leastWear_49 rfl (by decide) rfl ?_
      refine z_iinc (i := 3) (ls2 := [some (zR 153), some (zI x1), some (zI (d1 154 (155 + v1))), some (zI (x3 + 1)), some (zI (d1 154 (155 + v1)))]) dX9_leastWear_50 (by decide) rfl rfl ?_
      refine z_goto (tgt := 10) dX9_leastWear_53 (by decide) ?_
      exact Fr_weak (ls2 := [some (zR 153), some (zI x1), some (zI (d1 154 (155 + v1))), some (zI (x3 + 1)), none]) (by exact ⟨Or.inr rfl, Or.inr rfl, Or.inr rfl, Or.inr rfl, Or.inl rfl, trivial⟩) h
set_option maxRecDepth 20000 in
theorem v_X9_canGrow_0 {g : zGG} {Q : Int → zMem → Prop} {d : zMem} {x1 : Int}  (h : ((inR (d 154 4)) ∧ (148 < (d 154 4) → Q 0 d) ∧ ((d 154 4) ≤ 148 → Ev g M_X9_isFirm FUL FUL [zR 153, zI x1] d (fun v1 d1 => ((inR v1) ∧ (v1 ≠ 0 → Q 0 d1) ∧ (v1 = 0 → Ev g M_X9_leastWear FUL FUL [zR 153, zI x1] d1 (fun v2 d2 => ((inR v2 ∧ inR (d2 154 1)) ∧ (v2 < (d2 154 1) → Q 0 d2) ∧ ((d2 154 1) ≤ v2 → Q 1 d2))))))))) : Fr g (eM g M_X9_canGrow FUL FUL Q) M_X9_canGrow FUL 0 [some (zR 153), some (zI x1)] [] d := by
  refine z_aloadR_n (i := 0) dX9_canGrow_0 rfl rfl ?_
  refine z_getR 9 0 (idx := 7) ly153 (by decide) (by decide) rfl (show 153 < 166 by decide) rfl rt_153_0 wf_X9_7 dX9_canGrow_1 ?_
  refine z_iconst dX9_canGrow_4 ?_
  refine z_iaload' (fv := (d 154 4)) ly154 (show 154 < 166 by decide) (by decide) dX9_canGrow_5 (by decide) rfl ?_
  refine z_sipush dX9_canGrow_6 (by decide +kernel) ?_
  refine zb_icmp_gt (tgt := 38) dX9_canGrow_9 (by decide) ⟨h.1, by decide⟩ ⟨fun c => ?_, fun c => ?_⟩
  · replace h := h.2.1 c
    refine z_iconst dX9_canGrow_38 ?_
    exact zret_z rfl dX9_canGrow_39 (by decide) h
  · replace h := h.2.2 c
    refine z_aloadR_n (i := 0) dX9_canGrow_12 rfl rfl ?_
    refine z_iload_n (i := 1) dX9_canGrow_13 rfl rfl ?_
    refine z_callVi (k' := M_X9_isFirm) (As := [zI x1]) (st := []) dX9_canGrow_14 rfl ly153 (by decide) rfl (show 153 < 166 by decide) wm_X9_79 ok_X9_isFirm okV_X9_isFirm rfl (zroom_self (by decide) (by decide)) (Nat.le_of_ble_eq_true rfl) (Nat.le_refl _) rfl (Ev_mono h (fun v1 d1 h => ?_))
    refine zb_if_ne (tgt := 38) dX9_canGrow_17 (by decide) h.1 ⟨fun c => ?_, fun c => ?_⟩
    · replace h := h.2.1 c
      refine z_iconst dX9_canGrow_38 ?_
      exact zret_z rfl dX9_canGrow_39 (by decide) h
    · replace h := h.2.2 c
      refine z_aloadR_n (i := 0) dX9_canGrow_20 rfl rfl ?_
      refine z_iload_n (i := 1) dX9_canGrow_21 rfl rfl ?_
      refine z_callVi (k' := M_X9_leastWear) (As := [zI x1]) (st := []) dX9_canGrow_22 rfl ly153 (by decide) rfl (show 153 < 166 by decide) wm_X9_83 ok_X9_leastWear okV_X9_leastWear rfl (zroom_self (by decide) (by decide)) (Nat.le_of_ble_eq_true rfl) (Nat.le_refl _) rfl (Ev_mono h (fun v2 d2 h => ?_))
      refine z_aloadR_n (i := 0) dX9_canGrow_25 rfl rfl ?_
      refine z_getR 9 0 (idx := 7) ly153 (by decide) (by decide) rfl (show 153 < 166 by decide) rfl rt_153_0 wf_X9_7 dX9_canGrow_26 ?_
      refine z_iconst dX9_canGrow_29 ?_
      refine z_iaload' (fv := (d2 154 1)) ly154 (show 154 < 166 by decide) (by decide) dX9_canGrow_30 (by decide) rfl ?_
      refine zb_icmp_lt (tgt := 38) dX9_canGrow_31 (by decide) h.1 ⟨fun c => ?_, fun c => ?_⟩
      · replace h := h.2.1 c
        refine z_iconst dX9_canGrow_38 ?_
        exact zret_z rfl dX9_canGrow_39 (by decide) h
      · replace h := h.2.2 c
        refine z_iconst dX9_canGrow_34 ?_
        refine z_goto (tgt := 39) dX9_canGrow_35 (by decide) ?_
        exact zret_z rfl dX9_canGrow_39 (by decide) h
theorem e_X9_canGrow {g : zGG} {Q : Int → zMem → Prop} {d : zMem} {x1 : Int} (h : ((inR (d 154 4)) ∧ (148 < (d 154 4) → Q 0 d) ∧ ((d 154 4) ≤ 148 → Ev g M_X9_isFirm FUL FUL [zR 153, zI x1] d (fun v1 d1 => ((inR v1) ∧ (v1 ≠ 0 → Q 0 d1) ∧ (v1 = 0 → Ev g M_X9_leastWear FUL FUL [zR 153, zI x1] d1 (fun v2 d2 => ((inR v2 ∧ inR (d2 154 1)) ∧ (v2 < (d2 154 1) → Q 0 d2) ∧ ((d2 154 1) ≤ v2 → Q 1 d2))))))))) : Ev g M_X9_canGrow FUL FUL [zR 153, zI x1] d Q :=
  Ev_of (by decide +kernel) (Nat.le_of_ble_eq_true rfl) (v_X9_canGrow_0  h)
set_option maxRecDepth 20000 in
theorem v_X9_dropOxbow_0 {g : zGG} {Q : Int → zMem → Prop} {d : zMem} {x1 : Int}  (h : (Fr g (eM g M_X9_dropOxbow FUL FUL Q) M_X9_dropOxbow FUL 2 [some (zR 153), some (zI x1), some (zI 0), none] [] d)) : Fr g (eM g M_X9_dropOxbow FUL FUL Q) M_X9_dropOxbow FUL 0 [some (zR 153), some (zI x1), none, none] [] d := by
  refine z_iconst dX9_dropOxbow_0 ?_
  refine z_istore_n (i := 2) (ls2 := [some (zR 153), some (zI x1), some (zI 0), none]) dX9_dropOxbow_1 rfl (by decide) rfl ?_
  exact h
theorem e_X9_dropOxbow {g : zGG} {Q : Int → zMem → Prop} {d : zMem} {x1 : Int} (h : (Fr g (eM g M_X9_dropOxbow FUL FUL Q) M_X9_dropOxbow FUL 2 [some (zR 153), some (zI x1), some (zI 0), none] [] d)) : Ev g M_X9_dropOxbow FUL FUL [zR 153, zI x1] d Q :=
  Ev_of (by decide +kernel) (Nat.le_of_ble_eq_true rfl) (v_X9_dropOxbow_0  h)
set_option maxRecDepth 20000 in
theorem v_X9_dropOxbow_2 {g : zGG} {Q : Int → zMem → Prop} {d : zMem} {x1 : Int} {x2 : Int} (h : ((inR x2) ∧ (240 ≤ x2 → ∀ d1, d1 = mu d 154 1355 ((d 154 1355) - 1) → (Fr g (eM g M_X9_dropOxbow FUL FUL Q) M_X9_dropOxbow FUL 78 [some (zR 153), some (zI x1), some (zI (1356 + (3 * x1))), none] [] d1)) ∧ (x2 < 240 → (0 ≤ (1115 + x2) ∧ (1115 + x2) < 1407) ∧ ((inR (d 154 (1115 + x2)) ∧ inR x1) ∧ ((d 154 (1115 + x2)) ≠ x1 → ((inR (d 154 (1115 + x2)) ∧ inR x1) ∧ ((d 154 (1115 + x2)) ≤ x1 → (0 ≤ (1115 + x2) ∧ (1115 + x2) < 1407) ∧ ∀ d2, d2 = mu d 154 (1115 + x2) (d 154 (1115 + x2)) → (Fr g (eM g M_X9_dropOxbow FUL FUL Q) M_X9_dropOxbow FUL 2 [some (zR 153), some (zI x1), some (zI (x2 + 1)), none] [] d2)) ∧ (x1 < (d 154 (1115 + x2)) → (0 ≤ (1115 + x2) ∧ (1115 + x2) < 1407) ∧ ∀ d3, d3 = mu d 154 (1115 + x2) ((d 154 (1115 + x2)) - 1) → (Fr g (eM g M_X9_dropOxbow FUL FUL Q) M_X9_dropOxbow FUL 2 [some (zR 153), some (zI x1), some (zI (x2 + 1)), none] [] d3)))) ∧ ((d 154 (1115 + x2)) = x1 → (0 ≤ (1115 + x2) ∧ (1115 + x2) < 1407) ∧ ∀ d4, d4 = mu d 154 (1115 + x2) (-6) → (Fr g (eM g M_X9_dropOxbow FUL FUL Q) M_X9_dropOxbow FUL 2 [some (zR 153), some (zI x1), some (zI (x2 + 1)), none] [] d4)))))) : Fr g (eM g M_X9_dropOxbow FUL FUL Q) M_X9_dropOxbow FUL 2 [some (zR 153), some (zI x1), some (zI x2), none] [] d := by
  refine z_iload_n (i := 2) dX9_dropOxbow_2 rfl rfl ?_
  refine z_sipush dX9_dropOxbow_3 (by decide +kernel) ?_
  refine zb_icmp_ge (tgt := 58) dX9_dropOxbow_6 (by decide) ⟨h.1, by decide⟩ ⟨fun c => ?_, fun c => ?_⟩
  · replace h := h.2.1 c
    refine z_aloadR_n (i := 0) dX9_dropOxbow_58 rfl rfl ?_
    refine z_getR 9 0 (idx := 7) ly153 (by decide) (by decide) rfl (show 153 < 166 by decide) rfl rt_153_0 wf_X9_7 dX9_dropOxbow_59 ?_
    refine z_sipush dX9_dropOxbow_62 (by decide +kernel) ?_
    refine z_dup2 dX9_dropOxbow_65 (Nat.le_of_ble_eq_true rfl) (Nat.le_of_ble_eq_true rfl) ?_
    refine z_iaload' (fv := (d 154 1355)) ly154 (show 154 < 166 by decide) (by decide) dX9_dropOxbow_66 (by decide) rfl ?_
    refine z_iconst dX9_dropOxbow_67 ?_
    refine z_isub dX9_dropOxbow_68 ?_
    refine z_iastore ly154 (show 154 < 166 by decide) (by decide) dX9_dropOxbow_69 (by decide) ?_
    generalize hd1 : mu d 154 1355 ((d 154 1355) - 1) = d1
    replace hd1 := hd1.symm
    replace h := h d1 hd1
    refine z_sipush dX9_dropOxbow_70 (by decide +kernel) ?_
    refine z_iconst dX9_dropOxbow_73 ?_
    refine z_iload_n (i := 1) dX9_dropOxbow_74 rfl rfl ?_
    refine z_imul dX9_dropOxbow_75 ?_
    refine z_iadd dX9_dropOxbow_76 ?_
    refine z_istore_n (i := 2) (ls2 := [some (zR 153), some (zI x1), some (zI (1356 + (3 * x1))), none]) dX9_dropOxbow_77 rfl (by decide) rfl ?_
    exact h
  · replace h := h.2.2 c
    refine z_aloadR_n (i := 0) dX9_dropOxbow_9 rfl rfl ?_
    refine z_getR 9 0 (idx := 7) ly153 (by decide) (by decide) rfl (show 153 < 166 by decide) rfl rt_153_0 wf_X9_7 dX9_dropOxbow_10 ?_
    refine z_sipush dX9_dropOxbow_13 (by decide +kernel) ?_
    refine z_iload_n (i := 2) dX9_dropOxbow_16 rfl rfl ?_
    refine z_iadd dX9_dropOxbow_17 ?_
    refine z_iaload' (fv := (d 154 (1115 + x2))) ly154 (show 154 < 166 by decide) (by decide) dX9_dropOxbow_18 h.1 rfl ?_
    replace h := h.2
    refine z_istore_n (i := 3) (ls2 := [some (zR 153), some (zI x1), some (zI x2), some (zI (d 154 (1115 + x2)))]) dX9_dropOxbow_19 rfl (by decide) rfl ?_
    refine z_aloadR_n (i := 0) dX9_dropOxbow_20 rfl rfl ?_
    refine z_getR 9 0 (idx := 7) ly153 (by decide) (by decide) rfl (show 153 < 166 by decide) rfl rt_153_0 wf_X9_7 dX9_dropOxbow_21 ?_
    refine z_sipush dX9_dropOxbow_24 (by decide +kernel) ?_
    refine z_iload_n (i := 2) dX9_dropOxbow_27 rfl rfl ?_
    refine z_iadd dX9_dropOxbow_28 ?_
    refine z_iload_n (i := 3) dX9_dropOxbow_29 rfl rfl ?_
    refine z_iload_n (i := 1) dX9_dropOxbow_30 rfl rfl ?_
    refine zb_icmp_ne (tgt := 39) dX9_dropOxbow_31 (by decide) h.1 ⟨fun c => ?_, fun c => ?_⟩
    · replace h := h.2.1 c
      refine z_iload_n (i := 3) dX9_dropOxbow_39 rfl rfl ?_
      refine z_iload_n (i := 1) dX9_dropOxbow_40 rfl rfl ?_
      refine zb_icmp_le (tgt := 50) dX9_dropOxbow_41 (by decide) h.1 ⟨fun c => ?_, fun c => ?_⟩
      · replace h := h.2.1 c
        refine z_iload_n (i := 3) dX9_dropOxbow_50 rfl rfl ?_
        refine z_iastore ly154 (show 154 < 166 by decide) (by decide) dX9_dropOxbow_51 h.1 ?_
        replace h := h.2
        generalize hd2 : mu d 154 (1115 + x2) (d 154 (1115 + x2)) = d2
        replace hd2 := hd2.symm
        replace h := h d2 hd2
        refine z_iinc (i := 2) (ls2 := [some (zR 153), some (zI x1), some (zI (x2 + 1)), some (zI (d 154 (1115 + x2)))]) dX9_dropOxbow_52 (by decide) rfl rfl ?_
        refine z_goto (tgt := 2) dX9_dropOxbow_55 (by decide) ?_
        exact Fr_weak (ls2 := [some (zR 153), some (zI x1), some (zI (x2 + 1)), none]) (by exact ⟨Or.inr rfl, Or.inr rfl, Or.inr rfl, Or.inl rfl, trivial⟩) h
      · replace h := h.2.2 c
        refine z_iload_n (i := 3) dX9_dropOxbow_44 rfl rfl ?_
        refine z_iconst dX9_dropOxbow_45 ?_
        refine z_isub dX9_dropOxbow_46 ?_
        refine z_goto (tgt := 51) dX9_dropOxbow_47 (by decide) ?_
        refine z_iastore ly154 (show 154 < 166 by decide) (by decide) dX9_dropOxbow_51 h.1 ?_
        replace h := h.2
        generalize hd3 : mu d 154 (1115 + x2) ((d 154 (1115 + x2)) - 1) = d3
        replace hd3 := hd3.symm
        replace h := h d3 hd3
        refine z_iinc (i := 2) (ls2 := [some (zR 153), some (zI x1), some (zI (x2 + 1)), some (zI (d 154 (1115 + x2)))]) dX9_dropOxbow_52 (by decide) rfl rfl ?_
        refine z_goto (tgt := 2) dX9_dropOxbow_55 (by decide) ?_
        exact Fr_weak (ls2 := [some (zR 153), some (zI x1), some (zI (x2 + 1)), none]) (by exact ⟨Or.inr rfl, Or.inr rfl, Or.inr rfl, Or.inl rfl, trivial⟩) h
    · replace h := h.2.2 c
      refine z_bipush dX9_dropOxbow_34 (by decide +kernel) ?_
      refine z_goto (tgt := 51) dX9_dropOxbow_36 (by decide) ?_
      refine z_iastore ly154 (show 154 < 166 by decide) (by decide) dX9_dropOxbow_51 h.1 ?_
      replace h := h.2
      generalize hd4 : mu d 154 (1115 + x2) (-6) = d4
      replace hd4 := hd4.symm
      replace h := h d4 hd4
      refine z_iinc (i := 2) (ls2 := [some (zR 153), some (zI x1), some (zI (x2 + 1)), some (zI (d 154 (1115 + x2)))]) dX9_dropOxbow_52 (by decide) rfl rfl ?_
      refine z_goto (tgt := 2) dX9_dropOxbow_55 (by decide) ?_
      exact Fr_weak (ls2 := [some (zR 153), some (zI x1), some (zI (x2 + 1)), none]) (by exact ⟨Or.inr rfl, Or.inr rfl, Or.inr rfl, Or.inl rfl, trivial⟩) h
set_option maxRecDepth 20000 in
theorem v_X9_dropOxbow_78 {g : zGG} {Q : Int → zMem → Prop} {d : zMem} {x1 : Int} {x2 : Int} (h : ((inR x2 ∧ inR (1356 + (3 * (d 154 1355)))) ∧ ((1356 + (3 * (d 154 1355))) ≤ x2 → Q 0 d) ∧ (x2 < (1356 + (3 * (d 154 1355))) → (0 ≤ (x2 + 3) ∧ (x2 + 3) < 1407) ∧ (0 ≤ x2 ∧ x2 < 1407) ∧ ∀ d1, d1 = mu d 154 x2 (d 154 (x2 + 3)) → (Fr g (eM g M_X9_dropOxbow FUL FUL Q) M_X9_dropOxbow FUL 78 [some (zR 153), some (zI x1), some (zI (x2 + 1)), none] [] d1)))) : Fr g (eM g M_X9_dropOxbow FUL FUL Q) M_X9_dropOxbow FUL 78 [some (zR 153), some (zI x1), some (zI x2), none] [] d := by
  refine z_iload_n (i := 2) dX9_dropOxbow_78 rfl rfl ?_
  refine z_sipush dX9_dropOxbow_79 (by decide +kernel) ?_
  refine z_iconst dX9_dropOxbow_82 ?_
  refine z_aloadR_n (i := 0) dX9_dropOxbow_83 rfl rfl ?_
  refine z_getR 9 0 (idx := 7) ly153 (by decide) (by decide) rfl (show 153 < 166 by decide) rfl rt_153_0 wf_X9_7 dX9_dropOxbow_84 ?_
  refine z_sipush dX9_dropOxbow_87 (by decide +kernel) ?_
  refine z_iaload' (fv := (d 154 1355)) ly154 (show 154 < 166 by decide) (by decide) dX9_dropOxbow_90 (by decide) rfl ?_
  refine z_imul dX9_dropOxbow_91 ?_
  refine z_iadd dX9_dropOxbow_92 ?_
  refine zb_icmp_ge (tgt := 116) dX9_dropOxbow_93 (by decide) h.1 ⟨fun c => ?_, fun c => ?_⟩
  · replace h := h.2.1 c
    exact zret_v rfl dX9_dropOxbow_116 h
  · replace h := h.2.2 c
    refine z_aloadR_n (i := 0) dX9_dropOxbow_96 rfl rfl ?_
    refine z_getR 9 0 (idx := 7) ly153 (by decide) (by decide) rfl (show 153 < 166 by decide) rfl rt_153_0 wf_X9_7 dX9_dropOxbow_97 ?_
    refine z_iload_n (i := 2) dX9_dropOxbow_100 rfl rfl ?_
    refine z_aloadR_n (i := 0) dX9_dropOxbow_101 rfl rfl ?_
    refine z_getR 9 0 (idx := 7) ly153 (by decide) (by decide) rfl (show 153 < 166 by decide) rfl rt_153_0 wf_X9_7 dX9_dropOxbow_102 ?_
    refine z_iload_n (i := 2) dX9_dropOxbow_105 rfl rfl ?_
    refine z_iconst dX9_dropOxbow_106 ?_
    refine z_iadd dX9_dropOxbow_107 ?_
    refine z_iaload' (fv := (d 154 (x2 + 3))) ly154 (show 154 < 166 by decide) (by decide) dX9_dropOxbow_108 h.1 rfl ?_
    replace h := h.2
    refine z_iastore ly154 (show 154 < 166 by decide) (by decide) dX9_dropOxbow_109 h.1 ?_
    replace h := h.2
    generalize hd1 : mu d 154 x2 (d 154 (x2 + 3)) = d1
    replace hd1 := hd1.symm
    replace h := h d1 hd1
    refine z_iinc (i := 2) (ls2 := [some (zR 153), some (zI x1), some (zI (x2 + 1)), none]) dX9_dropOxbow_110 (by decide) rfl rfl ?_
    refine z_goto (tgt := 78) dX9_dropOxbow_113 (by decide) ?_
    exact h
set_option maxRecDepth 20000 in
theorem v_X9_grow_0 {g : zGG} {Q : Int → zMem → Prop} {d : zMem} {x1 : Int}  (h : (0 ≤ x1 ∧ x1 < 150) ∧ (0 ≤ x1 ∧ x1 < 150) ∧ (Fr g (eM g M_X9_grow FUL FUL Q) M_X9_grow FUL 17 [some (zR 153), some (zI x1), some (zI (d 160 x1)), some (zI (d 161 x1)), some (zI (d 160 x1)), none] [] d)) : Fr g (eM g M_X9_grow FUL FUL Q) M_X9_grow FUL 0 [some (zR 153), some (zI x1), none, none, none, none] [] d := by
  refine z_aloadR_n (i := 0) dX9_grow_0 rfl rfl ?_
  refine z_getR 9 8 (idx := 29) ly153 (by decide) (by decide) rfl (show 153 < 166 by decide) rfl rt_153_8 wf_X9_29 dX9_grow_1 ?_
  refine z_iload_n (i := 1) dX9_grow_4 rfl rfl ?_
  refine z_iaload' (fv := (d 160 x1)) ly160 (show 160 < 166 by decide) (by decide) dX9_grow_5 h.1 rfl ?_
  replace h := h.2
  refine z_istore_n (i := 2) (ls2 := [some (zR 153), some (zI x1), some (zI (d 160 x1)), none, none, none]) dX9_grow_6 rfl (by decide) rfl ?_
  refine z_aloadR_n (i := 0) dX9_grow_7 rfl rfl ?_
  refine z_getR 9 9 (idx := 32) ly153 (by decide) (by decide) rfl (show 153 < 166 by decide) rfl rt_153_9 wf_X9_32 dX9_grow_8 ?_
  refine z_iload_n (i := 1) dX9_grow_11 rfl rfl ?_
  refine z_iaload' (fv := (d 161 x1)) ly161 (show 161 < 166 by decide) (by decide) dX9_grow_12 h.1 rfl ?_
  replace h := h.2
  refine z_istore_n (i := 3) (ls2 := [some (zR 153), some (zI x1), some (zI (d 160 x1)), some (zI (d 161 x1)), none, none]) dX9_grow_13 rfl (by decide) rfl ?_
  refine z_iload_n (i := 2) dX9_grow_14 rfl rfl ?_
  refine z_istore (i := 4) (ls2 := [some (zR 153), some (zI x1), some (zI (d 160 x1)), some (zI (d 161 x1)), some (zI (d 160 x1)), none]) dX9_grow_15 (by decide) rfl ?_
  exact h
theorem e_X9_grow {g : zGG} {Q : Int → zMem → Prop} {d : zMem} {x1 : Int} (h : (0 ≤ x1 ∧ x1 < 150) ∧ (0 ≤ x1 ∧ x1 < 150) ∧ (Fr g (eM g M_X9_grow FUL FUL Q) M_X9_grow FUL 17 [some (zR 153), some (zI x1), some (zI (d 160 x1)), some (zI (d 161 x1)), some (zI (d 160 x1)), none] [] d)) : Ev g M_X9_grow FUL FUL [zR 153, zI x1] d Q :=
  Ev_of (by decide +kernel) (Nat.le_of_ble_eq_true rfl) (v_X9_grow_0  h)
set_option maxRecDepth 20000 in
theorem v_X9_grow_17 {g : zGG} {Q : Int → zMem → Prop} {d : zMem} {x1 : Int} {x2 : Int} {x3 : Int} {x4 : Int} (h : ((inR x4 ∧ inR x3) ∧ (x3 < x4 → (Fr g (eM g M_X9_grow FUL FUL Q) M_X9_grow FUL 55 [some (zR 153), some (zI x1), some (zI x2), some (zI x3), some (zI ((d 154 4) - 1)), none] [] d)) ∧ (x4 ≤ x3 → Ev g M_X9_bank FUL FUL [zR 153, zI x1, zI x4] d (fun v1 d1 => (0 ≤ (x4 - x2) ∧ (x4 - x2) < 150) ∧ ∀ d2, d2 = mu d1 163 (x4 - x2) v1 → (Fr g (eM g M_X9_grow FUL FUL Q) M_X9_grow FUL 17 [some (zR 153), some (zI x1), some (zI x2), some (zI x3), some (zI (x4 + 1)), none] [] d2))))) : Fr g (eM g M_X9_grow FUL FUL Q) M_X9_grow FUL 17 [some (zR 153), some (zI x1), some (zI x2), some (zI x3), some (zI x4), none] [] d := by
  refine z_iload (i := 4) dX9_grow_17 rfl ?_
  refine z_iload_n (i := 3) dX9_grow_19 rfl rfl ?_
  refine zb_icmp_gt (tgt := 45) dX9_grow_20 (by decide) h.1 ⟨fun c => ?_, fun c => ?_⟩
  · replace h := h.2.1 c
    refine z_aloadR_n (i := 0) dX9_grow_45 rfl rfl ?_
    refine z_getR 9 0 (idx := 7) ly153 (by decide) (by decide) rfl (show 153 < 166 by decide) rfl rt_153_0 wf_X9_7 dX9_grow_46 ?_
    refine z_iconst dX9_grow_49 ?_
    refine z_iaload' (fv := (d 154 4)) ly154 (show 154 < 166 by decide) (by decide) dX9_grow_50 (by decide) rfl ?_
    refine z_iconst dX9_grow_51 ?_
    refine z_isub dX9_grow_52 ?_
    refine z_istore (i := 4) (ls2 := [some (zR 153), some (zI x1), some (zI x2), some (zI x3), some (zI ((d 154 4) - 1)), none]) dX9_grow_53 (by decide) rfl ?_
    exact h
  · replace h := h.2.2 c
    refine z_aloadR_n (i := 0) dX9_grow_23 rfl rfl ?_
    refine z_getR 9 12 (idx := 38) ly153 (by decide) (by decide) rfl (show 153 < 166 by decide) rfl rt_153_12 wf_X9_38 dX9_grow_24 ?_
    refine z_iload (i := 4) dX9_grow_27 rfl ?_
    refine z_iload_n (i := 2) dX9_grow_29 rfl rfl ?_
    refine z_isub dX9_grow_30 ?_
    refine z_aloadR_n (i := 0) dX9_grow_31 rfl rfl ?_
    refine z_iload_n (i := 1) dX9_grow_32 rfl rfl ?_
    refine z_iload (i := 4) dX9_grow_33 rfl ?_
    refine z_callVi (k' := M_X9_bank) (As := [zI x1, zI x4]) (st := [zI (x4 - x2), zR 163]) dX9_grow_35 rfl ly153 (by decide) rfl (show 153 < 166 by decide) wm_X9_76 ok_X9_bank okV_X9_bank rfl (zroom_self (by decide) (by decide)) (Nat.le_of_ble_eq_true rfl) (Nat.le_refl _) rfl (Ev_mono h (fun v1 d1 h => ?_))
    refine z_iastore ly163 (show 163 < 166 by decide) (by decide) dX9_grow_38 h.1 ?_
    replace h := h.2
    generalize hd2 : mu d1 163 (x4 - x2) v1 = d2
    replace hd2 := hd2.symm
    replace h := h d2 hd2
    refine z_iinc (i := 4) (ls2 := [some (zR 153), some (zI x1), some (zI x2), some (zI x3), some (zI (x4 + 1)), none]) dX9_grow_39 (by decide) rfl rfl ?_
    refine z_goto (tgt := 17) dX9_grow_42 (by decide) ?_
    exact h
set_option maxRecDepth 20000 in
theorem v_X9_grow_55 {g : zGG} {Q : Int → zMem → Prop} {d : zMem} {x1 : Int} {x2 : Int} {x3 : Int} {x4 : Int} (h : ((inR x4 ∧ inR x3) ∧ (x4 < x3 → (Fr g (eM g M_X9_grow FUL FUL Q) M_X9_grow FUL 90 [some (zR 153), some (zI x1), some (zI x2), some (zI x3), some (zI x2), none] [] d)) ∧ (x3 ≤ x4 → (0 ≤ (5 + x4) ∧ (5 + x4) < 1407) ∧ (0 ≤ ((5 + x4) + 2) ∧ ((5 + x4) + 2) < 1407) ∧ ∀ d1, d1 = mu d 154 ((5 + x4) + 2) (d 154 (5 + x4)) → (Fr g (eM g M_X9_grow FUL FUL Q) M_X9_grow FUL 55 [some (zR 153), some (zI x1), some (zI x2), some (zI x3), some (zI (x4 + (-1))), none] [] d1)))) : Fr g (eM g M_X9_grow FUL FUL Q) M_X9_grow FUL 55 [some (zR 153), some (zI x1), some (zI x2), some (zI x3), some (zI x4), none] [] d := by
  refine z_iload (i := 4) dX9_grow_55 rfl ?_
  refine z_iload_n (i := 3) dX9_grow_57 rfl rfl ?_
  refine zb_icmp_lt (tgt := 87) dX9_grow_58 (by decide) h.1 ⟨fun c => ?_, fun c => ?_⟩
  · replace h := h.2.1 c
    refine z_iload_n (i := 2) dX9_grow_87 rfl rfl ?_
    refine z_istore (i := 4) (ls2 := [some (zR 153), some (zI x1), some (zI x2), some (zI x3), some (zI x2), none]) dX9_grow_88 (by decide) rfl ?_
    exact h
  · replace h := h.2.2 c
    refine z_aloadR_n (i := 0) dX9_grow_61 rfl rfl ?_
    refine z_getR 9 0 (idx := 7) ly153 (by decide) (by decide) rfl (show 153 < 166 by decide) rfl rt_153_0 wf_X9_7 dX9_grow_62 ?_
    refine z_iconst dX9_grow_65 ?_
    refine z_iload (i := 4) dX9_grow_66 rfl ?_
    refine z_iadd dX9_grow_68 ?_
    refine z_iconst dX9_grow_69 ?_
    refine z_iadd dX9_grow_70 ?_
    refine z_aloadR_n (i := 0) dX9_grow_71 rfl rfl ?_
    refine z_getR 9 0 (idx := 7) ly153 (by decide) (by decide) rfl (show 153 < 166 by decide) rfl rt_153_0 wf_X9_7 dX9_grow_72 ?_
    refine z_iconst dX9_grow_75 ?_
    refine z_iload (i := 4) dX9_grow_76 rfl ?_
    refine z_iadd dX9_grow_78 ?_
    refine z_iaload' (fv := (d 154 (5 + x4))) ly154 (show 154 < 166 by decide) (by decide) dX9_grow_79 h.1 rfl ?_
    replace h := h.2
    refine z_iastore ly154 (show 154 < 166 by decide) (by decide) dX9_grow_80 h.1 ?_
    replace h := h.2
    generalize hd1 : mu d 154 ((5 + x4) + 2) (d 154 (5 + x4)) = d1
    replace hd1 := hd1.symm
    replace h := h d1 hd1
    refine z_iinc (i := 4) (ls2 := [some (zR 153), some (zI x1), some (zI x2), some (zI x3), some (zI (x4 + (-1))), none]) dX9_grow_81 (by decide) rfl rfl ?_
    refine z_goto (tgt := 55) dX9_grow_84 (by decide) ?_
    exact h
set_option maxRecDepth 20000 in
theorem v_X9_grow_90 {g : zGG} {Q : Int → zMem → Prop} {d : zMem} {x1 : Int} {x2 : Int} {x3 : Int} {x4 : Int} (h : ((inR x4 ∧ inR x3) ∧ (x3 < x4 → ∀ d1, d1 = mu d 154 4 ((d 154 4) + 2) → ∀ d2, d2 = mu d1 154 1406 ((d1 154 1406) + 1) → Q (x3 + 2) d2) ∧ (x4 ≤ x3 → (0 ≤ (x4 - x2) ∧ (x4 - x2) < 150) ∧ (0 ≤ ((5 + x4) + 1) ∧ ((5 + x4) + 1) < 1407) ∧ ∀ d3, d3 = mu d 154 ((5 + x4) + 1) (d 163 (x4 - x2)) → (0 ≤ (155 + (d 163 (x4 - x2))) ∧ (155 + (d 163 (x4 - x2))) < 1407) ∧ ∀ d4, d4 = mu d3 154 (155 + (d 163 (x4 - x2))) 0 → ((inR (d 153 14)) ∧ ((d 153 14) ≠ 0 → ∀ d5, d5 = mu d4 153 14 1 → (0 ≤ (1115 + (d 163 (x4 - x2))) ∧ (1115 + (d 163 (x4 - x2))) < 1407) ∧ ((inR (d4 154 (1115 + (d 163 (x4 - x2))))) ∧ ((d4 154 (1115 + (d 163 (x4 - x2)))) = (-6) → (Fr g (eM g M_X9_grow FUL FUL Q) M_X9_grow FUL 90 [some (zR 153), some (zI x1), some (zI x2), some (zI x3), some (zI (x4 + 1)), none] [] d5)) ∧ ((d4 154 (1115 + (d 163 (x4 - x2)))) ≠ (-6) → (0 ≤ (1115 + (d 163 (x4 - x2))) ∧ (1115 + (d 163 (x4 - x2))) < 1407) ∧ Ev g M_X9_dropOxbow FUL FUL [zR 153, zI (d4 154 (1115 + (d 163 (x4 - x2))))] d5 (fun _ d6 => (Fr g (eM g M_X9_grow FUL FUL Q) M_X9_grow FUL 90 [some (zR 153), some (zI x1), some (zI x2), some (zI x3), some (zI (x4 + 1)), none] [] d6))))) ∧ ((d 153 14) = 0 → ((inR (d 163 (x4 - x2)) ∧ inR (d 153 13)) ∧ ((d 163 (x4 - x2)) ≠ (d 153 13) → ∀ d7, d7 = mu d4 153 14 0 → (0 ≤ (1115 + (d 163 (x4 - x2))) ∧ (1115 + (d 163 (x4 - x2))) < 1407) ∧ ((inR (d4 154 (1115 + (d 163 (x4 - x2))))) ∧ ((d4 154 (1115 + (d 163 (x4 - x2)))) = (-6) → (Fr g (eM g M_X9_grow FUL FUL Q) M_X9_grow FUL 90 [some (zR 153), some (zI x1), some (zI x2), some (zI x3), some (zI (x4 + 1)), none] [] d7)) ∧ ((d4 154 (1115 + (d 163 (x4 - x2)))) ≠ (-6) → (0 ≤ (1115 + (d 163 (x4 - x2))) ∧ (1115 + (d 163 (x4 - x2))) < 1407) ∧ Ev g M_X9_dropOxbow FUL FUL [zR 153, zI (d4 154 (1115 + (d 163 (x4 - x2))))] d7 (fun _ d8 => (Fr g (eM g M_X9_grow FUL FUL Q) M_X9_grow FUL 90 [some (zR 153), some (zI x1), some (zI x2), some (zI x3), some (zI (x4 + 1)), none] [] d8))))) ∧ ((d 163 (x4 - x2)) = (d 153 13) → ∀ d9, d9 = mu d4 153 14 1 → (0 ≤ (1115 + (d 163 (x4 - x2))) ∧ (1115 + (d 163 (x4 - x2))) < 1407) ∧ ((inR (d4 154 (1115 + (d 163 (x4 - x2))))) ∧ ((d4 154 (1115 + (d 163 (x4 - x2)))) = (-6) → (Fr g (eM g M_X9_grow FUL FUL Q) M_X9_grow FUL 90 [some (zR 153), some (zI x1), some (zI x2), some (zI x3), some (zI (x4 + 1)), none] [] d9)) ∧ ((d4 154 (1115 + (d 163 (x4 - x2)))) ≠ (-6) → (0 ≤ (1115 + (d 163 (x4 - x2))) ∧ (1115 + (d 163 (x4 - x2))) < 1407) ∧ Ev g M_X9_dropOxbow FUL FUL [zR 153, zI (d4 154 (1115 + (d 163 (x4 - x2))))] d9 (fun _ d10 => (Fr g (eM g M_X9_grow FUL FUL Q) M_X9_grow FUL 90 [some (zR 153), some (zI x1), some (zI x2), some (zI x3), some (zI (x4 + 1)), none] [] d10))))))))))) : Fr g (eM g M_X9_grow FUL FUL Q) M_X9_grow FUL 90 [some (zR 153), some (zI x1), some (zI x2), some (zI x3), some (zI x4), none] [] d := by
  refine z_iload (i := 4) dX9_grow_90 rfl ?_
  refine z_iload_n (i := 3) dX9_grow_92 rfl rfl ?_
  refine zb_icmp_gt (tgt := 194) dX9_grow_93 (by decide) h.1 ⟨fun c => ?_, fun c => ?_⟩
  · replace h := h.2.1 c
    refine z_aloadR_n (i := 0) dX9_grow_194 rfl rfl ?_
    refine z_getR 9 0 (idx := 7) ly153 (by decide) (by decide) rfl (show 153 < 166 by decide) rfl rt_153_0 wf_X9_7 dX9_grow_195 ?_
    refine z_iconst dX9_grow_198 ?_
    refine z_dup2 dX9_grow_199 (Nat.le_of_ble_eq_true rfl) (Nat.le_of_ble_eq_true rfl) ?_
    refine z_iaload' (fv := (d 154 4)) ly154 (show 154 < 166 by decide) (by decide) dX9_grow_200 (by decide) rfl ?_
    refine z_iconst dX9_grow_201 ?_
    refine z_iadd dX9_grow_202 ?_
    refine z_iastore ly154 (show 154 < 166 by decide) (by decide) dX9_grow_203 (by decide) ?_
    generalize hd1 : mu d 154 4 ((d 154 4) + 2) = d1
    replace hd1 := hd1.symm
    replace h := h d1 hd1
    refine z_aloadR_n (i := 0) dX9_grow_204 rfl rfl ?_
    refine z_getR 9 0 (idx := 7) ly153 (by decide) (by decide) rfl (show 153 < 166 by decide) rfl rt_153_0 wf_X9_7 dX9_grow_205 ?_
    refine z_sipush dX9_grow_208 (by decide +kernel) ?_
    refine z_dup2 dX9_grow_211 (Nat.le_of_ble_eq_true rfl) (Nat.le_of_ble_eq_true rfl) ?_
    refine z_iaload' (fv := (d1 154 1406)) ly154 (show 154 < 166 by decide) (by decide) dX9_grow_212 (by decide) rfl ?_
    refine z_iconst dX9_grow_213 ?_
    refine z_iadd dX9_grow_214 ?_
    refine z_iastore ly154 (show 154 < 166 by decide) (by decide) dX9_grow_215 (by decide) ?_
    generalize hd2 : mu d1 154 1406 ((d1 154 1406) + 1) = d2
    replace hd2 := hd2.symm
    replace h := h d2 hd2
    refine z_iload_n (i := 3) dX9_grow_216 rfl rfl ?_
    refine z_iconst dX9_grow_217 ?_
    refine z_iadd dX9_grow_218 ?_
    exact zret_i rfl dX9_grow_219 h
  · replace h := h.2.2 c
    refine z_aloadR_n (i := 0) dX9_grow_96 rfl rfl ?_
    refine z_getR 9 12 (idx := 38) ly153 (by decide) (by decide) rfl (show 153 < 166 by decide) rfl rt_153_12 wf_X9_38 dX9_grow_97 ?_
    refine z_iload (i := 4) dX9_grow_100 rfl ?_
    refine z_iload_n (i := 2) dX9_grow_102 rfl rfl ?_
    refine z_isub dX9_grow_103 ?_
    refine z_iaload' (fv := (d 163 (x4 - x2))) ly163 (show 163 < 166 by decide) (by decide) dX9_grow_104 h.1 rfl ?_
    replace h := h.2
    refine z_istore (i := 5) (ls2 := [some (zR 153), some (zI x1), some (zI x2), some (zI x3), some (zI x4), some (zI (d 163 (x4 - x2)))]) dX9_grow_105 (by decide) rfl ?_
    refine z_aloadR_n (i := 0) dX9_grow_107 rfl rfl ?_
    refine z_getR 9 0 (idx := 7) ly153 (by decide) (by decide) rfl (show 153 < 166 by decide) rfl rt_153_0 wf_X9_7 dX9_grow_108 ?_
    refine z_iconst dX9_grow_111 ?_
    refine z_iload (i := 4) dX9_grow_112 rfl ?_
    refine z_iadd dX9_grow_114 ?_
    refine z_iconst dX9_grow_115 ?_
    refine z_iadd dX9_grow_116 ?_
    refine z_iload (i := 5) dX9_grow_117 rfl ?_
    refine z_iastore ly154 (show 154 < 166 by decide) (by decide) dX9_grow_119 h.1 ?_
    replace h := h.2
    generalize hd3 : mu d 154 ((5 + x4) + 1) (d 163 (x4 - x2)) = d3
    replace hd3 := hd3.symm
    replace h := h d3 hd3
    refine z_aloadR_n (i := 0) dX9_grow_120 rfl rfl ?_
    refine z_getR 9 0 (idx := 7) ly153 (by decide) (by decide) rfl (show 153 < 166 by decide) rfl rt_153_0 wf_X9_7 dX9_grow_121 ?_
    refine z_sipush dX9_grow_124 (by decide +kernel) ?_
    refine z_iload (i := 5) dX9_grow_127 rfl ?_
    refine z_iadd dX9_grow_129 ?_
    refine z_iconst dX9_grow_130 ?_
    refine z_iastore ly154 (show 154 < 166 by decide) (by decide) dX9_grow_131 h.1 ?_
    replace h := h.2
    generalize hd4 : mu d3 154 (155 + (d 163 (x4 - x2))) 0 = d4
    replace hd4 := hd4.symm
    replace h := h d4 hd4
    refine z_aloadR_n (i := 0) dX9_grow_132 rfl rfl ?_
    refine z_aloadR_n (i := 0) dX9_grow_133 rfl rfl ?_
    refine z_getI' 9 14 (idx := 86) (fv := (d 153 14)) ly153 (by decide) (by decide) rfl (show 153 < 166 by decide) wf_X9_86 dX9_grow_134 (by show d4 153 14 = _; rw [hd4, mu_na (by omega)]; rw [hd3, mu_na (by omega)]) ?_
    refine zb_if_ne (tgt := 149) dX9_grow_137 (by decide) h.1 ⟨fun c => ?_, fun c => ?_⟩
    · replace h := h.2.1 c
      refine z_iconst dX9_grow_149 ?_
      refine z_goto (tgt := 154) dX9_grow_150 (by decide) ?_
      refine z_putI 9 14 (idx := 86) ly153 (by decide) (by decide) rfl (show 153 < 166 by decide) rfl wf_X9_86 dX9_grow_154 (Or.inr ⟨rfl, by decide⟩) ?_
      generalize hd5 : mu d4 153 ((14 : Nat) : Int) 1 = d5
      replace hd5 : d5 = mu d4 153 14 1 := hd5.symm
      replace h := h d5 hd5
      refine z_aloadR_n (i := 0) dX9_grow_157 rfl rfl ?_
      refine z_getR 9 0 (idx := 7) ly153 (by decide) (by decide) rfl (show 153 < 166 by decide) rfl rt_153_0 wf_X9_7 dX9_grow_158 ?_
      refine z_sipush dX9_grow_161 (by decide +kernel) ?_
      refine z_iload (i := 5) dX9_grow_164 rfl ?_
      refine z_iadd dX9_grow_166 ?_
      refine z_iaload' (fv := (d4 154 (1115 + (d 163 (x4 - x2))))) ly154 (show 154 < 166 by decide) (by decide) dX9_grow_167 h.1 (by rw [hd5, mu_na (by omega)]) ?_
      replace h := h.2
      refine z_bipush dX9_grow_168 (by decide +kernel) ?_
      refine zb_icmp_eq (tgt := 188) dX9_grow_170 (by decide) ⟨h.1, by decide⟩ ⟨fun c => ?_, fun c => ?_⟩
      · replace h := h.2.1 c
        refine z_iinc (i := 4) (ls2 := [some (zR 153), some (zI x1), some (zI x2), some (zI x3), some (zI (x4 + 1)), some (zI (d 163 (x4 - x2)))]) dX9_grow_188 (by decide) rfl rfl ?_
        refine z_goto (tgt := 90) dX9_grow_191 (by decide) ?_
        exact Fr_weak (ls2 := [some (zR 153), some (zI x1), some (zI x2), some (zI x3), some (zI (x4 + 1)), none]) (by exact ⟨Or.inr rfl, Or.inr rfl, Or.inr rfl, Or.inr rfl, Or.inr rfl, Or.inl rfl, trivial⟩) h
      · replace h := h.2.2 c
        refine z_aloadR_n (i := 0) dX9_grow_173 rfl rfl ?_
        refine z_aloadR_n (i := 0) dX9_grow_174 rfl rfl ?_
        refine z_getR 9 0 (idx := 7) ly153 (by decide) (by decide) rfl (show 153 < 166 by decide) rfl rt_153_0 wf_X9_7 dX9_grow_175 ?_
        refine z_sipush dX9_grow_178 (by decide +kernel) ?_
        refine z_iload (i := 5) dX9_grow_181 rfl ?_
        refine z_iadd dX9_grow_183 ?_
        refine z_iaload' (fv := (d4 154 (1115 + (d 163 (x4 - x2))))) ly154 (show 154 < 166 by decide) (by decide) dX9_grow_184 h.1 (by rw [hd5, mu_na (by omega)]) ?_
        replace h := h.2
        refine z_callVv (k' := M_X9_dropOxbow) (As := [zI (d4 154 (1115 + (d 163 (x4 - x2))))]) (st := []) dX9_grow_185 rfl ly153 (by decide) rfl (show 153 < 166 by decide) wm_X9_93 ok_X9_dropOxbow okV_X9_dropOxbow rfl (zroom_self (by decide) (by decide)) (Nat.le_of_ble_eq_true rfl) (Nat.le_refl _) rfl (Ev_mono h (fun _ d6 h => ?_))
        refine z_iinc (i := 4) (ls2 := [some (zR 153), some (zI x1), some (zI x2), some (zI x3), some (zI (x4 + 1)), some (zI (d 163 (x4 - x2)))]) dX9_grow_188 (by decide) rfl rfl ?_
        refine z_goto (tgt := 90) dX9_grow_191 (by decide) ?_
        exact Fr_weak (ls2 := [some (zR 153), some (zI x1), some (zI x2), some (zI x3), some (zI (x4 + 1)), none]) (by exact ⟨Or.inr rfl, Or.inr rfl, Or.inr rfl, Or.inr rfl, Or.inr rfl, Or.inl rfl, trivial⟩) h
    · replace h := h.2.2 c
      refine z_iload (i := 5) dX9_grow_140 rfl ?_
      refine z_aloadR_n (i := 0) dX9_grow_142 rfl rfl ?_
      refine z_getI' 9 13 (idx := 90) (fv := (d 153 13)) ly153 (by decide) (by decide) rfl (show 153 < 166 by decide) wf_X9_90 dX9_grow_143 (by show d4 153 13 = _; rw [hd4, mu_na (by omega)]; rw [hd3, mu_na (by omega)]) ?_
      refine zb_icmp_ne (tgt := 153) dX9_grow_146 (by decide) h.1 ⟨fun c => ?_, fun c => ?_⟩
      · replace h := h.2.1 c
        refine z_iconst dX9_grow_153 ?_
        refine z_putI 9 14 (idx := 86) ly153 (by decide) (by decide) rfl (show 153 < 166 by decide) rfl wf_X9_86 dX9_grow_154 (Or.inr ⟨rfl, by decide⟩) ?_
        generalize hd7 : mu d4 153 ((14 : Nat) : Int) 0 = d7
        replace hd7 : d7 = mu d4 153 14 0 := hd7.symm
        replace h := h d7 hd7
        refine z_aloadR_n (i := 0) dX9_grow_157 rfl rfl ?_
        refine z_getR 9 0 (idx := 7) ly153 (by decide) (by decide) rfl (show 153 < 166 by decide) rfl rt_153_0 wf_X9_7 dX9_grow_158 ?_
        refine z_sipush dX9_grow_161 (by decide +kernel) ?_
        refine z_iload (i := 5) dX9_grow_164 rfl ?_
        refine z_iadd dX9_grow_166 ?_
        refine z_iaload' (fv := (d4 154 (1115 + (d 163 (x4 - x2))))) ly154 (show 154 < 166 by decide) (by decide) dX9_grow_167 h.1 (by rw [hd7, mu_na (by omega)]) ?_
        replace h := h.2
        refine z_bipush dX9_grow_168 (by decide +kernel) ?_
        refine zb_icmp_eq (tgt := 188) dX9_grow_170 (by decide) ⟨h.1, by decide⟩ ⟨fun c => ?_, fun c => ?_⟩
        · replace h := h.2.1 c
          refine z_iinc (i := 4) (ls2 := [some (zR 153), some (zI x1), some (zI x2), some (zI x3), some (zI (x4 + 1)), some (zI (d 163 (x4 - x2)))]) dX9_grow_188 (by decide) rfl rfl ?_
          refine z_goto (tgt := 90) dX9_grow_191 (by decide) ?_
          exact Fr_weak (ls2 := [some (zR 153), some (zI x1), some (zI x2), some (zI x3), some (zI (x4 + 1)), none]) (by exact ⟨Or.inr rfl, Or.inr rfl, Or.inr rfl, Or.inr rfl, Or.inr rfl, Or.inl rfl, trivial⟩) h
        · replace h := h.2.2 c
          refine z_aloadR_n (i := 0) dX9_grow_173 rfl rfl ?_
          refine z_aloadR_n (i := 0) dX9_grow_174 rfl rfl ?_
          refine z_getR 9 0 (idx := 7) ly153 (by decide) (by decide) rfl (show 153 < 166 by decide) rfl rt_153_0 wf_X9_7 dX9_grow_175 ?_
          refine z_sipush dX9_grow_178 (by decide +kernel) ?_
          refine z_iload (i := 5) dX9_grow_181 rfl ?_
          refine z_iadd dX9_grow_183 ?_
          refine z_iaload' (fv := (d4 154 (1115 + (d 163 (x4 - x2))))) ly154 (show 154 < 166 by decide) (by decide) dX9_grow_184 h.1 (by rw [hd7, mu_na (by omega)]) ?_
          replace h := h.2
          refine z_callVv (k' := M_X9_dropOxbow) (As := [zI (d4 154 (1115 + (d 163 (x4 - x2))))]) (st := []) dX9_grow_185 rfl ly153 (by decide) rfl (show 153 < 166 by decide) wm_X9_93 ok_X9_dropOxbow okV_X9_dropOxbow rfl (zroom_self (by decide) (by decide)) (Nat.le_of_ble_eq_true rfl) (Nat.le_refl _) rfl (Ev_mono h (fun _ d8 h => ?_))
          refine z_iinc (i := 4) (ls2 := [some (zR 153), some (zI x1), some (zI x2), some (zI x3), some (zI (x4 + 1)), some (zI (d 163 (x4 - x2)))]) dX9_grow_188 (by decide) rfl rfl ?_
          refine z_goto (tgt := 90) dX9_grow_191 (by decide) ?_
          exact Fr_weak (ls2 := [some (zR 153), some (zI x1), some (zI x2), some (zI x3), some (zI (x4 + 1)), none]) (by exact ⟨Or.inr rfl, Or.inr rfl, Or.inr rfl, Or.inr rfl, Or.inr rfl, Or.inl rfl, trivial⟩) h
      · replace h := h.2.2 c
        refine z_iconst dX9_grow_149 ?_
        refine z_goto (tgt := 154) dX9_grow_150 (by decide) ?_
        refine z_putI 9 14 (idx := 86) ly153 (by decide) (by decide) rfl (show 153 < 166 by decide) rfl wf_X9_86 dX9_grow_154 (Or.inr ⟨rfl, by decide⟩) ?_
        generalize hd9 : mu d4 153 ((14 : Nat) : Int) 1 = d9
        replace hd9 : d9 = mu d4 153 14 1 := hd9.symm
        replace h := h d9 hd9
        refine z_aloadR_n (i := 0) dX9_grow_157 rfl rfl ?_
        refine z_getR 9 0 (idx := 7) ly153 (by decide) (by decide) rfl (show 153 < 166 by decide) rfl rt_153_0 wf_X9_7 dX9_grow_158 ?_
        refine z_sipush dX9_grow_161 (by decide +kernel) ?_
        refine z_iload (i := 5) dX9_grow_164 rfl ?_
        refine z_iadd dX9_grow_166 ?_
        refine z_iaload' (fv := (d4 154 (1115 + (d 163 (x4 - x2))))) ly154 (show 154 < 166 by decide) (by decide) dX9_grow_167 h.1 (by rw [hd9, mu_na (by omega)]) ?_
        replace h := h.2
        refine z_bipush dX9_grow_168 (by decide +kernel) ?_
        refine zb_icmp_eq (tgt := 188) dX9_grow_170 (by decide) ⟨h.1, by decide⟩ ⟨fun c => ?_, fun c => ?_⟩
        · replace h := h.2.1 c
          refine z_iinc (i := 4) (ls2 := [some (zR 153), some (zI x1), some (zI x2), some (zI x3), some (zI (x4 + 1)), some (zI (d 163 (x4 - x2)))]) dX9_grow_188 (by decide) rfl rfl ?_
          refine z_goto (tgt := 90) dX9_grow_191 (by decide) ?_
          exact Fr_weak (ls2 := [some (zR 153), some (zI x1), some (zI x2), some (zI x3), some (zI (x4 + 1)), none]) (by exact ⟨Or.inr rfl, Or.inr rfl, Or.inr rfl, Or.inr rfl, Or.inr rfl, Or.inl rfl, trivial⟩) h
        · replace h := h.2.2 c
          refine z_aloadR_n (i := 0) dX9_grow_173 rfl rfl ?_
          refine z_aloadR_n (i := 0) dX9_grow_174 rfl rfl ?_
          refine z_getR 9 0 (idx := 7) ly153 (by decide) (by decide) rfl (show 153 < 166 by decide) rfl rt_153_0 wf_X9_7 dX9_grow_175 ?_
          refine z_sipush dX9_grow_178 (by decide +kernel) ?_
          refine z_iload (i := 5) dX9_grow_181 rfl ?_
          refine z_iadd dX9_grow_183 ?_
          refine z_iaload' (fv := (d4 154 (1115 + (d 163 (x4 - x2))))) ly154 (show 154 < 166 by decide) (by decide) dX9_grow_184 h.1 (by rw [hd9, mu_na (by omega)]) ?_
          replace h := h.2
          refine z_callVv (k' := M_X9_dropOxbow) (As := [zI (d4 154 (1115 + (d 163 (x4 - x2))))]) (st := []) dX9_grow_185 rfl ly153 (by decide) rfl (show 153 < 166 by decide) wm_X9_93 ok_X9_dropOxbow okV_X9_dropOxbow rfl (zroom_self (by decide) (by decide)) (Nat.le_of_ble_eq_true rfl) (Nat.le_refl _) rfl (Ev_mono h (fun _ d10 h => ?_))
          refine z_iinc (i := 4) (ls2 := [some (zR 153), some (zI x1), some (zI x2), some (zI x3), some (zI (x4 + 1)), some (zI (d 163 (x4 - x2)))]) dX9_grow_188 (by decide) rfl rfl ?_
          refine z_goto (tgt := 90) dX9_grow_191 (by decide) ?_
          exact Fr_weak (ls2 := [some (zR 153), some (zI x1), some (zI x2), some (zI x3), some (zI (x4 + 1)), none]) (by exact ⟨Or.inr rfl, Or.inr rfl, Or.inr rfl, Or.inr rfl, Or.inr rfl, Or.inl rfl, trivial⟩) h
set_option maxRecDepth 20000 in
theorem v_X9_pair_0 {g : zGG} {Q : Int → zMem → Prop} {d : zMem} {x0 : Int} {x1 : Int}  (h : ((inR x0 ∧ inR x1) ∧ (x1 ≤ x0 → ((inR x0 ∧ inR x1) ∧ (x1 ≤ x0 → ((inR (x0 - x1)) ∧ ((x0 - x1) ≠ 1 → Q ((635 + (2 * x1)) + 1) d) ∧ ((x0 - x1) = 1 → Q ((635 + (2 * x1)) + 0) d))) ∧ (x0 < x1 → ((inR (x1 - x0)) ∧ ((x1 - x0) ≠ 1 → Q ((635 + (2 * x1)) + 1) d) ∧ ((x1 - x0) = 1 → Q ((635 + (2 * x1)) + 0) d))))) ∧ (x0 < x1 → ((inR x0 ∧ inR x1) ∧ (x1 ≤ x0 → ((inR (x0 - x1)) ∧ ((x0 - x1) ≠ 1 → Q ((635 + (2 * x0)) + 1) d) ∧ ((x0 - x1) = 1 → Q ((635 + (2 * x0)) + 0) d))) ∧ (x0 < x1 → ((inR (x1 - x0)) ∧ ((x1 - x0) ≠ 1 → Q ((635 + (2 * x0)) + 1) d) ∧ ((x1 - x0) = 1 → Q ((635 + (2 * x0)) + 0) d))))))) : Fr g (eM g M_X9_pair FUL FUL Q) M_X9_pair FUL 0 [some (zI x0), some (zI x1), none, none] [] d := by
  refine z_iload_n (i := 0) dX9_pair_0 rfl rfl ?_
  refine z_iload_n (i := 1) dX9_pair_1 rfl rfl ?_
  refine zb_icmp_ge (tgt := 9) dX9_pair_2 (by decide) h.1 ⟨fun c => ?_, fun c => ?_⟩
  · replace h := h.2.1 c
    refine z_iload_n (i := 1) dX9_pair_9 rfl rfl ?_
    refine z_istore_n (i := 2) (ls2 := [some (zI x0), some (zI x1), some (zI x1), none]) dX9_pair_10 rfl (by decide) rfl ?_
    refine z_iload_n (i := 0) dX9_pair_11 rfl rfl ?_
    refine z_iload_n (i := 1) dX9_pair_12 rfl rfl ?_
    refine zb_icmp_ge (tgt := 22) dX9_pair_13 (by decide) h.1 ⟨fun c => ?_, fun c => ?_⟩
    · replace h := h.2.1 c
      refine z_iload_n (i := 0) dX9_pair_22 rfl rfl ?_
      refine z_iload_n (i := 1) dX9_pair_23 rfl rfl ?_
      refine z_isub dX9_pair_24 ?_
      refine z_istore_n (i := 3) (ls2 := [some (zI x0), some (zI x1), some (zI x1), some (zI (x0 - x1))]) dX9_pair_25 rfl (by decide) rfl ?_
      refine z_sipush dX9_pair_26 (by decide +kernel) ?_
      refine z_iconst dX9_pair_29 ?_
      refine z_iload_n (i := 2) dX9_pair_30 rfl rfl ?_
      refine z_imul dX9_pair_31 ?_
      refine z_iadd dX9_pair_32 ?_
      refine z_iload_n (i := 3) dX9_pair_33 rfl rfl ?_
      refine z_iconst dX9_pair_34 ?_
      refine zb_icmp_ne (tgt := 42) dX9_pair_35 (by decide) ⟨h.1, by decide⟩ ⟨fun c => ?_, fun c => ?_⟩
      · replace h := h.2.1 c
        refine z_iconst dX9_pair_42 ?_
        refine z_iadd dX9_pair_43 ?_
        exact zret_i rfl dX9_pair_44 h
      · replace h := h.2.2 c
        refine z_iconst dX9_pair_38 ?_
        refine z_goto (tgt := 43) dX9_pair_39 (by decide) ?_
        refine z_iadd dX9_pair_43 ?_
        exact zret_i rfl dX9_pair_44 h
    · replace h := h.2.2 c
      refine z_iload_n (i := 1) dX9_pair_16 rfl rfl ?_
      refine z_iload_n (i := 0) dX9_pair_17 rfl rfl ?_
      refine z_isub dX9_pair_18 ?_
      refine z_goto (tgt := 25) dX9_pair_19 (by decide) ?_
      refine z_istore_n (i := 3) (ls2 := [some (zI x0), some (zI x1), some (zI x1), some (zI (x1 - x0))]) dX9_pair_25 rfl (by decide) rfl ?_
      refine z_sipush dX9_pair_26 (by decide +kernel) ?_
      refine z_iconst dX9_pair_29 ?_
      refine z_iload_n (i := 2) dX9_pair_30 rfl rfl ?_
      refine z_imul dX9_pair_31 ?_
      refine z_iadd dX9_pair_32 ?_
      refine z_iload_n (i := 3) dX9_pair_33 rfl rfl ?_
      refine z_iconst dX9_pair_34 ?_
      refine zb_icmp_ne (tgt := 42) dX9_pair_35 (by decide) ⟨h.1, by decide⟩ ⟨fun c => ?_, fun c => ?_⟩
      · replace h := h.2.1 c
        refine z_iconst dX9_pair_42 ?_
        refine z_iadd dX9_pair_43 ?_
        exact zret_i rfl dX9_pair_44 h
      · replace h := h.2.2 c
        refine z_iconst dX9_pair_38 ?_
        refine z_goto (tgt := 43) dX9_pair_39 (by decide) ?_
        refine z_iadd dX9_pair_43 ?_
        exact zret_i rfl dX9_pair_44 h
  · replace h := h.2.2 c
    refine z_iload_n (i := 0) dX9_pair_5 rfl rfl ?_
    refine z_goto (tgt := 10) dX9_pair_6 (by decide) ?_
    refine z_istore_n (i := 2) (ls2 := [some (zI x0), some (zI x1), some (zI x0), none]) dX9_pair_10 rfl (by decide) rfl ?_
    refine z_iload_n (i := 0) dX9_pair_11 rfl rfl ?_
    refine z_iload_n (i := 1) dX9_pair_12 rfl rfl ?_
    refine zb_icmp_ge (tgt := 22) dX9_pair_13 (by decide) h.1 ⟨fun c => ?_, fun c => ?_⟩
    · replace h := h.2.1 c
      refine z_iload_n (i := 0) dX9_pair_22 rfl rfl ?_
      refine z_iload_n (i := 1) dX9_pair_23 rfl rfl ?_
      refine z_isub dX9_pair_24 ?_
      refine z_istore_n (i := 3) (ls2 := [some (zI x0), some (zI x1), some (zI x0), some (zI (x0 - x1))]) dX9_pair_25 rfl (by decide) rfl ?_
      refine z_sipush dX9_pair_26 (by decide +kernel) ?_
      refine z_iconst dX9_pair_29 ?_
      refine z_iload_n (i := 2) dX9_pair_30 rfl rfl ?_
      refine z_imul dX9_pair_31 ?_
      refine z_iadd dX9_pair_32 ?_
      refine z_iload_n (i := 3) dX9_pair_33 rfl rfl ?_
      refine z_iconst dX9_pair_34 ?_
      refine zb_icmp_ne (tgt := 42) dX9_pair_35 (by decide) ⟨h.1, by decide⟩ ⟨fun c => ?_, fun c => ?_⟩
      · replace h := h.2.1 c
        refine z_iconst dX9_pair_42 ?_
        refine z_iadd dX9_pair_43 ?_
        exact zret_i rfl dX9_pair_44 h
      · replace h := h.2.2 c
        refine z_iconst dX9_pair_38 ?_
        refine z_goto (tgt := 43) dX9_pair_39 (by decide) ?_
        refine z_iadd dX9_pair_43 ?_
        exact zret_i rfl dX9_pair_44 h
    · replace h := h.2.2 c
      refine z_iload_n (i := 1) dX9_pair_16 rfl rfl ?_
      refine z_iload_n (i := 0) dX9_pair_17 rfl rfl ?_
      refine z_isub dX9_pair_18 ?_
      refine z_goto (tgt := 25) dX9_pair_19 (by decide) ?_
      refine z_istore_n (i := 3) (ls2 := [some (zI x0), some (zI x1), some (zI x0), some (zI (x1 - x0))]) dX9_pair_25 rfl (by decide) rfl ?_
      refine z_sipush dX9_pair_26 (by decide +kernel) ?_
      refine z_iconst dX9_pair_29 ?_
      refine z_iload_n (i := 2) dX9_pair_30 rfl rfl ?_
      refine z_imul dX9_pair_31 ?_
      refine z_iadd dX9_pair_32 ?_
      refine z_iload_n (i := 3) dX9_pair_33 rfl rfl ?_
      refine z_iconst dX9_pair_34 ?_
      refine zb_icmp_ne (tgt := 42) dX9_pair_35 (by decide) ⟨h.1, by decide⟩ ⟨fun c => ?_, fun c => ?_⟩
      · replace h := h.2.1 c
        refine z_iconst dX9_pair_42 ?_
        refine z_iadd dX9_pair_43 ?_
        exact zret_i rfl dX9_pair_44 h
      · replace h := h.2.2 c
        refine z_iconst dX9_pair_38 ?_
        refine z_goto (tgt := 43) dX9_pair_39 (by decide) ?_
        refine z_iadd dX9_pair_43 ?_
        exact zret_i rfl dX9_pair_44 h
theorem e_X9_pair {g : zGG} {Q : Int → zMem → Prop} {d : zMem} {x0 : Int} {x1 : Int} (h : ((inR x0 ∧ inR x1) ∧ (x1 ≤ x0 → ((inR x0 ∧ inR x1) ∧ (x1 ≤ x0 → ((inR (x0 - x1)) ∧ ((x0 - x1) ≠ 1 → Q ((635 + (2 * x1)) + 1) d) ∧ ((x0 - x1) = 1 → Q ((635 + (2 * x1)) + 0) d))) ∧ (x0 < x1 → ((inR (x1 - x0)) ∧ ((x1 - x0) ≠ 1 → Q ((635 + (2 * x1)) + 1) d) ∧ ((x1 - x0) = 1 → Q ((635 + (2 * x1)) + 0) d))))) ∧ (x0 < x1 → ((inR x0 ∧ inR x1) ∧ (x1 ≤ x0 → ((inR (x0 - x1)) ∧ ((x0 - x1) ≠ 1 → Q ((635 + (2 * x0)) + 1) d) ∧ ((x0 - x1) = 1 → Q ((635 + (2 * x0)) + 0) d))) ∧ (x0 < x1 → ((inR (x1 - x0)) ∧ ((x1 - x0) ≠ 1 → Q ((635 + (2 * x0)) + 1) d) ∧ ((x1 - x0) = 1 → Q ((635 + (2 * x0)) + 0) d))))))) : Ev g M_X9_pair FUL FUL [zI x0, zI x1] d Q :=
  Ev_of (by decide +kernel) (Nat.le_of_ble_eq_true rfl) (v_X9_pair_0  h)
set_option maxRecDepth 20000 in
theorem v_X9_areNeighbours_0 {g : zGG} {Q : Int → zMem → Prop} {d : zMem} {x0 : Int} {x1 : Int}  (h : (0 ≤ x0 ∧ inR x0) ∧ (0 ≤ x1 ∧ inR x1) ∧ (0 ≤ x0 ∧ inR x0) ∧ (0 ≤ x1 ∧ inR x1) ∧ ((inR ((((x0 % 20) - (x1 % 20)) * ((x0 % 20) - (x1 % 20))) + (((x0 / 20) - (x1 / 20)) * ((x0 / 20) - (x1 / 20))))) ∧ (((((x0 % 20) - (x1 % 20)) * ((x0 % 20) - (x1 % 20))) + (((x0 / 20) - (x1 / 20)) * ((x0 / 20) - (x1 / 20)))) ≠ 1 → Q 0 d) ∧ (((((x0 % 20) - (x1 % 20)) * ((x0 % 20) - (x1 % 20))) + (((x0 / 20) - (x1 / 20)) * ((x0 / 20) - (x1 / 20)))) = 1 → Q 1 d))) : Fr g (eM g M_X9_areNeighbours FUL FUL Q) M_X9_areNeighbours FUL 0 [some (zI x0), some (zI x1), none, none] [] d := by
  refine z_iload_n (i := 0) dX9_areNeighbours_0 rfl rfl ?_
  refine z_bipush dX9_areNeighbours_1 (by decide +kernel) ?_
  refine z_irem dX9_areNeighbours_3 ⟨h.1.1, h.1.2, by decide, by decide⟩ ?_
  replace h := h.2
  refine z_iload_n (i := 1) dX9_areNeighbours_4 rfl rfl ?_
  refine z_bipush dX9_areNeighbours_5 (by decide +kernel) ?_
  refine z_irem dX9_areNeighbours_7 ⟨h.1.1, h.1.2, by decide, by decide⟩ ?_
  replace h := h.2
  refine z_isub dX9_areNeighbours_8 ?_
  refine z_istore_n (i := 2) (ls2 := [some (zI x0), some (zI x1), some (zI ((x0 % 20) - (x1 % 20))), none]) dX9_areNeighbours_9 rfl (by decide) rfl ?_
  refine z_iload_n (i := 0) dX9_areNeighbours_10 rfl rfl ?_
  refine z_bipush dX9_areNeighbours_11 (by decide +kernel) ?_
  refine z_idiv dX9_areNeighbours_13 ⟨h.1.1, h.1.2, by decide, by decide⟩ ?_
  replace h := h.2
  refine z_iload_n (i := 1) dX9_areNeighbours_14 rfl rfl ?_
  refine z_bipush dX9_areNeighbours_15 (by decide +kernel) ?_
  refine z_idiv dX9_areNeighbours_17 ⟨h.1.1, h.1.2, by decide, by decide⟩ ?_
  replace h := h.2
  refine z_isub dX9_areNeighbours_18 ?_
  refine z_istore_n (i := 3) (ls2 := [some (zI x0), some (zI x1), some (zI ((x0 % 20) - (x1 % 20))), some (zI ((x0 / 20) - (x1 / 20)))]) dX9_areNeighbours_19 rfl (by decide) rfl ?_
  refine z_iload_n (i := 2) dX9_areNeighbours_20 rfl rfl ?_
  refine z_iload_n (i := 2) dX9_areNeighbours_21 rfl rfl ?_
  refine z_imul dX9_areNeighbours_22 ?_
  refine z_iload_n (i := 3) dX9_areNeighbours_23 rfl rfl ?_
  refine z_iload_n (i := 3) dX9_areNeighbours_24 rfl rfl ?_
  refine z_imul dX9_areNeighbours_25 ?_
  refine z_iadd dX9_areNeighbours_26 ?_
  refine z_iconst dX9_areNeighbours_27 ?_
  refine zb_icmp_ne (tgt := 35) dX9_areNeighbours_28 (by decide) ⟨h.1, by decide⟩ ⟨fun c => ?_, fun c => ?_⟩
  · replace h := h.2.1 c
    refine z_iconst dX9_areNeighbours_35 ?_
    exact zret_z rfl dX9_areNeighbours_36 (by decide) h
  · replace h := h.2.2 c
    refine z_iconst dX9_areNeighbours_31 ?_
    refine z_goto (tgt := 36) dX9_areNeighbours_32 (by decide) ?_
    exact zret_z rfl dX9_areNeighbours_36 (by decide) h
theorem e_X9_areNeighbours {g : zGG} {Q : Int → zMem → Prop} {d : zMem} {x0 : Int} {x1 : Int} (h : (0 ≤ x0 ∧ inR x0) ∧ (0 ≤ x1 ∧ inR x1) ∧ (0 ≤ x0 ∧ inR x0) ∧ (0 ≤ x1 ∧ inR x1) ∧ ((inR ((((x0 % 20) - (x1 % 20)) * ((x0 % 20) - (x1 % 20))) + (((x0 / 20) - (x1 / 20)) * ((x0 / 20) - (x1 / 20))))) ∧ (((((x0 % 20) - (x1 % 20)) * ((x0 % 20) - (x1 % 20))) + (((x0 / 20) - (x1 / 20)) * ((x0 / 20) - (x1 / 20)))) ≠ 1 → Q 0 d) ∧ (((((x0 % 20) - (x1 % 20)) * ((x0 % 20) - (x1 % 20))) + (((x0 / 20) - (x1 / 20)) * ((x0 / 20) - (x1 / 20)))) = 1 → Q 1 d))) : Ev g M_X9_areNeighbours FUL FUL [zI x0, zI x1] d Q :=
  Ev_of (by decide +kernel) (Nat.le_of_ble_eq_true rfl) (v_X9_areNeighbours_0  h)
set_option maxRecDepth 20000 in
theorem v_X9_findNeck_0 {g : zGG} {Q : Int → zMem → Prop} {d : zMem} {x1 : Int} {x2 : Int}  (h : ∀ d1, d1 = mu d 153 15 (-6) → (Fr g (eM g M_X9_findNeck FUL FUL Q) M_X9_findNeck FUL 14 [some (zR 153), some (zI x1), some (zI x2), some (zI 0), some (zI 0), some (zI 0), none, none] [] d1)) : Fr g (eM g M_X9_findNeck FUL FUL Q) M_X9_findNeck FUL 0 [some (zR 153), some (zI x1), some (zI x2), none, none, none, none, none] [] d := by
  refine z_iconst dX9_findNeck_0 ?_
  refine z_istore_n (i := 3) (ls2 := [some (zR 153), some (zI x1), some (zI x2), some (zI 0), none, none, none, none]) dX9_findNeck_1 rfl (by decide) rfl ?_
  refine z_iconst dX9_findNeck_2 ?_
  refine z_istore (i := 4) (ls2 := [some (zR 153), some (zI x1), some (zI x2), some (zI 0), some (zI 0), none, none, none]) dX9_findNeck_3 (by decide) rfl ?_
  refine z_aloadR_n (i := 0) dX9_findNeck_5 rfl rfl ?_
  refine z_bipush dX9_findNeck_6 (by decide +kernel) ?_
  refine z_putI 9 15 (idx := 97) ly153 (by decide) (by decide) rfl (show 153 < 166 by decide) rfl wf_X9_97 dX9_findNeck_8 (Or.inl rfl) ?_
  generalize hd1 : mu d 153 ((15 : Nat) : Int) (-6) = d1
  replace hd1 : d1 = mu d 153 15 (-6) := hd1.symm
  replace h := h d1 hd1
  refine z_iconst dX9_findNeck_11 ?_
  refine z_istore (i := 5) (ls2 := [some (zR 153), some (zI x1), some (zI x2), some (zI 0), some (zI 0), some (zI 0), none, none]) dX9_findNeck_12 (by decide) rfl ?_
  exact h
theorem e_X9_findNeck {g : zGG} {Q : Int → zMem → Prop} {d : zMem} {x1 : Int} {x2 : Int} (h : ∀ d1, d1 = mu d 153 15 (-6) → (Fr g (eM g M_X9_findNeck FUL FUL Q) M_X9_findNeck FUL 14 [some (zR 153), some (zI x1), some (zI x2), some (zI 0), some (zI 0), some (zI 0), none, none] [] d1)) : Ev g M_X9_findNeck FUL FUL [zR 153, zI x1, zI x2] d Q :=
  Ev_of (by decide +kernel) (Nat.le_of_ble_eq_true rfl) (v_X9_findNeck_0  h)
set_option maxRecDepth 20000 in
theorem v_X9_findNeck_14 {g : zGG} {Q : Int → zMem → Prop} {d : zMem} {x1 : Int} {x2 : Int} {x3 : Int} {x4 : Int} {x5 : Int} (h : ((inR x5 ∧ inR (d 154 4)) ∧ ((d 154 4) ≤ x5 → ∀ d1, d1 = mu d 153 17 x3 → ((inR (d 153 15)) ∧ ((d 153 15) = (-6) → Q 0 d1) ∧ ((d 153 15) ≠ (-6) → Q 1 d1))) ∧ (x5 < (d 154 4) → (Fr g (eM g M_X9_findNeck FUL FUL Q) M_X9_findNeck FUL 31 [some (zR 153), some (zI x1), some (zI x2), some (zI x3), some (zI x4), some (zI x5), some (zI (x5 + 3)), none] [] d)))) : Fr g (eM g M_X9_findNeck FUL FUL Q) M_X9_findNeck FUL 14 [some (zR 153), some (zI x1), some (zI x2), some (zI x3), some (zI x4), some (zI x5), none, none] [] d := by
  refine z_iload (i := 5) dX9_findNeck_14 rfl ?_
  refine z_aloadR_n (i := 0) dX9_findNeck_16 rfl rfl ?_
  refine z_getR 9 0 (idx := 7) ly153 (by decide) (by decide) rfl (show 153 < 166 by decide) rfl rt_153_0 wf_X9_7 dX9_findNeck_17 ?_
  refine z_iconst dX9_findNeck_20 ?_
  refine z_iaload' (fv := (d 154 4)) ly154 (show 154 < 166 by decide) (by decide) dX9_findNeck_21 (by decide) rfl ?_
  refine zb_icmp_ge (tgt := 198) dX9_findNeck_22 (by decide) h.1 ⟨fun c => ?_, fun c => ?_⟩
  · replace h := h.2.1 c
    refine z_aloadR_n (i := 0) dX9_findNeck_198 rfl rfl ?_
    refine z_iload_n (i := 3) dX9_findNeck_199 rfl rfl ?_
    refine z_putI 9 17 (idx := 109) ly153 (by decide) (by decide) rfl (show 153 < 166 by decide) rfl wf_X9_109 dX9_findNeck_200 (Or.inl rfl) ?_
    generalize hd1 : mu d 153 ((17 : Nat) : Int) x3 = d1
    replace hd1 : d1 = mu d 153 17 x3 := hd1.symm
    replace h := h d1 hd1
    refine z_aloadR_n (i := 0) dX9_findNeck_203 rfl rfl ?_
    refine z_getI' 9 15 (idx := 97) (fv := (d 153 15)) ly153 (by decide) (by decide) rfl (show 153 < 166 by decide) wf_X9_97 dX9_findNeck_204 (by show d1 153 15 = _; rw [hd1, mu_ni (by decide)]) ?_
    refine z_bipush dX9_findNeck_207 (by decide +kernel) ?_
    refine zb_icmp_eq (tgt := 216) dX9_findNeck_209 (by decide) ⟨h.1, by decide⟩ ⟨fun c => ?_, fun c => ?_⟩
    · replace h := h.2.1 c
      refine z_iconst dX9_findNeck_216 ?_
      exact zret_z rfl dX9_findNeck_217 (by decide) h
    · replace h := h.2.2 c
      refine z_iconst dX9_findNeck_212 ?_
      refine z_goto (tgt := 217) dX9_findNeck_213 (by decide) ?_
      exact zret_z rfl dX9_findNeck_217 (by decide) h
  · replace h := h.2.2 c
    refine z_iload (i := 5) dX9_findNeck_25 rfl ?_
    refine z_iconst dX9_findNeck_27 ?_
    refine z_iadd dX9_findNeck_28 ?_
    refine z_istore (i := 6) (ls2 := [some (zR 153), some (zI x1), some (zI x2), some (zI x3), some (zI x4), some (zI x5), some (zI (x5 + 3)), none]) dX9_findNeck_29 (by decide) rfl ?_
    exact h
set_option maxRecDepth 20000 in
theorem v_X9_findNeck_31 {g : zGG} {Q : Int → zMem → Prop} {d : zMem} {x1 : Int} {x2 : Int} {x3 : Int} {x4 : Int} {x5 : Int} {x6 : Int} (h : ((inR x6 ∧ inR (d 154 4)) ∧ ((d 154 4) ≤ x6 → (Fr g (eM g M_X9_findNeck FUL FUL Q) M_X9_findNeck FUL 14 [some (zR 153), some (zI x1), some (zI x2), some (zI x3), some (zI x4), some (zI (x5 + 1)), none, none] [] d)) ∧ (x6 < (d 154 4) → (0 ≤ (5 + x5) ∧ (5 + x5) < 1407) ∧ (0 ≤ (5 + x6) ∧ (5 + x6) < 1407) ∧ Ev g M_X9_areNeighbours FUL FUL [zI (d 154 (5 + x5)), zI (d 154 (5 + x6))] d (fun v1 d1 => ((inR v1) ∧ (v1 = 0 → (Fr g (eM g M_X9_findNeck FUL FUL Q) M_X9_findNeck FUL 31 [some (zR 153), some (zI x1), some (zI x2), some (zI x3), some (zI x4), some (zI x5), some (zI (x6 + 1)), none] [] d1)) ∧ (v1 ≠ 0 → ((inR x1) ∧ (0 ≤ x1 → ((inR x3 ∧ inR x1) ∧ (x3 ≠ x1 → ∀ d2, d2 = mu d1 153 15 (d1 153 15) → ∀ d3, d3 = mu d2 153 16 (d1 153 16) → (Fr g (eM g M_X9_findNeck FUL FUL Q) M_X9_findNeck FUL 31 [some (zR 153), some (zI x1), some (zI x2), some (zI (x3 + 1)), some (zI x4), some (zI x5), some (zI (x6 + 1)), none] [] d3)) ∧ (x3 = x1 → ∀ d4, d4 = mu d1 153 15 x5 → ∀ d5, d5 = mu d4 153 16 x6 → (Fr g (eM g M_X9_findNeck FUL FUL Q) M_X9_findNeck FUL 31 [some (zR 153), some (zI x1), some (zI x2), some (zI (x3 + 1)), some (zI (x6 - x5)), some (zI x5), some (zI (x6 + 1)), none] [] d5)))) ∧ (x1 < 0 → ((inR (x6 - x5) ∧ inR x4) ∧ ((x6 - x5) ≤ x4 → ∀ d6, d6 = mu d1 153 15 (d1 153 15) → ∀ d7, d7 = mu d6 153 16 (d1 153 16) → (Fr g (eM g M_X9_findNeck FUL FUL Q) M_X9_findNeck FUL 31 [some (zR 153), some (zI x1), some (zI x2), some (zI (x3 + 1)), some (zI x4), some (zI x5), some (zI (x6 + 1)), none] [] d7)) ∧ (x4 < (x6 - x5) → (0 ≤ (5 + x5) ∧ (5 + x5) < 1407) ∧ (0 ≤ (5 + x6) ∧ (5 + x6) < 1407) ∧ Ev g M_X9_pair FUL FUL [zI (d1 154 (5 + x5)), zI (d1 154 (5 + x6))] d1 (fun v2 d8 => (0 ≤ v2 ∧ v2 < 1407) ∧ ((inR (d8 154 v2) ∧ inR x2) ∧ ((d8 154 v2) < x2 → ∀ d9, d9 = mu d8 153 15 (d8 153 15) → ∀ d10, d10 = mu d9 153 16 (d8 153 16) → (Fr g (eM g M_X9_findNeck FUL FUL Q) M_X9_findNeck FUL 31 [some (zR 153), some (zI x1), some (zI x2), some (zI (x3 + 1)), some (zI x4), some (zI x5), some (zI (x6 + 1)), none] [] d10)) ∧ (x2 ≤ (d8 154 v2) → ∀ d11, d11 = mu d8 153 15 x5 → ∀ d12, d12 = mu d11 153 16 x6 → (Fr g (eM g M_X9_findNeck FUL FUL Q) M_X9_findNeck FUL 31 [some (zR 153), some (zI x1), some (zI x2), some (zI (x3 + 1)), some (zI (x6 - x5)), some (zI x5), some (zI (x6 + 1)), none] [] d12)))))))))))))) : Fr g (eM g M_X9_findNeck FUL FUL Q) M_X9_findNeck FUL 31 [some (zR 153), some (zI x1), some (zI x2), some (zI x3), some (zI x4), some (zI x5), some (zI x6), none] [] d := by
  refine z_iload (i := 6) dX9_findNeck_31 rfl ?_
  refine z_aloadR_n (i := 0) dX9_findNeck_33 rfl rfl ?_
  refine z_getR 9 0 (idx := 7) ly153 (by decide) (by decide) rfl (show 153 < 166 by decide) rfl rt_153_0 wf_X9_7 dX9_findNeck_34 ?_
  refine z_iconst dX9_findNeck_37 ?_
  refine z_iaload' (fv := (d 154 4)) ly154 (show 154 < 166 by decide) (by decide) dX9_findNeck_38 (by decide) rfl ?_
  refine zb_icmp_ge (tgt := 192) dX9_findNeck_39 (by decide) h.1 ⟨fun c => ?_, fun c => ?_⟩
  · replace h := h.2.1 c
    refine z_iinc (i := 5) (ls2 := [some (zR 153), some (zI x1), some (zI x2), some (zI x3), some (zI x4), some (zI (x5 + 1)), some (zI x6), none]) dX9_findNeck_192 (by decide) rfl rfl ?_
    refine z_goto (tgt := 14) dX9_findNeck_195 (by decide) ?_
    exact Fr_weak (ls2 := [some (zR 153), some (zI x1), some (zI x2), some (zI x3), some (zI x4), some (zI (x5 + 1)), none, none]) (by exact ⟨Or.inr rfl, Or.inr rfl, Or.inr rfl, Or.inr rfl, Or.inr rfl, Or.inr rfl, Or.inl rfl, Or.inl rfl, trivial⟩) h
  · replace h := h.2.2 c
    refine z_aloadR_n (i := 0) dX9_findNeck_42 rfl rfl ?_
    refine z_getR 9 0 (idx := 7) ly153 (by decide) (by decide) rfl (show 153 < 166 by decide) rfl rt_153_0 wf_X9_7 dX9_findNeck_43 ?_
    refine z_iconst dX9_findNeck_46 ?_
    refine z_iload (i := 5) dX9_findNeck_47 rfl ?_
    refine z_iadd dX9_findNeck_49 ?_
    refine z_iaload' (fv := (d 154 (5 + x5))) ly154 (show 154 < 166 by decide) (by decide) dX9_findNeck_50 h.1 rfl ?_
    replace h := h.2
    refine z_aloadR_n (i := 0) dX9_findNeck_51 rfl rfl ?_
    refine z_getR 9 0 (idx := 7) ly153 (by decide) (by decide) rfl (show 153 < 166 by decide) rfl rt_153_0 wf_X9_7 dX9_findNeck_52 ?_
    refine z_iconst dX9_findNeck_55 ?_
    refine z_iload (i := 6) dX9_findNeck_56 rfl ?_
    refine z_iadd dX9_findNeck_58 ?_
    refine z_iaload' (fv := (d 154 (5 + x6))) ly154 (show 154 < 166 by decide) (by decide) dX9_findNeck_59 h.1 rfl ?_
    replace h := h.2
    refine z_callS (k' := M_X9_areNeighbours) (As := [zI (d 154 (5 + x5)), zI (d 154 (5 + x6))]) (st := []) dX9_findNeck_60 rfl wm_X9_100 ok_X9_areNeighbours okS_X9_areNeighbours rfl (zroom_self (by decide) (by decide)) (Nat.le_of_ble_eq_true rfl) (Nat.le_refl _) (zEnd_i (Nat.le_refl _) rfl (fun _ _ q => q)) (Ev_mono h (fun v1 d1 h => ?_))
    refine zb_if_eq (tgt := 186) dX9_findNeck_63 (by decide) h.1 ⟨fun c => ?_, fun c => ?_⟩
    · replace h := h.2.1 c
      refine z_iinc (i := 6) (ls2 := [some (zR 153), some (zI x1), some (zI x2), some (zI x3), some (zI x4), some (zI x5), some (zI (x6 + 1)), none]) dX9_findNeck_186 (by decide) rfl rfl ?_
      refine z_goto (tgt := 31) dX9_findNeck_189 (by decide) ?_
      exact h
    · replace h := h.2.2 c
      refine z_iload_n (i := 1) dX9_findNeck_66 rfl rfl ?_
      refine zb_if_ge (tgt := 118) dX9_findNeck_67 (by decide) h.1 ⟨fun c => ?_, fun c => ?_⟩
      · replace h := h.2.1 c
        refine z_iload_n (i := 3) dX9_findNeck_118 rfl rfl ?_
        refine z_iload_n (i := 1) dX9_findNeck_119 rfl rfl ?_
        refine zb_icmp_ne (tgt := 127) dX9_findNeck_120 (by decide) h.1 ⟨fun c => ?_, fun c => ?_⟩
        · replace h := h.2.1 c
          refine z_iconst dX9_findNeck_127 ?_
          refine z_istore (i := 7) (ls2 := [some (zR 153), some (zI x1), some (zI x2), some (zI x3), some (zI x4), some (zI x5), some (zI x6), some (zI 0)]) dX9_findNeck_128 (by decide) rfl ?_
          refine z_iload (i := 7) dX9_findNeck_130 rfl ?_
          refine zb_if_eq (tgt := 143) dX9_findNeck_132 (by decide) (by decide) ⟨fun _ => ?_, fun q => absurd q (by decide)⟩
          refine z_iload (i := 4) dX9_findNeck_143 rfl ?_
          refine z_istore (i := 4) (ls2 := [some (zR 153), some (zI x1), some (zI x2), some (zI x3), some (zI x4), some (zI x5), some (zI x6), some (zI 0)]) dX9_findNeck_145 (by decide) rfl ?_
          refine z_aloadR_n (i := 0) dX9_findNeck_147 rfl rfl ?_
          refine z_iload (i := 7) dX9_findNeck_148 rfl ?_
          refine zb_if_eq (tgt := 158) dX9_findNeck_150 (by decide) (by decide) ⟨fun _ => ?_, fun q => absurd q (by decide)⟩
          refine z_aloadR_n (i := 0) dX9_findNeck_158 rfl rfl ?_
          refine z_getI' 9 15 (idx := 97) (fv := (d1 153 15)) ly153 (by decide) (by decide) rfl (show 153 < 166 by decide) wf_X9_97 dX9_findNeck_159 rfl ?_
          refine z_putI 9 15 (idx := 97) ly153 (by decide) (by decide) rfl (show 153 < 166 by decide) rfl wf_X9_97 dX9_findNeck_162 (Or.inl rfl) ?_
          generalize hd2 : mu d1 153 ((15 : Nat) : Int) (d1 153 15) = d2
          replace hd2 : d2 = mu d1 153 15 (d1 153 15) := hd2.symm
          replace h := h d2 hd2
          refine z_aloadR_n (i := 0) dX9_findNeck_165 rfl rfl ?_
          refine z_iload (i := 7) dX9_findNeck_166 rfl ?_
          refine zb_if_eq (tgt := 176) dX9_findNeck_168 (by decide) (by decide) ⟨fun _ => ?_, fun q => absurd q (by decide)⟩
          refine z_aloadR_n (i := 0) dX9_findNeck_176 rfl rfl ?_
          refine z_getI' 9 16 (idx := 106) (fv := (d1 153 16)) ly153 (by decide) (by decide) rfl (show 153 < 166 by decide) wf_X9_106 dX9_findNeck_177 (by show d2 153 16 = _; rw [hd2, mu_ni (by decide)]) ?_
          refine z_putI 9 16 (idx := 106) ly153 (by decide) (by decide) rfl (show 153 < 166 by decide) rfl wf_X9_106 dX9_findNeck_180 (Or.inl rfl) ?_
          generalize hd3 : mu d2 153 ((16 : Nat) : Int) (d1 153 16) = d3
          replace hd3 : d3 = mu d2 153 16 (d1 153 16) := hd3.symm
          replace h := h d3 hd3
          refine z_iinc (i := 3) (ls2 := [some (zR 153), some (zI x1), some (zI x2), some (zI (x3 + 1)), some (zI x4), some (zI x5), some (zI x6), some (zI 0)]) dX9_findNeck_183 (by decide) rfl rfl ?_
          refine z_iinc (i := 6) (ls2 := [some (zR 153), some (zI x1), some (zI x2), some (zI (x3 + 1)), some (zI x4), some (zI x5), some (zI (x6 + 1)), some (zI 0)]) dX9_findNeck_186 (by decide) rfl rfl ?_
          refine z_goto (tgt := 31) dX9_findNeck_189 (by decide) ?_
          exact Fr_weak (ls2 := [some (zR 153), some (zI x1), some (zI x2), some (zI (x3 + 1)), some (zI x4), some (zI x5), some (zI (x6 + 1)), none]) (by exact ⟨Or.inr rfl, Or.inr rfl, Or.inr rfl, Or.inr rfl, Or.inr rfl, Or.inr rfl, Or.inr rfl, Or.inl rfl, trivial⟩) h
        · replace h := h.2.2 c
          refine z_iconst dX9_findNeck_123 ?_
          refine z_goto (tgt := 128) dX9_findNeck_124 (by decide) ?_
          refine z_istore (i := 7) (ls2 := [some (zR 153), some (zI x1), some (zI x2), some (zI x3), some (zI x4), some (zI x5), some (zI x6), some (zI 1)]) dX9_findNeck_128 (by decide) rfl ?_
          refine z_iload (i := 7) dX9_findNeck_130 rfl ?_
          refine zb_if_eq (tgt := 143) dX9_findNeck_132 (by decide) (by decide) ⟨fun q => absurd q (by decide), fun _ => ?_⟩
          refine z_iload (i := 6) dX9_findNeck_135 rfl ?_
          refine z_iload (i := 5) dX9_findNeck_137 rfl ?_
          refine z_isub dX9_findNeck_139 ?_
          refine z_goto (tgt := 145) dX9_findNeck_140 (by decide) ?_
          refine z_istore (i := 4) (ls2 := [some (zR 153), some (zI x1), some (zI x2), some (zI x3), some (zI (x6 - x5)), some (zI x5), some (zI x6), some (zI 1)]) dX9_findNeck_145 (by decide) rfl ?_
          refine z_aloadR_n (i := 0) dX9_findNeck_147 rfl rfl ?_
          refine z_iload (i := 7) dX9_findNeck_148 rfl ?_
          refine zb_if_eq (tgt := 158) dX9_findNeck_150 (by decide) (by decide) ⟨fun q => absurd q (by decide), fun _ => ?_⟩
          refine z_iload (i := 5) dX9_findNeck_153 rfl ?_
          refine z_goto (tgt := 162) dX9_findNeck_155 (by decide) ?_
          refine z_putI 9 15 (idx := 97) ly153 (by decide) (by decide) rfl (show 153 < 166 by decide) rfl wf_X9_97 dX9_findNeck_162 (Or.inl rfl) ?_
          generalize hd4 : mu d1 153 ((15 : Nat) : Int) x5 = d4
          replace hd4 : d4 = mu d1 153 15 x5 := hd4.symm
          replace h := h d4 hd4
          refine z_aloadR_n (i := 0) dX9_findNeck_165 rfl rfl ?_
          refine z_iload (i := 7) dX9_findNeck_166 rfl ?_
          refine zb_if_eq (tgt := 176) dX9_findNeck_168 (by decide) (by decide) ⟨fun q => absurd q (by decide), fun _ => ?_⟩
          refine z_iload (i := 6) dX9_findNeck_171 rfl ?_
          refine z_goto (tgt := 180) dX9_findNeck_173 (by decide) ?_
          refine z_putI 9 16 (idx := 106) ly153 (by decide) (by decide) rfl (show 153 < 166 by decide) rfl wf_X9_106 dX9_findNeck_180 (Or.inl rfl) ?_
          generalize hd5 : mu d4 153 ((16 : Nat) : Int) x6 = d5
          replace hd5 : d5 = mu d4 153 16 x6 := hd5.symm
          replace h := h d5 hd5
          refine z_iinc (i := 3) (ls2 := [some (zR 153), some (zI x1), some (zI x2), some (zI (x3 + 1)), some (zI (x6 - x5)), some (zI x5), some (zI x6), some (zI 1)]) dX9_findNeck_183 (by decide) rfl rfl ?_
          refine z_iinc (i := 6) (ls2 := [some (zR 153), some (zI x1), some (zI x2), some (zI (x3 + 1)), some (zI (x6 - x5)), some (zI x5), some (zI (x6 + 1)), some (zI 1)]) dX9_findNeck_186 (by decide) rfl rfl ?_
          refine z_goto (tgt := 31) dX9_findNeck_189 (by decide) ?_
          exact Fr_weak (ls2 := [some (zR 153), some (zI x1), some (zI x2), some (zI (x3 + 1)), some (zI (x6 - x5)), some (zI x5), some (zI (x6 + 1)), none]) (by exact ⟨Or.inr rfl, Or.inr rfl, Or.inr rfl, Or.inr rfl, Or.inr rfl, Or.inr rfl, Or.inr rfl, Or.inl rfl, trivial⟩) h
      · replace h := h.2.2 c
        refine z_iload (i := 6) dX9_findNeck_70 rfl ?_
        refine z_iload (i := 5) dX9_findNeck_72 rfl ?_
        refine z_isub dX9_findNeck_74 ?_
        refine z_iload (i := 4) dX9_findNeck_75 rfl ?_
        refine zb_icmp_le (tgt := 114) dX9_findNeck_77 (by decide) h.1 ⟨fun c => ?_, fun c => ?_⟩
        · replace h := h.2.1 c
          refine z_iconst dX9_findNeck_114 ?_
          refine z_goto (tgt := 128) dX9_findNeck_115 (by decide) ?_
          refine z_istore (i := 7) (ls2 := [some (zR 153), some (zI x1), some (zI x2), some (zI x3), some (zI x4), some (zI x5), some (zI x6), some (zI 0)]) dX9_findNeck_128 (by decide) rfl ?_
          refine z_iload (i := 7) dX9_findNeck_130 rfl ?_
          refine zb_if_eq (tgt := 143) dX9_findNeck_132 (by decide) (by decide) ⟨fun _ => ?_, fun q => absurd q (by decide)⟩
          refine z_iload (i := 4) dX9_findNeck_143 rfl ?_
          refine z_istore (i := 4) (ls2 := [some (zR 153), some (zI x1), some (zI x2), some (zI x3), some (zI x4), some (zI x5), some (zI x6), some (zI 0)]) dX9_findNeck_145 (by decide) rfl ?_
          refine z_aloadR_n (i := 0) dX9_findNeck_147 rfl rfl ?_
          refine z_iload (i := 7) dX9_findNeck_148 rfl ?_
          refine zb_if_eq (tgt := 158) dX9_findNeck_150 (by decide) (by decide) ⟨fun _ => ?_, fun q => absurd q (by decide)⟩
          refine z_aloadR_n (i := 0) dX9_findNeck_158 rfl rfl ?_
          refine z_getI' 9 15 (idx := 97) (fv := (d1 153 15)) ly153 (by decide) (by decide) rfl (show 153 < 166 by decide) wf_X9_97 dX9_findNeck_159 rfl ?_
          refine z_putI 9 15 (idx := 97) ly153 (by decide) (by decide) rfl (show 153 < 166 by decide) rfl wf_X9_97 dX9_findNeck_162 (Or.inl rfl) ?_
          generalize hd6 : mu d1 153 ((15 : Nat) : Int) (d1 153 15) = d6
          replace hd6 : d6 = mu d1 153 15 (d1 153 15) := hd6.symm
          replace h := h d6 hd6
          refine z_aloadR_n (i := 0) dX9_findNeck_165 rfl rfl ?_
          refine z_iload (i := 7) dX9_findNeck_166 rfl ?_
          refine zb_if_eq (tgt := 176) dX9_findNeck_168 (by decide) (by decide) ⟨fun _ => ?_, fun q => absurd q (by decide)⟩
          refine z_aloadR_n (i := 0) dX9_findNeck_176 rfl rfl ?_
          refine z_getI' 9 16 (idx := 106) (fv := (d1 153 16)) ly153 (by decide) (by decide) rfl (show 153 < 166 by decide) wf_X9_106 dX9_findNeck_177 (by show d6 153 16 = _; rw [hd6, mu_ni (by decide)]) ?_
          refine z_putI 9 16 (idx := 106) ly153 (by decide) (by decide) rfl (show 153 < 166 by decide) rfl wf_X9_106 dX9_findNeck_180 (Or.inl rfl) ?_
          generalize hd7 : mu d6 153 ((16 : Nat) : Int) (d1 153 16) = d7
          replace hd7 : d7 = mu d6 153 16 (d1 153 16) := hd7.symm
          replace h := h d7 hd7
          refine z_iinc (i := 3) (ls2 := [some (zR 153), some (zI x1), some (zI x2), some (zI (x3 + 1)), some (zI x4), some (zI x5), some (zI x6), some (zI 0)]) dX9_findNeck_183 (by decide) rfl rfl ?_
          refine z_iinc (i := 6) (ls2 := [some (zR 153), some (zI x1), some (zI x2), some (zI (x3 + 1)), some (zI x4), some (zI x5), some (zI (x6 + 1)), some (zI 0)]) dX9_findNeck_186 (by decide) rfl rfl ?_
          refine z_goto (tgt := 31) dX9_findNeck_189 (by decide) ?_
          exact Fr_weak (ls2 := [some (zR 153), some (zI x1), some (zI x2), some (zI (x3 + 1)), some (zI x4), some (zI x5), some (zI (x6 + 1)), none]) (by exact ⟨Or.inr rfl, Or.inr rfl, Or.inr rfl, Or.inr rfl, Or.inr rfl, Or.inr rfl, Or.inr rfl, Or.inl rfl, trivial⟩) h
        · replace h := h.2.2 c
          refine z_aloadR_n (i := 0) dX9_findNeck_80 rfl rfl ?_
          refine z_getR 9 0 (idx := 7) ly153 (by decide) (by decide) rfl (show 153 < 166 by decide) rfl rt_153_0 wf_X9_7 dX9_findNeck_81 ?_
          refine z_aloadR_n (i := 0) dX9_findNeck_84 rfl rfl ?_
          refine z_getR 9 0 (idx := 7) ly153 (by decide) (by decide) rfl (show 153 < 166 by decide) rfl rt_153_0 wf_X9_7 dX9_findNeck_85 ?_
          refine z_iconst dX9_findNeck_88 ?_
          refine z_iload (i := 5) dX9_findNeck_89 rfl ?_
          refine z_iadd dX9_findNeck_91 ?_
          refine z_iaload' (fv := (d1 154 (5 + x5))) ly154 (show 154 < 166 by decide) (by decide) dX9_findNeck_92 h.1 rfl ?_
          replace h := h.2
          refine z_aloadR_n (i := 0) dX9_findNeck_93 rfl rfl ?_
          refine z_getR 9 0 (idx := 7) ly153 (by decide) (by decide) rfl (show 153 < 166 by decide) rfl rt_153_0 wf_X9_7 dX9_findNeck_94 ?_
          refine z_iconst dX9_findNeck_97 ?_
          refine z_iload (i := 6) dX9_findNeck_98 rfl ?_
          refine z_iadd dX9_findNeck_100 ?_
          refine z_iaload' (fv := (d1 154 (5 + x6))) ly154 (show 154 < 166 by decide) (by decide) dX9_findNeck_101 h.1 rfl ?_
          replace h := h.2
          refine z_callS (k' := M_X9_pair) (As := [zI (d1 154 (5 + x5)), zI (d1 154 (5 + x6))]) (st := [zR 154]) dX9_findNeck_102 rfl wm_X9_103 ok_X9_pair okS_X9_pair rfl (zroom_self (by decide) (by decide)) (Nat.le_of_ble_eq_true rfl) (Nat.le_refl _) (zEnd_i (Nat.le_refl _) rfl (fun _ _ q => q)) (Ev_mono h (fun v2 d8 h => ?_))
          refine z_iaload' (fv := (d8 154 v2)) ly154 (show 154 < 166 by decide) (by decide) dX9_findNeck_105 h.1 rfl ?_
          replace h := h.2
          refine z_iload_n (i := 2) dX9_findNeck_106 rfl rfl ?_
          refine zb_icmp_lt (tgt := 114) dX9_findNeck_107 (by decide) h.1 ⟨fun c => ?_, fun c => ?_⟩
          · replace h := h.2.1 c
            refine z_iconst dX9_findNeck_114 ?_
            refine z_goto (tgt := 128) dX9_findNeck_115 (by decide) ?_
            refine z_istore (i := 7) (ls2 := [some (zR 153), some (zI x1), some (zI x2), some (zI x3), some (zI x4), some (zI x5), some (zI x6), some (zI 0)]) dX9_findNeck_128 (by decide) rfl ?_
            refine z_iload (i := 7) dX9_findNeck_130 rfl ?_
            refine zb_if_eq (tgt := 143) dX9_findNeck_132 (by decide) (by decide) ⟨fun _ => ?_, fun q => absurd q (by decide)⟩
            refine z_iload (i := 4) dX9_findNeck_143 rfl ?_
            refine z_istore (i := 4) (ls2 := [some (zR 153), some (zI x1), some (zI x2), some (zI x3), some (zI x4), some (zI x5), some (zI x6), some (zI 0)]) dX9_findNeck_145 (by decide) rfl ?_
            refine z_aloadR_n (i := 0) dX9_findNeck_147 rfl rfl ?_
            refine z_iload (i := 7) dX9_findNeck_148 rfl ?_
            refine zb_if_eq (tgt := 158) dX9_findNeck_150 (by decide) (by decide) ⟨fun _ => ?_, fun q => absurd q (by decide)⟩
            refine z_aloadR_n (i := 0) dX9_findNeck_158 rfl rfl ?_
            refine z_getI' 9 15 (idx := 97) (fv := (d8 153 15)) ly153 (by decide) (by decide) rfl (show 153 < 166 by decide) wf_X9_97 dX9_findNeck_159 rfl ?_
            refine z_putI 9 15 (idx := 97) ly153 (by decide) (by decide) rfl (show 153 < 166 by decide) rfl wf_X9_97 dX9_findNeck_162 (Or.inl rfl) ?_
            generalize hd9 : mu d8 153 ((15 : Nat) : Int) (d8 153 15) = d9
            replace hd9 : d9 = mu d8 153 15 (d8 153 15) := hd9.symm
            replace h := h d9 hd9
            refine z_aloadR_n (i := 0) dX9_findNeck_165 rfl rfl ?_
            refine z_iload (i := 7) dX9_findNeck_166 rfl ?_
            refine zb_if_eq (tgt := 176) dX9_findNeck_168 (by decide) (by decide) ⟨fun _ => ?_, fun q => absurd q (by decide)⟩
            refine z_aloadR_n (i := 0) dX9_findNeck_176 rfl rfl ?_
            refine z_getI' 9 16 (idx := 106) (fv := (d8 153 16)) ly153 (by decide) (by decide) rfl (show 153 < 166 by decide) wf_X9_106 dX9_findNeck_177 (by show d9 153 16 = _; rw [hd9, mu_ni (by decide)]) ?_
            refine z_putI 9 16 (idx := 106) ly153 (by decide) (by decide) rfl (show 153 < 166 by decide) rfl wf_X9_106 dX9_findNeck_180 (Or.inl rfl) ?_
            generalize hd10 : mu d9 153 ((16 : Nat) : Int) (d8 153 16) = d10
            replace hd10 : d10 = mu d9 153 16 (d8 153 16) := hd10.symm
            replace h := h d10 hd10
            refine z_iinc (i := 3) (ls2 := [some (zR 153), some (zI x1), some (zI x2), some (zI (x3 + 1)), some (zI x4), some (zI x5), some (zI x6), some (zI 0)]) dX9_findNeck_183 (by decide) rfl rfl ?_
            refine z_iinc (i := 6) (ls2 := [some (zR 153), some (zI x1), some (zI x2), some (zI (x3 + 1)), some (zI x4), some (zI x5), some (zI (x6 + 1)), some (zI 0)]) dX9_findNeck_186 (by decide) rfl rfl ?_
            refine z_goto (tgt := 31) dX9_findNeck_189 (by decide) ?_
            exact Fr_weak (ls2 := [some (zR 153), some (zI x1), some (zI x2), some (zI (x3 + 1)), some (zI x4), some (zI x5), some (zI (x6 + 1)), none]) (by exact ⟨Or.inr rfl, Or.inr rfl, Or.inr rfl, Or.inr rfl, Or.inr rfl, Or.inr rfl, Or.inr rfl, Or.inl rfl, trivial⟩) h
          · replace h := h.2.2 c
            refine z_iconst dX9_findNeck_110 ?_
            refine z_goto (tgt := 128) dX9_findNeck_111 (by decide) ?_
            refine z_istore (i := 7) (ls2 := [some (zR 153), some (zI x1), some (zI x2), some (zI x3), some (zI x4), some (zI x5), some (zI x6), some (zI 1)]) dX9_findNeck_128 (by decide) rfl ?_
            refine z_iload (i := 7) dX9_findNeck_130 rfl ?_
            refine zb_if_eq (tgt := 143) dX9_findNeck_132 (by decide) (by decide) ⟨fun q => absurd q (by decide), fun _ => ?_⟩
            refine z_iload (i := 6) dX9_findNeck_135 rfl ?_
            refine z_iload (i := 5) dX9_findNeck_137 rfl ?_
            refine z_isub dX9_findNeck_139 ?_
            refine z_goto (tgt := 145) dX9_findNeck_140 (by decide) ?_
            refine z_istore (i := 4) (ls2 := [some (zR 153), some (zI x1), some (zI x2), some (zI x3), some (zI (x6 - x5)), some (zI x5), some (zI x6), some (zI 1)]) dX9_findNeck_145 (by decide) rfl ?_
            refine z_aloadR_n (i := 0) dX9_findNeck_147 rfl rfl ?_
            refine z_iload (i := 7) dX9_findNeck_148 rfl ?_
            refine zb_if_eq (tgt := 158) dX9_findNeck_150 (by decide) (by decide) ⟨fun q => absurd q (by decide), fun _ => ?_⟩
            refine z_iload (i := 5) dX9_findNeck_153 rfl ?_
            refine z_goto (tgt := 162) dX9_findNeck_155 (by decide) ?_
            refine z_putI 9 15 (idx := 97) ly153 (by decide) (by decide) rfl (show 153 < 166 by decide) rfl wf_X9_97 dX9_findNeck_162 (Or.inl rfl) ?_
            generalize hd11 : mu d8 153 ((15 : Nat) : Int) x5 = d11
            replace hd11 : d11 = mu d8 153 15 x5 := hd11.symm
            replace h := h d11 hd11
            refine z_aloadR_n (i := 0) dX9_findNeck_165 rfl rfl ?_
            refine z_iload (i := 7) dX9_findNeck_166 rfl ?_
            refine zb_if_eq (tgt := 176) dX9_findNeck_168 (by decide) (by decide) ⟨fun q => absurd q (by decide), fun _ => ?_⟩
            refine z_iload (i := 6) dX9_findNeck_171 rfl ?_
            refine z_goto (tgt := 180) dX9_findNeck_173 (by decide) ?_
            refine z_putI 9 16 (idx := 106) ly153 (by decide) (by decide) rfl (show 153 < 166 by decide) rfl wf_X9_106 dX9_findNeck_180 (Or.inl rfl) ?_
            generalize hd12 : mu d11 153 ((16 : Nat) : Int) x6 = d12
            replace hd12 : d12 = mu d11 153 16 x6 := hd12.symm
            replace h := h d12 hd12
            refine z_iinc (i := 3) (ls2 := [some (zR 153), some (zI x1), some (zI x2), some (zI (x3 + 1)), some (zI (x6 - x5)), some (zI x5), some (zI x6), some (zI 1)]) dX9_findNeck_183 (by decide) rfl rfl ?_
            refine z_iinc (i := 6) (ls2 := [some (zR 153), some (zI x1), some (zI x2), some (zI (x3 + 1)), some (zI (x6 - x5)), some (zI x5), some (zI (x6 + 1)), some (zI 1)]) dX9_findNeck_186 (by decide) rfl rfl ?_
            refine z_goto (tgt := 31) dX9_findNeck_189 (by decide) ?_
            exact Fr_weak (ls2 := [some (zR 153), some (zI x1), some (zI x2), some (zI (x3 + 1)), some (zI (x6 - x5)), some (zI x5), some (zI (x6 + 1)), none]) (by exact ⟨Or.inr rfl, Or.inr rfl, Or.inr rfl, Or.inr rfl, Or.inr rfl, Or.inr rfl, Or.inr rfl, Or.inl rfl, trivial⟩) h
set_option maxRecDepth 20000 in
theorem v_X9_cutNeck_0 {g : zGG} {Q : Int → zMem → Prop} {d : zMem}   (h : ((inR (d 154 1355)) ∧ ((d 154 1355) ≠ 12 → (0 ≤ (1356 + (3 * (d 154 1355))) ∧ (1356 + (3 * (d 154 1355))) < 1407) ∧ ∀ d1, d1 = mu d 154 (1356 + (3 * (d 154 1355))) (((d 153 16) - (d 153 15)) - 1) → (0 ≤ ((1356 + (3 * (d 154 1355))) + 1) ∧ ((1356 + (3 * (d 154 1355))) + 1) < 1407) ∧ ∀ d2, d2 = mu d1 154 ((1356 + (3 * (d 154 1355))) + 1) 0 → (0 ≤ ((5 + (d 153 15)) + 1) ∧ ((5 + (d 153 15)) + 1) < 1407) ∧ (0 ≤ ((1356 + (3 * (d 154 1355))) + 2) ∧ ((1356 + (3 * (d 154 1355))) + 2) < 1407) ∧ ∀ d3, d3 = mu d2 154 ((1356 + (3 * (d 154 1355))) + 2) (d2 154 ((5 + (d 153 15)) + 1)) → (Fr g (eM g M_X9_cutNeck FUL FUL Q) M_X9_cutNeck FUL 101 [some (zR 153), some (zI (d 154 1355)), some (zI (((d 153 16) - (d 153 15)) - 1)), some (zI ((d 153 15) + 1))] [] d3)) ∧ ((d 154 1355) = 12 → Ev g M_X9_dropOxbow FUL FUL [zR 153, zI 0] d (fun _ d4 => (0 ≤ (1356 + (3 * (d4 154 1355))) ∧ (1356 + (3 * (d4 154 1355))) < 1407) ∧ ∀ d5, d5 = mu d4 154 (1356 + (3 * (d4 154 1355))) (((d4 153 16) - (d4 153 15)) - 1) → (0 ≤ ((1356 + (3 * (d4 154 1355))) + 1) ∧ ((1356 + (3 * (d4 154 1355))) + 1) < 1407) ∧ ∀ d6, d6 = mu d5 154 ((1356 + (3 * (d4 154 1355))) + 1) 0 → (0 ≤ ((5 + (d4 153 15)) + 1) ∧ ((5 + (d4 153 15)) + 1) < 1407) ∧ (0 ≤ ((1356 + (3 * (d4 154 1355))) + 2) ∧ ((1356 + (3 * (d4 154 1355))) + 2) < 1407) ∧ ∀ d7, d7 = mu d6 154 ((1356 + (3 * (d4 154 1355))) + 2) (d6 154 ((5 + (d4 153 15)) + 1)) → (Fr g (eM g M_X9_cutNeck FUL FUL Q) M_X9_cutNeck FUL 101 [some (zR 153), some (zI (d4 154 1355)), some (zI (((d4 153 16) - (d4 153 15)) - 1)), some (zI ((d4 153 15) + 1))] [] d7))))) : Fr g (eM g M_X9_cutNeck FUL FUL Q) M_X9_cutNeck FUL 0 [some (zR 153), none, none, none] [] d := by
  refine z_aloadR_n (i := 0) dX9_cutNeck_0 rfl rfl ?_
  refine z_getR 9 0 (idx := 7) ly153 (by decide) (by decide) rfl (show 153 < 166 by decide) rfl rt_153_0 wf_X9_7 dX9_cutNeck_1 ?_
  refine z_sipush dX9_cutNeck_4 (by decide +kernel) ?_
  refine z_iaload' (fv := (d 154 1355)) ly154 (show 154 < 166 by decide) (by decide) dX9_cutNeck_7 (by decide) rfl ?_
  refine z_bipush dX9_cutNeck_8 (by decide +kernel) ?_
  refine zb_icmp_ne (tgt := 18) dX9_cutNeck_10 (by decide) ⟨h.1, by decide⟩ ⟨fun c => ?_, fun c => ?_⟩
  · replace h := h.2.1 c
    refine z_aloadR_n (i := 0) dX9_cutNeck_18 rfl rfl ?_
    refine z_getR 9 0 (idx := 7) ly153 (by decide) (by decide) rfl (show 153 < 166 by decide) rfl rt_153_0 wf_X9_7 dX9_cutNeck_19 ?_
    refine z_sipush dX9_cutNeck_22 (by decide +kernel) ?_
    refine z_iaload' (fv := (d 154 1355)) ly154 (show 154 < 166 by decide) (by decide) dX9_cutNeck_25 (by decide) rfl ?_
    refine z_istore_n (i := 1) (ls2 := [some (zR 153), some (zI (d 154 1355)), none, none]) dX9_cutNeck_26 rfl (by decide) rfl ?_
    refine z_aloadR_n (i := 0) dX9_cutNeck_27 rfl rfl ?_
    refine z_getI' 9 16 (idx := 106) (fv := (d 153 16)) ly153 (by decide) (by decide) rfl (show 153 < 166 by decide) wf_X9_106 dX9_cutNeck_28 rfl ?_
    refine z_aloadR_n (i := 0) dX9_cutNeck_31 rfl rfl ?_
    refine z_getI' 9 15 (idx := 97) (fv := (d 153 15)) ly153 (by decide) (by decide) rfl (show 153 < 166 by decide) wf_X9_97 dX9_cutNeck_32 rfl ?_
    refine z_isub dX9_cutNeck_35 ?_
    refine z_iconst dX9_cutNeck_36 ?_
    refine z_isub dX9_cutNeck_37 ?_
    refine z_istore_n (i := 2) (ls2 := [some (zR 153), some (zI (d 154 1355)), some (zI (((d 153 16) - (d 153 15)) - 1)), none]) dX9_cutNeck_38 rfl (by decide) rfl ?_
    refine z_aloadR_n (i := 0) dX9_cutNeck_39 rfl rfl ?_
    refine z_getR 9 0 (idx := 7) ly153 (by decide) (by decide) rfl (show 153 < 166 by decide) rfl rt_153_0 wf_X9_7 dX9_cutNeck_40 ?_
    refine z_sipush dX9_cutNeck_43 (by decide +kernel) ?_
    refine z_iconst dX9_cutNeck_46 ?_
    refine z_iload_n (i := 1) dX9_cutNeck_47 rfl rfl ?_
    refine z_imul dX9_cutNeck_48 ?_
    refine z_iadd dX9_cutNeck_49 ?_
    refine z_iload_n (i := 2) dX9_cutNeck_50 rfl rfl ?_
    refine z_iastore ly154 (show 154 < 166 by decide) (by decide) dX9_cutNeck_51 h.1 ?_
    replace h := h.2
    generalize hd1 : mu d 154 (1356 + (3 * (d 154 1355))) (((d 153 16) - (d 153 15)) - 1) = d1
    replace hd1 := hd1.symm
    replace h := h d1 hd1
    refine z_aloadR_n (i := 0) dX9_cutNeck_52 rfl rfl ?_
    refine z_getR 9 0 (idx := 7) ly153 (by decide) (by decide) rfl (show 153 < 166 by decide) rfl rt_153_0 wf_X9_7 dX9_cutNeck_53 ?_
    refine z_sipush dX9_cutNeck_56 (by decide +kernel) ?_
    refine z_iconst dX9_cutNeck_59 ?_
    refine z_iload_n (i := 1) dX9_cutNeck_60 rfl rfl ?_
    refine z_imul dX9_cutNeck_61 ?_
    refine z_iadd dX9_cutNeck_62 ?_
    refine z_iconst dX9_cutNeck_63 ?_
    refine z_iadd dX9_cutNeck_64 ?_
    refine z_iconst dX9_cutNeck_65 ?_
    refine z_iastore ly154 (show 154 < 166 by decide) (by decide) dX9_cutNeck_66 h.1 ?_
    replace h := h.2
    generalize hd2 : mu d1 154 ((1356 + (3 * (d 154 1355))) + 1) 0 = d2
    replace hd2 := hd2.symm
    replace h := h d2 hd2
    refine z_aloadR_n (i := 0) dX9_cutNeck_67 rfl rfl ?_
    refine z_getR 9 0 (idx := 7) ly153 (by decide) (by decide) rfl (show 153 < 166 by decide) rfl rt_153_0 wf_X9_7 dX9_cutNeck_68 ?_
    refine z_sipush dX9_cutNeck_71 (by decide +kernel) ?_
    refine z_iconst dX9_cutNeck_74 ?_
    refine z_iload_n (i := 1) dX9_cutNeck_75 rfl rfl ?_
    refine z_imul dX9_cutNeck_76 ?_
    refine z_iadd dX9_cutNeck_77 ?_
    refine z_iconst dX9_cutNeck_78 ?_
    refine z_iadd dX9_cutNeck_79 ?_
    refine z_aloadR_n (i := 0) dX9_cutNeck_80 rfl rfl ?_
    refine z_getR 9 0 (idx := 7) ly153 (by decide) (by decide) rfl (show 153 < 166 by decide) rfl rt_153_0 wf_X9_7 dX9_cutNeck_81 ?_
    refine z_iconst dX9_cutNeck_84 ?_
    refine z_aloadR_n (i := 0) dX9_cutNeck_85 rfl rfl ?_
    refine z_getI' 9 15 (idx := 97) (fv := (d 153 15)) ly153 (by decide) (by decide) rfl (show 153 < 166 by decide) wf_X9_97 dX9_cutNeck_86 (by show d2 153 15 = _; rw [hd2, mu_na (by omega)]; rw [hd1, mu_na (by omega)]) ?_
    refine z_iadd dX9_cutNeck_89 ?_
    refine z_iconst dX9_cutNeck_90 ?_
    refine z_iadd dX9_cutNeck_91 ?_
    refine z_iaload' (fv := (d2 154 ((5 + (d 153 15)) + 1))) ly154 (show 154 < 166 by decide) (by decide) dX9_cutNeck_92 h.1 rfl ?_
    replace h := h.2
    refine z_iastore ly154 (show 154 < 166 by decide) (by decide) dX9_cutNeck_93 h.1 ?_
    replace h := h.2
    generalize hd3 : mu d2 154 ((1356 + (3 * (d 154 1355))) + 2) (d2 154 ((5 + (d 153 15)) + 1)) = d3
    replace hd3 := hd3.symm
    replace h := h d3 hd3
    refine z_aloadR_n (i := 0) dX9_cutNeck_94 rfl rfl ?_
    refine z_getI' 9 15 (idx := 97) (fv := (d 153 15)) ly153 (by decide) (by decide) rfl (show 153 < 166 by decide) wf_X9_97 dX9_cutNeck_95 (by show d3 153 15 = _; rw [hd3, mu_na (by omega)]; rw [hd2, mu_na (by omega)]; rw [hd1, mu_na (by omega)]) ?_
    refine z_iconst dX9_cutNeck_98 ?_
    refine z_iadd dX9_cutNeck_99 ?_
    refine z_istore_n (i := 3) (ls2 := [some (zR 153), some (zI (d 154 1355)), some (zI (((d 153 16) - (d 153 15)) - 1)), some (zI ((d 153 15) + 1))]) dX9_cutNeck_100 rfl (by decide) rfl ?_
    exact h
  · replace h := h.2.2 c
    refine z_aloadR_n (i := 0) dX9_cutNeck_13 rfl rfl ?_
    refine z_iconst dX9_cutNeck_14 ?_
    refine z_callVv (k' := M_X9_dropOxbow) (As := [zI 0]) (st := []) dX9_cutNeck_15 rfl ly153 (by decide) rfl (show 153 < 166 by decide) wm_X9_93 ok_X9_dropOxbow okV_X9_dropOxbow rfl (zroom_self (by decide) (by decide)) (Nat.le_of_ble_eq_true rfl) (Nat.le_refl _) rfl (Ev_mono h (fun _ d4 h => ?_))
    refine z_aloadR_n (i := 0) dX9_cutNeck_18 rfl rfl ?_
    refine z_getR 9 0 (idx := 7) ly153 (by decide) (by decide) rfl (show 153 < 166 by decide) rfl rt_153_0 wf_X9_7 dX9_cutNeck_19 ?_
    refine z_sipush dX9_cutNeck_22 (by decide +kernel) ?_
    refine z_iaload' (fv := (d4 154 1355)) ly154 (show 154 < 166 by decide) (by decide) dX9_cutNeck_25 (by decide) rfl ?_
    refine z_istore_n (i := 1) (ls2 := [some (zR 153), some (zI (d4 154 1355)), none, none]) dX9_cutNeck_26 rfl (by decide) rfl ?_
    refine z_aloadR_n (i := 0) dX9_cutNeck_27 rfl rfl ?_
    refine z_getI' 9 16 (idx := 106) (fv := (d4 153 16)) ly153 (by decide) (by decide) rfl (show 153 < 166 by decide) wf_X9_106 dX9_cutNeck_28 rfl ?_
    refine z_aloadR_n (i := 0) dX9_cutNeck_31 rfl rfl ?_
    refine z_getI' 9 15 (idx := 97) (fv := (d4 153 15)) ly153 (by decide) (by decide) rfl (show 153 < 166 by decide) wf_X9_97 dX9_cutNeck_32 rfl ?_
    refine z_isub dX9_cutNeck_35 ?_
    refine z_iconst dX9_cutNeck_36 ?_
    refine z_isub dX9_cutNeck_37 ?_
    refine z_istore_n (i := 2) (ls2 := [some (zR 153), some (zI (d4 154 1355)), some (zI (((d4 153 16) - (d4 153 15)) - 1)), none]) dX9_cutNeck_38 rfl (by decide) rfl ?_
    refine z_aloadR_n (i := 0) dX9_cutNeck_39 rfl rfl ?_
    refine z_getR 9 0 (idx := 7) ly153 (by decide) (by decide) rfl (show 153 < 166 by decide) rfl rt_153_0 wf_X9_7 dX9_cutNeck_40 ?_
    refine z_sipush dX9_cutNeck_43 (by decide +kernel) ?_
    refine z_iconst dX9_cutNeck_46 ?_
    refine z_iload_n (i := 1) dX9_cutNeck_47 rfl rfl ?_
    refine z_imul dX9_cutNeck_48 ?_
    refine z_iadd dX9_cutNeck_49 ?_
    refine z_iload_n (i := 2) dX9_cutNeck_50 rfl rfl ?_
    refine z_iastore ly154 (show 154 < 166 by decide) (by decide) dX9_cutNeck_51 h.1 ?_
    replace h := h.2
    generalize hd5 : mu d4 154 (1356 + (3 * (d4 154 1355))) (((d4 153 16) - (d4 153 15)) - 1) = d5
    replace hd5 := hd5.symm
    replace h := h d5 hd5
    refine z_aloadR_n (i := 0) dX9_cutNeck_52 rfl rfl ?_
    refine z_getR 9 0 (idx := 7) ly153 (by decide) (by decide) rfl (show 153 < 166 by decide) rfl rt_153_0 wf_X9_7 dX9_cutNeck_53 ?_
    refine z_sipush dX9_cutNeck_56 (by decide +kernel) ?_
    refine z_iconst dX9_cutNeck_59 ?_
    refine z_iload_n (i := 1) dX9_cutNeck_60 rfl rfl ?_
    refine z_imul dX9_cutNeck_61 ?_
    refine z_iadd dX9_cutNeck_62 ?_
    refine z_iconst dX9_cutNeck_63 ?_
    refine z_iadd dX9_cutNeck_64 ?_
    refine z_iconst dX9_cutNeck_65 ?_
    refine z_iastore ly154 (show 154 < 166 by decide) (by decide) dX9_cutNeck_66 h.1 ?_
    replace h := h.2
    generalize hd6 : mu d5 154 ((1356 + (3 * (d4 154 1355))) + 1) 0 = d6
    replace hd6 := hd6.symm
    replace h := h d6 hd6
    refine z_aloadR_n (i := 0) dX9_cutNeck_67 rfl rfl ?_
    refine z_getR 9 0 (idx := 7) ly153 (by decide) (by decide) rfl (show 153 < 166 by decide) rfl rt_153_0 wf_X9_7 dX9_cutNeck_68 ?_
    refine z_sipush dX9_cutNeck_71 (by decide +kernel) ?_
    refine z_iconst dX9_cutNeck_74 ?_
    refine z_iload_n (i := 1) dX9_cutNeck_75 rfl rfl ?_
    refine z_imul dX9_cutNeck_76 ?_
    refine z_iadd dX9_cutNeck_77 ?_
    refine z_iconst dX9_cutNeck_78 ?_
    refine z_iadd dX9_cutNeck_79 ?_
    refine z_aloadR_n (i := 0) dX9_cutNeck_80 rfl rfl ?_
    refine z_getR 9 0 (idx := 7) ly153 (by decide) (by decide) rfl (show 153 < 166 by decide) rfl rt_153_0 wf_X9_7 dX9_cutNeck_81 ?_
    refine z_iconst dX9_cutNeck_84 ?_
    refine z_aloadR_n (i := 0) dX9_cutNeck_85 rfl rfl ?_
    refine z_getI' 9 15 (idx := 97) (fv := (d4 153 15)) ly153 (by decide) (by decide) rfl (show 153 < 166 by decide) wf_X9_97 dX9_cutNeck_86 (by show d6 153 15 = _; rw [hd6, mu_na (by omega)]; rw [hd5, mu_na (by omega)]) ?_
    refine z_iadd dX9_cutNeck_89 ?_
    refine z_iconst dX9_cutNeck_90 ?_
    refine z_iadd dX9_cutNeck_91 ?_
    refine z_iaload' (fv := (d6 154 ((5 + (d4 153 15)) + 1))) ly154 (show 154 < 166 by decide) (by decide) dX9_cutNeck_92 h.1 rfl ?_
    replace h := h.2
    refine z_iastore ly154 (show 154 < 166 by decide) (by decide) dX9_cutNeck_93 h.1 ?_
    replace h := h.2
    generalize hd7 : mu d6 154 ((1356 + (3 * (d4 154 1355))) + 2) (d6 154 ((5 + (d4 153 15)) + 1)) = d7
    replace hd7 := hd7.symm
    replace h := h d7 hd7
    refine z_aloadR_n (i := 0) dX9_cutNeck_94 rfl rfl ?_
    refine z_getI' 9 15 (idx := 97) (fv := (d4 153 15)) ly153 (by decide) (by decide) rfl (show 153 < 166 by decide) wf_X9_97 dX9_cutNeck_95 (by show d7 153 15 = _; rw [hd7, mu_na (by omega)]; rw [hd6, mu_na (by omega)]; rw [hd5, mu_na (by omega)]) ?_
    refine z_iconst dX9_cutNeck_98 ?_
    refine z_iadd dX9_cutNeck_99 ?_
    refine z_istore_n (i := 3) (ls2 := [some (zR 153), some (zI (d4 154 1355)), some (zI (((d4 153 16) - (d4 153 15)) - 1)), some (zI ((d4 153 15) + 1))]) dX9_cutNeck_100 rfl (by decide) rfl ?_
    exact h
theorem e_X9_cutNeck {g : zGG} {Q : Int → zMem → Prop} {d : zMem}  (h : ((inR (d 154 1355)) ∧ ((d 154 1355) ≠ 12 → (0 ≤ (1356 + (3 * (d 154 1355))) ∧ (1356 + (3 * (d 154 1355))) < 1407) ∧ ∀ d1, d1 = mu d 154 (1356 + (3 * (d 154 1355))) (((d 153 16) - (d 153 15)) - 1) → (0 ≤ ((1356 + (3 * (d 154 1355))) + 1) ∧ ((1356 + (3 * (d 154 1355))) + 1) < 1407) ∧ ∀ d2, d2 = mu d1 154 ((1356 + (3 * (d 154 1355))) + 1) 0 → (0 ≤ ((5 + (d 153 15)) + 1) ∧ ((5 + (d 153 15)) + 1) < 1407) ∧ (0 ≤ ((1356 + (3 * (d 154 1355))) + 2) ∧ ((1356 + (3 * (d 154 1355))) + 2) < 1407) ∧ ∀ d3, d3 = mu d2 154 ((1356 + (3 * (d 154 1355))) + 2) (d2 154 ((5 + (d 153 15)) + 1)) → (Fr g (eM g M_X9_cutNeck FUL FUL Q) M_X9_cutNeck FUL 101 [some (zR 153), some (zI (d 154 1355)), some (zI (((d 153 16) - (d 153 15)) - 1)), some (zI ((d 153 15) + 1))] [] d3)) ∧ ((d 154 1355) = 12 → Ev g M_X9_dropOxbow FUL FUL [zR 153, zI 0] d (fun _ d4 => (0 ≤ (1356 + (3 * (d4 154 1355))) ∧ (1356 + (3 * (d4 154 1355))) < 1407) ∧ ∀ d5, d5 = mu d4 154 (1356 + (3 * (d4 154 1355))) (((d4 153 16) - (d4 153 15)) - 1) → (0 ≤ ((1356 + (3 * (d4 154 1355))) + 1) ∧ ((1356 + (3 * (d4 154 1355))) + 1) < 1407) ∧ ∀ d6, d6 = mu d5 154 ((1356 + (3 * (d4 154 1355))) + 1) 0 → (0 ≤ ((5 + (d4 153 15)) + 1) ∧ ((5 + (d4 153 15)) + 1) < 1407) ∧ (0 ≤ ((1356 + (3 * (d4 154 1355))) + 2) ∧ ((1356 + (3 * (d4 154 1355))) + 2) < 1407) ∧ ∀ d7, d7 = mu d6 154 ((1356 + (3 * (d4 154 1355))) + 2) (d6 154 ((5 + (d4 153 15)) + 1)) → (Fr g (eM g M_X9_cutNeck FUL FUL Q) M_X9_cutNeck FUL 101 [some (zR 153), some (zI (d4 154 1355)), some (zI (((d4 153 16) - (d4 153 15)) - 1)), some (zI ((d4 153 15) + 1))] [] d7))))) : Ev g M_X9_cutNeck FUL FUL [zR 153] d Q :=
  Ev_of (by decide +kernel) (Nat.le_of_ble_eq_true rfl) (v_X9_cutNeck_0  h)
set_option maxRecDepth 20000 in
theorem v_X9_cutNeck_101 {g : zGG} {Q : Int → zMem → Prop} {d : zMem}  {x1 : Int} {x2 : Int} {x3 : Int} (h : ((inR x3 ∧ inR (d 153 16)) ∧ ((d 153 16) ≤ x3 → ∀ d1, d1 = mu d 154 1355 ((d 154 1355) + 1) → ∀ d2, d2 = mu d1 154 4 ((d1 154 4) - x2) → (Fr g (eM g M_X9_cutNeck FUL FUL Q) M_X9_cutNeck FUL 162 [some (zR 153), some (zI x1), some (zI x2), some (zI ((d 153 15) + 1))] [] d2)) ∧ (x3 < (d 153 16) → (0 ≤ (5 + x3) ∧ (5 + x3) < 1407) ∧ (0 ≤ (1115 + (d 154 (5 + x3))) ∧ (1115 + (d 154 (5 + x3))) < 1407) ∧ ∀ d3, d3 = mu d 154 (1115 + (d 154 (5 + x3))) x1 → (Fr g (eM g M_X9_cutNeck FUL FUL Q) M_X9_cutNeck FUL 101 [some (zR 153), some (zI x1), some (zI x2), some (zI (x3 + 1))] [] d3)))) : Fr g (eM g M_X9_cutNeck FUL FUL Q) M_X9_cutNeck FUL 101 [some (zR 153), some (zI x1), some (zI x2), some (zI x3)] [] d := by
  refine z_iload_n (i := 3) dX9_cutNeck_101 rfl rfl ?_
  refine z_aloadR_n (i := 0) dX9_cutNeck_102 rfl rfl ?_
  refine z_getI' 9 16 (idx := 106) (fv := (d 153 16)) ly153 (by decide) (by decide) rfl (show 153 < 166 by decide) wf_X9_106 dX9_cutNeck_103 rfl ?_
  refine zb_icmp_ge (tgt := 133) dX9_cutNeck_106 (by decide) h.1 ⟨fun c => ?_, fun c => ?_⟩
  · replace h := h.2.1 c
    refine z_aloadR_n (i := 0) dX9_cutNeck_133 rfl rfl ?_
    refine z_getR 9 0 (idx := 7) ly153 (by decide) (by decide) rfl (show 153 < 166 by decide) rfl rt_153_0 wf_X9_7 dX9_cutNeck_134 ?_
    refine z_sipush dX9_cutNeck_137 (by decide +kernel) ?_
    refine z_dup2 dX9_cutNeck_140 (Nat.le_of_ble_eq_true rfl) (Nat.le_of_ble_eq_true rfl) ?_
    refine z_iaload' (fv := (d 154 1355)) ly154 (show 154 < 166 by decide) (by decide) dX9_cutNeck_141 (by decide) rfl ?_
    refine z_iconst dX9_cutNeck_142 ?_
    refine z_iadd dX9_cutNeck_143 ?_
    refine z_iastore ly154 (show 154 < 166 by decide) (by decide) dX9_cutNeck_144 (by decide) ?_
    generalize hd1 : mu d 154 1355 ((d 154 1355) + 1) = d1
    replace hd1 := hd1.symm
    replace h := h d1 hd1
    refine z_aloadR_n (i := 0) dX9_cutNeck_145 rfl rfl ?_
    refine z_getR 9 0 (idx := 7) ly153 (by decide) (by decide) rfl (show 153 < 166 by decide) rfl rt_153_0 wf_X9_7 dX9_cutNeck_146 ?_
    refine z_iconst dX9_cutNeck_149 ?_
    refine z_dup2 dX9_cutNeck_150 (Nat.le_of_ble_eq_true rfl) (Nat.le_of_ble_eq_true rfl) ?_
    refine z_iaload' (fv := (d1 154 4)) ly154 (show 154 < 166 by decide) (by decide) dX9_cutNeck_151 (by decide) rfl ?_
    refine z_iload_n (i := 2) dX9_cutNeck_152 rfl rfl ?_
    refine z_isub dX9_cutNeck_153 ?_
    refine z_iastore ly154 (show 154 < 166 by decide) (by decide) dX9_cutNeck_154 (by decide) ?_
    generalize hd2 : mu d1 154 4 ((d1 154 4) - x2) = d2
    replace hd2 := hd2.symm
    replace h := h d2 hd2
    refine z_aloadR_n (i := 0) dX9_cutNeck_155 rfl rfl ?_
    refine z_getI' 9 15 (idx := 97) (fv := (d 153 15)) ly153 (by decide) (by decide) rfl (show 153 < 166 by decide) wf_X9_97 dX9_cutNeck_156 (by show d2 153 15 = _; rw [hd2, mu_na (by omega)]; rw [hd1, mu_na (by omega)]) ?_
    refine z_iconst dX9_cutNeck_159 ?_
    refine z_iadd dX9_cutNeck_160 ?_
    refine z_istore_n (i := 3) (ls2 := [some (zR 153), some (zI x1), some (zI x2), some (zI ((d 153 15) + 1))]) dX9_cutNeck_161 rfl (by decide) rfl ?_
    exact h
  · replace h := h.2.2 c
    refine z_aloadR_n (i := 0) dX9_cutNeck_109 rfl rfl ?_
    refine z_getR 9 0 (idx := 7) ly153 (by decide) (by decide) rfl (show 153 < 166 by decide) rfl rt_153_0 wf_X9_7 dX9_cutNeck_110 ?_
    refine z_sipush dX9_cutNeck_113 (by decide +kernel) ?_
    refine z_aloadR_n (i := 0) dX9_cutNeck_116 rfl rfl ?_
    refine z_getR 9 0 (idx := 7) ly153 (by decide) (by decide) rfl (show 153 < 166 by decide) rfl rt_153_0 wf_X9_7 dX9_cutNeck_117 ?_
    refine z_iconst dX9_cutNeck_120 ?_
    refine z_iload_n (i := 3) dX9_cutNeck_121 rfl rfl ?_
    refine z_iadd dX9_cutNeck_122 ?_
    refine z_iaload' (fv := (d 154 (5 + x3))) ly154 (show 154 < 166 by decide) (by decide) dX9_cutNeck_123 h.1 rfl ?_
    replace h := h.2
    refine z_iadd dX9_cutNeck_124 ?_
    refine z_iload_n (i := 1) dX9_cutNeck_125 rfl rfl ?_
    refine z_iastore ly154 (show 154 < 166 by decide) (by decide) dX9_cutNeck_126 h.1 ?_
    replace h := h.2
    generalize hd3 : mu d 154 (1115 + (d 154 (5 + x3))) x1 = d3
    replace hd3 := hd3.symm
    replace h := h d3 hd3
    refine z_iinc (i := 3) (ls2 := [some (zR 153), some (zI x1), some (zI x2), some (zI (x3 + 1))]) dX9_cutNeck_127 (by decide) rfl rfl ?_
    refine z_goto (tgt := 101) dX9_cutNeck_130 (by decide) ?_
    exact h
set_option maxRecDepth 20000 in
theorem v_X9_cutNeck_162 {g : zGG} {Q : Int → zMem → Prop} {d : zMem}  {x1 : Int} {x2 : Int} {x3 : Int} (h : ((inR x3 ∧ inR (d 154 4)) ∧ ((d 154 4) ≤ x3 → ∀ d1, d1 = mu d 154 1405 ((d 154 1405) + 1) → Q 0 d1) ∧ (x3 < (d 154 4) → (0 ≤ ((5 + x3) + x2) ∧ ((5 + x3) + x2) < 1407) ∧ (0 ≤ (5 + x3) ∧ (5 + x3) < 1407) ∧ ∀ d2, d2 = mu d 154 (5 + x3) (d 154 ((5 + x3) + x2)) → (Fr g (eM g M_X9_cutNeck FUL FUL Q) M_X9_cutNeck FUL 162 [some (zR 153), some (zI x1), some (zI x2), some (zI (x3 + 1))] [] d2)))) : Fr g (eM g M_X9_cutNeck FUL FUL Q) M_X9_cutNeck FUL 162 [some (zR 153), some (zI x1), some (zI x2), some (zI x3)] [] d := by
  refine z_iload_n (i := 3) dX9_cutNeck_162 rfl rfl ?_
  refine z_aloadR_n (i := 0) dX9_cutNeck_163 rfl rfl ?_
  refine z_getR 9 0 (idx := 7) ly153 (by decide) (by decide) rfl (show 153 < 166 by decide) rfl rt_153_0 wf_X9_7 dX9_cutNeck_164 ?_
  refine z_iconst dX9_cutNeck_167 ?_
  refine z_iaload' (fv := (d 154 4)) ly154 (show 154 < 166 by decide) (by decide) dX9_cutNeck_168 (by decide) rfl ?_
  refine zb_icmp_ge (tgt := 196) dX9_cutNeck_169 (by decide) h.1 ⟨fun c => ?_, fun c => ?_⟩
  · replace h := h.2.1 c
    refine z_aloadR_n (i := 0) dX9_cutNeck_196 rfl rfl ?_
    refine z_getR 9 0 (idx := 7) ly153 (by decide) (by decide) rfl (show 153 < 166 by decide) rfl rt_153_0 wf_X9_7 dX9_cutNeck_197 ?_
    refine z_sipush dX9_cutNeck_200 (by decide +kernel) ?_
    refine z_dup2 dX9_cutNeck_203 (Nat.le_of_ble_eq_true rfl) (Nat.le_of_ble_eq_true rfl) ?_
    refine z_iaload' (fv := (d 154 1405)) ly154 (show 154 < 166 by decide) (by decide) dX9_cutNeck_204 (by decide) rfl ?_
    refine z_iconst dX9_cutNeck_205 ?_
    refine z_iadd dX9_cutNeck_206 ?_
    refine z_iastore ly154 (show 154 < 166 by decide) (by decide) dX9_cutNeck_207 (by decide) ?_
    generalize hd1 : mu d 154 1405 ((d 154 1405) + 1) = d1
    replace hd1 := hd1.symm
    replace h := h d1 hd1
    exact zret_v rfl dX9_cutNeck_208 h
  · replace h := h.2.2 c
    refine z_aloadR_n (i := 0) dX9_cutNeck_172 rfl rfl ?_
    refine z_getR 9 0 (idx := 7) ly153 (by decide) (by decide) rfl (show 153 < 166 by decide) rfl rt_153_0 wf_X9_7 dX9_cutNeck_173 ?_
    refine z_iconst dX9_cutNeck_176 ?_
    refine z_iload_n (i := 3) dX9_cutNeck_177 rfl rfl ?_
    refine z_iadd dX9_cutNeck_178 ?_
    refine z_aloadR_n (i := 0) dX9_cutNeck_179 rfl rfl ?_
    refine z_getR 9 0 (idx := 7) ly153 (by decide) (by decide) rfl (show 153 < 166 by decide) rfl rt_153_0 wf_X9_7 dX9_cutNeck_180 ?_
    refine z_iconst dX9_cutNeck_183 ?_
    refine z_iload_n (i := 3) dX9_cutNeck_184 rfl rfl ?_
    refine z_iadd dX9_cutNeck_185 ?_
    refine z_iload_n (i := 2) dX9_cutNeck_186 rfl rfl ?_
    refine z_iadd dX9_cutNeck_187 ?_
    refine z_iaload' (fv := (d 154 ((5 + x3) + x2))) ly154 (show 154 < 166 by decide) (by decide) dX9_cutNeck_188 h.1 rfl ?_
    replace h := h.2
    refine z_iastore ly154 (show 154 < 166 by decide) (by decide) dX9_cutNeck_189 h.1 ?_
    replace h := h.2
    generalize hd2 : mu d 154 (5 + x3) (d 154 ((5 + x3) + x2)) = d2
    replace hd2 := hd2.symm
    replace h := h d2 hd2
    refine z_iinc (i := 3) (ls2 := [some (zR 153), some (zI x1), some (zI x2), some (zI (x3 + 1))]) dX9_cutNeck_190 (by decide) rfl rfl ?_
    refine z_goto (tgt := 162) dX9_cutNeck_193 (by decide) ?_
    exact h
set_option maxRecDepth 20000 in
theorem v_X9_isFloodYear_0 {g : zGG} {Q : Int → zMem → Prop} {d : zMem} {x1 : Int}  (h : (Fr g (eM g M_X9_isFloodYear FUL FUL Q) M_X9_isFloodYear FUL 4 [some (zR 153), some (zI x1), some (zI 0), some (zI 0)] [] d)) : Fr g (eM g M_X9_isFloodYear FUL FUL Q) M_X9_isFloodYear FUL 0 [some (zR 153), some (zI x1), none, none] [] d := by
  refine z_iconst dX9_isFloodYear_0 ?_
  refine z_istore_n (i := 2) (ls2 := [some (zR 153), some (zI x1), some (zI 0), none]) dX9_isFloodYear_1 rfl (by decide) rfl ?_
  refine z_iconst dX9_isFloodYear_2 ?_
  refine z_istore_n (i := 3) (ls2 := [some (zR 153), some (zI x1), some (zI 0), some (zI 0)]) dX9_isFloodYear_3 rfl (by decide) rfl ?_
  exact h
theorem e_X9_isFloodYear {g : zGG} {Q : Int → zMem → Prop} {d : zMem} {x1 : Int} (h : (Fr g (eM g M_X9_isFloodYear FUL FUL Q) M_X9_isFloodYear FUL 4 [some (zR 153), some (zI x1), some (zI 0), some (zI 0)] [] d)) : Ev g M_X9_isFloodYear FUL FUL [zR 153, zI x1] d Q :=
  Ev_of (by decide +kernel) (Nat.le_of_ble_eq_true rfl) (v_X9_isFloodYear_0  h)
set_option maxRecDepth 20000 in
theorem v_X9_isFloodYear_4 {g : zGG} {Q : Int → zMem → Prop} {d : zMem} {x1 : Int} {x2 : Int} {x3 : Int} (h : ((inR x3 ∧ inR (d 154 1395)) ∧ ((d 154 1395) ≤ x3 → ((x2 = 0 ∨ x2 = 1) ∧ Q x2 d)) ∧ (x3 < (d 154 1395) → ((inR x2) ∧ (x2 ≠ 0 → (Fr g (eM g M_X9_isFloodYear FUL FUL Q) M_X9_isFloodYear FUL 4 [some (zR 153), some (zI x1), some (zI 1), some (zI (x3 + 1))] [] d)) ∧ (x2 = 0 → (0 ≤ (1396 + x3) ∧ (1396 + x3) < 1407) ∧ ((inR (d 154 (1396 + x3)) ∧ inR x1) ∧ ((d 154 (1396 + x3)) ≠ x1 → (Fr g (eM g M_X9_isFloodYear FUL FUL Q) M_X9_isFloodYear FUL 4 [some (zR 153), some (zI x1), some (zI 0), some (zI (x3 + 1))] [] d)) ∧ ((d 154 (1396 + x3)) = x1 → (Fr g (eM g M_X9_isFloodYear FUL FUL Q) M_X9_isFloodYear FUL 4 [some (zR 153), some (zI x1), some (zI 1), some (zI (x3 + 1))] [] d)))))))) : Fr g (eM g M_X9_isFloodYear FUL FUL Q) M_X9_isFloodYear FUL 4 [some (zR 153), some (zI x1), some (zI x2), some (zI x3)] [] d := by
  refine z_iload_n (i := 3) dX9_isFloodYear_4 rfl rfl ?_
  refine z_aloadR_n (i := 0) dX9_isFloodYear_5 rfl rfl ?_
  refine z_getR 9 0 (idx := 7) ly153 (by decide) (by decide) rfl (show 153 < 166 by decide) rfl rt_153_0 wf_X9_7 dX9_isFloodYear_6 ?_
  refine z_sipush dX9_isFloodYear_9 (by decide +kernel) ?_
  refine z_iaload' (fv := (d 154 1395)) ly154 (show 154 < 166 by decide) (by decide) dX9_isFloodYear_12 (by decide) rfl ?_
  refine zb_icmp_ge (tgt := 46) dX9_isFloodYear_13 (by decide) h.1 ⟨fun c => ?_, fun c => ?_⟩
  · replace h := h.2.1 c
    refine z_iload_n (i := 2) dX9_isFloodYear_46 rfl rfl ?_
    exact zret_z rfl dX9_isFloodYear_47 h.1 h.2
  · replace h := h.2.2 c
    refine z_iload_n (i := 2) dX9_isFloodYear_16 rfl rfl ?_
    refine zb_if_ne (tgt := 34) dX9_isFloodYear_17 (by decide) h.1 ⟨fun c => ?_, fun c => ?_⟩
    · replace h := h.2.1 c
      refine z_iconst dX9_isFloodYear_34 ?_
      refine z_goto (tgt := 39) dX9_isFloodYear_35 (by decide) ?_
      refine z_istore_n (i := 2) (ls2 := [some (zR 153), some (zI x1), some (zI 1), some (zI x3)]) dX9_isFloodYear_39 rfl (by decide) rfl ?_
      refine z_iinc (i := 3) (ls2 := [some (zR 153), some (zI x1), some (zI 1), some (zI (x3 + 1))]) dX9_isFloodYear_40 (by decide) rfl rfl ?_
      refine z_goto (tgt := 4) dX9_isFloodYear_43 (by decide) ?_
      exact h
    · replace h := h.2.2 c
      refine z_aloadR_n (i := 0) dX9_isFloodYear_20 rfl rfl ?_
      refine z_getR 9 0 (idx := 7) ly153 (by decide) (by decide) rfl (show 153 < 166 by decide) rfl rt_153_0 wf_X9_7 dX9_isFloodYear_21 ?_
      refine z_sipush dX9_isFloodYear_24 (by decide +kernel) ?_
      refine z_iload_n (i := 3) dX9_isFloodYear_27 rfl rfl ?_
      refine z_iadd dX9_isFloodYear_28 ?_
      refine z_iaload' (fv := (d 154 (1396 + x3))) ly154 (show 154 < 166 by decide) (by decide) dX9_isFloodYear_29 h.1 rfl ?_
      replace h := h.2
      refine z_iload_n (i := 1) dX9_isFloodYear_30 rfl rfl ?_
      refine zb_icmp_ne (tgt := 38) dX9_isFloodYear_31 (by decide) h.1 ⟨fun c => ?_, fun c => ?_⟩
      · replace h := h.2.1 c
        refine z_iconst dX9_isFloodYear_38 ?_
        refine z_istore_n (i := 2) (ls2 := [some (zR 153), some (zI x1), some (zI 0), some (zI x3)]) dX9_isFloodYear_39 rfl (by decide) rfl ?_
        refine z_iinc (i := 3) (ls2 := [some (zR 153), some (zI x1), some (zI 0), some (zI (x3 + 1))]) dX9_isFloodYear_40 (by decide) rfl rfl ?_
        refine z_goto (tgt := 4) dX9_isFloodYear_43 (by decide) ?_
        exact h
      · replace h := h.2.2 c
        refine z_iconst dX9_isFloodYear_34 ?_
        refine z_goto (tgt := 39) dX9_isFloodYear_35 (by decide) ?_
        refine z_istore_n (i := 2) (ls2 := [some (zR 153), some (zI x1), some (zI 1), some (zI x3)]) dX9_isFloodYear_39 rfl (by decide) rfl ?_
        refine z_iinc (i := 3) (ls2 := [some (zR 153), some (zI x1), some (zI 1), some (zI (x3 + 1))]) dX9_isFloodYear_40 (by decide) rfl rfl ?_
        refine z_goto (tgt := 4) dX9_isFloodYear_43 (by decide) ?_
        exact h
set_option maxRecDepth 20000 in
theorem v_X9_wear_0 {g : zGG} {Q : Int → zMem → Prop} {d : zMem}   (h : Ev g M_X9_findBends FUL FUL [zR 153] d (fun _ d1 => Ev g M_X9_isFloodYear FUL FUL [zR 153, zI (d1 154 1404)] d1 (fun v1 d2 => ((inR v1) ∧ (v1 = 0 → (Fr g (eM g M_X9_wear FUL FUL Q) M_X9_wear FUL 34 [some (zR 153), some (zI ((d1 154 0) * 1)), some (zI 0), none, none, none] [] d2)) ∧ (v1 ≠ 0 → (Fr g (eM g M_X9_wear FUL FUL Q) M_X9_wear FUL 34 [some (zR 153), some (zI ((d1 154 0) * 2)), some (zI 0), none, none, none] [] d2)))))) : Fr g (eM g M_X9_wear FUL FUL Q) M_X9_wear FUL 0 [some (zR 153), none, none, none, none, none] [] d := by
  refine z_aloadR_n (i := 0) dX9_wear_0 rfl rfl ?_
  refine z_callVv (k' := M_X9_findBends) (As := []) (st := []) dX9_wear_1 rfl ly153 (by decide) rfl (show 153 < 166 by decide) wm_X9_112 ok_X9_findBends okV_X9_findBends rfl (zroom_self (by decide) (by decide)) (Nat.le_of_ble_eq_true rfl) (Nat.le_refl _) rfl (Ev_mono h (fun _ d1 h => ?_))
  refine z_aloadR_n (i := 0) dX9_wear_4 rfl rfl ?_
  refine z_getR 9 0 (idx := 7) ly153 (by decide) (by decide) rfl (show 153 < 166 by decide) rfl rt_153_0 wf_X9_7 dX9_wear_5 ?_
  refine z_iconst dX9_wear_8 ?_
  refine z_iaload' (fv := (d1 154 0)) ly154 (show 154 < 166 by decide) (by decide) dX9_wear_9 (by decide) rfl ?_
  refine z_aloadR_n (i := 0) dX9_wear_10 rfl rfl ?_
  refine z_aloadR_n (i := 0) dX9_wear_11 rfl rfl ?_
  refine z_getR 9 0 (idx := 7) ly153 (by decide) (by decide) rfl (show 153 < 166 by decide) rfl rt_153_0 wf_X9_7 dX9_wear_12 ?_
  refine z_sipush dX9_wear_15 (by decide +kernel) ?_
  refine z_iaload' (fv := (d1 154 1404)) ly154 (show 154 < 166 by decide) (by decide) dX9_wear_18 (by decide) rfl ?_
  refine z_callVi (k' := M_X9_isFloodYear) (As := [zI (d1 154 1404)]) (st := [zI (d1 154 0)]) dX9_wear_19 rfl ly153 (by decide) rfl (show 153 < 166 by decide) wm_X9_115 ok_X9_isFloodYear okV_X9_isFloodYear rfl (zroom_self (by decide) (by decide)) (Nat.le_of_ble_eq_true rfl) (Nat.le_refl _) rfl (Ev_mono h (fun v1 d2 h => ?_))
  refine zb_if_eq (tgt := 29) dX9_wear_22 (by decide) h.1 ⟨fun c => ?_, fun c => ?_⟩
  · replace h := h.2.1 c
    refine z_iconst dX9_wear_29 ?_
    refine z_imul dX9_wear_30 ?_
    refine z_istore_n (i := 1) (ls2 := [some (zR 153), some (zI ((d1 154 0) * 1)), none, none, none, none]) dX9_wear_31 rfl (by decide) rfl ?_
    refine z_iconst dX9_wear_32 ?_
    refine z_istore_n (i := 2) (ls2 := [some (zR 153), some (zI ((d1 154 0) * 1)), some (zI 0), none, none, none]) dX9_wear_33 rfl (by decide) rfl ?_
    exact h
  · replace h := h.2.2 c
    refine z_iconst dX9_wear_25 ?_
    refine z_goto (tgt := 30) dX9_wear_26 (by decide) ?_
    refine z_imul dX9_wear_30 ?_
    refine z_istore_n (i := 1) (ls2 := [some (zR 153), some (zI ((d1 154 0) * 2)), none, none, none, none]) dX9_wear_31 rfl (by decide) rfl ?_
    refine z_iconst dX9_wear_32 ?_
    refine z_istore_n (i := 2) (ls2 := [some (zR 153), some (zI ((d1 154 0) * 2)), some (zI 0), none, none, none]) dX9_wear_33 rfl (by decide) rfl ?_
    exact h
theorem e_X9_wear {g : zGG} {Q : Int → zMem → Prop} {d : zMem}  (h : Ev g M_X9_findBends FUL FUL [zR 153] d (fun _ d1 => Ev g M_X9_isFloodYear FUL FUL [zR 153, zI (d1 154 1404)] d1 (fun v1 d2 => ((inR v1) ∧ (v1 = 0 → (Fr g (eM g M_X9_wear FUL FUL Q) M_X9_wear FUL 34 [some (zR 153), some (zI ((d1 154 0) * 1)), some (zI 0), none, none, none] [] d2)) ∧ (v1 ≠ 0 → (Fr g (eM g M_X9_wear FUL FUL Q) M_X9_wear FUL 34 [some (zR 153), some (zI ((d1 154 0) * 2)), some (zI 0), none, none, none] [] d2)))))) : Ev g M_X9_wear FUL FUL [zR 153] d Q :=
  Ev_of (by decide +kernel) (Nat.le_of_ble_eq_true rfl) (v_X9_wear_0  h)
set_option maxRecDepth 20000 in
theorem v_X9_wear_34 {g : zGG} {Q : Int → zMem → Prop} {d : zMem}  {x1 : Int} {x2 : Int} (h : ((inR x2 ∧ inR (d 153 11)) ∧ ((d 153 11) ≤ x2 → Q 0 d) ∧ (x2 < (d 153 11) → Ev g M_X9_isFirm FUL FUL [zR 153, zI x2] d (fun v1 d1 => ((inR v1) ∧ (v1 ≠ 0 → (Fr g (eM g M_X9_wear FUL FUL Q) M_X9_wear FUL 34 [some (zR 153), some (zI x1), some (zI (x2 + 1)), none, none, none] [] d1)) ∧ (v1 = 0 → (0 ≤ x2 ∧ x2 < 150) ∧ (Fr g (eM g M_X9_wear FUL FUL Q) M_X9_wear FUL 57 [some (zR 153), some (zI x1), some (zI x2), some (zI (d1 160 x2)), none, none] [] d1))))))) : Fr g (eM g M_X9_wear FUL FUL Q) M_X9_wear FUL 34 [some (zR 153), some (zI x1), some (zI x2), none, none, none] [] d := by
  refine z_iload_n (i := 2) dX9_wear_34 rfl rfl ?_
  refine z_aloadR_n (i := 0) dX9_wear_35 rfl rfl ?_
  refine z_getI' 9 11 (idx := 62) (fv := (d 153 11)) ly153 (by decide) (by decide) rfl (show 153 < 166 by decide) wf_X9_62 dX9_wear_36 rfl ?_
  refine zb_icmp_ge (tgt := 143) dX9_wear_39 (by decide) h.1 ⟨fun c => ?_, fun c => ?_⟩
  · replace h := h.2.1 c
    exact zret_v rfl dX9_wear_143 h
  · replace h := h.2.2 c
    refine z_aloadR_n (i := 0) dX9_wear_42 rfl rfl ?_
    refine z_iload_n (i := 2) dX9_wear_43 rfl rfl ?_
    refine z_callVi (k' := M_X9_isFirm) (As := [zI x2]) (st := []) dX9_wear_44 rfl ly153 (by decide) rfl (show 153 < 166 by decide) wm_X9_79 ok_X9_isFirm okV_X9_isFirm rfl (zroom_self (by decide) (by decide)) (Nat.le_of_ble_eq_true rfl) (Nat.le_refl _) rfl (Ev_mono h (fun v1 d1 h => ?_))
    refine zb_if_ne (tgt := 137) dX9_wear_47 (by decide) h.1 ⟨fun c => ?_, fun c => ?_⟩
    · replace h := h.2.1 c
      refine z_iinc (i := 2) (ls2 := [some (zR 153), some (zI x1), some (zI (x2 + 1)), none, none, none]) dX9_wear_137 (by decide) rfl rfl ?_
      refine z_goto (tgt := 34) dX9_wear_140 (by decide) ?_
      exact h
    · replace h := h.2.2 c
      refine z_aloadR_n (i := 0) dX9_wear_50 rfl rfl ?_
      refine z_getR 9 8 (idx := 29) ly153 (by decide) (by decide) rfl (show 153 < 166 by decide) rfl rt_153_8 wf_X9_29 dX9_wear_51 ?_
      refine z_iload_n (i := 2) dX9_wear_54 rfl rfl ?_
      refine z_iaload' (fv := (d1 160 x2)) ly160 (show 160 < 166 by decide) (by decide) dX9_wear_55 h.1 rfl ?_
      replace h := h.2
      refine z_istore_n (i := 3) (ls2 := [some (zR 153), some (zI x1), some (zI x2), some (zI (d1 160 x2)), none, none]) dX9_wear_56 rfl (by decide) rfl ?_
      exact h
set_option maxRecDepth 20000 in
theorem v_X9_wear_57 {g : zGG} {Q : Int → zMem → Prop} {d : zMem}  {x1 : Int} {x2 : Int} {x3 : Int} (h : (0 ≤ x2 ∧ x2 < 150) ∧ ((inR x3 ∧ inR (d 161 x2)) ∧ ((d 161 x2) < x3 → (Fr g (eM g M_X9_wear FUL FUL Q) M_X9_wear FUL 34 [some (zR 153), some (zI x1), some (zI (x2 + 1)), none, none, none] [] d)) ∧ (x3 ≤ (d 161 x2) → Ev g M_X9_bank FUL FUL [zR 153, zI x2, zI x3] d (fun v1 d1 => (0 ≤ (155 + v1) ∧ (155 + v1) < 1407) ∧ ((inR ((d1 154 (155 + v1)) + x1)) ∧ (99 < ((d1 154 (155 + v1)) + x1) → (0 ≤ (155 + v1) ∧ (155 + v1) < 1407) ∧ ∀ d2, d2 = mu d1 154 (155 + v1) 99 → (Fr g (eM g M_X9_wear FUL FUL Q) M_X9_wear FUL 57 [some (zR 153), some (zI x1), some (zI x2), some (zI (x3 + 1)), none, none] [] d2)) ∧ (((d1 154 (155 + v1)) + x1) ≤ 99 → (0 ≤ (1115 + v1) ∧ (1115 + v1) < 1407) ∧ ((inR (d1 154 (1115 + v1))) ∧ ((d1 154 (1115 + v1)) = (-6) → (0 ≤ (155 + v1) ∧ (155 + v1) < 1407) ∧ ∀ d3, d3 = mu d1 154 (155 + v1) ((d1 154 (155 + v1)) + x1) → (Fr g (eM g M_X9_wear FUL FUL Q) M_X9_wear FUL 57 [some (zR 153), some (zI x1), some (zI x2), some (zI (x3 + 1)), none, none] [] d3)) ∧ ((d1 154 (1115 + v1)) ≠ (-6) → (0 ≤ (155 + v1) ∧ (155 + v1) < 1407) ∧ ∀ d4, d4 = mu d1 154 (155 + v1) 99 → (Fr g (eM g M_X9_wear FUL FUL Q) M_X9_wear FUL 57 [some (zR 153), some (zI x1), some (zI x2), some (zI (x3 + 1)), none, none] [] d4))))))))) : Fr g (eM g M_X9_wear FUL FUL Q) M_X9_wear FUL 57 [some (zR 153), some (zI x1), some (zI x2), some (zI x3), none, none] [] d := by
  refine z_iload_n (i := 3) dX9_wear_57 rfl rfl ?_
  refine z_aloadR_n (i := 0) dX9_wear_58 rfl rfl ?_
  refine z_getR 9 9 (idx := 32) ly153 (by decide) (by decide) rfl (show 153 < 166 by decide) rfl rt_153_9 wf_X9_32 dX9_wear_59 ?_
  refine z_iload_n (i := 2) dX9_wear_62 rfl rfl ?_
  refine z_iaload' (fv := (d 161 x2)) ly161 (show 161 < 166 by decide) (by decide) dX9_wear_63 h.1 rfl ?_
  replace h := h.2
  refine zb_icmp_gt (tgt := 137) dX9_wear_64 (by decide) h.1 ⟨fun c => ?_, fun c => ?_⟩
  · replace h := h.2.1 c
    refine z_iinc (i := 2) (ls2 := [some (zR 153), some (zI x1), some (zI (x2 + 1)), some (zI x3), none, none]) dX9_wear_137 (by decide) rfl rfl ?_
    refine z_goto (tgt := 34) dX9_wear_140 (by decide) ?_
    exact Fr_weak (ls2 := [some (zR 153), some (zI x1), some (zI (x2 + 1)), none, none, none]) (by exact ⟨Or.inr rfl, Or.inr rfl, Or.inr rfl, Or.inl rfl, Or.inl rfl, Or.inl rfl, trivial⟩) h
  · replace h := h.2.2 c
    refine z_aloadR_n (i := 0) dX9_wear_67 rfl rfl ?_
    refine z_iload_n (i := 2) dX9_wear_68 rfl rfl ?_
    refine z_iload_n (i := 3) dX9_wear_69 rfl rfl ?_
    refine z_callVi (k' := M_X9_bank) (As := [zI x2, zI x3]) (st := []) dX9_wear_70 rfl ly153 (by decide) rfl (show 153 < 166 by decide) wm_X9_76 ok_X9_bank okV_X9_bank rfl (zroom_self (by decide) (by decide)) (Nat.le_of_ble_eq_true rfl) (Nat.le_refl _) rfl (Ev_mono h (fun v1 d1 h => ?_))
    refine z_istore (i := 4) (ls2 := [some (zR 153), some (zI x1), some (zI x2), some (zI x3), some (zI v1), none]) dX9_wear_73 (by decide) rfl ?_
    refine z_aloadR_n (i := 0) dX9_wear_75 rfl rfl ?_
    refine z_getR 9 0 (idx := 7) ly153 (by decide) (by decide) rfl (show 153 < 166 by decide) rfl rt_153_0 wf_X9_7 dX9_wear_76 ?_
    refine z_sipush dX9_wear_79 (by decide +kernel) ?_
    refine z_iload (i := 4) dX9_wear_82 rfl ?_
    refine z_iadd dX9_wear_84 ?_
    refine z_iaload' (fv := (d1 154 (155 + v1))) ly154 (show 154 < 166 by decide) (by decide) dX9_wear_85 h.1 rfl ?_
    replace h := h.2
    refine z_iload_n (i := 1) dX9_wear_86 rfl rfl ?_
    refine z_iadd dX9_wear_87 ?_
    refine z_istore (i := 5) (ls2 := [some (zR 153), some (zI x1), some (zI x2), some (zI x3), some (zI v1), some (zI ((d1 154 (155 + v1)) + x1))]) dX9_wear_88 (by decide) rfl ?_
    refine z_aloadR_n (i := 0) dX9_wear_90 rfl rfl ?_
    refine z_getR 9 0 (idx := 7) ly153 (by decide) (by decide) rfl (show 153 < 166 by decide) rfl rt_153_0 wf_X9_7 dX9_wear_91 ?_
    refine z_sipush dX9_wear_94 (by decide +kernel) ?_
    refine z_iload (i := 4) dX9_wear_97 rfl ?_
    refine z_iadd dX9_wear_99 ?_
    refine z_iload (i := 5) dX9_wear_100 rfl ?_
    refine z_bipush dX9_wear_102 (by decide +kernel) ?_
    refine zb_icmp_gt (tgt := 123) dX9_wear_104 (by decide) ⟨h.1, by decide⟩ ⟨fun c => ?_, fun c => ?_⟩
    · replace h := h.2.1 c
      refine z_bipush dX9_wear_123 (by decide +kernel) ?_
      refine z_goto (tgt := 130) dX9_wear_125 (by decide) ?_
      refine z_iastore ly154 (show 154 < 166 by decide) (by decide) dX9_wear_130 h.1 ?_
      replace h := h.2
      generalize hd2 : mu d1 154 (155 + v1) 99 = d2
      replace hd2 := hd2.symm
      replace h := h d2 hd2
      refine z_iinc (i := 3) (ls2 := [some (zR 153), some (zI x1), some (zI x2), some (zI (x3 + 1)), some (zI v1), some (zI ((d1 154 (155 + v1)) + x1))]) dX9_wear_131 (by decide) rfl rfl ?_
      refine z_goto (tgt := 57) dX9_wear_134 (by decide) ?_
      exact Fr_weak (ls2 := [some (zR 153), some (zI x1), some (zI x2), some (zI (x3 + 1)), none, none]) (by exact ⟨Or.inr rfl, Or.inr rfl, Or.inr rfl, Or.inr rfl, Or.inl rfl, Or.inl rfl, trivial⟩) h
    · replace h := h.2.2 c
      refine z_aloadR_n (i := 0) dX9_wear_107 rfl rfl ?_
      refine z_getR 9 0 (idx := 7) ly153 (by decide) (by decide) rfl (show 153 < 166 by decide) rfl rt_153_0 wf_X9_7 dX9_wear_108 ?_
      refine z_sipush dX9_wear_111 (by decide +kernel) ?_
      refine z_iload (i := 4) dX9_wear_114 rfl ?_
      refine z_iadd dX9_wear_116 ?_
      refine z_iaload' (fv := (d1 154 (1115 + v1))) ly154 (show 154 < 166 by decide) (by decide) dX9_wear_117 h.1 rfl ?_
      replace h := h.2
      refine z_bipush dX9_wear_118 (by decide +kernel) ?_
      refine zb_icmp_eq (tgt := 128) dX9_wear_120 (by decide) ⟨h.1, by decide⟩ ⟨fun c => ?_, fun c => ?_⟩
      · replace h := h.2.1 c
        refine z_iload (i := 5) dX9_wear_128 rfl ?_
        refine z_iastore ly154 (show 154 < 166 by decide) (by decide) dX9_wear_130 h.1 ?_
        replace h := h.2
        generalize hd3 : mu d1 154 (155 + v1) ((d1 154 (155 + v1)) + x1) = d3
        replace hd3 := hd3.symm
        replace h := h d3 hd3
        refine z_iinc (i := 3) (ls2 := [some (zR 153), some (zI x1), some (zI x2), some (zI (x3 + 1)), some (zI v1), some (zI ((d1 154 (155 + v1)) + x1))]) dX9_wear_131 (by decide) rfl rfl ?_
        refine z_goto (tgt := 57) dX9_wear_134 (by decide) ?_
        exact Fr_weak (ls2 := [some (zR 153), some (zI x1), some (zI x2), some (zI (x3 + 1)), none, none]) (by exact ⟨Or.inr rfl, Or.inr rfl, Or.inr rfl, Or.inr rfl, Or.inl rfl, Or.inl rfl, trivial⟩) h
      · replace h := h.2.2 c
        refine z_bipush dX9_wear_123 (by decide +kernel) ?_
        refine z_goto (tgt := 130) dX9_wear_125 (by decide) ?_
        refine z_iastore ly154 (show 154 < 166 by decide) (by decide) dX9_wear_130 h.1 ?_
        replace h := h.2
        generalize hd4 : mu d1 154 (155 + v1) 99 = d4
        replace hd4 := hd4.symm
        replace h := h d4 hd4
        refine z_iinc (i := 3) (ls2 := [some (zR 153), some (zI x1), some (zI x2), some (zI (x3 + 1)), some (zI v1), some (zI ((d1 154 (155 + v1)) + x1))]) dX9_wear_131 (by decide) rfl rfl ?_
        refine z_goto (tgt := 57) dX9_wear_134 (by decide) ?_
        exact Fr_weak (ls2 := [some (zR 153), some (zI x1), some (zI x2), some (zI (x3 + 1)), none, none]) (by exact ⟨Or.inr rfl, Or.inr rfl, Or.inr rfl, Or.inr rfl, Or.inl rfl, Or.inl rfl, trivial⟩) h
set_option maxRecDepth 20000 in
theorem v_X9_growAll_0 {g : zGG} {Q : Int → zMem → Prop} {d : zMem}   (h : (Fr g (eM g M_X9_growAll FUL FUL Q) M_X9_growAll FUL 4 [some (zR 153), some (zI 0), some (zI 1), none] [] d)) : Fr g (eM g M_X9_growAll FUL FUL Q) M_X9_growAll FUL 0 [some (zR 153), none, none, none] [] d := by
  refine z_iconst dX9_growAll_0 ?_
  refine z_istore_n (i := 1) (ls2 := [some (zR 153), some (zI 0), none, none]) dX9_growAll_1 rfl (by decide) rfl ?_
  refine z_iconst dX9_growAll_2 ?_
  refine z_istore_n (i := 2) (ls2 := [some (zR 153), some (zI 0), some (zI 1), none]) dX9_growAll_3 rfl (by decide) rfl ?_
  exact h
theorem e_X9_growAll {g : zGG} {Q : Int → zMem → Prop} {d : zMem}  (h : (Fr g (eM g M_X9_growAll FUL FUL Q) M_X9_growAll FUL 4 [some (zR 153), some (zI 0), some (zI 1), none] [] d)) : Ev g M_X9_growAll FUL FUL [zR 153] d Q :=
  Ev_of (by decide +kernel) (Nat.le_of_ble_eq_true rfl) (v_X9_growAll_0  h)
set_option maxRecDepth 20000 in
theorem v_X9_growAll_4 {g : zGG} {Q : Int → zMem → Prop} {d : zMem}  {x1 : Int} {x2 : Int} (h : ((inR x2) ∧ (x2 = 0 → Q 0 d) ∧ (x2 ≠ 0 → Ev g M_X9_findBends FUL FUL [zR 153] d (fun _ d1 => (Fr g (eM g M_X9_growAll FUL FUL Q) M_X9_growAll FUL 16 [some (zR 153), some (zI x1), some (zI 0), some (zI 0)] [] d1))))) : Fr g (eM g M_X9_growAll FUL FUL Q) M_X9_growAll FUL 4 [some (zR 153), some (zI x1), some (zI x2), none] [] d := by
  refine z_iload_n (i := 2) dX9_growAll_4 rfl rfl ?_
  refine zb_if_eq (tgt := 71) dX9_growAll_5 (by decide) h.1 ⟨fun c => ?_, fun c => ?_⟩
  · replace h := h.2.1 c
    exact zret_v rfl dX9_growAll_71 h
  · replace h := h.2.2 c
    refine z_aloadR_n (i := 0) dX9_growAll_8 rfl rfl ?_
    refine z_callVv (k' := M_X9_findBends) (As := []) (st := []) dX9_growAll_9 rfl ly153 (by decide) rfl (show 153 < 166 by decide) wm_X9_112 ok_X9_findBends okV_X9_findBends rfl (zroom_self (by decide) (by decide)) (Nat.le_of_ble_eq_true rfl) (Nat.le_refl _) rfl (Ev_mono h (fun _ d1 h => ?_))
    refine z_iconst dX9_growAll_12 ?_
    refine z_istore_n (i := 2) (ls2 := [some (zR 153), some (zI x1), some (zI 0), none]) dX9_growAll_13 rfl (by decide) rfl ?_
    refine z_iconst dX9_growAll_14 ?_
    refine z_istore_n (i := 3) (ls2 := [some (zR 153), some (zI x1), some (zI 0), some (zI 0)]) dX9_growAll_15 rfl (by decide) rfl ?_
    exact h
set_option maxRecDepth 20000 in
theorem v_X9_growAll_16 {g : zGG} {Q : Int → zMem → Prop} {d : zMem}  {x1 : Int} {x2 : Int} {x3 : Int} (h : ((inR x3 ∧ inR (d 153 11)) ∧ ((d 153 11) ≤ x3 → (Fr g (eM g M_X9_growAll FUL FUL Q) M_X9_growAll FUL 4 [some (zR 153), some (zI x1), some (zI x2), none] [] d)) ∧ (x3 < (d 153 11) → ((inR x2) ∧ (x2 ≠ 0 → (Fr g (eM g M_X9_growAll FUL FUL Q) M_X9_growAll FUL 4 [some (zR 153), some (zI x1), some (zI x2), none] [] d)) ∧ (x2 = 0 → (0 ≤ x3 ∧ x3 < 150) ∧ ((inR (d 160 x3) ∧ inR x1) ∧ ((d 160 x3) < x1 → (Fr g (eM g M_X9_growAll FUL FUL Q) M_X9_growAll FUL 16 [some (zR 153), some (zI x1), some (zI 0), some (zI (x3 + 1))] [] d)) ∧ (x1 ≤ (d 160 x3) → Ev g M_X9_canGrow FUL FUL [zR 153, zI x3] d (fun v1 d1 => ((inR v1) ∧ (v1 = 0 → (Fr g (eM g M_X9_growAll FUL FUL Q) M_X9_growAll FUL 16 [some (zR 153), some (zI x1), some (zI 0), some (zI (x3 + 1))] [] d1)) ∧ (v1 ≠ 0 → Ev g M_X9_grow FUL FUL [zR 153, zI x3] d1 (fun v2 d2 => (Fr g (eM g M_X9_growAll FUL FUL Q) M_X9_growAll FUL 16 [some (zR 153), some (zI v2), some (zI 1), some (zI (x3 + 1))] [] d2)))))))))))) : Fr g (eM g M_X9_growAll FUL FUL Q) M_X9_growAll FUL 16 [some (zR 153), some (zI x1), some (zI x2), some (zI x3)] [] d := by
  refine z_iload_n (i := 3) dX9_growAll_16 rfl rfl ?_
  refine z_aloadR_n (i := 0) dX9_growAll_17 rfl rfl ?_
  refine z_getI' 9 11 (idx := 62) (fv := (d 153 11)) ly153 (by decide) (by decide) rfl (show 153 < 166 by decide) wf_X9_62 dX9_growAll_18 rfl ?_
  refine zb_icmp_ge (tgt := 68) dX9_growAll_21 (by decide) h.1 ⟨fun c => ?_, fun c => ?_⟩
  · replace h := h.2.1 c
    refine z_goto (tgt := 4) dX9_growAll_68 (by decide) ?_
    exact Fr_weak (ls2 := [some (zR 153), some (zI x1), some (zI x2), none]) (by exact ⟨Or.inr rfl, Or.inr rfl, Or.inr rfl, Or.inl rfl, trivial⟩) h
  · replace h := h.2.2 c
    refine z_iload_n (i := 2) dX9_growAll_24 rfl rfl ?_
    refine zb_if_ne (tgt := 68) dX9_growAll_25 (by decide) h.1 ⟨fun c => ?_, fun c => ?_⟩
    · replace h := h.2.1 c
      refine z_goto (tgt := 4) dX9_growAll_68 (by decide) ?_
      exact Fr_weak (ls2 := [some (zR 153), some (zI x1), some (zI x2), none]) (by exact ⟨Or.inr rfl, Or.inr rfl, Or.inr rfl, Or.inl rfl, trivial⟩) h
    · replace h := h.2.2 c
      refine z_aloadR_n (i := 0) dX9_growAll_28 rfl rfl ?_
      refine z_getR 9 8 (idx := 29) ly153 (by decide) (by decide) rfl (show 153 < 166 by decide) rfl rt_153_8 wf_X9_29 dX9_growAll_29 ?_
      refine z_iload_n (i := 3) dX9_growAll_32 rfl rfl ?_
      refine z_iaload' (fv := (d 160 x3)) ly160 (show 160 < 166 by decide) (by decide) dX9_growAll_33 h.1 rfl ?_
      replace h := h.2
      refine z_iload_n (i := 1) dX9_growAll_34 rfl rfl ?_
      refine zb_icmp_lt (tgt := 50) dX9_growAll_35 (by decide) h.1 ⟨fun c => ?_, fun c => ?_⟩
      · replace h := h.2.1 c
        refine z_iconst dX9_growAll_50 ?_
        refine z_istore_n (i := 2) (ls2 := [some (zR 153), some (zI x1), some (zI 0), some (zI x3)]) dX9_growAll_51 rfl (by decide) rfl ?_
        refine z_iload_n (i := 2) dX9_growAll_52 rfl rfl ?_
        refine zb_if_eq (tgt := 62) dX9_growAll_53 (by decide) (by decide) ⟨fun _ => ?_, fun q => absurd q (by decide)⟩
        refine z_iinc (i := 3) (ls2 := [some (zR 153), some (zI x1), some (zI 0), some (zI (x3 + 1))]) dX9_growAll_62 (by decide) rfl rfl ?_
        refine z_goto (tgt := 16) dX9_growAll_65 (by decide) ?_
        exact h
      · replace h := h.2.2 c
        refine z_aloadR_n (i := 0) dX9_growAll_38 rfl rfl ?_
        refine z_iload_n (i := 3) dX9_growAll_39 rfl rfl ?_
        refine z_callVi (k' := M_X9_canGrow) (As := [zI x3]) (st := []) dX9_growAll_40 rfl ly153 (by decide) rfl (show 153 < 166 by decide) wm_X9_118 ok_X9_canGrow okV_X9_canGrow rfl (zroom_self (by decide) (by decide)) (Nat.le_of_ble_eq_true rfl) (Nat.le_refl _) rfl (Ev_mono h (fun v1 d1 h => ?_))
        refine zb_if_eq (tgt := 50) dX9_growAll_43 (by decide) h.1 ⟨fun c => ?_, fun c => ?_⟩
        · replace h := h.2.1 c
          refine z_iconst dX9_growAll_50 ?_
          refine z_istore_n (i := 2) (ls2 := [some (zR 153), some (zI x1), some (zI 0), some (zI x3)]) dX9_growAll_51 rfl (by decide) rfl ?_
          refine z_iload_n (i := 2) dX9_growAll_52 rfl rfl ?_
          refine zb_if_eq (tgt := 62) dX9_growAll_53 (by decide) (by decide) ⟨fun _ => ?_, fun q => absurd q (by decide)⟩
          refine z_iinc (i := 3) (ls2 := [some (zR 153), some (zI x1), some (zI 0), some (zI (x3 + 1))]) dX9_growAll_62 (by decide) rfl rfl ?_
          refine z_goto (tgt := 16) dX9_growAll_65 (by decide) ?_
          exact h
        · replace h := h.2.2 c
          refine z_iconst dX9_growAll_46 ?_
          refine z_goto (tgt := 51) dX9_growAll_47 (by decide) ?_
          refine z_istore_n (i := 2) (ls2 := [some (zR 153), some (zI x1), some (zI 1), some (zI x3)]) dX9_growAll_51 rfl (by decide) rfl ?_
          refine z_iload_n (i := 2) dX9_growAll_52 rfl rfl ?_
          refine zb_if_eq (tgt := 62) dX9_growAll_53 (by decide) (by decide) ⟨fun q => absurd q (by decide), fun _ => ?_⟩
          refine z_aloadR_n (i := 0) dX9_growAll_56 rfl rfl ?_
          refine z_iload_n (i := 3) dX9_growAll_57 rfl rfl ?_
          refine z_callVi (k' := M_X9_grow) (As := [zI x3]) (st := []) dX9_growAll_58 rfl ly153 (by decide) rfl (show 153 < 166 by decide) wm_X9_121 ok_X9_grow okV_X9_grow rfl (zroom_self (by decide) (by decide)) (Nat.le_of_ble_eq_true rfl) (Nat.le_refl _) rfl (Ev_mono h (fun v2 d2 h => ?_))
          refine z_istore_n (i := 1) (ls2 := [some (zR 153), some (zI v2), some (zI 1), some (zI x3)]) dX9_growAll_61 rfl (by decide) rfl ?_
          refine z_iinc (i := 3) (ls2 := [some (zR 153), some (zI v2), some (zI 1), some (zI (x3 + 1))]) dX9_growAll_62 (by decide) rfl rfl ?_
          refine z_goto (tgt := 16) dX9_growAll_65 (by decide) ?_
          exact h
set_option maxRecDepth 20000 in
theorem v_X9_age_0 {g : zGG} {Q : Int → zMem → Prop} {d : zMem}   (h : (Fr g (eM g M_X9_age FUL FUL Q) M_X9_age FUL 2 [some (zR 153), some (zI 0), none] [] d)) : Fr g (eM g M_X9_age FUL FUL Q) M_X9_age FUL 0 [some (zR 153), none, none] [] d := by
  refine z_iconst dX9_age_0 ?_
  refine z_istore_n (i := 1) (ls2 := [some (zR 153), some (zI 0), none]) dX9_age_1 rfl (by decide) rfl ?_
  exact h
theorem e_X9_age {g : zGG} {Q : Int → zMem → Prop} {d : zMem}  (h : (Fr g (eM g M_X9_age FUL FUL Q) M_X9_age FUL 2 [some (zR 153), some (zI 0), none] [] d)) : Ev g M_X9_age FUL FUL [zR 153] d Q :=
  Ev_of (by decide +kernel) (Nat.le_of_ble_eq_true rfl) (v_X9_age_0  h)
set_option maxRecDepth 20000 in
theorem v_X9_age_2 {g : zGG} {Q : Int → zMem → Prop} {d : zMem}  {x1 : Int} (h : ((inR x1) ∧ (480 ≤ x1 → (Fr g (eM g M_X9_age FUL FUL Q) M_X9_age FUL 24 [some (zR 153), some (zI 0), none] [] d)) ∧ (x1 < 480 → (0 ≤ x1 ∧ x1 < 480) ∧ ∀ d1, d1 = mu d 164 x1 0 → (Fr g (eM g M_X9_age FUL FUL Q) M_X9_age FUL 2 [some (zR 153), some (zI (x1 + 1)), none] [] d1)))) : Fr g (eM g M_X9_age FUL FUL Q) M_X9_age FUL 2 [some (zR 153), some (zI x1), none] [] d := by
  refine z_iload_n (i := 1) dX9_age_2 rfl rfl ?_
  refine z_sipush dX9_age_3 (by decide +kernel) ?_
  refine zb_icmp_ge (tgt := 22) dX9_age_6 (by decide) ⟨h.1, by decide⟩ ⟨fun c => ?_, fun c => ?_⟩
  · replace h := h.2.1 c
    refine z_iconst dX9_age_22 ?_
    refine z_istore_n (i := 1) (ls2 := [some (zR 153), some (zI 0), none]) dX9_age_23 rfl (by decide) rfl ?_
    exact h
  · replace h := h.2.2 c
    refine z_aloadR_n (i := 0) dX9_age_9 rfl rfl ?_
    refine z_getR 9 18 (idx := 41) ly153 (by decide) (by decide) rfl (show 153 < 166 by decide) rfl rt_153_18 wf_X9_41 dX9_age_10 ?_
    refine z_iload_n (i := 1) dX9_age_13 rfl rfl ?_
    refine z_iconst dX9_age_14 ?_
    refine z_bastore ly164 (show 164 < 166 by decide) (by decide) dX9_age_15 h.1 (by decide) ?_
    replace h := h.2
    generalize hd1 : mu d 164 x1 0 = d1
    replace hd1 := hd1.symm
    replace h := h d1 hd1
    refine z_iinc (i := 1) (ls2 := [some (zR 153), some (zI (x1 + 1)), none]) dX9_age_16 (by decide) rfl rfl ?_
    refine z_goto (tgt := 2) dX9_age_19 (by decide) ?_
    exact h
set_option maxRecDepth 20000 in
theorem v_X9_age_24 {g : zGG} {Q : Int → zMem → Prop} {d : zMem}  {x1 : Int} (h : ((inR x1 ∧ inR (d 154 4)) ∧ ((d 154 4) ≤ x1 → (Fr g (eM g M_X9_age FUL FUL Q) M_X9_age FUL 113 [some (zR 153), some (zI 0), none] [] d)) ∧ (x1 < (d 154 4) → (Fr g (eM g M_X9_age FUL FUL Q) M_X9_age FUL 38 [some (zR 153), some (zI x1), some (zI (x1 + 3))] [] d)))) : Fr g (eM g M_X9_age FUL FUL Q) M_X9_age FUL 24 [some (zR 153), some (zI x1), none] [] d := by
  refine z_iload_n (i := 1) dX9_age_24 rfl rfl ?_
  refine z_aloadR_n (i := 0) dX9_age_25 rfl rfl ?_
  refine z_getR 9 0 (idx := 7) ly153 (by decide) (by decide) rfl (show 153 < 166 by decide) rfl rt_153_0 wf_X9_7 dX9_age_26 ?_
  refine z_iconst dX9_age_29 ?_
  refine z_iaload' (fv := (d 154 4)) ly154 (show 154 < 166 by decide) (by decide) dX9_age_30 (by decide) rfl ?_
  refine zb_icmp_ge (tgt := 111) dX9_age_31 (by decide) h.1 ⟨fun c => ?_, fun c => ?_⟩
  · replace h := h.2.1 c
    refine z_iconst dX9_age_111 ?_
    refine z_istore_n (i := 1) (ls2 := [some (zR 153), some (zI 0), none]) dX9_age_112 rfl (by decide) rfl ?_
    exact h
  · replace h := h.2.2 c
    refine z_iload_n (i := 1) dX9_age_34 rfl rfl ?_
    refine z_iconst dX9_age_35 ?_
    refine z_iadd dX9_age_36 ?_
    refine z_istore_n (i := 2) (ls2 := [some (zR 153), some (zI x1), some (zI (x1 + 3))]) dX9_age_37 rfl (by decide) rfl ?_
    exact h
set_option maxRecDepth 20000 in
theorem v_X9_age_38 {g : zGG} {Q : Int → zMem → Prop} {d : zMem}  {x1 : Int} {x2 : Int} (h : ((inR x2 ∧ inR (d 154 4)) ∧ ((d 154 4) ≤ x2 → (Fr g (eM g M_X9_age FUL FUL Q) M_X9_age FUL 24 [some (zR 153), some (zI (x1 + 1)), none] [] d)) ∧ (x2 < (d 154 4) → (0 ≤ (5 + x1) ∧ (5 + x1) < 1407) ∧ (0 ≤ (5 + x2) ∧ (5 + x2) < 1407) ∧ Ev g M_X9_areNeighbours FUL FUL [zI (d 154 (5 + x1)), zI (d 154 (5 + x2))] d (fun v1 d1 => ((inR v1) ∧ (v1 = 0 → (Fr g (eM g M_X9_age FUL FUL Q) M_X9_age FUL 38 [some (zR 153), some (zI x1), some (zI (x2 + 1))] [] d1)) ∧ (v1 ≠ 0 → (0 ≤ (5 + x1) ∧ (5 + x1) < 1407) ∧ (0 ≤ (5 + x2) ∧ (5 + x2) < 1407) ∧ Ev g M_X9_pair FUL FUL [zI (d1 154 (5 + x1)), zI (d1 154 (5 + x2))] d1 (fun v2 d2 => (0 ≤ (v2 - 635) ∧ (v2 - 635) < 480) ∧ ∀ d3, d3 = mu d2 164 (v2 - 635) 1 → (Fr g (eM g M_X9_age FUL FUL Q) M_X9_age FUL 38 [some (zR 153), some (zI x1), some (zI (x2 + 1))] [] d3)))))))) : Fr g (eM g M_X9_age FUL FUL Q) M_X9_age FUL 38 [some (zR 153), some (zI x1), some (zI x2)] [] d := by
  refine z_iload_n (i := 2) dX9_age_38 rfl rfl ?_
  refine z_aloadR_n (i := 0) dX9_age_39 rfl rfl ?_
  refine z_getR 9 0 (idx := 7) ly153 (by decide) (by decide) rfl (show 153 < 166 by decide) rfl rt_153_0 wf_X9_7 dX9_age_40 ?_
  refine z_iconst dX9_age_43 ?_
  refine z_iaload' (fv := (d 154 4)) ly154 (show 154 < 166 by decide) (by decide) dX9_age_44 (by decide) rfl ?_
  refine zb_icmp_ge (tgt := 105) dX9_age_45 (by decide) h.1 ⟨fun c => ?_, fun c => ?_⟩
  · replace h := h.2.1 c
    refine z_iinc (i := 1) (ls2 := [some (zR 153), some (zI (x1 + 1)), some (zI x2)]) dX9_age_105 (by decide) rfl rfl ?_
    refine z_goto (tgt := 24) dX9_age_108 (by decide) ?_
    exact Fr_weak (ls2 := [some (zR 153), some (zI (x1 + 1)), none]) (by exact ⟨Or.inr rfl, Or.inr rfl, Or.inl rfl, trivial⟩) h
  · replace h := h.2.2 c
    refine z_aloadR_n (i := 0) dX9_age_48 rfl rfl ?_
    refine z_getR 9 0 (idx := 7) ly153 (by decide) (by decide) rfl (show 153 < 166 by decide) rfl rt_153_0 wf_X9_7 dX9_age_49 ?_
    refine z_iconst dX9_age_52 ?_
    refine z_iload_n (i := 1) dX9_age_53 rfl rfl ?_
    refine z_iadd dX9_age_54 ?_
    refine z_iaload' (fv := (d 154 (5 + x1))) ly154 (show 154 < 166 by decide) (by decide) dX9_age_55 h.1 rfl ?_
    replace h := h.2
    refine z_aloadR_n (i := 0) dX9_age_56 rfl rfl ?_
    refine z_getR 9 0 (idx := 7) ly153 (by decide) (by decide) rfl (show 153 < 166 by decide) rfl rt_153_0 wf_X9_7 dX9_age_57 ?_
    refine z_iconst dX9_age_60 ?_
    refine z_iload_n (i := 2) dX9_age_61 rfl rfl ?_
    refine z_iadd dX9_age_62 ?_
    refine z_iaload' (fv := (d 154 (5 + x2))) ly154 (show 154 < 166 by decide) (by decide) dX9_age_63 h.1 rfl ?_
    replace h := h.2
    refine z_callS (k' := M_X9_areNeighbours) (As := [zI (d 154 (5 + x1)), zI (d 154 (5 + x2))]) (st := []) dX9_age_64 rfl wm_X9_100 ok_X9_areNeighbours okS_X9_areNeighbours rfl (zroom_self (by decide) (by decide)) (Nat.le_of_ble_eq_true rfl) (Nat.le_refl _) (zEnd_i (Nat.le_refl _) rfl (fun _ _ q => q)) (Ev_mono h (fun v1 d1 h => ?_))
    refine zb_if_eq (tgt := 99) dX9_age_67 (by decide) h.1 ⟨fun c => ?_, fun c => ?_⟩
    · replace h := h.2.1 c
      refine z_iinc (i := 2) (ls2 := [some (zR 153), some (zI x1), some (zI (x2 + 1))]) dX9_age_99 (by decide) rfl rfl ?_
      refine z_goto (tgt := 38) dX9_age_102 (by decide) ?_
      exact h
    · replace h := h.2.2 c
      refine z_aloadR_n (i := 0) dX9_age_70 rfl rfl ?_
      refine z_getR 9 18 (idx := 41) ly153 (by decide) (by decide) rfl (show 153 < 166 by decide) rfl rt_153_18 wf_X9_41 dX9_age_71 ?_
      refine z_aloadR_n (i := 0) dX9_age_74 rfl rfl ?_
      refine z_getR 9 0 (idx := 7) ly153 (by decide) (by decide) rfl (show 153 < 166 by decide) rfl rt_153_0 wf_X9_7 dX9_age_75 ?_
      refine z_iconst dX9_age_78 ?_
      refine z_iload_n (i := 1) dX9_age_79 rfl rfl ?_
      refine z_iadd dX9_age_80 ?_
      refine z_iaload' (fv := (d1 154 (5 + x1))) ly154 (show 154 < 166 by decide) (by decide) dX9_age_81 h.1 rfl ?_
      replace h := h.2
      refine z_aloadR_n (i := 0) dX9_age_82 rfl rfl ?_
      refine z_getR 9 0 (idx := 7) ly153 (by decide) (by decide) rfl (show 153 < 166 by decide) rfl rt_153_0 wf_X9_7 dX9_age_83 ?_
      refine z_iconst dX9_age_86 ?_
      refine z_iload_n (i := 2) dX9_age_87 rfl rfl ?_
      refine z_iadd dX9_age_88 ?_
      refine z_iaload' (fv := (d1 154 (5 + x2))) ly154 (show 154 < 166 by decide) (by decide) dX9_age_89 h.1 rfl ?_
      replace h := h.2
      refine z_callS (k' := M_X9_pair) (As := [zI (d1 154 (5 + x1)), zI (d1 154 (5 + x2))]) (st := [zR 164]) dX9_age_90 rfl wm_X9_103 ok_X9_pair okS_X9_pair rfl (zroom_self (by decide) (by decide)) (Nat.le_of_ble_eq_true rfl) (Nat.le_refl _) (zEnd_i (Nat.le_refl _) rfl (fun _ _ q => q)) (Ev_mono h (fun v2 d2 h => ?_))
      refine z_sipush dX9_age_93 (by decide +kernel) ?_
      refine z_isub dX9_age_96 ?_
      refine z_iconst dX9_age_97 ?_
      refine z_bastore ly164 (show 164 < 166 by decide) (by decide) dX9_age_98 h.1 (by decide) ?_
      replace h := h.2
      generalize hd3 : mu d2 164 (v2 - 635) 1 = d3
      replace hd3 := hd3.symm
      replace h := h d3 hd3
      refine z_iinc (i := 2) (ls2 := [some (zR 153), some (zI x1), some (zI (x2 + 1))]) dX9_age_99 (by decide) rfl rfl ?_
      refine z_goto (tgt := 38) dX9_age_102 (by decide) ?_
      exact h
set_option maxRecDepth 20000 in
theorem v_X9_age_113 {g : zGG} {Q : Int → zMem → Prop} {d : zMem}  {x1 : Int} (h : ((inR x1) ∧ (480 ≤ x1 → Q 0 d) ∧ (x1 < 480 → (0 ≤ x1 ∧ x1 < 480) ∧ ((inR (d 164 x1)) ∧ ((d 164 x1) = 0 → (0 ≤ (635 + x1) ∧ (635 + x1) < 1407) ∧ ∀ d1, d1 = mu d 154 (635 + x1) 0 → (Fr g (eM g M_X9_age FUL FUL Q) M_X9_age FUL 113 [some (zR 153), some (zI (x1 + 1)), none] [] d1)) ∧ ((d 164 x1) ≠ 0 → (0 ≤ (635 + x1) ∧ (635 + x1) < 1407) ∧ (0 ≤ (635 + x1) ∧ (635 + x1) < 1407) ∧ ∀ d2, d2 = mu d 154 (635 + x1) ((d 154 (635 + x1)) + 1) → (Fr g (eM g M_X9_age FUL FUL Q) M_X9_age FUL 113 [some (zR 153), some (zI (x1 + 1)), none] [] d2)))))) : Fr g (eM g M_X9_age FUL FUL Q) M_X9_age FUL 113 [some (zR 153), some (zI x1), none] [] d := by
  refine z_iload_n (i := 1) dX9_age_113 rfl rfl ?_
  refine z_sipush dX9_age_114 (by decide +kernel) ?_
  refine zb_icmp_ge (tgt := 161) dX9_age_117 (by decide) ⟨h.1, by decide⟩ ⟨fun c => ?_, fun c => ?_⟩
  · replace h := h.2.1 c
    exact zret_v rfl dX9_age_161 h
  · replace h := h.2.2 c
    refine z_aloadR_n (i := 0) dX9_age_120 rfl rfl ?_
    refine z_getR 9 0 (idx := 7) ly153 (by decide) (by decide) rfl (show 153 < 166 by decide) rfl rt_153_0 wf_X9_7 dX9_age_121 ?_
    refine z_sipush dX9_age_124 (by decide +kernel) ?_
    refine z_iload_n (i := 1) dX9_age_127 rfl rfl ?_
    refine z_iadd dX9_age_128 ?_
    refine z_aloadR_n (i := 0) dX9_age_129 rfl rfl ?_
    refine z_getR 9 18 (idx := 41) ly153 (by decide) (by decide) rfl (show 153 < 166 by decide) rfl rt_153_18 wf_X9_41 dX9_age_130 ?_
    refine z_iload_n (i := 1) dX9_age_133 rfl rfl ?_
    refine z_baload' (fv := (d 164 x1)) ly164 (show 164 < 166 by decide) (by decide) dX9_age_134 h.1 rfl ?_
    replace h := h.2
    refine zb_if_eq (tgt := 153) dX9_age_135 (by decide) h.1 ⟨fun c => ?_, fun c => ?_⟩
    · replace h := h.2.1 c
      refine z_iconst dX9_age_153 ?_
      refine z_iastore ly154 (show 154 < 166 by decide) (by decide) dX9_age_154 h.1 ?_
      replace h := h.2
      generalize hd1 : mu d 154 (635 + x1) 0 = d1
      replace hd1 := hd1.symm
      replace h := h d1 hd1
      refine z_iinc (i := 1) (ls2 := [some (zR 153), some (zI (x1 + 1)), none]) dX9_age_155 (by decide) rfl rfl ?_
      refine z_goto (tgt := 113) dX9_age_158 (by decide) ?_
      exact h
    · replace h := h.2.2 c
      refine z_aloadR_n (i := 0) dX9_age_138 rfl rfl ?_
      refine z_getR 9 0 (idx := 7) ly153 (by decide) (by decide) rfl (show 153 < 166 by decide) rfl rt_153_0 wf_X9_7 dX9_age_139 ?_
      refine z_sipush dX9_age_142 (by decide +kernel) ?_
      refine z_iload_n (i := 1) dX9_age_145 rfl rfl ?_
      refine z_iadd dX9_age_146 ?_
      refine z_iaload' (fv := (d 154 (635 + x1))) ly154 (show 154 < 166 by decide) (by decide) dX9_age_147 h.1 rfl ?_
      replace h := h.2
      refine z_iconst dX9_age_148 ?_
      refine z_iadd dX9_age_149 ?_
      refine z_goto (tgt := 154) dX9_age_150 (by decide) ?_
      refine z_iastore ly154 (show 154 < 166 by decide) (by decide) dX9_age_154 h.1 ?_
      replace h := h.2
      generalize hd2 : mu d 154 (635 + x1) ((d 154 (635 + x1)) + 1) = d2
      replace hd2 := hd2.symm
      replace h := h d2 hd2
      refine z_iinc (i := 1) (ls2 := [some (zR 153), some (zI (x1 + 1)), none]) dX9_age_155 (by decide) rfl rfl ?_
      refine z_goto (tgt := 113) dX9_age_158 (by decide) ?_
      exact h
set_option maxRecDepth 20000 in
theorem v_X9_goOn_0 {g : zGG} {Q : Int → zMem → Prop} {d : zMem}   (h : Ev g M_X9_wear FUL FUL [zR 153] d (fun _ d1 => Ev g M_X9_growAll FUL FUL [zR 153] d1 (fun _ d2 => Ev g M_X9_age FUL FUL [zR 153] d2 (fun _ d3 => Ev g M_X9_isFloodYear FUL FUL [zR 153, zI (d3 154 1404)] d3 (fun v1 d4 => ((inR v1) ∧ (v1 = 0 → (Fr g (eM g M_X9_goOn FUL FUL Q) M_X9_goOn FUL 45 [some (zR 153), some (zI (d3 154 4)), some (zI (d4 154 2)), none] [] d4)) ∧ (v1 ≠ 0 → (Fr g (eM g M_X9_goOn FUL FUL Q) M_X9_goOn FUL 45 [some (zR 153), some (zI (d3 154 4)), some (zI 0), none] [] d4)))))))) : Fr g (eM g M_X9_goOn FUL FUL Q) M_X9_goOn FUL 0 [some (zR 153), none, none, none] [] d := by
  refine z_aloadR_n (i := 0) dX9_goOn_0 rfl rfl ?_
  refine z_callVv (k' := M_X9_wear) (As := []) (st := []) dX9_goOn_1 rfl ly153 (by decide) rfl (show 153 < 166 by decide) wm_X9_124 ok_X9_wear okV_X9_wear rfl (zroom_self (by decide) (by decide)) (Nat.le_of_ble_eq_true rfl) (Nat.le_refl _) rfl (Ev_mono h (fun _ d1 h => ?_))
  refine z_aloadR_n (i := 0) dX9_goOn_4 rfl rfl ?_
  refine z_callVv (k' := M_X9_growAll) (As := []) (st := []) dX9_goOn_5 rfl ly153 (by decide) rfl (show 153 < 166 by decide) wm_X9_127 ok_X9_growAll okV_X9_growAll rfl (zroom_self (by decide) (by decide)) (Nat.le_of_ble_eq_true rfl) (Nat.le_refl _) rfl (Ev_mono h (fun _ d2 h => ?_))
  refine z_aloadR_n (i := 0) dX9_goOn_8 rfl rfl ?_
  refine z_callVv (k' := M_X9_age) (As := []) (st := []) dX9_goOn_9 rfl ly153 (by decide) rfl (show 153 < 166 by decide) wm_X9_130 ok_X9_age okV_X9_age rfl (zroom_self (by decide) (by decide)) (Nat.le_of_ble_eq_true rfl) (Nat.le_refl _) rfl (Ev_mono h (fun _ d3 h => ?_))
  refine z_aloadR_n (i := 0) dX9_goOn_12 rfl rfl ?_
  refine z_getR 9 0 (idx := 7) ly153 (by decide) (by decide) rfl (show 153 < 166 by decide) rfl rt_153_0 wf_X9_7 dX9_goOn_13 ?_
  refine z_iconst dX9_goOn_16 ?_
  refine z_iaload' (fv := (d3 154 4)) ly154 (show 154 < 166 by decide) (by decide) dX9_goOn_17 (by decide) rfl ?_
  refine z_istore_n (i := 1) (ls2 := [some (zR 153), some (zI (d3 154 4)), none, none]) dX9_goOn_18 rfl (by decide) rfl ?_
  refine z_aloadR_n (i := 0) dX9_goOn_19 rfl rfl ?_
  refine z_aloadR_n (i := 0) dX9_goOn_20 rfl rfl ?_
  refine z_getR 9 0 (idx := 7) ly153 (by decide) (by decide) rfl (show 153 < 166 by decide) rfl rt_153_0 wf_X9_7 dX9_goOn_21 ?_
  refine z_sipush dX9_goOn_24 (by decide +kernel) ?_
  refine z_iaload' (fv := (d3 154 1404)) ly154 (show 154 < 166 by decide) (by decide) dX9_goOn_27 (by decide) rfl ?_
  refine z_callVi (k' := M_X9_isFloodYear) (As := [zI (d3 154 1404)]) (st := []) dX9_goOn_28 rfl ly153 (by decide) rfl (show 153 < 166 by decide) wm_X9_115 ok_X9_isFloodYear okV_X9_isFloodYear rfl (zroom_self (by decide) (by decide)) (Nat.le_of_ble_eq_true rfl) (Nat.le_refl _) rfl (Ev_mono h (fun v1 d4 h => ?_))
  refine zb_if_eq (tgt := 38) dX9_goOn_31 (by decide) h.1 ⟨fun c => ?_, fun c => ?_⟩
  · replace h := h.2.1 c
    refine z_aloadR_n (i := 0) dX9_goOn_38 rfl rfl ?_
    refine z_getR 9 0 (idx := 7) ly153 (by decide) (by decide) rfl (show 153 < 166 by decide) rfl rt_153_0 wf_X9_7 dX9_goOn_39 ?_
    refine z_iconst dX9_goOn_42 ?_
    refine z_iaload' (fv := (d4 154 2)) ly154 (show 154 < 166 by decide) (by decide) dX9_goOn_43 (by decide) rfl ?_
    refine z_istore_n (i := 2) (ls2 := [some (zR 153), some (zI (d3 154 4)), some (zI (d4 154 2)), none]) dX9_goOn_44 rfl (by decide) rfl ?_
    exact h
  · replace h := h.2.2 c
    refine z_iconst dX9_goOn_34 ?_
    refine z_goto (tgt := 44) dX9_goOn_35 (by decide) ?_
    refine z_istore_n (i := 2) (ls2 := [some (zR 153), some (zI (d3 154 4)), some (zI 0), none]) dX9_goOn_44 rfl (by decide) rfl ?_
    exact h
theorem e_X9_goOn {g : zGG} {Q : Int → zMem → Prop} {d : zMem}  (h : Ev g M_X9_wear FUL FUL [zR 153] d (fun _ d1 => Ev g M_X9_growAll FUL FUL [zR 153] d1 (fun _ d2 => Ev g M_X9_age FUL FUL [zR 153] d2 (fun _ d3 => Ev g M_X9_isFloodYear FUL FUL [zR 153, zI (d3 154 1404)] d3 (fun v1 d4 => ((inR v1) ∧ (v1 = 0 → (Fr g (eM g M_X9_goOn FUL FUL Q) M_X9_goOn FUL 45 [some (zR 153), some (zI (d3 154 4)), some (zI (d4 154 2)), none] [] d4)) ∧ (v1 ≠ 0 → (Fr g (eM g M_X9_goOn FUL FUL Q) M_X9_goOn FUL 45 [some (zR 153), some (zI (d3 154 4)), some (zI 0), none] [] d4)))))))) : Ev g M_X9_goOn FUL FUL [zR 153] d Q :=
  Ev_of (by decide +kernel) (Nat.le_of_ble_eq_true rfl) (v_X9_goOn_0  h)
set_option maxRecDepth 20000 in
theorem v_X9_goOn_45 {g : zGG} {Q : Int → zMem → Prop} {d : zMem}  {x1 : Int} {x2 : Int} (h : Ev g M_X9_findNeck FUL FUL [zR 153, zI (-1), zI x2] d (fun v1 d1 => ((inR v1) ∧ (v1 = 0 → (Fr g (eM g M_X9_goOn FUL FUL Q) M_X9_goOn FUL 72 [some (zR 153), some (zI x1), some (zI x2), some (zI ((d1 154 1355) - 1))] [] d1)) ∧ (v1 ≠ 0 → Ev g M_X9_cutNeck FUL FUL [zR 153] d1 (fun _ d2 => (Fr g (eM g M_X9_goOn FUL FUL Q) M_X9_goOn FUL 45 [some (zR 153), some (zI x1), some (zI x2), none] [] d2)))))) : Fr g (eM g M_X9_goOn FUL FUL Q) M_X9_goOn FUL 45 [some (zR 153), some (zI x1), some (zI x2), none] [] d := by
  refine z_aloadR_n (i := 0) dX9_goOn_45 rfl rfl ?_
  refine z_iconst dX9_goOn_46 ?_
  refine z_iload_n (i := 2) dX9_goOn_47 rfl rfl ?_
  refine z_callVi (k' := M_X9_findNeck) (As := [zI (-1), zI x2]) (st := []) dX9_goOn_48 rfl ly153 (by decide) rfl (show 153 < 166 by decide) wm_X9_133 ok_X9_findNeck okV_X9_findNeck rfl (zroom_self (by decide) (by decide)) (Nat.le_of_ble_eq_true rfl) (Nat.le_refl _) rfl (Ev_mono h (fun v1 d1 h => ?_))
  refine zb_if_eq (tgt := 61) dX9_goOn_51 (by decide) h.1 ⟨fun c => ?_, fun c => ?_⟩
  · replace h := h.2.1 c
    refine z_aloadR_n (i := 0) dX9_goOn_61 rfl rfl ?_
    refine z_getR 9 0 (idx := 7) ly153 (by decide) (by decide) rfl (show 153 < 166 by decide) rfl rt_153_0 wf_X9_7 dX9_goOn_62 ?_
    refine z_sipush dX9_goOn_65 (by decide +kernel) ?_
    refine z_iaload' (fv := (d1 154 1355)) ly154 (show 154 < 166 by decide) (by decide) dX9_goOn_68 (by decide) rfl ?_
    refine z_iconst dX9_goOn_69 ?_
    refine z_isub dX9_goOn_70 ?_
    refine z_istore_n (i := 3) (ls2 := [some (zR 153), some (zI x1), some (zI x2), some (zI ((d1 154 1355) - 1))]) dX9_goOn_71 rfl (by decide) rfl ?_
    exact h
  · replace h := h.2.2 c
    refine z_aloadR_n (i := 0) dX9_goOn_54 rfl rfl ?_
    refine z_callVv (k' := M_X9_cutNeck) (As := []) (st := []) dX9_goOn_55 rfl ly153 (by decide) rfl (show 153 < 166 by decide) wm_X9_136 ok_X9_cutNeck okV_X9_cutNeck rfl (zroom_self (by decide) (by decide)) (Nat.le_of_ble_eq_true rfl) (Nat.le_refl _) rfl (Ev_mono h (fun _ d2 h => ?_))
    refine z_goto (tgt := 45) dX9_goOn_58 (by decide) ?_
    exact h
set_option maxRecDepth 20000 in
theorem v_X9_goOn_72 {g : zGG} {Q : Int → zMem → Prop} {d : zMem}  {x1 : Int} {x2 : Int} {x3 : Int} (h : ((inR x3) ∧ (x3 < 0 → ∀ d1, d1 = mu d 154 1404 ((d 154 1404) + 1) → Q (x1 - (d1 154 4)) d1) ∧ (0 ≤ x3 → (0 ≤ ((1356 + (3 * x3)) + 1) ∧ ((1356 + (3 * x3)) + 1) < 1407) ∧ (0 ≤ ((1356 + (3 * x3)) + 1) ∧ ((1356 + (3 * x3)) + 1) < 1407) ∧ ∀ d2, d2 = mu d 154 ((1356 + (3 * x3)) + 1) ((d 154 ((1356 + (3 * x3)) + 1)) + 1) → (0 ≤ ((1356 + (3 * x3)) + 1) ∧ ((1356 + (3 * x3)) + 1) < 1407) ∧ ((inR (d2 154 ((1356 + (3 * x3)) + 1)) ∧ inR (d2 154 3)) ∧ ((d2 154 ((1356 + (3 * x3)) + 1)) < (d2 154 3) → (Fr g (eM g M_X9_goOn FUL FUL Q) M_X9_goOn FUL 72 [some (zR 153), some (zI x1), some (zI x2), some (zI (x3 + (-1)))] [] d2)) ∧ ((d2 154 3) ≤ (d2 154 ((1356 + (3 * x3)) + 1)) → Ev g M_X9_dropOxbow FUL FUL [zR 153, zI x3] d2 (fun _ d3 => (Fr g (eM g M_X9_goOn FUL FUL Q) M_X9_goOn FUL 72 [some (zR 153), some (zI x1), some (zI x2), some (zI (x3 + (-1)))] [] d3))))))) : Fr g (eM g M_X9_goOn FUL FUL Q) M_X9_goOn FUL 72 [some (zR 153), some (zI x1), some (zI x2), some (zI x3)] [] d := by
  refine z_iload_n (i := 3) dX9_goOn_72 rfl rfl ?_
  refine zb_if_lt (tgt := 128) dX9_goOn_73 (by decide) h.1 ⟨fun c => ?_, fun c => ?_⟩
  · replace h := h.2.1 c
    refine z_aloadR_n (i := 0) dX9_goOn_128 rfl rfl ?_
    refine z_getR 9 0 (idx := 7) ly153 (by decide) (by decide) rfl (show 153 < 166 by decide) rfl rt_153_0 wf_X9_7 dX9_goOn_129 ?_
    refine z_sipush dX9_goOn_132 (by decide +kernel) ?_
    refine z_dup2 dX9_goOn_135 (Nat.le_of_ble_eq_true rfl) (Nat.le_of_ble_eq_true rfl) ?_
    refine z_iaload' (fv := (d 154 1404)) ly154 (show 154 < 166 by decide) (by decide) dX9_goOn_136 (by decide) rfl ?_
    refine z_iconst dX9_goOn_137 ?_
    refine z_iadd dX9_goOn_138 ?_
    refine z_iastore ly154 (show 154 < 166 by decide) (by decide) dX9_goOn_139 (by decide) ?_
    generalize hd1 : mu d 154 1404 ((d 154 1404) + 1) = d1
    replace hd1 := hd1.symm
    replace h := h d1 hd1
    refine z_iload_n (i := 1) dX9_goOn_140 rfl rfl ?_
    refine z_aloadR_n (i := 0) dX9_goOn_141 rfl rfl ?_
    refine z_getR 9 0 (idx := 7) ly153 (by decide) (by decide) rfl (show 153 < 166 by decide) rfl rt_153_0 wf_X9_7 dX9_goOn_142 ?_
    refine z_iconst dX9_goOn_145 ?_
    refine z_iaload' (fv := (d1 154 4)) ly154 (show 154 < 166 by decide) (by decide) dX9_goOn_146 (by decide) rfl ?_
    refine z_isub dX9_goOn_147 ?_
    exact zret_i rfl dX9_goOn_148 h
  · replace h := h.2.2 c
    refine z_aloadR_n (i := 0) dX9_goOn_76 rfl rfl ?_
    refine z_getR 9 0 (idx := 7) ly153 (by decide) (by decide) rfl (show 153 < 166 by decide) rfl rt_153_0 wf_X9_7 dX9_goOn_77 ?_
    refine z_sipush dX9_goOn_80 (by decide +kernel) ?_
    refine z_iconst dX9_goOn_83 ?_
    refine z_iload_n (i := 3) dX9_goOn_84 rfl rfl ?_
    refine z_imul dX9_goOn_85 ?_
    refine z_iadd dX9_goOn_86 ?_
    refine z_iconst dX9_goOn_87 ?_
    refine z_iadd dX9_goOn_88 ?_
    refine z_dup2 dX9_goOn_89 (Nat.le_of_ble_eq_true rfl) (Nat.le_of_ble_eq_true rfl) ?_
    refine z_iaload' (fv := (d 154 ((1356 + (3 * x3)) + 1))) ly154 (show 154 < 166 by decide) (by decide) dX9_goOn_90 h.1 rfl ?_
    replace h := h.2
    refine z_iconst dX9_goOn_91 ?_
    refine z_iadd dX9_goOn_92 ?_
    refine z_iastore ly154 (show 154 < 166 by decide) (by decide) dX9_goOn_93 h.1 ?_
    replace h := h.2
    generalize hd2 : mu d 154 ((1356 + (3 * x3)) + 1) ((d 154 ((1356 + (3 * x3)) + 1)) + 1) = d2
    replace hd2 := hd2.symm
    replace h := h d2 hd2
    refine z_aloadR_n (i := 0) dX9_goOn_94 rfl rfl ?_
    refine z_getR 9 0 (idx := 7) ly153 (by decide) (by decide) rfl (show 153 < 166 by decide) rfl rt_153_0 wf_X9_7 dX9_goOn_95 ?_
    refine z_sipush dX9_goOn_98 (by decide +kernel) ?_
    refine z_iconst dX9_goOn_101 ?_
    refine z_iload_n (i := 3) dX9_goOn_102 rfl rfl ?_
    refine z_imul dX9_goOn_103 ?_
    refine z_iadd dX9_goOn_104 ?_
    refine z_iconst dX9_goOn_105 ?_
    refine z_iadd dX9_goOn_106 ?_
    refine z_iaload' (fv := (d2 154 ((1356 + (3 * x3)) + 1))) ly154 (show 154 < 166 by decide) (by decide) dX9_goOn_107 h.1 rfl ?_
    replace h := h.2
    refine z_aloadR_n (i := 0) dX9_goOn_108 rfl rfl ?_
    refine z_getR 9 0 (idx := 7) ly153 (by decide) (by decide) rfl (show 153 < 166 by decide) rfl rt_153_0 wf_X9_7 dX9_goOn_109 ?_
    refine z_iconst dX9_goOn_112 ?_
    refine z_iaload' (fv := (d2 154 3)) ly154 (show 154 < 166 by decide) (by decide) dX9_goOn_113 (by decide) rfl ?_
    refine zb_icmp_lt (tgt := 122) dX9_goOn_114 (by decide) h.1 ⟨fun c => ?_, fun c => ?_⟩
    · replace h := h.2.1 c
      refine z_iinc (i := 3) (ls2 := [some (zR 153), some (zI x1), some (zI x2), some (zI (x3 + (-1)))]) dX9_goOn_122 (by decide) rfl rfl ?_
      refine z_goto (tgt := 72) dX9_goOn_125 (by decide) ?_
      exact h
    · replace h := h.2.2 c
      refine z_aloadR_n (i := 0) dX9_goOn_117 rfl rfl ?_
      refine z_iload_n (i := 3) dX9_goOn_118 rfl rfl ?_
      refine z_callVv (k' := M_X9_dropOxbow) (As := [zI x3]) (st := []) dX9_goOn_119 rfl ly153 (by decide) rfl (show 153 < 166 by decide) wm_X9_93 ok_X9_dropOxbow okV_X9_dropOxbow rfl (zroom_self (by decide) (by decide)) (Nat.le_of_ble_eq_true rfl) (Nat.le_refl _) rfl (Ev_mono h (fun _ d3 h => ?_))
      refine z_iinc (i := 3) (ls2 := [some (zR 153), some (zI x1), some (zI x2), some (zI (x3 + (-1)))]) dX9_goOn_122 (by decide) rfl rfl ?_
      refine z_goto (tgt := 72) dX9_goOn_125 (by decide) ?_
      exact h
set_option maxRecDepth 20000 in
theorem v_X9_set_0 {g : zGG} {Q : Int → zMem → Prop} {d : zMem} {x1 : Int} {x2 : Int}  (h : ((inR x1) ∧ (x1 ≠ 0 → ((inR x1) ∧ (x1 ≠ 1 → ((inR x1) ∧ (x1 ≠ 2 → Ev g M_X9_in FUL FUL [zI x1, zI 0, zI 3] d (fun v1 d1 => ((inR v1) ∧ (v1 = 0 → Q (-2) d1) ∧ (v1 ≠ 0 → Ev g M_X9_in FUL FUL [zI x2, zI 1, zI 50] d1 (fun v2 d2 => ((inR v2) ∧ (v2 ≠ 0 → Ev g M_X9_know FUL FUL [zR 153] d2 (fun _ d3 => (0 ≤ (0 + x1) ∧ (0 + x1) < 1407) ∧ (0 ≤ (0 + x1) ∧ (0 + x1) < 1407) ∧ ∀ d4, d4 = mu d3 154 (0 + x1) x2 → Q (d3 154 (0 + x1)) d4)) ∧ (v2 = 0 → Q (-2) d2))))))) ∧ (x1 = 2 → Ev g M_X9_in FUL FUL [zI x1, zI 0, zI 3] d (fun v3 d5 => ((inR v3) ∧ (v3 = 0 → Q (-2) d5) ∧ (v3 ≠ 0 → Ev g M_X9_in FUL FUL [zI x2, zI 1, zI 20] d5 (fun v4 d6 => ((inR v4) ∧ (v4 ≠ 0 → Ev g M_X9_know FUL FUL [zR 153] d6 (fun _ d7 => (0 ≤ (0 + x1) ∧ (0 + x1) < 1407) ∧ (0 ≤ (0 + x1) ∧ (0 + x1) < 1407) ∧ ∀ d8, d8 = mu d7 154 (0 + x1) x2 → Q (d7 154 (0 + x1)) d8)) ∧ (v4 = 0 → Q (-2) d6))))))))) ∧ (x1 = 1 → Ev g M_X9_in FUL FUL [zI x1, zI 0, zI 3] d (fun v5 d9 => ((inR v5) ∧ (v5 = 0 → Q (-2) d9) ∧ (v5 ≠ 0 → Ev g M_X9_in FUL FUL [zI x2, zI 1, zI 60] d9 (fun v6 d10 => ((inR v6) ∧ (v6 ≠ 0 → Ev g M_X9_know FUL FUL [zR 153] d10 (fun _ d11 => (0 ≤ (0 + x1) ∧ (0 + x1) < 1407) ∧ (0 ≤ (0 + x1) ∧ (0 + x1) < 1407) ∧ ∀ d12, d12 = mu d11 154 (0 + x1) x2 → Q (d11 154 (0 + x1)) d12)) ∧ (v6 = 0 → Q (-2) d10))))))))) ∧ (x1 = 0 → Ev g M_X9_in FUL FUL [zI x1, zI 0, zI 3] d (fun v7 d13 => ((inR v7) ∧ (v7 = 0 → Q (-2) d13) ∧ (v7 ≠ 0 → Ev g M_X9_in FUL FUL [zI x2, zI 1, zI 9] d13 (fun v8 d14 => ((inR v8) ∧ (v8 ≠ 0 → Ev g M_X9_know FUL FUL [zR 153] d14 (fun _ d15 => (0 ≤ (0 + x1) ∧ (0 + x1) < 1407) ∧ (0 ≤ (0 + x1) ∧ (0 + x1) < 1407) ∧ ∀ d16, d16 = mu d15 154 (0 + x1) x2 → Q (d15 154 (0 + x1)) d16)) ∧ (v8 = 0 → Q (-2) d14))))))))) : Fr g (eM g M_X9_set FUL FUL Q) M_X9_set FUL 0 [some (zR 153), some (zI x1), some (zI x2), none, none] [] d := by
  refine z_iload_n (i := 1) dX9_set_0 rfl rfl ?_
  refine zb_if_ne (tgt := 9) dX9_set_1 (by decide) h.1 ⟨fun c => ?_, fun c => ?_⟩
  · replace h := h.2.1 c
    refine z_iload_n (i := 1) dX9_set_9 rfl rfl ?_
    refine z_iconst dX9_set_10 ?_
    refine zb_icmp_ne (tgt := 19) dX9_set_11 (by decide) ⟨h.1, by decide⟩ ⟨fun c => ?_, fun c => ?_⟩
    · replace h := h.2.1 c
      refine z_iload_n (i := 1) dX9_set_19 rfl rfl ?_
      refine z_iconst dX9_set_20 ?_
      refine zb_icmp_ne (tgt := 29) dX9_set_21 (by decide) ⟨h.1, by decide⟩ ⟨fun c => ?_, fun c => ?_⟩
      · replace h := h.2.1 c
        refine z_bipush dX9_set_29 (by decide +kernel) ?_
        refine z_istore_n (i := 3) (ls2 := [some (zR 153), some (zI x1), some (zI x2), some (zI 50), none]) dX9_set_31 rfl (by decide) rfl ?_
        refine z_iload_n (i := 1) dX9_set_32 rfl rfl ?_
        refine z_iconst dX9_set_33 ?_
        refine z_iconst dX9_set_34 ?_
        refine z_callS (k' := M_X9_in) (As := [zI x1, zI 0, zI 3]) (st := []) dX9_set_35 rfl wm_X9_50 ok_X9_in okS_X9_in rfl (zroom_self (by decide) (by decide)) (Nat.le_of_ble_eq_true rfl) (Nat.le_refl _) (zEnd_i (Nat.le_refl _) rfl (fun _ _ q => q)) (Ev_mono h (fun v1 d1 h => ?_))
        refine zb_if_eq (tgt := 50) dX9_set_38 (by decide) h.1 ⟨fun c => ?_, fun c => ?_⟩
        · replace h := h.2.1 c
          refine z_bipush dX9_set_50 (by decide +kernel) ?_
          exact zret_i rfl dX9_set_52 h
        · replace h := h.2.2 c
          refine z_iload_n (i := 2) dX9_set_41 rfl rfl ?_
          refine z_iconst dX9_set_42 ?_
          refine z_iload_n (i := 3) dX9_set_43 rfl rfl ?_
          refine z_callS (k' := M_X9_in) (As := [zI x2, zI 1, zI 50]) (st := []) dX9_set_44 rfl wm_X9_50 ok_X9_in okS_X9_in rfl (zroom_self (by decide) (by decide)) (Nat.le_of_ble_eq_true rfl) (Nat.le_refl _) (zEnd_i (Nat.le_refl _) rfl (fun _ _ q => q)) (Ev_mono h (fun v2 d2 h => ?_))
          refine zb_if_ne (tgt := 53) dX9_set_47 (by decide) h.1 ⟨fun c => ?_, fun c => ?_⟩
          · replace h := h.2.1 c
            refine z_aloadR_n (i := 0) dX9_set_53 rfl rfl ?_
            refine z_callVv (k' := M_X9_know) (As := []) (st := []) dX9_set_54 rfl ly153 (by decide) rfl (show 153 < 166 by decide) wm_X9_139 ok_X9_know okV_X9_know rfl (zroom_self (by decide) (by decide)) (Nat.le_of_ble_eq_true rfl) (Nat.le_refl _) rfl (Ev_mono h (fun _ d3 h => ?_))
            refine z_aloadR_n (i := 0) dX9_set_57 rfl rfl ?_
            refine z_getR 9 0 (idx := 7) ly153 (by decide) (by decide) rfl (show 153 < 166 by decide) rfl rt_153_0 wf_X9_7 dX9_set_58 ?_
            refine z_iconst dX9_set_61 ?_
            refine z_iload_n (i := 1) dX9_set_62 rfl rfl ?_
            refine z_iadd dX9_set_63 ?_
            refine z_iaload' (fv := (d3 154 (0 + x1))) ly154 (show 154 < 166 by decide) (by decide) dX9_set_64 h.1 rfl ?_
            replace h := h.2
            refine z_istore (i := 4) (ls2 := [some (zR 153), some (zI x1), some (zI x2), some (zI 50), some (zI (d3 154 (0 + x1)))]) dX9_set_65 (by decide) rfl ?_
            refine z_aloadR_n (i := 0) dX9_set_67 rfl rfl ?_
            refine z_getR 9 0 (idx := 7) ly153 (by decide) (by decide) rfl (show 153 < 166 by decide) rfl rt_153_0 wf_X9_7 dX9_set_68 ?_
            refine z_iconst dX9_set_71 ?_
            refine z_iload_n (i := 1) dX9_set_72 rfl rfl ?_
            refine z_iadd dX9_set_73 ?_
            refine z_iload_n (i := 2) dX9_set_74 rfl rfl ?_
            refine z_iastore ly154 (show 154 < 166 by decide) (by decide) dX9_set_75 h.1 ?_
            replace h := h.2
            generalize hd4 : mu d3 154 (0 + x1) x2 = d4
            replace hd4 := hd4.symm
            replace h := h d4 hd4
            refine z_iload (i := 4) dX9_set_76 rfl ?_
            exact zret_i rfl dX9_set_78 h
          · replace h := h.2.2 c
            refine z_bipush dX9_set_50 (by decide +kernel) ?_
            exact zret_i rfl dX9_set_52 h
      · replace h := h.2.2 c
        refine z_bipush dX9_set_24 (by decide +kernel) ?_
        refine z_goto (tgt := 31) dX9_set_26 (by decide) ?_
        refine z_istore_n (i := 3) (ls2 := [some (zR 153), some (zI x1), some (zI x2), some (zI 20), none]) dX9_set_31 rfl (by decide) rfl ?_
        refine z_iload_n (i := 1) dX9_set_32 rfl rfl ?_
        refine z_iconst dX9_set_33 ?_
        refine z_iconst dX9_set_34 ?_
        refine z_callS (k' := M_X9_in) (As := [zI x1, zI 0, zI 3]) (st := []) dX9_set_35 rfl wm_X9_50 ok_X9_in okS_X9_in rfl (zroom_self (by decide) (by decide)) (Nat.le_of_ble_eq_true rfl) (Nat.le_refl _) (zEnd_i (Nat.le_refl _) rfl (fun _ _ q => q)) (Ev_mono h (fun v3 d5 h => ?_))
        refine zb_if_eq (tgt := 50) dX9_set_38 (by decide) h.1 ⟨fun c => ?_, fun c => ?_⟩
        · replace h := h.2.1 c
          refine z_bipush dX9_set_50 (by decide +kernel) ?_
          exact zret_i rfl dX9_set_52 h
        · replace h := h.2.2 c
          refine z_iload_n (i := 2) dX9_set_41 rfl rfl ?_
          refine z_iconst dX9_set_42 ?_
          refine z_iload_n (i := 3) dX9_set_43 rfl rfl ?_
          refine z_callS (k' := M_X9_in) (As := [zI x2, zI 1, zI 20]) (st := []) dX9_set_44 rfl wm_X9_50 ok_X9_in okS_X9_in rfl (zroom_self (by decide) (by decide)) (Nat.le_of_ble_eq_true rfl) (Nat.le_refl _) (zEnd_i (Nat.le_refl _) rfl (fun _ _ q => q)) (Ev_mono h (fun v4 d6 h => ?_))
          refine zb_if_ne (tgt := 53) dX9_set_47 (by decide) h.1 ⟨fun c => ?_, fun c => ?_⟩
          · replace h := h.2.1 c
            refine z_aloadR_n (i := 0) dX9_set_53 rfl rfl ?_
            refine z_callVv (k' := M_X9_know) (As := []) (st := []) dX9_set_54 rfl ly153 (by decide) rfl (show 153 < 166 by decide) wm_X9_139 ok_X9_know okV_X9_know rfl (zroom_self (by decide) (by decide)) (Nat.le_of_ble_eq_true rfl) (Nat.le_refl _) rfl (Ev_mono h (fun _ d7 h => ?_))
            refine z_aloadR_n (i := 0) dX9_set_57 rfl rfl ?_
            refine z_getR 9 0 (idx := 7) ly153 (by decide) (by decide) rfl (show 153 < 166 by decide) rfl rt_153_0 wf_X9_7 dX9_set_58 ?_
            refine z_iconst dX9_set_61 ?_
            refine z_iload_n (i := 1) dX9_set_62 rfl rfl ?_
            refine z_iadd dX9_set_63 ?_
            refine z_iaload' (fv := (d7 154 (0 + x1))) ly154 (show 154 < 166 by decide) (by decide) dX9_set_64 h.1 rfl ?_
            replace h := h.2
            refine z_istore (i := 4) (ls2 := [some (zR 153), some (zI x1), some (zI x2), some (zI 20), some (zI (d7 154 (0 + x1)))]) dX9_set_65 (by decide) rfl ?_
            refine z_aloadR_n (i := 0) dX9_set_67 rfl rfl ?_
            refine z_getR 9 0 (idx := 7) ly153 (by decide) (by decide) rfl (show 153 < 166 by decide) rfl rt_153_0 wf_X9_7 dX9_set_68 ?_
            refine z_iconst dX9_set_71 ?_
            refine z_iload_n (i := 1) dX9_set_72 rfl rfl ?_
            refine z_iadd dX9_set_73 ?_
            refine z_iload_n (i := 2) dX9_set_74 rfl rfl ?_
            refine z_iastore ly154 (show 154 < 166 by decide) (by decide) dX9_set_75 h.1 ?_
            replace h := h.2
            generalize hd8 : mu d7 154 (0 + x1) x2 = d8
            replace hd8 := hd8.symm
            replace h := h d8 hd8
            refine z_iload (i := 4) dX9_set_76 rfl ?_
            exact zret_i rfl dX9_set_78 h
          · replace h := h.2.2 c
            refine z_bipush dX9_set_50 (by decide +kernel) ?_
            exact zret_i rfl dX9_set_52 h
    · replace h := h.2.2 c
      refine z_bipush dX9_set_14 (by decide +kernel) ?_
      refine z_goto (tgt := 31) dX9_set_16 (by decide) ?_
      refine z_istore_n (i := 3) (ls2 := [some (zR 153), some (zI x1), some (zI x2), some (zI 60), none]) dX9_set_31 rfl (by decide) rfl ?_
      refine z_iload_n (i := 1) dX9_set_32 rfl rfl ?_
      refine z_iconst dX9_set_33 ?_
      refine z_iconst dX9_set_34 ?_
      refine z_callS (k' := M_X9_in) (As := [zI x1, zI 0, zI 3]) (st := []) dX9_set_35 rfl wm_X9_50 ok_X9_in okS_X9_in rfl (zroom_self (by decide) (by decide)) (Nat.le_of_ble_eq_true rfl) (Nat.le_refl _) (zEnd_i (Nat.le_refl _) rfl (fun _ _ q => q)) (Ev_mono h (fun v5 d9 h => ?_))
      refine zb_if_eq (tgt := 50) dX9_set_38 (by decide) h.1 ⟨fun c => ?_, fun c => ?_⟩
      · replace h := h.2.1 c
        refine z_bipush dX9_set_50 (by decide +kernel) ?_
        exact zret_i rfl dX9_set_52 h
      · replace h := h.2.2 c
        refine z_iload_n (i := 2) dX9_set_41 rfl rfl ?_
        refine z_iconst dX9_set_42 ?_
        refine z_iload_n (i := 3) dX9_set_43 rfl rfl ?_
        refine z_callS (k' := M_X9_in) (As := [zI x2, zI 1, zI 60]) (st := []) dX9_set_44 rfl wm_X9_50 ok_X9_in okS_X9_in rfl (zroom_self (by decide) (by decide)) (Nat.le_of_ble_eq_true rfl) (Nat.le_refl _) (zEnd_i (Nat.le_refl _) rfl (fun _ _ q => q)) (Ev_mono h (fun v6 d10 h => ?_))
        refine zb_if_ne (tgt := 53) dX9_set_47 (by decide) h.1 ⟨fun c => ?_, fun c => ?_⟩
        · replace h := h.2.1 c
          refine z_aloadR_n (i := 0) dX9_set_53 rfl rfl ?_
          refine z_callVv (k' := M_X9_know) (As := []) (st := []) dX9_set_54 rfl ly153 (by decide) rfl (show 153 < 166 by decide) wm_X9_139 ok_X9_know okV_X9_know rfl (zroom_self (by decide) (by decide)) (Nat.le_of_ble_eq_true rfl) (Nat.le_refl _) rfl (Ev_mono h (fun _ d11 h => ?_))
          refine z_aloadR_n (i := 0) dX9_set_57 rfl rfl ?_
          refine z_getR 9 0 (idx := 7) ly153 (by decide) (by decide) rfl (show 153 < 166 by decide) rfl rt_153_0 wf_X9_7 dX9_set_58 ?_
          refine z_iconst dX9_set_61 ?_
          refine z_iload_n (i := 1) dX9_set_62 rfl rfl ?_
          refine z_iadd dX9_set_63 ?_
          refine z_iaload' (fv := (d11 154 (0 + x1))) ly154 (show 154 < 166 by decide) (by decide) dX9_set_64 h.1 rfl ?_
          replace h := h.2
          refine z_istore (i := 4) (ls2 := [some (zR 153), some (zI x1), some (zI x2), some (zI 60), some (zI (d11 154 (0 + x1)))]) dX9_set_65 (by decide) rfl ?_
          refine z_aloadR_n (i := 0) dX9_set_67 rfl rfl ?_
          refine z_getR 9 0 (idx := 7) ly153 (by decide) (by decide) rfl (show 153 < 166 by decide) rfl rt_153_0 wf_X9_7 dX9_set_68 ?_
          refine z_iconst dX9_set_71 ?_
          refine z_iload_n (i := 1) dX9_set_72 rfl rfl ?_
          refine z_iadd dX9_set_73 ?_
          refine z_iload_n (i := 2) dX9_set_74 rfl rfl ?_
          refine z_iastore ly154 (show 154 < 166 by decide) (by decide) dX9_set_75 h.1 ?_
          replace h := h.2
          generalize hd12 : mu d11 154 (0 + x1) x2 = d12
          replace hd12 := hd12.symm
          replace h := h d12 hd12
          refine z_iload (i := 4) dX9_set_76 rfl ?_
          exact zret_i rfl dX9_set_78 h
        · replace h := h.2.2 c
          refine z_bipush dX9_set_50 (by decide +kernel) ?_
          exact zret_i rfl dX9_set_52 h
  · replace h := h.2.2 c
    refine z_bipush dX9_set_4 (by decide +kernel) ?_
    refine z_goto (tgt := 31) dX9_set_6 (by decide) ?_
    refine z_istore_n (i := 3) (ls2 := [some (zR 153), some (zI x1), some (zI x2), some (zI 9), none]) dX9_set_31 rfl (by decide) rfl ?_
    refine z_iload_n (i := 1) dX9_set_32 rfl rfl ?_
    refine z_iconst dX9_set_33 ?_
    refine z_iconst dX9_set_34 ?_
    refine z_callS (k' := M_X9_in) (As := [zI x1, zI 0, zI 3]) (st := []) dX9_set_35 rfl wm_X9_50 ok_X9_in okS_X9_in rfl (zroom_self (by decide) (by decide)) (Nat.le_of_ble_eq_true rfl) (Nat.le_refl _) (zEnd_i (Nat.le_refl _) rfl (fun _ _ q => q)) (Ev_mono h (fun v7 d13 h => ?_))
    refine zb_if_eq (tgt := 50) dX9_set_38 (by decide) h.1 ⟨fun c => ?_, fun c => ?_⟩
    · replace h := h.2.1 c
      refine z_bipush dX9_set_50 (by decide +kernel) ?_
      exact zret_i rfl dX9_set_52 h
    · replace h := h.2.2 c
      refine z_iload_n (i := 2) dX9_set_41 rfl rfl ?_
      refine z_iconst dX9_set_42 ?_
      refine z_iload_n (i := 3) dX9_set_43 rfl rfl ?_
      refine z_callS (k' := M_X9_in) (As := [zI x2, zI 1, zI 9]) (st := []) dX9_set_44 rfl wm_X9_50 ok_X9_in okS_X9_in rfl (zroom_self (by decide) (by decide)) (Nat.le_of_ble_eq_true rfl) (Nat.le_refl _) (zEnd_i (Nat.le_refl _) rfl (fun _ _ q => q)) (Ev_mono h (fun v8 d14 h => ?_))
      refine zb_if_ne (tgt := 53) dX9_set_47 (by decide) h.1 ⟨fun c => ?_, fun c => ?_⟩
      · replace h := h.2.1 c
        refine z_aloadR_n (i := 0) dX9_set_53 rfl rfl ?_
        refine z_callVv (k' := M_X9_know) (As := []) (st := []) dX9_set_54 rfl ly153 (by decide) rfl (show 153 < 166 by decide) wm_X9_139 ok_X9_know okV_X9_know rfl (zroom_self (by decide) (by decide)) (Nat.le_of_ble_eq_true rfl) (Nat.le_refl _) rfl (Ev_mono h (fun _ d15 h => ?_))
        refine z_aloadR_n (i := 0) dX9_set_57 rfl rfl ?_
        refine z_getR 9 0 (idx := 7) ly153 (by decide) (by decide) rfl (show 153 < 166 by decide) rfl rt_153_0 wf_X9_7 dX9_set_58 ?_
        refine z_iconst dX9_set_61 ?_
        refine z_iload_n (i := 1) dX9_set_62 rfl rfl ?_
        refine z_iadd dX9_set_63 ?_
        refine z_iaload' (fv := (d15 154 (0 + x1))) ly154 (show 154 < 166 by decide) (by decide) dX9_set_64 h.1 rfl ?_
        replace h := h.2
        refine z_istore (i := 4) (ls2 := [some (zR 153), some (zI x1), some (zI x2), some (zI 9), some (zI (d15 154 (0 + x1)))]) dX9_set_65 (by decide) rfl ?_
        refine z_aloadR_n (i := 0) dX9_set_67 rfl rfl ?_
        refine z_getR 9 0 (idx := 7) ly153 (by decide) (by decide) rfl (show 153 < 166 by decide) rfl rt_153_0 wf_X9_7 dX9_set_68 ?_
        refine z_iconst dX9_set_71 ?_
        refine z_iload_n (i := 1) dX9_set_72 rfl rfl ?_
        refine z_iadd dX9_set_73 ?_
        refine z_iload_n (i := 2) dX9_set_74 rfl rfl ?_
        refine z_iastore ly154 (show 154 < 166 by decide) (by decide) dX9_set_75 h.1 ?_
        replace h := h.2
        generalize hd16 : mu d15 154 (0 + x1) x2 = d16
        replace hd16 := hd16.symm
        replace h := h d16 hd16
        refine z_iload (i := 4) dX9_set_76 rfl ?_
        exact zret_i rfl dX9_set_78 h
      · replace h := h.2.2 c
        refine z_bipush dX9_set_50 (by decide +kernel) ?_
        exact zret_i rfl dX9_set_52 h
theorem e_X9_set {g : zGG} {Q : Int → zMem → Prop} {d : zMem} {x1 : Int} {x2 : Int} (h : ((inR x1) ∧ (x1 ≠ 0 → ((inR x1) ∧ (x1 ≠ 1 → ((inR x1) ∧ (x1 ≠ 2 → Ev g M_X9_in FUL FUL [zI x1, zI 0, zI 3] d (fun v1 d1 => ((inR v1) ∧ (v1 = 0 → Q (-2) d1) ∧ (v1 ≠ 0 → Ev g M_X9_in FUL FUL [zI x2, zI 1, zI 50] d1 (fun v2 d2 => ((inR v2) ∧ (v2 ≠ 0 → Ev g M_X9_know FUL FUL [zR 153] d2 (fun _ d3 => (0 ≤ (0 + x1) ∧ (0 + x1) < 1407) ∧ (0 ≤ (0 + x1) ∧ (0 + x1) < 1407) ∧ ∀ d4, d4 = mu d3 154 (0 + x1) x2 → Q (d3 154 (0 + x1)) d4)) ∧ (v2 = 0 → Q (-2) d2))))))) ∧ (x1 = 2 → Ev g M_X9_in FUL FUL [zI x1, zI 0, zI 3] d (fun v3 d5 => ((inR v3) ∧ (v3 = 0 → Q (-2) d5) ∧ (v3 ≠ 0 → Ev g M_X9_in FUL FUL [zI x2, zI 1, zI 20] d5 (fun v4 d6 => ((inR v4) ∧ (v4 ≠ 0 → Ev g M_X9_know FUL FUL [zR 153] d6 (fun _ d7 => (0 ≤ (0 + x1) ∧ (0 + x1) < 1407) ∧ (0 ≤ (0 + x1) ∧ (0 + x1) < 1407) ∧ ∀ d8, d8 = mu d7 154 (0 + x1) x2 → Q (d7 154 (0 + x1)) d8)) ∧ (v4 = 0 → Q (-2) d6))))))))) ∧ (x1 = 1 → Ev g M_X9_in FUL FUL [zI x1, zI 0, zI 3] d (fun v5 d9 => ((inR v5) ∧ (v5 = 0 → Q (-2) d9) ∧ (v5 ≠ 0 → Ev g M_X9_in FUL FUL [zI x2, zI 1, zI 60] d9 (fun v6 d10 => ((inR v6) ∧ (v6 ≠ 0 → Ev g M_X9_know FUL FUL [zR 153] d10 (fun _ d11 => (0 ≤ (0 + x1) ∧ (0 + x1) < 1407) ∧ (0 ≤ (0 + x1) ∧ (0 + x1) < 1407) ∧ ∀ d12, d12 = mu d11 154 (0 + x1) x2 → Q (d11 154 (0 + x1)) d12)) ∧ (v6 = 0 → Q (-2) d10))))))))) ∧ (x1 = 0 → Ev g M_X9_in FUL FUL [zI x1, zI 0, zI 3] d (fun v7 d13 => ((inR v7) ∧ (v7 = 0 → Q (-2) d13) ∧ (v7 ≠ 0 → Ev g M_X9_in FUL FUL [zI x2, zI 1, zI 9] d13 (fun v8 d14 => ((inR v8) ∧ (v8 ≠ 0 → Ev g M_X9_know FUL FUL [zR 153] d14 (fun _ d15 => (0 ≤ (0 + x1) ∧ (0 + x1) < 1407) ∧ (0 ≤ (0 + x1) ∧ (0 + x1) < 1407) ∧ ∀ d16, d16 = mu d15 154 (0 + x1) x2 → Q (d15 154 (0 + x1)) d16)) ∧ (v8 = 0 → Q (-2) d14))))))))) : Ev g M_X9_set FUL FUL [zR 153, zI x1, zI x2] d Q :=
  Ev_of (by decide +kernel) (Nat.le_of_ble_eq_true rfl) (v_X9_set_0  h)
set_option maxRecDepth 20000 in
theorem v_X9_dikes_0 {g : zGG} {Q : Int → zMem → Prop} {d : zMem}   (h : (Fr g (eM g M_X9_dikes FUL FUL Q) M_X9_dikes FUL 4 [some (zR 153), some (zI 0), some (zI 0)] [] d)) : Fr g (eM g M_X9_dikes FUL FUL Q) M_X9_dikes FUL 0 [some (zR 153), none, none] [] d := by
  refine z_iconst dX9_dikes_0 ?_
  refine z_istore_n (i := 1) (ls2 := [some (zR 153), some (zI 0), none]) dX9_dikes_1 rfl (by decide) rfl ?_
  refine z_iconst dX9_dikes_2 ?_
  refine z_istore_n (i := 2) (ls2 := [some (zR 153), some (zI 0), some (zI 0)]) dX9_dikes_3 rfl (by decide) rfl ?_
  exact h
theorem e_X9_dikes {g : zGG} {Q : Int → zMem → Prop} {d : zMem}  (h : (Fr g (eM g M_X9_dikes FUL FUL Q) M_X9_dikes FUL 4 [some (zR 153), some (zI 0), some (zI 0)] [] d)) : Ev g M_X9_dikes FUL FUL [zR 153] d Q :=
  Ev_of (by decide +kernel) (Nat.le_of_ble_eq_true rfl) (v_X9_dikes_0  h)
set_option maxRecDepth 20000 in
theorem v_X9_dikes_4 {g : zGG} {Q : Int → zMem → Prop} {d : zMem}  {x1 : Int} {x2 : Int} (h : ((inR x2) ∧ (240 ≤ x2 → Q x1 d) ∧ (x2 < 240 → (0 ≤ (395 + x2) ∧ (395 + x2) < 1407) ∧ (Fr g (eM g M_X9_dikes FUL FUL Q) M_X9_dikes FUL 4 [some (zR 153), some (zI (x1 + (d 154 (395 + x2)))), some (zI (x2 + 1))] [] d)))) : Fr g (eM g M_X9_dikes FUL FUL Q) M_X9_dikes FUL 4 [some (zR 153), some (zI x1), some (zI x2)] [] d := by
  refine z_iload_n (i := 2) dX9_dikes_4 rfl rfl ?_
  refine z_sipush dX9_dikes_5 (by decide +kernel) ?_
  refine zb_icmp_ge (tgt := 30) dX9_dikes_8 (by decide) ⟨h.1, by decide⟩ ⟨fun c => ?_, fun c => ?_⟩
  · replace h := h.2.1 c
    refine z_iload_n (i := 1) dX9_dikes_30 rfl rfl ?_
    exact zret_i rfl dX9_dikes_31 h
  · replace h := h.2.2 c
    refine z_iload_n (i := 1) dX9_dikes_11 rfl rfl ?_
    refine z_aloadR_n (i := 0) dX9_dikes_12 rfl rfl ?_
    refine z_getR 9 0 (idx := 7) ly153 (by decide) (by decide) rfl (show 153 < 166 by decide) rfl rt_153_0 wf_X9_7 dX9_dikes_13 ?_
    refine z_sipush dX9_dikes_16 (by decide +kernel) ?_
    refine z_iload_n (i := 2) dX9_dikes_19 rfl rfl ?_
    refine z_iadd dX9_dikes_20 ?_
    refine z_iaload' (fv := (d 154 (395 + x2))) ly154 (show 154 < 166 by decide) (by decide) dX9_dikes_21 h.1 rfl ?_
    replace h := h.2
    refine z_iadd dX9_dikes_22 ?_
    refine z_istore_n (i := 1) (ls2 := [some (zR 153), some (zI (x1 + (d 154 (395 + x2)))), some (zI x2)]) dX9_dikes_23 rfl (by decide) rfl ?_
    refine z_iinc (i := 2) (ls2 := [some (zR 153), some (zI (x1 + (d 154 (395 + x2)))), some (zI (x2 + 1))]) dX9_dikes_24 (by decide) rfl rfl ?_
    refine z_goto (tgt := 4) dX9_dikes_27 (by decide) ?_
    exact h
set_option maxRecDepth 20000 in
theorem v_X9_dike_0 {g : zGG} {Q : Int → zMem → Prop} {d : zMem} {x1 : Int} {x2 : Int} {x3 : Int}  (h : Ev g M_X9_isCell FUL FUL [zI x1, zI x2] d (fun v1 d1 => ((inR v1) ∧ (v1 ≠ 0 → Ev g M_X9_numberOf FUL FUL [zR 153, zI ((20 * x2) + x1)] d1 (fun v2 d2 => ((inR v2) ∧ (v2 ≠ (-6) → Q (-5) d2) ∧ (v2 = (-6) → (0 ≤ (395 + ((20 * x2) + x1)) ∧ (395 + ((20 * x2) + x1)) < 1407) ∧ ((inR (d2 154 (395 + ((20 * x2) + x1)))) ∧ ((d2 154 (395 + ((20 * x2) + x1))) ≠ 1 → ((inR x3) ∧ (0 ≠ x3 → Ev g M_X9_know FUL FUL [zR 153] d2 (fun _ d3 => ((inR x3) ∧ (x3 = 0 → (0 ≤ (395 + ((20 * x2) + x1)) ∧ (395 + ((20 * x2) + x1)) < 1407) ∧ ∀ d4, d4 = mu d3 154 (395 + ((20 * x2) + x1)) 0 → Ev g M_X9_dikes FUL FUL [zR 153] d4 (fun v3 d5 => Q v3 d5)) ∧ (x3 ≠ 0 → (0 ≤ (395 + ((20 * x2) + x1)) ∧ (395 + ((20 * x2) + x1)) < 1407) ∧ ∀ d6, d6 = mu d3 154 (395 + ((20 * x2) + x1)) 1 → Ev g M_X9_dikes FUL FUL [zR 153] d6 (fun v4 d7 => Q v4 d7))))) ∧ (0 = x3 → Q (-5) d2))) ∧ ((d2 154 (395 + ((20 * x2) + x1))) = 1 → ((inR x3) ∧ (1 ≠ x3 → Ev g M_X9_know FUL FUL [zR 153] d2 (fun _ d8 => ((inR x3) ∧ (x3 = 0 → (0 ≤ (395 + ((20 * x2) + x1)) ∧ (395 + ((20 * x2) + x1)) < 1407) ∧ ∀ d9, d9 = mu d8 154 (395 + ((20 * x2) + x1)) 0 → Ev g M_X9_dikes FUL FUL [zR 153] d9 (fun v5 d10 => Q v5 d10)) ∧ (x3 ≠ 0 → (0 ≤ (395 + ((20 * x2) + x1)) ∧ (395 + ((20 * x2) + x1)) < 1407) ∧ ∀ d11, d11 = mu d8 154 (395 + ((20 * x2) + x1)) 1 → Ev g M_X9_dikes FUL FUL [zR 153] d11 (fun v6 d12 => Q v6 d12))))) ∧ (1 = x3 → Q (-5) d2)))))))) ∧ (v1 = 0 → Q (-1) d1)))) : Fr g (eM g M_X9_dike FUL FUL Q) M_X9_dike FUL 0 [some (zR 153), some (zI x1), some (zI x2), some (zI x3), none] [] d := by
  refine z_iload_n (i := 1) dX9_dike_0 rfl rfl ?_
  refine z_iload_n (i := 2) dX9_dike_1 rfl rfl ?_
  refine z_callS (k' := M_X9_isCell) (As := [zI x1, zI x2]) (st := []) dX9_dike_2 rfl wm_X9_58 ok_X9_isCell okS_X9_isCell rfl (zroom_self (by decide) (by decide)) (Nat.le_of_ble_eq_true rfl) (Nat.le_refl _) (zEnd_i (Nat.le_refl _) rfl (fun _ _ q => q)) (Ev_mono h (fun v1 d1 h => ?_))
  refine zb_if_ne (tgt := 10) dX9_dike_5 (by decide) h.1 ⟨fun c => ?_, fun c => ?_⟩
  · replace h := h.2.1 c
    refine z_bipush dX9_dike_10 (by decide +kernel) ?_
    refine z_iload_n (i := 2) dX9_dike_12 rfl rfl ?_
    refine z_imul dX9_dike_13 ?_
    refine z_iload_n (i := 1) dX9_dike_14 rfl rfl ?_
    refine z_iadd dX9_dike_15 ?_
    refine z_istore (i := 4) (ls2 := [some (zR 153), some (zI x1), some (zI x2), some (zI x3), some (zI ((20 * x2) + x1))]) dX9_dike_16 (by decide) rfl ?_
    refine z_aloadR_n (i := 0) dX9_dike_18 rfl rfl ?_
    refine z_iload (i := 4) dX9_dike_19 rfl ?_
    refine z_callVi (k' := M_X9_numberOf) (As := [zI ((20 * x2) + x1)]) (st := []) dX9_dike_21 rfl ly153 (by decide) rfl (show 153 < 166 by decide) wm_X9_142 ok_X9_numberOf okV_X9_numberOf rfl (zroom_self (by decide) (by decide)) (Nat.le_of_ble_eq_true rfl) (Nat.le_refl _) rfl (Ev_mono h (fun v2 d2 h => ?_))
    refine z_bipush dX9_dike_24 (by decide +kernel) ?_
    refine zb_icmp_ne (tgt := 53) dX9_dike_26 (by decide) ⟨h.1, by decide⟩ ⟨fun c => ?_, fun c => ?_⟩
    · replace h := h.2.1 c
      refine z_bipush dX9_dike_53 (by decide +kernel) ?_
      exact zret_i rfl dX9_dike_55 h
    · replace h := h.2.2 c
      refine z_aloadR_n (i := 0) dX9_dike_29 rfl rfl ?_
      refine z_getR 9 0 (idx := 7) ly153 (by decide) (by decide) rfl (show 153 < 166 by decide) rfl rt_153_0 wf_X9_7 dX9_dike_30 ?_
      refine z_sipush dX9_dike_33 (by decide +kernel) ?_
      refine z_iload (i := 4) dX9_dike_36 rfl ?_
      refine z_iadd dX9_dike_38 ?_
      refine z_iaload' (fv := (d2 154 (395 + ((20 * x2) + x1)))) ly154 (show 154 < 166 by decide) (by decide) dX9_dike_39 h.1 rfl ?_
      replace h := h.2
      refine z_iconst dX9_dike_40 ?_
      refine zb_icmp_ne (tgt := 48) dX9_dike_41 (by decide) ⟨h.1, by decide⟩ ⟨fun c => ?_, fun c => ?_⟩
      · replace h := h.2.1 c
        refine z_iconst dX9_dike_48 ?_
        refine z_iload_n (i := 3) dX9_dike_49 rfl rfl ?_
        refine zb_icmp_ne (tgt := 56) dX9_dike_50 (by decide) ⟨by decide, h.1⟩ ⟨fun c => ?_, fun c => ?_⟩
        · replace h := h.2.1 c
          refine z_aloadR_n (i := 0) dX9_dike_56 rfl rfl ?_
          refine z_callVv (k' := M_X9_know) (As := []) (st := []) dX9_dike_57 rfl ly153 (by decide) rfl (show 153 < 166 by decide) wm_X9_139 ok_X9_know okV_X9_know rfl (zroom_self (by decide) (by decide)) (Nat.le_of_ble_eq_true rfl) (Nat.le_refl _) rfl (Ev_mono h (fun _ d3 h => ?_))
          refine z_aloadR_n (i := 0) dX9_dike_60 rfl rfl ?_
          refine z_getR 9 0 (idx := 7) ly153 (by decide) (by decide) rfl (show 153 < 166 by decide) rfl rt_153_0 wf_X9_7 dX9_dike_61 ?_
          refine z_sipush dX9_dike_64 (by decide +kernel) ?_
          refine z_iload (i := 4) dX9_dike_67 rfl ?_
          refine z_iadd dX9_dike_69 ?_
          refine z_iload_n (i := 3) dX9_dike_70 rfl rfl ?_
          refine zb_if_eq (tgt := 78) dX9_dike_71 (by decide) h.1 ⟨fun c => ?_, fun c => ?_⟩
          · replace h := h.2.1 c
            refine z_iconst dX9_dike_78 ?_
            refine z_iastore ly154 (show 154 < 166 by decide) (by decide) dX9_dike_79 h.1 ?_
            replace h := h.2
            generalize hd4 : mu d3 154 (395 + ((20 * x2) + x1)) 0 = d4
            replace hd4 := hd4.symm
            replace h := h d4 hd4
            refine z_aloadR_n (i := 0) dX9_dike_80 rfl rfl ?_
            refine z_callVi (k' := M_X9_dikes) (As := []) (st := []) dX9_dike_81 rfl ly153 (by decide) rfl (show 153 < 166 by decide) wm_X9_145 ok_X9_dikes okV_X9_dikes rfl (zroom_self (by decide) (by decide)) (Nat.le_of_ble_eq_true rfl) (Nat.le_refl _) rfl (Ev_mono h (fun v3 d5 h => ?_))
            exact zret_i rfl dX9_dike_84 h
          · replace h := h.2.2 c
            refine z_iconst dX9_dike_74 ?_
            refine z_goto (tgt := 79) dX9_dike_75 (by decide) ?_
            refine z_iastore ly154 (show 154 < 166 by decide) (by decide) dX9_dike_79 h.1 ?_
            replace h := h.2
            generalize hd6 : mu d3 154 (395 + ((20 * x2) + x1)) 1 = d6
            replace hd6 := hd6.symm
            replace h := h d6 hd6
            refine z_aloadR_n (i := 0) dX9_dike_80 rfl rfl ?_
            refine z_callVi (k' := M_X9_dikes) (As := []) (st := []) dX9_dike_81 rfl ly153 (by decide) rfl (show 153 < 166 by decide) wm_X9_145 ok_X9_dikes okV_X9_dikes rfl (zroom_self (by decide) (by decide)) (Nat.le_of_ble_eq_true rfl) (Nat.le_refl _) rfl (Ev_mono h (fun v4 d7 h => ?_))
            exact zret_i rfl dX9_dike_84 h
        · replace h := h.2.2 c
          refine z_bipush dX9_dike_53 (by decide +kernel) ?_
          exact zret_i rfl dX9_dike_55 h
      · replace h := h.2.2 c
        refine z_iconst dX9_dike_44 ?_
        refine z_goto (tgt := 49) dX9_dike_45 (by decide) ?_
        refine z_iload_n (i := 3) dX9_dike_49 rfl rfl ?_
        refine zb_icmp_ne (tgt := 56) dX9_dike_50 (by decide) ⟨by decide, h.1⟩ ⟨fun c => ?_, fun c => ?_⟩
        · replace h := h.2.1 c
          refine z_aloadR_n (i := 0) dX9_dike_56 rfl rfl ?_
          refine z_callVv (k' := M_X9_know) (As := []) (st := []) dX9_dike_57 rfl ly153 (by decide) rfl (show 153 < 166 by decide) wm_X9_139 ok_X9_know okV_X9_know rfl (zroom_self (by decide) (by decide)) (Nat.le_of_ble_eq_true rfl) (Nat.le_refl _) rfl (Ev_mono h (fun _ d8 h => ?_))
          refine z_aloadR_n (i := 0) dX9_dike_60 rfl rfl ?_
          refine z_getR 9 0 (idx := 7) ly153 (by decide) (by decide) rfl (show 153 < 166 by decide) rfl rt_153_0 wf_X9_7 dX9_dike_61 ?_
          refine z_sipush dX9_dike_64 (by decide +kernel) ?_
          refine z_iload (i := 4) dX9_dike_67 rfl ?_
          refine z_iadd dX9_dike_69 ?_
          refine z_iload_n (i := 3) dX9_dike_70 rfl rfl ?_
          refine zb_if_eq (tgt := 78) dX9_dike_71 (by decide) h.1 ⟨fun c => ?_, fun c => ?_⟩
          · replace h := h.2.1 c
            refine z_iconst dX9_dike_78 ?_
            refine z_iastore ly154 (show 154 < 166 by decide) (by decide) dX9_dike_79 h.1 ?_
            replace h := h.2
            generalize hd9 : mu d8 154 (395 + ((20 * x2) + x1)) 0 = d9
            replace hd9 := hd9.symm
            replace h := h d9 hd9
            refine z_aloadR_n (i := 0) dX9_dike_80 rfl rfl ?_
            refine z_callVi (k' := M_X9_dikes) (As := []) (st := []) dX9_dike_81 rfl ly153 (by decide) rfl (show 153 < 166 by decide) wm_X9_145 ok_X9_dikes okV_X9_dikes rfl (zroom_self (by decide) (by decide)) (Nat.le_of_ble_eq_true rfl) (Nat.le_refl _) rfl (Ev_mono h (fun v5 d10 h => ?_))
            exact zret_i rfl dX9_dike_84 h
          · replace h := h.2.2 c
            refine z_iconst dX9_dike_74 ?_
            refine z_goto (tgt := 79) dX9_dike_75 (by decide) ?_
            refine z_iastore ly154 (show 154 < 166 by decide) (by decide) dX9_dike_79 h.1 ?_
            replace h := h.2
            generalize hd11 : mu d8 154 (395 + ((20 * x2) + x1)) 1 = d11
            replace hd11 := hd11.symm
            replace h := h d11 hd11
            refine z_aloadR_n (i := 0) dX9_dike_80 rfl rfl ?_
            refine z_callVi (k' := M_X9_dikes) (As := []) (st := []) dX9_dike_81 rfl ly153 (by decide) rfl (show 153 < 166 by decide) wm_X9_145 ok_X9_dikes okV_X9_dikes rfl (zroom_self (by decide) (by decide)) (Nat.le_of_ble_eq_true rfl) (Nat.le_refl _) rfl (Ev_mono h (fun v6 d12 h => ?_))
            exact zret_i rfl dX9_dike_84 h
        · replace h := h.2.2 c
          refine z_bipush dX9_dike_53 (by decide +kernel) ?_
          exact zret_i rfl dX9_dike_55 h
  · replace h := h.2.2 c
    refine z_iconst dX9_dike_8 ?_
    exact zret_i rfl dX9_dike_9 h
theorem e_X9_dike {g : zGG} {Q : Int → zMem → Prop} {d : zMem} {x1 : Int} {x2 : Int} {x3 : Int} (h : Ev g M_X9_isCell FUL FUL [zI x1, zI x2] d (fun v1 d1 => ((inR v1) ∧ (v1 ≠ 0 → Ev g M_X9_numberOf FUL FUL [zR 153, zI ((20 * x2) + x1)] d1 (fun v2 d2 => ((inR v2) ∧ (v2 ≠ (-6) → Q (-5) d2) ∧ (v2 = (-6) → (0 ≤ (395 + ((20 * x2) + x1)) ∧ (395 + ((20 * x2) + x1)) < 1407) ∧ ((inR (d2 154 (395 + ((20 * x2) + x1)))) ∧ ((d2 154 (395 + ((20 * x2) + x1))) ≠ 1 → ((inR x3) ∧ (0 ≠ x3 → Ev g M_X9_know FUL FUL [zR 153] d2 (fun _ d3 => ((inR x3) ∧ (x3 = 0 → (0 ≤ (395 + ((20 * x2) + x1)) ∧ (395 + ((20 * x2) + x1)) < 1407) ∧ ∀ d4, d4 = mu d3 154 (395 + ((20 * x2) + x1)) 0 → Ev g M_X9_dikes FUL FUL [zR 153] d4 (fun v3 d5 => Q v3 d5)) ∧ (x3 ≠ 0 → (0 ≤ (395 + ((20 * x2) + x1)) ∧ (395 + ((20 * x2) + x1)) < 1407) ∧ ∀ d6, d6 = mu d3 154 (395 + ((20 * x2) + x1)) 1 → Ev g M_X9_dikes FUL FUL [zR 153] d6 (fun v4 d7 => Q v4 d7))))) ∧ (0 = x3 → Q (-5) d2))) ∧ ((d2 154 (395 + ((20 * x2) + x1))) = 1 → ((inR x3) ∧ (1 ≠ x3 → Ev g M_X9_know FUL FUL [zR 153] d2 (fun _ d8 => ((inR x3) ∧ (x3 = 0 → (0 ≤ (395 + ((20 * x2) + x1)) ∧ (395 + ((20 * x2) + x1)) < 1407) ∧ ∀ d9, d9 = mu d8 154 (395 + ((20 * x2) + x1)) 0 → Ev g M_X9_dikes FUL FUL [zR 153] d9 (fun v5 d10 => Q v5 d10)) ∧ (x3 ≠ 0 → (0 ≤ (395 + ((20 * x2) + x1)) ∧ (395 + ((20 * x2) + x1)) < 1407) ∧ ∀ d11, d11 = mu d8 154 (395 + ((20 * x2) + x1)) 1 → Ev g M_X9_dikes FUL FUL [zR 153] d11 (fun v6 d12 => Q v6 d12))))) ∧ (1 = x3 → Q (-5) d2)))))))) ∧ (v1 = 0 → Q (-1) d1)))) : Ev g M_X9_dike FUL FUL [zR 153, zI x1, zI x2, zI x3] d Q :=
  Ev_of (by decide +kernel) (Nat.le_of_ble_eq_true rfl) (v_X9_dike_0  h)
set_option maxRecDepth 20000 in
theorem v_X9_flood_0 {g : zGG} {Q : Int → zMem → Prop} {d : zMem} {x1 : Int} {x2 : Int}  (h : Ev g M_X9_in FUL FUL [zI x1, zI (d 154 1404), zI 999] d (fun v1 d1 => ((inR v1) ∧ (v1 ≠ 0 → Ev g M_X9_isFloodYear FUL FUL [zR 153, zI x1] d1 (fun v2 d2 => ((inR v2 ∧ inR x2) ∧ (v2 ≠ x2 → ((inR x2) ∧ (x2 = 0 → Ev g M_X9_know FUL FUL [zR 153] d2 (fun _ d3 => ((inR x2) ∧ (x2 = 0 → ∀ d4, d4 = mu d3 154 1395 ((d3 154 1395) - 1) → (Fr g (eM g M_X9_flood FUL FUL Q) M_X9_flood FUL 111 [some (zR 153), some (zI x1), some (zI x2), some (zI 0), some (zI 0)] [] d4)) ∧ (x2 ≠ 0 → (0 ≤ (1396 + (d3 154 1395)) ∧ (1396 + (d3 154 1395)) < 1407) ∧ ∀ d5, d5 = mu d3 154 (1396 + (d3 154 1395)) x1 → ∀ d6, d6 = mu d5 154 1395 ((d5 154 1395) + 1) → Q (d6 154 1395) d6)))) ∧ (x2 ≠ 0 → ((inR (d2 154 1395)) ∧ ((d2 154 1395) ≠ 8 → Ev g M_X9_know FUL FUL [zR 153] d2 (fun _ d7 => ((inR x2) ∧ (x2 = 0 → ∀ d8, d8 = mu d7 154 1395 ((d7 154 1395) - 1) → (Fr g (eM g M_X9_flood FUL FUL Q) M_X9_flood FUL 111 [some (zR 153), some (zI x1), some (zI x2), some (zI 0), some (zI 0)] [] d8)) ∧ (x2 ≠ 0 → (0 ≤ (1396 + (d7 154 1395)) ∧ (1396 + (d7 154 1395)) < 1407) ∧ ∀ d9, d9 = mu d7 154 (1396 + (d7 154 1395)) x1 → ∀ d10, d10 = mu d9 154 1395 ((d9 154 1395) + 1) → Q (d10 154 1395) d10)))) ∧ ((d2 154 1395) = 8 → Q (-4) d2))))) ∧ (v2 = x2 → Q (-5) d2)))) ∧ (v1 = 0 → Q (-2) d1)))) : Fr g (eM g M_X9_flood FUL FUL Q) M_X9_flood FUL 0 [some (zR 153), some (zI x1), some (zI x2), none, none] [] d := by
  refine z_iload_n (i := 1) dX9_flood_0 rfl rfl ?_
  refine z_aloadR_n (i := 0) dX9_flood_1 rfl rfl ?_
  refine z_getR 9 0 (idx := 7) ly153 (by decide) (by decide) rfl (show 153 < 166 by decide) rfl rt_153_0 wf_X9_7 dX9_flood_2 ?_
  refine z_sipush dX9_flood_5 (by decide +kernel) ?_
  refine z_iaload' (fv := (d 154 1404)) ly154 (show 154 < 166 by decide) (by decide) dX9_flood_8 (by decide) rfl ?_
  refine z_sipush dX9_flood_9 (by decide +kernel) ?_
  refine z_callS (k' := M_X9_in) (As := [zI x1, zI (d 154 1404), zI 999]) (st := []) dX9_flood_12 rfl wm_X9_50 ok_X9_in okS_X9_in rfl (zroom_self (by decide) (by decide)) (Nat.le_of_ble_eq_true rfl) (Nat.le_refl _) (zEnd_i (Nat.le_refl _) rfl (fun _ _ q => q)) (Ev_mono h (fun v1 d1 h => ?_))
  refine zb_if_ne (tgt := 21) dX9_flood_15 (by decide) h.1 ⟨fun c => ?_, fun c => ?_⟩
  · replace h := h.2.1 c
    refine z_aloadR_n (i := 0) dX9_flood_21 rfl rfl ?_
    refine z_iload_n (i := 1) dX9_flood_22 rfl rfl ?_
    refine z_callVi (k' := M_X9_isFloodYear) (As := [zI x1]) (st := []) dX9_flood_23 rfl ly153 (by decide) rfl (show 153 < 166 by decide) wm_X9_115 ok_X9_isFloodYear okV_X9_isFloodYear rfl (zroom_self (by decide) (by decide)) (Nat.le_of_ble_eq_true rfl) (Nat.le_refl _) rfl (Ev_mono h (fun v2 d2 h => ?_))
    refine z_iload_n (i := 2) dX9_flood_26 rfl rfl ?_
    refine zb_icmp_ne (tgt := 33) dX9_flood_27 (by decide) h.1 ⟨fun c => ?_, fun c => ?_⟩
    · replace h := h.2.1 c
      refine z_iload_n (i := 2) dX9_flood_33 rfl rfl ?_
      refine zb_if_eq (tgt := 53) dX9_flood_34 (by decide) h.1 ⟨fun c => ?_, fun c => ?_⟩
      · replace h := h.2.1 c
        refine z_aloadR_n (i := 0) dX9_flood_53 rfl rfl ?_
        refine z_callVv (k' := M_X9_know) (As := []) (st := []) dX9_flood_54 rfl ly153 (by decide) rfl (show 153 < 166 by decide) wm_X9_139 ok_X9_know okV_X9_know rfl (zroom_self (by decide) (by decide)) (Nat.le_of_ble_eq_true rfl) (Nat.le_refl _) rfl (Ev_mono h (fun _ d3 h => ?_))
        refine z_iload_n (i := 2) dX9_flood_57 rfl rfl ?_
        refine zb_if_eq (tgt := 94) dX9_flood_58 (by decide) h.1 ⟨fun c => ?_, fun c => ?_⟩
        · replace h := h.2.1 c
          refine z_aloadR_n (i := 0) dX9_flood_94 rfl rfl ?_
          refine z_getR 9 0 (idx := 7) ly153 (by decide) (by decide) rfl (show 153 < 166 by decide) rfl rt_153_0 wf_X9_7 dX9_flood_95 ?_
          refine z_sipush dX9_flood_98 (by decide +kernel) ?_
          refine z_dup2 dX9_flood_101 (Nat.le_of_ble_eq_true rfl) (Nat.le_of_ble_eq_true rfl) ?_
          refine z_iaload' (fv := (d3 154 1395)) ly154 (show 154 < 166 by decide) (by decide) dX9_flood_102 (by decide) rfl ?_
          refine z_iconst dX9_flood_103 ?_
          refine z_isub dX9_flood_104 ?_
          refine z_iastore ly154 (show 154 < 166 by decide) (by decide) dX9_flood_105 (by decide) ?_
          generalize hd4 : mu d3 154 1395 ((d3 154 1395) - 1) = d4
          replace hd4 := hd4.symm
          replace h := h d4 hd4
          refine z_iconst dX9_flood_106 ?_
          refine z_istore_n (i := 3) (ls2 := [some (zR 153), some (zI x1), some (zI x2), some (zI 0), none]) dX9_flood_107 rfl (by decide) rfl ?_
          refine z_iconst dX9_flood_108 ?_
          refine z_istore (i := 4) (ls2 := [some (zR 153), some (zI x1), some (zI x2), some (zI 0), some (zI 0)]) dX9_flood_109 (by decide) rfl ?_
          exact h
        · replace h := h.2.2 c
          refine z_aloadR_n (i := 0) dX9_flood_61 rfl rfl ?_
          refine z_getR 9 0 (idx := 7) ly153 (by decide) (by decide) rfl (show 153 < 166 by decide) rfl rt_153_0 wf_X9_7 dX9_flood_62 ?_
          refine z_sipush dX9_flood_65 (by decide +kernel) ?_
          refine z_aloadR_n (i := 0) dX9_flood_68 rfl rfl ?_
          refine z_getR 9 0 (idx := 7) ly153 (by decide) (by decide) rfl (show 153 < 166 by decide) rfl rt_153_0 wf_X9_7 dX9_flood_69 ?_
          refine z_sipush dX9_flood_72 (by decide +kernel) ?_
          refine z_iaload' (fv := (d3 154 1395)) ly154 (show 154 < 166 by decide) (by decide) dX9_flood_75 (by decide) rfl ?_
          refine z_iadd dX9_flood_76 ?_
          refine z_iload_n (i := 1) dX9_flood_77 rfl rfl ?_
          refine z_iastore ly154 (show 154 < 166 by decide) (by decide) dX9_flood_78 h.1 ?_
          replace h := h.2
          generalize hd5 : mu d3 154 (1396 + (d3 154 1395)) x1 = d5
          replace hd5 := hd5.symm
          replace h := h d5 hd5
          refine z_aloadR_n (i := 0) dX9_flood_79 rfl rfl ?_
          refine z_getR 9 0 (idx := 7) ly153 (by decide) (by decide) rfl (show 153 < 166 by decide) rfl rt_153_0 wf_X9_7 dX9_flood_80 ?_
          refine z_sipush dX9_flood_83 (by decide +kernel) ?_
          refine z_dup2 dX9_flood_86 (Nat.le_of_ble_eq_true rfl) (Nat.le_of_ble_eq_true rfl) ?_
          refine z_iaload' (fv := (d5 154 1395)) ly154 (show 154 < 166 by decide) (by decide) dX9_flood_87 (by decide) rfl ?_
          refine z_iconst dX9_flood_88 ?_
          refine z_iadd dX9_flood_89 ?_
          refine z_iastore ly154 (show 154 < 166 by decide) (by decide) dX9_flood_90 (by decide) ?_
          generalize hd6 : mu d5 154 1395 ((d5 154 1395) + 1) = d6
          replace hd6 := hd6.symm
          replace h := h d6 hd6
          refine z_goto (tgt := 197) dX9_flood_91 (by decide) ?_
          refine z_aloadR_n (i := 0) dX9_flood_197 rfl rfl ?_
          refine z_getR 9 0 (idx := 7) ly153 (by decide) (by decide) rfl (show 153 < 166 by decide) rfl rt_153_0 wf_X9_7 dX9_flood_198 ?_
          refine z_sipush dX9_flood_201 (by decide +kernel) ?_
          refine z_iaload' (fv := (d6 154 1395)) ly154 (show 154 < 166 by decide) (by decide) dX9_flood_204 (by decide) rfl ?_
          exact zret_i rfl dX9_flood_205 h
      · replace h := h.2.2 c
        refine z_aloadR_n (i := 0) dX9_flood_37 rfl rfl ?_
        refine z_getR 9 0 (idx := 7) ly153 (by decide) (by decide) rfl (show 153 < 166 by decide) rfl rt_153_0 wf_X9_7 dX9_flood_38 ?_
        refine z_sipush dX9_flood_41 (by decide +kernel) ?_
        refine z_iaload' (fv := (d2 154 1395)) ly154 (show 154 < 166 by decide) (by decide) dX9_flood_44 (by decide) rfl ?_
        refine z_bipush dX9_flood_45 (by decide +kernel) ?_
        refine zb_icmp_ne (tgt := 53) dX9_flood_47 (by decide) ⟨h.1, by decide⟩ ⟨fun c => ?_, fun c => ?_⟩
        · replace h := h.2.1 c
          refine z_aloadR_n (i := 0) dX9_flood_53 rfl rfl ?_
          refine z_callVv (k' := M_X9_know) (As := []) (st := []) dX9_flood_54 rfl ly153 (by decide) rfl (show 153 < 166 by decide) wm_X9_139 ok_X9_know okV_X9_know rfl (zroom_self (by decide) (by decide)) (Nat.le_of_ble_eq_true rfl) (Nat.le_refl _) rfl (Ev_mono h (fun _ d7 h => ?_))
          refine z_iload_n (i := 2) dX9_flood_57 rfl rfl ?_
          refine zb_if_eq (tgt := 94) dX9_flood_58 (by decide) h.1 ⟨fun c => ?_, fun c => ?_⟩
          · replace h := h.2.1 c
            refine z_aloadR_n (i := 0) dX9_flood_94 rfl rfl ?_
            refine z_getR 9 0 (idx := 7) ly153 (by decide) (by decide) rfl (show 153 < 166 by decide) rfl rt_153_0 wf_X9_7 dX9_flood_95 ?_
            refine z_sipush dX9_flood_98 (by decide +kernel) ?_
            refine z_dup2 dX9_flood_101 (Nat.le_of_ble_eq_true rfl) (Nat.le_of_ble_eq_true rfl) ?_
            refine z_iaload' (fv := (d7 154 1395)) ly154 (show 154 < 166 by decide) (by decide) dX9_flood_102 (by decide) rfl ?_
            refine z_iconst dX9_flood_103 ?_
            refine z_isub dX9_flood_104 ?_
            refine z_iastore ly154 (show 154 < 166 by decide) (by decide) dX9_flood_105 (by decide) ?_
            generalize hd8 : mu d7 154 1395 ((d7 154 1395) - 1) = d8
            replace hd8 := hd8.symm
            replace h := h d8 hd8
            refine z_iconst dX9_flood_106 ?_
            refine z_istore_n (i := 3) (ls2 := [some (zR 153), some (zI x1), some (zI x2), some (zI 0), none]) dX9_flood_107 rfl (by decide) rfl ?_
            refine z_iconst dX9_flood_108 ?_
            refine z_istore (i := 4) (ls2 := [some (zR 153), some (zI x1), some (zI x2), some (zI 0), some (zI 0)]) dX9_flood_109 (by decide) rfl ?_
            exact h
          · replace h := h.2.2 c
            refine z_aloadR_n (i := 0) dX9_flood_61 rfl rfl ?_
            refine z_getR 9 0 (idx := 7) ly153 (by decide) (by decide) rfl (show 153 < 166 by decide) rfl rt_153_0 wf_X9_7 dX9_flood_62 ?_
            refine z_sipush dX9_flood_65 (by decide +kernel) ?_
            refine z_aloadR_n (i := 0) dX9_flood_68 rfl rfl ?_
            refine z_getR 9 0 (idx := 7) ly153 (by decide) (by decide) rfl (show 153 < 166 by decide) rfl rt_153_0 wf_X9_7 dX9_flood_69 ?_
            refine z_sipush dX9_flood_72 (by decide +kernel) ?_
            refine z_iaload' (fv := (d7 154 1395)) ly154 (show 154 < 166 by decide) (by decide) dX9_flood_75 (by decide) rfl ?_
            refine z_iadd dX9_flood_76 ?_
            refine z_iload_n (i := 1) dX9_flood_77 rfl rfl ?_
            refine z_iastore ly154 (show 154 < 166 by decide) (by decide) dX9_flood_78 h.1 ?_
            replace h := h.2
            generalize hd9 : mu d7 154 (1396 + (d7 154 1395)) x1 = d9
            replace hd9 := hd9.symm
            replace h := h d9 hd9
            refine z_aloadR_n (i := 0) dX9_flood_79 rfl rfl ?_
            refine z_getR 9 0 (idx := 7) ly153 (by decide) (by decide) rfl (show 153 < 166 by decide) rfl rt_153_0 wf_X9_7 dX9_flood_80 ?_
            refine z_sipush dX9_flood_83 (by decide +kernel) ?_
            refine z_dup2 dX9_flood_86 (Nat.le_of_ble_eq_true rfl) (Nat.le_of_ble_eq_true rfl) ?_
            refine z_iaload' (fv := (d9 154 1395)) ly154 (show 154 < 166 by decide) (by decide) dX9_flood_87 (by decide) rfl ?_
            refine z_iconst dX9_flood_88 ?_
            refine z_iadd dX9_flood_89 ?_
            refine z_iastore ly154 (show 154 < 166 by decide) (by decide) dX9_flood_90 (by decide) ?_
            generalize hd10 : mu d9 154 1395 ((d9 154 1395) + 1) = d10
            replace hd10 := hd10.symm
            replace h := h d10 hd10
            refine z_goto (tgt := 197) dX9_flood_91 (by decide) ?_
            refine z_aloadR_n (i := 0) dX9_flood_197 rfl rfl ?_
            refine z_getR 9 0 (idx := 7) ly153 (by decide) (by decide) rfl (show 153 < 166 by decide) rfl rt_153_0 wf_X9_7 dX9_flood_198 ?_
            refine z_sipush dX9_flood_201 (by decide +kernel) ?_
            refine z_iaload' (fv := (d10 154 1395)) ly154 (show 154 < 166 by decide) (by decide) dX9_flood_204 (by decide) rfl ?_
            exact zret_i rfl dX9_flood_205 h
        · replace h := h.2.2 c
          refine z_bipush dX9_flood_50 (by decide +kernel) ?_
          exact zret_i rfl dX9_flood_52 h
    · replace h := h.2.2 c
      refine z_bipush dX9_flood_30 (by decide +kernel) ?_
      exact zret_i rfl dX9_flood_32 h
  · replace h := h.2.2 c
    refine z_bipush dX9_flood_18 (by decide +kernel) ?_
    exact zret_i rfl dX9_flood_20 h
theorem e_X9_flood {g : zGG} {Q : Int → zMem → Prop} {d : zMem} {x1 : Int} {x2 : Int} (h : Ev g M_X9_in FUL FUL [zI x1, zI (d 154 1404), zI 999] d (fun v1 d1 => ((inR v1) ∧ (v1 ≠ 0 → Ev g M_X9_isFloodYear FUL FUL [zR 153, zI x1] d1 (fun v2 d2 => ((inR v2 ∧ inR x2) ∧ (v2 ≠ x2 → ((inR x2) ∧ (x2 = 0 → Ev g M_X9_know FUL FUL [zR 153] d2 (fun _ d3 => ((inR x2) ∧ (x2 = 0 → ∀ d4, d4 = mu d3 154 1395 ((d3 154 1395) - 1) → (Fr g (eM g M_X9_flood FUL FUL Q) M_X9_flood FUL 111 [some (zR 153), some (zI x1), some (zI x2), some (zI 0), some (zI 0)] [] d4)) ∧ (x2 ≠ 0 → (0 ≤ (1396 + (d3 154 1395)) ∧ (1396 + (d3 154 1395)) < 1407) ∧ ∀ d5, d5 = mu d3 154 (1396 + (d3 154 1395)) x1 → ∀ d6, d6 = mu d5 154 1395 ((d5 154 1395) + 1) → Q (d6 154 1395) d6)))) ∧ (x2 ≠ 0 → ((inR (d2 154 1395)) ∧ ((d2 154 1395) ≠ 8 → Ev g M_X9_know FUL FUL [zR 153] d2 (fun _ d7 => ((inR x2) ∧ (x2 = 0 → ∀ d8, d8 = mu d7 154 1395 ((d7 154 1395) - 1) → (Fr g (eM g M_X9_flood FUL FUL Q) M_X9_flood FUL 111 [some (zR 153), some (zI x1), some (zI x2), some (zI 0), some (zI 0)] [] d8)) ∧ (x2 ≠ 0 → (0 ≤ (1396 + (d7 154 1395)) ∧ (1396 + (d7 154 1395)) < 1407) ∧ ∀ d9, d9 = mu d7 154 (1396 + (d7 154 1395)) x1 → ∀ d10, d10 = mu d9 154 1395 ((d9 154 1395) + 1) → Q (d10 154 1395) d10)))) ∧ ((d2 154 1395) = 8 → Q (-4) d2))))) ∧ (v2 = x2 → Q (-5) d2)))) ∧ (v1 = 0 → Q (-2) d1)))) : Ev g M_X9_flood FUL FUL [zR 153, zI x1, zI x2] d Q :=
  Ev_of (by decide +kernel) (Nat.le_of_ble_eq_true rfl) (v_X9_flood_0  h)
set_option maxRecDepth 20000 in
theorem v_X9_flood_111 {g : zGG} {Q : Int → zMem → Prop} {d : zMem} {x1 : Int} {x2 : Int} {x3 : Int} {x4 : Int} (h : ((inR x4 ∧ inR (d 154 1395)) ∧ ((d 154 1395) ≤ x4 → Q (d 154 1395) d) ∧ (x4 < (d 154 1395) → ((inR x3) ∧ (x3 ≠ 0 → (0 ≤ ((1396 + x4) + 1) ∧ ((1396 + x4) + 1) < 1407) ∧ (0 ≤ (1396 + x4) ∧ (1396 + x4) < 1407) ∧ ∀ d1, d1 = mu d 154 (1396 + x4) (d 154 ((1396 + x4) + 1)) → (Fr g (eM g M_X9_flood FUL FUL Q) M_X9_flood FUL 111 [some (zR 153), some (zI x1), some (zI x2), some (zI 1), some (zI (x4 + 1))] [] d1)) ∧ (x3 = 0 → (0 ≤ (1396 + x4) ∧ (1396 + x4) < 1407) ∧ ((inR (d 154 (1396 + x4)) ∧ inR x1) ∧ ((d 154 (1396 + x4)) ≠ x1 → (0 ≤ (1396 + x4) ∧ (1396 + x4) < 1407) ∧ (0 ≤ (1396 + x4) ∧ (1396 + x4) < 1407) ∧ ∀ d2, d2 = mu d 154 (1396 + x4) (d 154 (1396 + x4)) → (Fr g (eM g M_X9_flood FUL FUL Q) M_X9_flood FUL 111 [some (zR 153), some (zI x1), some (zI x2), some (zI 0), some (zI (x4 + 1))] [] d2)) ∧ ((d 154 (1396 + x4)) = x1 → (0 ≤ ((1396 + x4) + 1) ∧ ((1396 + x4) + 1) < 1407) ∧ (0 ≤ (1396 + x4) ∧ (1396 + x4) < 1407) ∧ ∀ d3, d3 = mu d 154 (1396 + x4) (d 154 ((1396 + x4) + 1)) → (Fr g (eM g M_X9_flood FUL FUL Q) M_X9_flood FUL 111 [some (zR 153), some (zI x1), some (zI x2), some (zI 1), some (zI (x4 + 1))] [] d3)))))))) : Fr g (eM g M_X9_flood FUL FUL Q) M_X9_flood FUL 111 [some (zR 153), some (zI x1), some (zI x2), some (zI x3), some (zI x4)] [] d := by
  refine z_iload (i := 4) dX9_flood_111 rfl ?_
  refine z_aloadR_n (i := 0) dX9_flood_113 rfl rfl ?_
  refine z_getR 9 0 (idx := 7) ly153 (by decide) (by decide) rfl (show 153 < 166 by decide) rfl rt_153_0 wf_X9_7 dX9_flood_114 ?_
  refine z_sipush dX9_flood_117 (by decide +kernel) ?_
  refine z_iaload' (fv := (d 154 1395)) ly154 (show 154 < 166 by decide) (by decide) dX9_flood_120 (by decide) rfl ?_
  refine zb_icmp_ge (tgt := 197) dX9_flood_121 (by decide) h.1 ⟨fun c => ?_, fun c => ?_⟩
  · replace h := h.2.1 c
    refine z_aloadR_n (i := 0) dX9_flood_197 rfl rfl ?_
    refine z_getR 9 0 (idx := 7) ly153 (by decide) (by decide) rfl (show 153 < 166 by decide) rfl rt_153_0 wf_X9_7 dX9_flood_198 ?_
    refine z_sipush dX9_flood_201 (by decide +kernel) ?_
    refine z_iaload' (fv := (d 154 1395)) ly154 (show 154 < 166 by decide) (by decide) dX9_flood_204 (by decide) rfl ?_
    exact zret_i rfl dX9_flood_205 h
  · replace h := h.2.2 c
    refine z_iload_n (i := 3) dX9_flood_124 rfl rfl ?_
    refine zb_if_ne (tgt := 143) dX9_flood_125 (by decide) h.1 ⟨fun c => ?_, fun c => ?_⟩
    · replace h := h.2.1 c
      refine z_iconst dX9_flood_143 ?_
      refine z_goto (tgt := 148) dX9_flood_144 (by decide) ?_
      refine z_istore_n (i := 3) (ls2 := [some (zR 153), some (zI x1), some (zI x2), some (zI 1), some (zI x4)]) dX9_flood_148 rfl (by decide) rfl ?_
      refine z_aloadR_n (i := 0) dX9_flood_149 rfl rfl ?_
      refine z_getR 9 0 (idx := 7) ly153 (by decide) (by decide) rfl (show 153 < 166 by decide) rfl rt_153_0 wf_X9_7 dX9_flood_150 ?_
      refine z_sipush dX9_flood_153 (by decide +kernel) ?_
      refine z_iload (i := 4) dX9_flood_156 rfl ?_
      refine z_iadd dX9_flood_158 ?_
      refine z_iload_n (i := 3) dX9_flood_159 rfl rfl ?_
      refine zb_if_eq (tgt := 179) dX9_flood_160 (by decide) (by decide) ⟨fun q => absurd q (by decide), fun _ => ?_⟩
      refine z_aloadR_n (i := 0) dX9_flood_163 rfl rfl ?_
      refine z_getR 9 0 (idx := 7) ly153 (by decide) (by decide) rfl (show 153 < 166 by decide) rfl rt_153_0 wf_X9_7 dX9_flood_164 ?_
      refine z_sipush dX9_flood_167 (by decide +kernel) ?_
      refine z_iload (i := 4) dX9_flood_170 rfl ?_
      refine z_iadd dX9_flood_172 ?_
      refine z_iconst dX9_flood_173 ?_
      refine z_iadd dX9_flood_174 ?_
      refine z_iaload' (fv := (d 154 ((1396 + x4) + 1))) ly154 (show 154 < 166 by decide) (by decide) dX9_flood_175 h.1 rfl ?_
      replace h := h.2
      refine z_goto (tgt := 190) dX9_flood_176 (by decide) ?_
      refine z_iastore ly154 (show 154 < 166 by decide) (by decide) dX9_flood_190 h.1 ?_
      replace h := h.2
      generalize hd1 : mu d 154 (1396 + x4) (d 154 ((1396 + x4) + 1)) = d1
      replace hd1 := hd1.symm
      replace h := h d1 hd1
      refine z_iinc (i := 4) (ls2 := [some (zR 153), some (zI x1), some (zI x2), some (zI 1), some (zI (x4 + 1))]) dX9_flood_191 (by decide) rfl rfl ?_
      refine z_goto (tgt := 111) dX9_flood_194 (by decide) ?_
      exact h
    · replace h := h.2.2 c
      refine z_aloadR_n (i := 0) dX9_flood_128 rfl rfl ?_
      refine z_getR 9 0 (idx := 7) ly153 (by decide) (by decide) rfl (show 153 < 166 by decide) rfl rt_153_0 wf_X9_7 dX9_flood_129 ?_
      refine z_sipush dX9_flood_132 (by decide +kernel) ?_
      refine z_iload (i := 4) dX9_flood_135 rfl ?_
      refine z_iadd dX9_flood_137 ?_
      refine z_iaload' (fv := (d 154 (1396 + x4))) ly154 (show 154 < 166 by decide) (by decide) dX9_flood_138 h.1 rfl ?_
      replace h := h.2
      refine z_iload_n (i := 1) dX9_flood_139 rfl rfl ?_
      refine zb_icmp_ne (tgt := 147) dX9_flood_140 (by decide) h.1 ⟨fun c => ?_, fun c => ?_⟩
      · replace h := h.2.1 c
        refine z_iconst dX9_flood_147 ?_
        refine z_istore_n (i := 3) (ls2 := [some (zR 153), some (zI x1), some (zI x2), some (zI 0), some (zI x4)]) dX9_flood_148 rfl (by decide) rfl ?_
        refine z_aloadR_n (i := 0) dX9_flood_149 rfl rfl ?_
        refine z_getR 9 0 (idx := 7) ly153 (by decide) (by decide) rfl (show 153 < 166 by decide) rfl rt_153_0 wf_X9_7 dX9_flood_150 ?_
        refine z_sipush dX9_flood_153 (by decide +kernel) ?_
        refine z_iload (i := 4) dX9_flood_156 rfl ?_
        refine z_iadd dX9_flood_158 ?_
        refine z_iload_n (i := 3) dX9_flood_159 rfl rfl ?_
        refine zb_if_eq (tgt := 179) dX9_flood_160 (by decide) (by decide) ⟨fun _ => ?_, fun q => absurd q (by decide)⟩
        refine z_aloadR_n (i := 0) dX9_flood_179 rfl rfl ?_
        refine z_getR 9 0 (idx := 7) ly153 (by decide) (by decide) rfl (show 153 < 166 by decide) rfl rt_153_0 wf_X9_7 dX9_flood_180 ?_
        refine z_sipush dX9_flood_183 (by decide +kernel) ?_
        refine z_iload (i := 4) dX9_flood_186 rfl ?_
        refine z_iadd dX9_flood_188 ?_
        refine z_iaload' (fv := (d 154 (1396 + x4))) ly154 (show 154 < 166 by decide) (by decide) dX9_flood_189 h.1 rfl ?_
        replace h := h.2
        refine z_iastore ly154 (show 154 < 166 by decide) (by decide) dX9_flood_190 h.1 ?_
        replace h := h.2
        generalize hd2 : mu d 154 (1396 + x4) (d 154 (1396 + x4)) = d2
        replace hd2 := hd2.symm
        replace h := h d2 hd2
        refine z_iinc (i := 4) (ls2 := [some (zR 153), some (zI x1), some (zI x2), some (zI 0), some (zI (x4 + 1))]) dX9_flood_191 (by decide) rfl rfl ?_
        refine z_goto (tgt := 111) dX9_flood_194 (by decide) ?_
        exact h
      · replace h := h.2.2 c
        refine z_iconst dX9_flood_143 ?_
        refine z_goto (tgt := 148) dX9_flood_144 (by decide) ?_
        refine z_istore_n (i := 3) (ls2 := [some (zR 153), some (zI x1), some (zI x2), some (zI 1), some (zI x4)]) dX9_flood_148 rfl (by decide) rfl ?_
        refine z_aloadR_n (i := 0) dX9_flood_149 rfl rfl ?_
        refine z_getR 9 0 (idx := 7) ly153 (by decide) (by decide) rfl (show 153 < 166 by decide) rfl rt_153_0 wf_X9_7 dX9_flood_150 ?_
        refine z_sipush dX9_flood_153 (by decide +kernel) ?_
        refine z_iload (i := 4) dX9_flood_156 rfl ?_
        refine z_iadd dX9_flood_158 ?_
        refine z_iload_n (i := 3) dX9_flood_159 rfl rfl ?_
        refine zb_if_eq (tgt := 179) dX9_flood_160 (by decide) (by decide) ⟨fun q => absurd q (by decide), fun _ => ?_⟩
        refine z_aloadR_n (i := 0) dX9_flood_163 rfl rfl ?_
        refine z_getR 9 0 (idx := 7) ly153 (by decide) (by decide) rfl (show 153 < 166 by decide) rfl rt_153_0 wf_X9_7 dX9_flood_164 ?_
        refine z_sipush dX9_flood_167 (by decide +kernel) ?_
        refine z_iload (i := 4) dX9_flood_170 rfl ?_
        refine z_iadd dX9_flood_172 ?_
        refine z_iconst dX9_flood_173 ?_
        refine z_iadd dX9_flood_174 ?_
        refine z_iaload' (fv := (d 154 ((1396 + x4) + 1))) ly154 (show 154 < 166 by decide) (by decide) dX9_flood_175 h.1 rfl ?_
        replace h := h.2
        refine z_goto (tgt := 190) dX9_flood_176 (by decide) ?_
        refine z_iastore ly154 (show 154 < 166 by decide) (by decide) dX9_flood_190 h.1 ?_
        replace h := h.2
        generalize hd3 : mu d 154 (1396 + x4) (d 154 ((1396 + x4) + 1)) = d3
        replace hd3 := hd3.symm
        replace h := h d3 hd3
        refine z_iinc (i := 4) (ls2 := [some (zR 153), some (zI x1), some (zI x2), some (zI 1), some (zI (x4 + 1))]) dX9_flood_191 (by decide) rfl rfl ?_
        refine z_goto (tgt := 111) dX9_flood_194 (by decide) ?_
        exact h
set_option maxRecDepth 20000 in
theorem v_X9_cut_0 {g : zGG} {Q : Int → zMem → Prop} {d : zMem} {x1 : Int}  (h : ((inR x1) ∧ (x1 < 0 → Q (-1) d) ∧ (0 ≤ x1 → Ev g M_X9_findNeck FUL FUL [zR 153, zI x1, zI 0] d (fun v1 d1 => ((inR v1) ∧ (v1 ≠ 0 → Ev g M_X9_know FUL FUL [zR 153] d1 (fun _ d2 => Ev g M_X9_cutNeck FUL FUL [zR 153] d2 (fun _ d3 => Q (d3 154 4) d3))) ∧ (v1 = 0 → Q (-1) d1)))))) : Fr g (eM g M_X9_cut FUL FUL Q) M_X9_cut FUL 0 [some (zR 153), some (zI x1)] [] d := by
  refine z_iload_n (i := 1) dX9_cut_0 rfl rfl ?_
  refine zb_if_lt (tgt := 13) dX9_cut_1 (by decide) h.1 ⟨fun c => ?_, fun c => ?_⟩
  · replace h := h.2.1 c
    refine z_iconst dX9_cut_13 ?_
    exact zret_i rfl dX9_cut_14 h
  · replace h := h.2.2 c
    refine z_aloadR_n (i := 0) dX9_cut_4 rfl rfl ?_
    refine z_iload_n (i := 1) dX9_cut_5 rfl rfl ?_
    refine z_iconst dX9_cut_6 ?_
    refine z_callVi (k' := M_X9_findNeck) (As := [zI x1, zI 0]) (st := []) dX9_cut_7 rfl ly153 (by decide) rfl (show 153 < 166 by decide) wm_X9_133 ok_X9_findNeck okV_X9_findNeck rfl (zroom_self (by decide) (by decide)) (Nat.le_of_ble_eq_true rfl) (Nat.le_refl _) rfl (Ev_mono h (fun v1 d1 h => ?_))
    refine zb_if_ne (tgt := 15) dX9_cut_10 (by decide) h.1 ⟨fun c => ?_, fun c => ?_⟩
    · replace h := h.2.1 c
      refine z_aloadR_n (i := 0) dX9_cut_15 rfl rfl ?_
      refine z_callVv (k' := M_X9_know) (As := []) (st := []) dX9_cut_16 rfl ly153 (by decide) rfl (show 153 < 166 by decide) wm_X9_139 ok_X9_know okV_X9_know rfl (zroom_self (by decide) (by decide)) (Nat.le_of_ble_eq_true rfl) (Nat.le_refl _) rfl (Ev_mono h (fun _ d2 h => ?_))
      refine z_aloadR_n (i := 0) dX9_cut_19 rfl rfl ?_
      refine z_callVv (k' := M_X9_cutNeck) (As := []) (st := []) dX9_cut_20 rfl ly153 (by decide) rfl (show 153 < 166 by decide) wm_X9_136 ok_X9_cutNeck okV_X9_cutNeck rfl (zroom_self (by decide) (by decide)) (Nat.le_of_ble_eq_true rfl) (Nat.le_refl _) rfl (Ev_mono h (fun _ d3 h => ?_))
      refine z_aloadR_n (i := 0) dX9_cut_23 rfl rfl ?_
      refine z_getR 9 0 (idx := 7) ly153 (by decide) (by decide) rfl (show 153 < 166 by decide) rfl rt_153_0 wf_X9_7 dX9_cut_24 ?_
      refine z_iconst dX9_cut_27 ?_
      refine z_iaload' (fv := (d3 154 4)) ly154 (show 154 < 166 by decide) (by decide) dX9_cut_28 (by decide) rfl ?_
      exact zret_i rfl dX9_cut_29 h
    · replace h := h.2.2 c
      refine z_iconst dX9_cut_13 ?_
      exact zret_i rfl dX9_cut_14 h
theorem e_X9_cut {g : zGG} {Q : Int → zMem → Prop} {d : zMem} {x1 : Int} (h : ((inR x1) ∧ (x1 < 0 → Q (-1) d) ∧ (0 ≤ x1 → Ev g M_X9_findNeck FUL FUL [zR 153, zI x1, zI 0] d (fun v1 d1 => ((inR v1) ∧ (v1 ≠ 0 → Ev g M_X9_know FUL FUL [zR 153] d1 (fun _ d2 => Ev g M_X9_cutNeck FUL FUL [zR 153] d2 (fun _ d3 => Q (d3 154 4) d3))) ∧ (v1 = 0 → Q (-1) d1)))))) : Ev g M_X9_cut FUL FUL [zR 153, zI x1] d Q :=
  Ev_of (by decide +kernel) (Nat.le_of_ble_eq_true rfl) (v_X9_cut_0  h)
set_option maxRecDepth 20000 in
theorem v_X9_pass_0 {g : zGG} {Q : Int → zMem → Prop} {d : zMem} {x1 : Int}  (h : Ev g M_X9_in FUL FUL [zI x1, zI 1, zI 50] d (fun v1 d1 => ((inR v1) ∧ (v1 ≠ 0 → ((inR ((d1 154 1404) + x1)) ∧ (((d1 154 1404) + x1) ≤ 999 → Ev g M_X9_know FUL FUL [zR 153] d1 (fun _ d2 => (Fr g (eM g M_X9_pass FUL FUL Q) M_X9_pass FUL 47 [some (zR 153), some (zI x1), some (zI (d2 154 1405)), some (zI 0), none] [] d2))) ∧ (999 < ((d1 154 1404) + x1) → Q (-4) d1))) ∧ (v1 = 0 → Q (-2) d1)))) : Fr g (eM g M_X9_pass FUL FUL Q) M_X9_pass FUL 0 [some (zR 153), some (zI x1), none, none, none] [] d := by
  refine z_iload_n (i := 1) dX9_pass_0 rfl rfl ?_
  refine z_iconst dX9_pass_1 ?_
  refine z_bipush dX9_pass_2 (by decide +kernel) ?_
  refine z_callS (k' := M_X9_in) (As := [zI x1, zI 1, zI 50]) (st := []) dX9_pass_4 rfl wm_X9_50 ok_X9_in okS_X9_in rfl (zroom_self (by decide) (by decide)) (Nat.le_of_ble_eq_true rfl) (Nat.le_refl _) (zEnd_i (Nat.le_refl _) rfl (fun _ _ q => q)) (Ev_mono h (fun v1 d1 h => ?_))
  refine zb_if_ne (tgt := 13) dX9_pass_7 (by decide) h.1 ⟨fun c => ?_, fun c => ?_⟩
  · replace h := h.2.1 c
    refine z_aloadR_n (i := 0) dX9_pass_13 rfl rfl ?_
    refine z_getR 9 0 (idx := 7) ly153 (by decide) (by decide) rfl (show 153 < 166 by decide) rfl rt_153_0 wf_X9_7 dX9_pass_14 ?_
    refine z_sipush dX9_pass_17 (by decide +kernel) ?_
    refine z_iaload' (fv := (d1 154 1404)) ly154 (show 154 < 166 by decide) (by decide) dX9_pass_20 (by decide) rfl ?_
    refine z_iload_n (i := 1) dX9_pass_21 rfl rfl ?_
    refine z_iadd dX9_pass_22 ?_
    refine z_sipush dX9_pass_23 (by decide +kernel) ?_
    refine zb_icmp_le (tgt := 32) dX9_pass_26 (by decide) ⟨h.1, by decide⟩ ⟨fun c => ?_, fun c => ?_⟩
    · replace h := h.2.1 c
      refine z_aloadR_n (i := 0) dX9_pass_32 rfl rfl ?_
      refine z_callVv (k' := M_X9_know) (As := []) (st := []) dX9_pass_33 rfl ly153 (by decide) rfl (show 153 < 166 by decide) wm_X9_139 ok_X9_know okV_X9_know rfl (zroom_self (by decide) (by decide)) (Nat.le_of_ble_eq_true rfl) (Nat.le_refl _) rfl (Ev_mono h (fun _ d2 h => ?_))
      refine z_aloadR_n (i := 0) dX9_pass_36 rfl rfl ?_
      refine z_getR 9 0 (idx := 7) ly153 (by decide) (by decide) rfl (show 153 < 166 by decide) rfl rt_153_0 wf_X9_7 dX9_pass_37 ?_
      refine z_sipush dX9_pass_40 (by decide +kernel) ?_
      refine z_iaload' (fv := (d2 154 1405)) ly154 (show 154 < 166 by decide) (by decide) dX9_pass_43 (by decide) rfl ?_
      refine z_istore_n (i := 2) (ls2 := [some (zR 153), some (zI x1), some (zI (d2 154 1405)), none, none]) dX9_pass_44 rfl (by decide) rfl ?_
      refine z_iconst dX9_pass_45 ?_
      refine z_istore_n (i := 3) (ls2 := [some (zR 153), some (zI x1), some (zI (d2 154 1405)), some (zI 0), none]) dX9_pass_46 rfl (by decide) rfl ?_
      exact h
    · replace h := h.2.2 c
      refine z_bipush dX9_pass_29 (by decide +kernel) ?_
      exact zret_i rfl dX9_pass_31 h
  · replace h := h.2.2 c
    refine z_bipush dX9_pass_10 (by decide +kernel) ?_
    exact zret_i rfl dX9_pass_12 h
theorem e_X9_pass {g : zGG} {Q : Int → zMem → Prop} {d : zMem} {x1 : Int} (h : Ev g M_X9_in FUL FUL [zI x1, zI 1, zI 50] d (fun v1 d1 => ((inR v1) ∧ (v1 ≠ 0 → ((inR ((d1 154 1404) + x1)) ∧ (((d1 154 1404) + x1) ≤ 999 → Ev g M_X9_know FUL FUL [zR 153] d1 (fun _ d2 => (Fr g (eM g M_X9_pass FUL FUL Q) M_X9_pass FUL 47 [some (zR 153), some (zI x1), some (zI (d2 154 1405)), some (zI 0), none] [] d2))) ∧ (999 < ((d1 154 1404) + x1) → Q (-4) d1))) ∧ (v1 = 0 → Q (-2) d1)))) : Ev g M_X9_pass FUL FUL [zR 153, zI x1] d Q :=
  Ev_of (by decide +kernel) (Nat.le_of_ble_eq_true rfl) (v_X9_pass_0  h)
set_option maxRecDepth 20000 in
theorem v_X9_pass_47 {g : zGG} {Q : Int → zMem → Prop} {d : zMem} {x1 : Int} {x2 : Int} {x3 : Int} (h : ((inR x3 ∧ inR x1) ∧ (x1 ≤ x3 → Q ((d 154 1405) - x2) d) ∧ (x3 < x1 → Ev g M_X9_goOn FUL FUL [zR 153] d (fun v1 d1 => (Fr g (eM g M_X9_pass FUL FUL Q) M_X9_pass FUL 47 [some (zR 153), some (zI x1), some (zI x2), some (zI (x3 + 1)), none] [] d1))))) : Fr g (eM g M_X9_pass FUL FUL Q) M_X9_pass FUL 47 [some (zR 153), some (zI x1), some (zI x2), some (zI x3), none] [] d := by
  refine z_iload_n (i := 3) dX9_pass_47 rfl rfl ?_
  refine z_iload_n (i := 1) dX9_pass_48 rfl rfl ?_
  refine zb_icmp_ge (tgt := 64) dX9_pass_49 (by decide) h.1 ⟨fun c => ?_, fun c => ?_⟩
  · replace h := h.2.1 c
    refine z_aloadR_n (i := 0) dX9_pass_64 rfl rfl ?_
    refine z_getR 9 0 (idx := 7) ly153 (by decide) (by decide) rfl (show 153 < 166 by decide) rfl rt_153_0 wf_X9_7 dX9_pass_65 ?_
    refine z_sipush dX9_pass_68 (by decide +kernel) ?_
    refine z_iaload' (fv := (d 154 1405)) ly154 (show 154 < 166 by decide) (by decide) dX9_pass_71 (by decide) rfl ?_
    refine z_iload_n (i := 2) dX9_pass_72 rfl rfl ?_
    refine z_isub dX9_pass_73 ?_
    exact zret_i rfl dX9_pass_74 h
  · replace h := h.2.2 c
    refine z_aloadR_n (i := 0) dX9_pass_52 rfl rfl ?_
    refine z_callVi (k' := M_X9_goOn) (As := []) (st := []) dX9_pass_53 rfl ly153 (by decide) rfl (show 153 < 166 by decide) wm_X9_149 ok_X9_goOn okV_X9_goOn rfl (zroom_self (by decide) (by decide)) (Nat.le_of_ble_eq_true rfl) (Nat.le_refl _) rfl (Ev_mono h (fun v1 d1 h => ?_))
    refine z_istore (i := 4) (ls2 := [some (zR 153), some (zI x1), some (zI x2), some (zI x3), some (zI v1)]) dX9_pass_56 (by decide) rfl ?_
    refine z_iinc (i := 3) (ls2 := [some (zR 153), some (zI x1), some (zI x2), some (zI (x3 + 1)), some (zI v1)]) dX9_pass_58 (by decide) rfl rfl ?_
    refine z_goto (tgt := 47) dX9_pass_61 (by decide) ?_
    exact Fr_weak (ls2 := [some (zR 153), some (zI x1), some (zI x2), some (zI (x3 + 1)), none]) (by exact ⟨Or.inr rfl, Or.inr rfl, Or.inr rfl, Or.inr rfl, Or.inl rfl, trivial⟩) h
set_option maxRecDepth 20000 in
theorem v_X9_cell_0 {g : zGG} {Q : Int → zMem → Prop} {d : zMem} {x1 : Int} {x2 : Int} {x3 : Int}  (h : Ev g M_X9_isCell FUL FUL [zI x1, zI x2] d (fun v1 d1 => ((inR v1) ∧ (v1 ≠ 0 → ((inR x3) ∧ ((x3 < 0 ∨ 3 < x3) → Q (-2) d1) ∧ (x3 = 0 → Ev g M_X9_numberOf FUL FUL [zR 153, zI ((20 * x2) + x1)] d1 (fun v2 d2 => Q v2 d2)) ∧ (x3 = 1 → (0 ≤ (155 + ((20 * x2) + x1)) ∧ (155 + ((20 * x2) + x1)) < 1407) ∧ Q (d1 154 (155 + ((20 * x2) + x1))) d1) ∧ (x3 = 2 → (0 ≤ (395 + ((20 * x2) + x1)) ∧ (395 + ((20 * x2) + x1)) < 1407) ∧ Q (d1 154 (395 + ((20 * x2) + x1))) d1) ∧ (x3 = 3 → (0 ≤ (1115 + ((20 * x2) + x1)) ∧ (1115 + ((20 * x2) + x1)) < 1407) ∧ Q (d1 154 (1115 + ((20 * x2) + x1))) d1))) ∧ (v1 = 0 → Q (-1) d1)))) : Fr g (eM g M_X9_cell FUL FUL Q) M_X9_cell FUL 0 [some (zR 153), some (zI x1), some (zI x2), some (zI x3), none] [] d := by
  refine z_iload_n (i := 1) dX9_cell_0 rfl rfl ?_
  refine z_iload_n (i := 2) dX9_cell_1 rfl rfl ?_
  refine z_callS (k' := M_X9_isCell) (As := [zI x1, zI x2]) (st := []) dX9_cell_2 rfl wm_X9_58 ok_X9_isCell okS_X9_isCell rfl (zroom_self (by decide) (by decide)) (Nat.le_of_ble_eq_true rfl) (Nat.le_refl _) (zEnd_i (Nat.le_refl _) rfl (fun _ _ q => q)) (Ev_mono h (fun v1 d1 h => ?_))
  refine zb_if_ne (tgt := 10) dX9_cell_5 (by decide) h.1 ⟨fun c => ?_, fun c => ?_⟩
  · replace h := h.2.1 c
    refine z_bipush dX9_cell_10 (by decide +kernel) ?_
    refine z_iload_n (i := 2) dX9_cell_12 rfl rfl ?_
    refine z_imul dX9_cell_13 ?_
    refine z_iload_n (i := 1) dX9_cell_14 rfl rfl ?_
    refine z_iadd dX9_cell_15 ?_
    refine z_istore (i := 4) (ls2 := [some (zR 153), some (zI x1), some (zI x2), some (zI x3), some (zI ((20 * x2) + x1))]) dX9_cell_16 (by decide) rfl ?_
    refine z_iload_n (i := 3) dX9_cell_18 rfl rfl ?_
    have hr := h.1
    rcases (show (x3 < 0 ∨ 3 < x3) ∨ x3 = 0 ∨ x3 = 1 ∨ x3 = 2 ∨ x3 = 3 by omega) with c | c | c | c | c
    · replace h := h.2.1 c
      refine z_tsOut (tgt := 91) dX9_cell_19 (by decide) hr c ?_
      refine z_bipush dX9_cell_91 (by decide +kernel) ?_
      exact zret_i rfl dX9_cell_93 h
    · replace h := h.2.2.1 c
      refine z_tsCase (0) (off := 29) (tgt := 48) dX9_cell_19 rfl (by decide) (by decide) c ?_
      refine z_aloadR_n (i := 0) dX9_cell_48 rfl rfl ?_
      refine z_iload (i := 4) dX9_cell_49 rfl ?_
      refine z_callVi (k' := M_X9_numberOf) (As := [zI ((20 * x2) + x1)]) (st := []) dX9_cell_51 rfl ly153 (by decide) rfl (show 153 < 166 by decide) wm_X9_142 ok_X9_numberOf okV_X9_numberOf rfl (zroom_self (by decide) (by decide)) (Nat.le_of_ble_eq_true rfl) (Nat.le_refl _) rfl (Ev_mono h (fun v2 d2 h => ?_))
      exact zret_i rfl dX9_cell_54 h
    · replace h := h.2.2.2.1 c
      refine z_tsCase (1) (off := 36) (tgt := 55) dX9_cell_19 rfl (by decide) (by decide) c ?_
      refine z_aloadR_n (i := 0) dX9_cell_55 rfl rfl ?_
      refine z_getR 9 0 (idx := 7) ly153 (by decide) (by decide) rfl (show 153 < 166 by decide) rfl rt_153_0 wf_X9_7 dX9_cell_56 ?_
      refine z_sipush dX9_cell_59 (by decide +kernel) ?_
      refine z_iload (i := 4) dX9_cell_62 rfl ?_
      refine z_iadd dX9_cell_64 ?_
      refine z_iaload' (fv := (d1 154 (155 + ((20 * x2) + x1)))) ly154 (show 154 < 166 by decide) (by decide) dX9_cell_65 h.1 rfl ?_
      replace h := h.2
      exact zret_i rfl dX9_cell_66 h
    · replace h := h.2.2.2.2.1 c
      refine z_tsCase (2) (off := 48) (tgt := 67) dX9_cell_19 rfl (by decide) (by decide) c ?_
      refine z_aloadR_n (i := 0) dX9_cell_67 rfl rfl ?_
      refine z_getR 9 0 (idx := 7) ly153 (by decide) (by decide) rfl (show 153 < 166 by decide) rfl rt_153_0 wf_X9_7 dX9_cell_68 ?_
      refine z_sipush dX9_cell_71 (by decide +kernel) ?_
      refine z_iload (i := 4) dX9_cell_74 rfl ?_
      refine z_iadd dX9_cell_76 ?_
      refine z_iaload' (fv := (d1 154 (395 + ((20 * x2) + x1)))) ly154 (show 154 < 166 by decide) (by decide) dX9_cell_77 h.1 rfl ?_
      replace h := h.2
      exact zret_i rfl dX9_cell_78 h
    · replace h := h.2.2.2.2.2 c
      refine z_tsCase (3) (off := 60) (tgt := 79) dX9_cell_19 rfl (by decide) (by decide) c ?_
      refine z_aloadR_n (i := 0) dX9_cell_79 rfl rfl ?_
      refine z_getR 9 0 (idx := 7) ly153 (by decide) (by decide) rfl (show 153 < 166 by decide) rfl rt_153_0 wf_X9_7 dX9_cell_80 ?_
      refine z_sipush dX9_cell_83 (by decide +kernel) ?_
      refine z_iload (i := 4) dX9_cell_86 rfl ?_
      refine z_iadd dX9_cell_88 ?_
      refine z_iaload' (fv := (d1 154 (1115 + ((20 * x2) + x1)))) ly154 (show 154 < 166 by decide) (by decide) dX9_cell_89 h.1 rfl ?_
      replace h := h.2
      exact zret_i rfl dX9_cell_90 h
  · replace h := h.2.2 c
    refine z_iconst dX9_cell_8 ?_
    exact zret_i rfl dX9_cell_9 h
theorem e_X9_cell {g : zGG} {Q : Int → zMem → Prop} {d : zMem} {x1 : Int} {x2 : Int} {x3 : Int} (h : Ev g M_X9_isCell FUL FUL [zI x1, zI x2] d (fun v1 d1 => ((inR v1) ∧ (v1 ≠ 0 → ((inR x3) ∧ ((x3 < 0 ∨ 3 < x3) → Q (-2) d1) ∧ (x3 = 0 → Ev g M_X9_numberOf FUL FUL [zR 153, zI ((20 * x2) + x1)] d1 (fun v2 d2 => Q v2 d2)) ∧ (x3 = 1 → (0 ≤ (155 + ((20 * x2) + x1)) ∧ (155 + ((20 * x2) + x1)) < 1407) ∧ Q (d1 154 (155 + ((20 * x2) + x1))) d1) ∧ (x3 = 2 → (0 ≤ (395 + ((20 * x2) + x1)) ∧ (395 + ((20 * x2) + x1)) < 1407) ∧ Q (d1 154 (395 + ((20 * x2) + x1))) d1) ∧ (x3 = 3 → (0 ≤ (1115 + ((20 * x2) + x1)) ∧ (1115 + ((20 * x2) + x1)) < 1407) ∧ Q (d1 154 (1115 + ((20 * x2) + x1))) d1))) ∧ (v1 = 0 → Q (-1) d1)))) : Ev g M_X9_cell FUL FUL [zR 153, zI x1, zI x2, zI x3] d Q :=
  Ev_of (by decide +kernel) (Nat.le_of_ble_eq_true rfl) (v_X9_cell_0  h)
set_option maxRecDepth 20000 in
theorem v_X9_course_0 {g : zGG} {Q : Int → zMem → Prop} {d : zMem} {x1 : Int} {x2 : Int}  (h : Ev g M_X9_in FUL FUL [zI x1, zI 0, zI ((d 154 4) - 1)] d (fun v1 d1 => ((inR v1) ∧ (v1 ≠ 0 → ((inR x2) ∧ ((x2 < 0 ∨ 2 < x2) → Q (-2) d1) ∧ (x2 = 0 → (0 ≤ (5 + x1) ∧ (5 + x1) < 1407) ∧ (0 ≤ (d1 154 (5 + x1)) ∧ inR (d1 154 (5 + x1))) ∧ Q ((d1 154 (5 + x1)) % 20) d1) ∧ (x2 = 1 → (0 ≤ (5 + x1) ∧ (5 + x1) < 1407) ∧ (0 ≤ (d1 154 (5 + x1)) ∧ inR (d1 154 (5 + x1))) ∧ Q ((d1 154 (5 + x1)) / 20) d1) ∧ (x2 = 2 → ((inR x1 ∧ inR ((d1 154 4) - 1)) ∧ (x1 ≠ ((d1 154 4) - 1) → Ev g M_X9_way FUL FUL [zR 153, zI x1] d1 (fun v2 d2 => Q v2 d2)) ∧ (x1 = ((d1 154 4) - 1) → Q (-6) d1))))) ∧ (v1 = 0 → Q (-1) d1)))) : Fr g (eM g M_X9_course FUL FUL Q) M_X9_course FUL 0 [some (zR 153), some (zI x1), some (zI x2)] [] d := by
  refine z_iload_n (i := 1) dX9_course_0 rfl rfl ?_
  refine z_iconst dX9_course_1 ?_
  refine z_aloadR_n (i := 0) dX9_course_2 rfl rfl ?_
  refine z_getR 9 0 (idx := 7) ly153 (by decide) (by decide) rfl (show 153 < 166 by decide) rfl rt_153_0 wf_X9_7 dX9_course_3 ?_
  refine z_iconst dX9_course_6 ?_
  refine z_iaload' (fv := (d 154 4)) ly154 (show 154 < 166 by decide) (by decide) dX9_course_7 (by decide) rfl ?_
  refine z_iconst dX9_course_8 ?_
  refine z_isub dX9_course_9 ?_
  refine z_callS (k' := M_X9_in) (As := [zI x1, zI 0, zI ((d 154 4) - 1)]) (st := []) dX9_course_10 rfl wm_X9_50 ok_X9_in okS_X9_in rfl (zroom_self (by decide) (by decide)) (Nat.le_of_ble_eq_true rfl) (Nat.le_refl _) (zEnd_i (Nat.le_refl _) rfl (fun _ _ q => q)) (Ev_mono h (fun v1 d1 h => ?_))
  refine zb_if_ne (tgt := 18) dX9_course_13 (by decide) h.1 ⟨fun c => ?_, fun c => ?_⟩
  · replace h := h.2.1 c
    refine z_iload_n (i := 2) dX9_course_18 rfl rfl ?_
    have hr := h.1
    rcases (show (x2 < 0 ∨ 2 < x2) ∨ x2 = 0 ∨ x2 = 1 ∨ x2 = 2 by omega) with c | c | c | c
    · replace h := h.2.1 c
      refine z_tsOut (tgt := 91) dX9_course_19 (by decide) hr c ?_
      refine z_bipush dX9_course_91 (by decide +kernel) ?_
      exact zret_i rfl dX9_course_93 h
    · replace h := h.2.2.1 c
      refine z_tsCase (0) (off := 25) (tgt := 44) dX9_course_19 rfl (by decide) (by decide) c ?_
      refine z_aloadR_n (i := 0) dX9_course_44 rfl rfl ?_
      refine z_getR 9 0 (idx := 7) ly153 (by decide) (by decide) rfl (show 153 < 166 by decide) rfl rt_153_0 wf_X9_7 dX9_course_45 ?_
      refine z_iconst dX9_course_48 ?_
      refine z_iload_n (i := 1) dX9_course_49 rfl rfl ?_
      refine z_iadd dX9_course_50 ?_
      refine z_iaload' (fv := (d1 154 (5 + x1))) ly154 (show 154 < 166 by decide) (by decide) dX9_course_51 h.1 rfl ?_
      replace h := h.2
      refine z_bipush dX9_course_52 (by decide +kernel) ?_
      refine z_irem dX9_course_54 ⟨h.1.1, h.1.2, by decide, by decide⟩ ?_
      replace h := h.2
      exact zret_i rfl dX9_course_55 h
    · replace h := h.2.2.2.1 c
      refine z_tsCase (1) (off := 37) (tgt := 56) dX9_course_19 rfl (by decide) (by decide) c ?_
      refine z_aloadR_n (i := 0) dX9_course_56 rfl rfl ?_
      refine z_getR 9 0 (idx := 7) ly153 (by decide) (by decide) rfl (show 153 < 166 by decide) rfl rt_153_0 wf_X9_7 dX9_course_57 ?_
      refine z_iconst dX9_course_60 ?_
      refine z_iload_n (i := 1) dX9_course_61 rfl rfl ?_
      refine z_iadd dX9_course_62 ?_
      refine z_iaload' (fv := (d1 154 (5 + x1))) ly154 (show 154 < 166 by decide) (by decide) dX9_course_63 h.1 rfl ?_
      replace h := h.2
      refine z_bipush dX9_course_64 (by decide +kernel) ?_
      refine z_idiv dX9_course_66 ⟨h.1.1, h.1.2, by decide, by decide⟩ ?_
      replace h := h.2
      exact zret_i rfl dX9_course_67 h
    · replace h := h.2.2.2.2 c
      refine z_tsCase (2) (off := 49) (tgt := 68) dX9_course_19 rfl (by decide) (by decide) c ?_
      refine z_iload_n (i := 1) dX9_course_68 rfl rfl ?_
      refine z_aloadR_n (i := 0) dX9_course_69 rfl rfl ?_
      refine z_getR 9 0 (idx := 7) ly153 (by decide) (by decide) rfl (show 153 < 166 by decide) rfl rt_153_0 wf_X9_7 dX9_course_70 ?_
      refine z_iconst dX9_course_73 ?_
      refine z_iaload' (fv := (d1 154 4)) ly154 (show 154 < 166 by decide) (by decide) dX9_course_74 (by decide) rfl ?_
      refine z_iconst dX9_course_75 ?_
      refine z_isub dX9_course_76 ?_
      refine zb_icmp_ne (tgt := 85) dX9_course_77 (by decide) h.1 ⟨fun c => ?_, fun c => ?_⟩
      · replace h := h.2.1 c
        refine z_aloadR_n (i := 0) dX9_course_85 rfl rfl ?_
        refine z_iload_n (i := 1) dX9_course_86 rfl rfl ?_
        refine z_callVi (k' := M_X9_way) (As := [zI x1]) (st := []) dX9_course_87 rfl ly153 (by decide) rfl (show 153 < 166 by decide) wm_X9_65 ok_X9_way okV_X9_way rfl (zroom_self (by decide) (by decide)) (Nat.le_of_ble_eq_true rfl) (Nat.le_refl _) rfl (Ev_mono h (fun v2 d2 h => ?_))
        exact zret_i rfl dX9_course_90 h
      · replace h := h.2.2 c
        refine z_bipush dX9_course_80 (by decide +kernel) ?_
        refine z_goto (tgt := 90) dX9_course_82 (by decide) ?_
        exact zret_i rfl dX9_course_90 h
  · replace h := h.2.2 c
    refine z_iconst dX9_course_16 ?_
    exact zret_i rfl dX9_course_17 h
theorem e_X9_course {g : zGG} {Q : Int → zMem → Prop} {d : zMem} {x1 : Int} {x2 : Int} (h : Ev g M_X9_in FUL FUL [zI x1, zI 0, zI ((d 154 4) - 1)] d (fun v1 d1 => ((inR v1) ∧ (v1 ≠ 0 → ((inR x2) ∧ ((x2 < 0 ∨ 2 < x2) → Q (-2) d1) ∧ (x2 = 0 → (0 ≤ (5 + x1) ∧ (5 + x1) < 1407) ∧ (0 ≤ (d1 154 (5 + x1)) ∧ inR (d1 154 (5 + x1))) ∧ Q ((d1 154 (5 + x1)) % 20) d1) ∧ (x2 = 1 → (0 ≤ (5 + x1) ∧ (5 + x1) < 1407) ∧ (0 ≤ (d1 154 (5 + x1)) ∧ inR (d1 154 (5 + x1))) ∧ Q ((d1 154 (5 + x1)) / 20) d1) ∧ (x2 = 2 → ((inR x1 ∧ inR ((d1 154 4) - 1)) ∧ (x1 ≠ ((d1 154 4) - 1) → Ev g M_X9_way FUL FUL [zR 153, zI x1] d1 (fun v2 d2 => Q v2 d2)) ∧ (x1 = ((d1 154 4) - 1) → Q (-6) d1))))) ∧ (v1 = 0 → Q (-1) d1)))) : Ev g M_X9_course FUL FUL [zR 153, zI x1, zI x2] d Q :=
  Ev_of (by decide +kernel) (Nat.le_of_ble_eq_true rfl) (v_X9_course_0  h)
set_option maxRecDepth 20000 in
theorem v_X9_bend_0 {g : zGG} {Q : Int → zMem → Prop} {d : zMem} {x1 : Int} {x2 : Int}  (h : Ev g M_X9_findBends FUL FUL [zR 153] d (fun _ d1 => Ev g M_X9_in FUL FUL [zI x1, zI 0, zI ((d1 153 11) - 1)] d1 (fun v1 d2 => ((inR v1) ∧ (v1 ≠ 0 → ((inR x2) ∧ ((x2 < 0 ∨ 5 < x2) → Q (-2) d2) ∧ (x2 = 0 → (0 ≤ x1 ∧ x1 < 150) ∧ Q (d2 160 x1) d2) ∧ (x2 = 1 → (0 ≤ x1 ∧ x1 < 150) ∧ Q (d2 161 x1) d2) ∧ (x2 = 2 → Ev g M_X9_wayOf FUL FUL [zR 153, zI x1] d2 (fun v2 d3 => Q v2 d3)) ∧ (x2 = 3 → Ev g M_X9_isFirm FUL FUL [zR 153, zI x1] d2 (fun v3 d4 => ((inR v3) ∧ (v3 = 0 → Q 0 d4) ∧ (v3 ≠ 0 → Q 1 d4)))) ∧ (x2 = 4 → Ev g M_X9_isFirm FUL FUL [zR 153, zI x1] d2 (fun v4 d5 => ((inR v4) ∧ (v4 = 0 → Ev g M_X9_leastWear FUL FUL [zR 153, zI x1] d5 (fun v5 d6 => Q v5 d6)) ∧ (v4 ≠ 0 → Q (-6) d5)))) ∧ (x2 = 5 → Ev g M_X9_canGrow FUL FUL [zR 153, zI x1] d2 (fun v6 d7 => ((inR v6) ∧ (v6 = 0 → Q 0 d7) ∧ (v6 ≠ 0 → Q 1 d7)))))) ∧ (v1 = 0 → Q (-1) d2))))) : Fr g (eM g M_X9_bend FUL FUL Q) M_X9_bend FUL 0 [some (zR 153), some (zI x1), some (zI x2)] [] d := by
  refine z_aloadR_n (i := 0) dX9_bend_0 rfl rfl ?_
  refine z_callVv (k' := M_X9_findBends) (As := []) (st := []) dX9_bend_1 rfl ly153 (by decide) rfl (show 153 < 166 by decide) wm_X9_112 ok_X9_findBends okV_X9_findBends rfl (zroom_self (by decide) (by decide)) (Nat.le_of_ble_eq_true rfl) (Nat.le_refl _) rfl (Ev_mono h (fun _ d1 h => ?_))
  refine z_iload_n (i := 1) dX9_bend_4 rfl rfl ?_
  refine z_iconst dX9_bend_5 ?_
  refine z_aloadR_n (i := 0) dX9_bend_6 rfl rfl ?_
  refine z_getI' 9 11 (idx := 62) (fv := (d1 153 11)) ly153 (by decide) (by decide) rfl (show 153 < 166 by decide) wf_X9_62 dX9_bend_7 rfl ?_
  refine z_iconst dX9_bend_10 ?_
  refine z_isub dX9_bend_11 ?_
  refine z_callS (k' := M_X9_in) (As := [zI x1, zI 0, zI ((d1 153 11) - 1)]) (st := []) dX9_bend_12 rfl wm_X9_50 ok_X9_in okS_X9_in rfl (zroom_self (by decide) (by decide)) (Nat.le_of_ble_eq_true rfl) (Nat.le_refl _) (zEnd_i (Nat.le_refl _) rfl (fun _ _ q => q)) (Ev_mono h (fun v1 d2 h => ?_))
  refine zb_if_ne (tgt := 20) dX9_bend_15 (by decide) h.1 ⟨fun c => ?_, fun c => ?_⟩
  · replace h := h.2.1 c
    refine z_iload_n (i := 2) dX9_bend_20 rfl rfl ?_
    have hr := h.1
    rcases (show (x2 < 0 ∨ 5 < x2) ∨ x2 = 0 ∨ x2 = 1 ∨ x2 = 2 ∨ x2 = 3 ∨ x2 = 4 ∨ x2 = 5 by omega) with c | c | c | c | c | c | c
    · replace h := h.2.1 c
      refine z_tsOut (tgt := 127) dX9_bend_21 (by decide) hr c ?_
      refine z_bipush dX9_bend_127 (by decide +kernel) ?_
      exact zret_i rfl dX9_bend_129 h
    · replace h := h.2.2.1 c
      refine z_tsCase (0) (off := 39) (tgt := 60) dX9_bend_21 rfl (by decide) (by decide) c ?_
      refine z_aloadR_n (i := 0) dX9_bend_60 rfl rfl ?_
      refine z_getR 9 8 (idx := 29) ly153 (by decide) (by decide) rfl (show 153 < 166 by decide) rfl rt_153_8 wf_X9_29 dX9_bend_61 ?_
      refine z_iload_n (i := 1) dX9_bend_64 rfl rfl ?_
      refine z_iaload' (fv := (d2 160 x1)) ly160 (show 160 < 166 by decide) (by decide) dX9_bend_65 h.1 rfl ?_
      replace h := h.2
      exact zret_i rfl dX9_bend_66 h
    · replace h := h.2.2.2.1 c
      refine z_tsCase (1) (off := 46) (tgt := 67) dX9_bend_21 rfl (by decide) (by decide) c ?_
      refine z_aloadR_n (i := 0) dX9_bend_67 rfl rfl ?_
      refine z_getR 9 9 (idx := 32) ly153 (by decide) (by decide) rfl (show 153 < 166 by decide) rfl rt_153_9 wf_X9_32 dX9_bend_68 ?_
      refine z_iload_n (i := 1) dX9_bend_71 rfl rfl ?_
      refine z_iaload' (fv := (d2 161 x1)) ly161 (show 161 < 166 by decide) (by decide) dX9_bend_72 h.1 rfl ?_
      replace h := h.2
      exact zret_i rfl dX9_bend_73 h
    · replace h := h.2.2.2.2.1 c
      refine z_tsCase (2) (off := 53) (tgt := 74) dX9_bend_21 rfl (by decide) (by decide) c ?_
      refine z_aloadR_n (i := 0) dX9_bend_74 rfl rfl ?_
      refine z_iload_n (i := 1) dX9_bend_75 rfl rfl ?_
      refine z_callVi (k' := M_X9_wayOf) (As := [zI x1]) (st := []) dX9_bend_76 rfl ly153 (by decide) rfl (show 153 < 166 by decide) wm_X9_69 ok_X9_wayOf okV_X9_wayOf rfl (zroom_self (by decide) (by decide)) (Nat.le_of_ble_eq_true rfl) (Nat.le_refl _) rfl (Ev_mono h (fun v2 d3 h => ?_))
      exact zret_i rfl dX9_bend_79 h
    · replace h := h.2.2.2.2.2.1 c
      refine z_tsCase (3) (off := 59) (tgt := 80) dX9_bend_21 rfl (by decide) (by decide) c ?_
      refine z_aloadR_n (i := 0) dX9_bend_80 rfl rfl ?_
      refine z_iload_n (i := 1) dX9_bend_81 rfl rfl ?_
      refine z_callVi (k' := M_X9_isFirm) (As := [zI x1]) (st := []) dX9_bend_82 rfl ly153 (by decide) rfl (show 153 < 166 by decide) wm_X9_79 ok_X9_isFirm okV_X9_isFirm rfl (zroom_self (by decide) (by decide)) (Nat.le_of_ble_eq_true rfl) (Nat.le_refl _) rfl (Ev_mono h (fun v3 d4 h => ?_))
      refine zb_if_eq (tgt := 92) dX9_bend_85 (by decide) h.1 ⟨fun c => ?_, fun c => ?_⟩
      · replace h := h.2.1 c
        refine z_iconst dX9_bend_92 ?_
        exact zret_i rfl dX9_bend_93 h
      · replace h := h.2.2 c
        refine z_iconst dX9_bend_88 ?_
        refine z_goto (tgt := 93) dX9_bend_89 (by decide) ?_
        exact zret_i rfl dX9_bend_93 h
    · replace h := h.2.2.2.2.2.2.1 c
      refine z_tsCase (4) (off := 73) (tgt := 94) dX9_bend_21 rfl (by decide) (by decide) c ?_
      refine z_aloadR_n (i := 0) dX9_bend_94 rfl rfl ?_
      refine z_iload_n (i := 1) dX9_bend_95 rfl rfl ?_
      refine z_callVi (k' := M_X9_isFirm) (As := [zI x1]) (st := []) dX9_bend_96 rfl ly153 (by decide) rfl (show 153 < 166 by decide) wm_X9_79 ok_X9_isFirm okV_X9_isFirm rfl (zroom_self (by decide) (by decide)) (Nat.le_of_ble_eq_true rfl) (Nat.le_refl _) rfl (Ev_mono h (fun v4 d5 h => ?_))
      refine zb_if_eq (tgt := 107) dX9_bend_99 (by decide) h.1 ⟨fun c => ?_, fun c => ?_⟩
      · replace h := h.2.1 c
        refine z_aloadR_n (i := 0) dX9_bend_107 rfl rfl ?_
        refine z_iload_n (i := 1) dX9_bend_108 rfl rfl ?_
        refine z_callVi (k' := M_X9_leastWear) (As := [zI x1]) (st := []) dX9_bend_109 rfl ly153 (by decide) rfl (show 153 < 166 by decide) wm_X9_83 ok_X9_leastWear okV_X9_leastWear rfl (zroom_self (by decide) (by decide)) (Nat.le_of_ble_eq_true rfl) (Nat.le_refl _) rfl (Ev_mono h (fun v5 d6 h => ?_))
        exact zret_i rfl dX9_bend_112 h
      · replace h := h.2.2 c
        refine z_bipush dX9_bend_102 (by decide +kernel) ?_
        refine z_goto (tgt := 112) dX9_bend_104 (by decide) ?_
        exact zret_i rfl dX9_bend_112 h
    · replace h := h.2.2.2.2.2.2.2 c
      refine z_tsCase (5) (off := 92) (tgt := 113) dX9_bend_21 rfl (by decide) (by decide) c ?_
      refine z_aloadR_n (i := 0) dX9_bend_113 rfl rfl ?_
      refine z_iload_n (i := 1) dX9_bend_114 rfl rfl ?_
      refine z_callVi (k' := M_X9_canGrow) (As := [zI x1]) (st := []) dX9_bend_115 rfl ly153 (by decide) rfl (show 153 < 166 by decide) wm_X9_118 ok_X9_canGrow okV_X9_canGrow rfl (zroom_self (by decide) (by decide)) (Nat.le_of_ble_eq_true rfl) (Nat.le_refl _) rfl (Ev_mono h (fun v6 d7 h => ?_))
      refine zb_if_eq (tgt := 125) dX9_bend_118 (by decide) h.1 ⟨fun c => ?_, fun c => ?_⟩
      · replace h := h.2.1 c
        refine z_iconst dX9_bend_125 ?_
        exact zret_i rfl dX9_bend_126 h
      · replace h := h.2.2 c
        refine z_iconst dX9_bend_121 ?_
        refine z_goto (tgt := 126) dX9_bend_122 (by decide) ?_
        exact zret_i rfl dX9_bend_126 h
  · replace h := h.2.2 c
    refine z_iconst dX9_bend_18 ?_
    exact zret_i rfl dX9_bend_19 h
theorem e_X9_bend {g : zGG} {Q : Int → zMem → Prop} {d : zMem} {x1 : Int} {x2 : Int} (h : Ev g M_X9_findBends FUL FUL [zR 153] d (fun _ d1 => Ev g M_X9_in FUL FUL [zI x1, zI 0, zI ((d1 153 11) - 1)] d1 (fun v1 d2 => ((inR v1) ∧ (v1 ≠ 0 → ((inR x2) ∧ ((x2 < 0 ∨ 5 < x2) → Q (-2) d2) ∧ (x2 = 0 → (0 ≤ x1 ∧ x1 < 150) ∧ Q (d2 160 x1) d2) ∧ (x2 = 1 → (0 ≤ x1 ∧ x1 < 150) ∧ Q (d2 161 x1) d2) ∧ (x2 = 2 → Ev g M_X9_wayOf FUL FUL [zR 153, zI x1] d2 (fun v2 d3 => Q v2 d3)) ∧ (x2 = 3 → Ev g M_X9_isFirm FUL FUL [zR 153, zI x1] d2 (fun v3 d4 => ((inR v3) ∧ (v3 = 0 → Q 0 d4) ∧ (v3 ≠ 0 → Q 1 d4)))) ∧ (x2 = 4 → Ev g M_X9_isFirm FUL FUL [zR 153, zI x1] d2 (fun v4 d5 => ((inR v4) ∧ (v4 = 0 → Ev g M_X9_leastWear FUL FUL [zR 153, zI x1] d5 (fun v5 d6 => Q v5 d6)) ∧ (v4 ≠ 0 → Q (-6) d5)))) ∧ (x2 = 5 → Ev g M_X9_canGrow FUL FUL [zR 153, zI x1] d2 (fun v6 d7 => ((inR v6) ∧ (v6 = 0 → Q 0 d7) ∧ (v6 ≠ 0 → Q 1 d7)))))) ∧ (v1 = 0 → Q (-1) d2))))) : Ev g M_X9_bend FUL FUL [zR 153, zI x1, zI x2] d Q :=
  Ev_of (by decide +kernel) (Nat.le_of_ble_eq_true rfl) (v_X9_bend_0  h)
set_option maxRecDepth 20000 in
theorem v_X9_neck_0 {g : zGG} {Q : Int → zMem → Prop} {d : zMem} {x1 : Int} {x2 : Int}  (h : ((inR x1) ∧ (x1 < 0 → Q (-1) d) ∧ (0 ≤ x1 → Ev g M_X9_findNeck FUL FUL [zR 153, zI x1, zI 0] d (fun v1 d1 => ((inR v1) ∧ (v1 ≠ 0 → ((inR x2) ∧ (x2 ≠ 0 → ((inR x2) ∧ (x2 ≠ 1 → ((inR x2) ∧ (x2 ≠ 2 → Q (-2) d1) ∧ (x2 = 2 → (0 ≤ (5 + (d1 153 15)) ∧ (5 + (d1 153 15)) < 1407) ∧ (0 ≤ (5 + (d1 153 16)) ∧ (5 + (d1 153 16)) < 1407) ∧ Ev g M_X9_pair FUL FUL [zI (d1 154 (5 + (d1 153 15))), zI (d1 154 (5 + (d1 153 16)))] d1 (fun v2 d2 => (0 ≤ v2 ∧ v2 < 1407) ∧ Q (d2 154 v2) d2)))) ∧ (x2 = 1 → Q (d1 153 16) d1))) ∧ (x2 = 0 → Q (d1 153 15) d1))) ∧ (v1 = 0 → Q (-1) d1)))))) : Fr g (eM g M_X9_neck FUL FUL Q) M_X9_neck FUL 0 [some (zR 153), some (zI x1), some (zI x2)] [] d := by
  refine z_iload_n (i := 1) dX9_neck_0 rfl rfl ?_
  refine zb_if_lt (tgt := 13) dX9_neck_1 (by decide) h.1 ⟨fun c => ?_, fun c => ?_⟩
  · replace h := h.2.1 c
    refine z_iconst dX9_neck_13 ?_
    exact zret_i rfl dX9_neck_14 h
  · replace h := h.2.2 c
    refine z_aloadR_n (i := 0) dX9_neck_4 rfl rfl ?_
    refine z_iload_n (i := 1) dX9_neck_5 rfl rfl ?_
    refine z_iconst dX9_neck_6 ?_
    refine z_callVi (k' := M_X9_findNeck) (As := [zI x1, zI 0]) (st := []) dX9_neck_7 rfl ly153 (by decide) rfl (show 153 < 166 by decide) wm_X9_133 ok_X9_findNeck okV_X9_findNeck rfl (zroom_self (by decide) (by decide)) (Nat.le_of_ble_eq_true rfl) (Nat.le_refl _) rfl (Ev_mono h (fun v1 d1 h => ?_))
    refine zb_if_ne (tgt := 15) dX9_neck_10 (by decide) h.1 ⟨fun c => ?_, fun c => ?_⟩
    · replace h := h.2.1 c
      refine z_iload_n (i := 2) dX9_neck_15 rfl rfl ?_
      refine zb_if_ne (tgt := 26) dX9_neck_16 (by decide) h.1 ⟨fun c => ?_, fun c => ?_⟩
      · replace h := h.2.1 c
        refine z_iload_n (i := 2) dX9_neck_26 rfl rfl ?_
        refine z_iconst dX9_neck_27 ?_
        refine zb_icmp_ne (tgt := 38) dX9_neck_28 (by decide) ⟨h.1, by decide⟩ ⟨fun c => ?_, fun c => ?_⟩
        · replace h := h.2.1 c
          refine z_iload_n (i := 2) dX9_neck_38 rfl rfl ?_
          refine z_iconst dX9_neck_39 ?_
          refine zb_icmp_ne (tgt := 76) dX9_neck_40 (by decide) ⟨h.1, by decide⟩ ⟨fun c => ?_, fun c => ?_⟩
          · replace h := h.2.1 c
            refine z_bipush dX9_neck_76 (by decide +kernel) ?_
            exact zret_i rfl dX9_neck_78 h
          · replace h := h.2.2 c
            refine z_aloadR_n (i := 0) dX9_neck_43 rfl rfl ?_
            refine z_getR 9 0 (idx := 7) ly153 (by decide) (by decide) rfl (show 153 < 166 by decide) rfl rt_153_0 wf_X9_7 dX9_neck_44 ?_
            refine z_aloadR_n (i := 0) dX9_neck_47 rfl rfl ?_
            refine z_getR 9 0 (idx := 7) ly153 (by decide) (by decide) rfl (show 153 < 166 by decide) rfl rt_153_0 wf_X9_7 dX9_neck_48 ?_
            refine z_iconst dX9_neck_51 ?_
            refine z_aloadR_n (i := 0) dX9_neck_52 rfl rfl ?_
            refine z_getI' 9 15 (idx := 97) (fv := (d1 153 15)) ly153 (by decide) (by decide) rfl (show 153 < 166 by decide) wf_X9_97 dX9_neck_53 rfl ?_
            refine z_iadd dX9_neck_56 ?_
            refine z_iaload' (fv := (d1 154 (5 + (d1 153 15)))) ly154 (show 154 < 166 by decide) (by decide) dX9_neck_57 h.1 rfl ?_
            replace h := h.2
            refine z_aloadR_n (i := 0) dX9_neck_58 rfl rfl ?_
            refine z_getR 9 0 (idx := 7) ly153 (by decide) (by decide) rfl (show 153 < 166 by decide) rfl rt_153_0 wf_X9_7 dX9_neck_59 ?_
            refine z_iconst dX9_neck_62 ?_
            refine z_aloadR_n (i := 0) dX9_neck_63 rfl rfl ?_
            refine z_getI' 9 16 (idx := 106) (fv := (d1 153 16)) ly153 (by decide) (by decide) rfl (show 153 < 166 by decide) wf_X9_106 dX9_neck_64 rfl ?_
            refine z_iadd dX9_neck_67 ?_
            refine z_iaload' (fv := (d1 154 (5 + (d1 153 16)))) ly154 (show 154 < 166 by decide) (by decide) dX9_neck_68 h.1 rfl ?_
            replace h := h.2
            refine z_callS (k' := M_X9_pair) (As := [zI (d1 154 (5 + (d1 153 15))), zI (d1 154 (5 + (d1 153 16)))]) (st := [zR 154]) dX9_neck_69 rfl wm_X9_103 ok_X9_pair okS_X9_pair rfl (zroom_self (by decide) (by decide)) (Nat.le_of_ble_eq_true rfl) (Nat.le_refl _) (zEnd_i (Nat.le_refl _) rfl (fun _ _ q => q)) (Ev_mono h (fun v2 d2 h => ?_))
            refine z_iaload' (fv := (d2 154 v2)) ly154 (show 154 < 166 by decide) (by decide) dX9_neck_72 h.1 rfl ?_
            replace h := h.2
            refine z_goto (tgt := 78) dX9_neck_73 (by decide) ?_
            exact zret_i rfl dX9_neck_78 h
        · replace h := h.2.2 c
          refine z_aloadR_n (i := 0) dX9_neck_31 rfl rfl ?_
          refine z_getI' 9 16 (idx := 106) (fv := (d1 153 16)) ly153 (by decide) (by decide) rfl (show 153 < 166 by decide) wf_X9_106 dX9_neck_32 rfl ?_
          refine z_goto (tgt := 78) dX9_neck_35 (by decide) ?_
          exact zret_i rfl dX9_neck_78 h
      · replace h := h.2.2 c
        refine z_aloadR_n (i := 0) dX9_neck_19 rfl rfl ?_
        refine z_getI' 9 15 (idx := 97) (fv := (d1 153 15)) ly153 (by decide) (by decide) rfl (show 153 < 166 by decide) wf_X9_97 dX9_neck_20 rfl ?_
        refine z_goto (tgt := 78) dX9_neck_23 (by decide) ?_
        exact zret_i rfl dX9_neck_78 h
    · replace h := h.2.2 c
      refine z_iconst dX9_neck_13 ?_
      exact zret_i rfl dX9_neck_14 h
theorem e_X9_neck {g : zGG} {Q : Int → zMem → Prop} {d : zMem} {x1 : Int} {x2 : Int} (h : ((inR x1) ∧ (x1 < 0 → Q (-1) d) ∧ (0 ≤ x1 → Ev g M_X9_findNeck FUL FUL [zR 153, zI x1, zI 0] d (fun v1 d1 => ((inR v1) ∧ (v1 ≠ 0 → ((inR x2) ∧ (x2 ≠ 0 → ((inR x2) ∧ (x2 ≠ 1 → ((inR x2) ∧ (x2 ≠ 2 → Q (-2) d1) ∧ (x2 = 2 → (0 ≤ (5 + (d1 153 15)) ∧ (5 + (d1 153 15)) < 1407) ∧ (0 ≤ (5 + (d1 153 16)) ∧ (5 + (d1 153 16)) < 1407) ∧ Ev g M_X9_pair FUL FUL [zI (d1 154 (5 + (d1 153 15))), zI (d1 154 (5 + (d1 153 16)))] d1 (fun v2 d2 => (0 ≤ v2 ∧ v2 < 1407) ∧ Q (d2 154 v2) d2)))) ∧ (x2 = 1 → Q (d1 153 16) d1))) ∧ (x2 = 0 → Q (d1 153 15) d1))) ∧ (v1 = 0 → Q (-1) d1)))))) : Ev g M_X9_neck FUL FUL [zR 153, zI x1, zI x2] d Q :=
  Ev_of (by decide +kernel) (Nat.le_of_ble_eq_true rfl) (v_X9_neck_0  h)
set_option maxRecDepth 20000 in
theorem v_X9_oxbow_0 {g : zGG} {Q : Int → zMem → Prop} {d : zMem} {x1 : Int} {x2 : Int}  (h : Ev g M_X9_in FUL FUL [zI x1, zI 0, zI ((d 154 1355) - 1)] d (fun v1 d1 => ((inR v1) ∧ (v1 ≠ 0 → (0 ≤ ((1356 + (3 * x1)) + 2) ∧ ((1356 + (3 * x1)) + 2) < 1407) ∧ ((inR x2) ∧ (x2 ≠ 2 → ((inR x2) ∧ (x2 ≠ 3 → Ev g M_X9_in FUL FUL [zI x2, zI 0, zI 1] d1 (fun v2 d2 => ((inR v2) ∧ (v2 = 0 → Q (-2) d2) ∧ (v2 ≠ 0 → (0 ≤ ((1356 + (3 * x1)) + x2) ∧ ((1356 + (3 * x1)) + x2) < 1407) ∧ Q (d2 154 ((1356 + (3 * x1)) + x2)) d2)))) ∧ (x2 = 3 → (0 ≤ (d1 154 ((1356 + (3 * x1)) + 2)) ∧ inR (d1 154 ((1356 + (3 * x1)) + 2))) ∧ Q ((d1 154 ((1356 + (3 * x1)) + 2)) / 20) d1))) ∧ (x2 = 2 → (0 ≤ (d1 154 ((1356 + (3 * x1)) + 2)) ∧ inR (d1 154 ((1356 + (3 * x1)) + 2))) ∧ Q ((d1 154 ((1356 + (3 * x1)) + 2)) % 20) d1))) ∧ (v1 = 0 → Q (-1) d1)))) : Fr g (eM g M_X9_oxbow FUL FUL Q) M_X9_oxbow FUL 0 [some (zR 153), some (zI x1), some (zI x2), none] [] d := by
  refine z_iload_n (i := 1) dX9_oxbow_0 rfl rfl ?_
  refine z_iconst dX9_oxbow_1 ?_
  refine z_aloadR_n (i := 0) dX9_oxbow_2 rfl rfl ?_
  refine z_getR 9 0 (idx := 7) ly153 (by decide) (by decide) rfl (show 153 < 166 by decide) rfl rt_153_0 wf_X9_7 dX9_oxbow_3 ?_
  refine z_sipush dX9_oxbow_6 (by decide +kernel) ?_
  refine z_iaload' (fv := (d 154 1355)) ly154 (show 154 < 166 by decide) (by decide) dX9_oxbow_9 (by decide) rfl ?_
  refine z_iconst dX9_oxbow_10 ?_
  refine z_isub dX9_oxbow_11 ?_
  refine z_callS (k' := M_X9_in) (As := [zI x1, zI 0, zI ((d 154 1355) - 1)]) (st := []) dX9_oxbow_12 rfl wm_X9_50 ok_X9_in okS_X9_in rfl (zroom_self (by decide) (by decide)) (Nat.le_of_ble_eq_true rfl) (Nat.le_refl _) (zEnd_i (Nat.le_refl _) rfl (fun _ _ q => q)) (Ev_mono h (fun v1 d1 h => ?_))
  refine zb_if_ne (tgt := 20) dX9_oxbow_15 (by decide) h.1 ⟨fun c => ?_, fun c => ?_⟩
  · replace h := h.2.1 c
    refine z_aloadR_n (i := 0) dX9_oxbow_20 rfl rfl ?_
    refine z_getR 9 0 (idx := 7) ly153 (by decide) (by decide) rfl (show 153 < 166 by decide) rfl rt_153_0 wf_X9_7 dX9_oxbow_21 ?_
    refine z_sipush dX9_oxbow_24 (by decide +kernel) ?_
    refine z_iconst dX9_oxbow_27 ?_
    refine z_iload_n (i := 1) dX9_oxbow_28 rfl rfl ?_
    refine z_imul dX9_oxbow_29 ?_
    refine z_iadd dX9_oxbow_30 ?_
    refine z_iconst dX9_oxbow_31 ?_
    refine z_iadd dX9_oxbow_32 ?_
    refine z_iaload' (fv := (d1 154 ((1356 + (3 * x1)) + 2))) ly154 (show 154 < 166 by decide) (by decide) dX9_oxbow_33 h.1 rfl ?_
    replace h := h.2
    refine z_istore_n (i := 3) (ls2 := [some (zR 153), some (zI x1), some (zI x2), some (zI (d1 154 ((1356 + (3 * x1)) + 2)))]) dX9_oxbow_34 rfl (by decide) rfl ?_
    refine z_iload_n (i := 2) dX9_oxbow_35 rfl rfl ?_
    refine z_iconst dX9_oxbow_36 ?_
    refine zb_icmp_ne (tgt := 47) dX9_oxbow_37 (by decide) ⟨h.1, by decide⟩ ⟨fun c => ?_, fun c => ?_⟩
    · replace h := h.2.1 c
      refine z_iload_n (i := 2) dX9_oxbow_47 rfl rfl ?_
      refine z_iconst dX9_oxbow_48 ?_
      refine zb_icmp_ne (tgt := 59) dX9_oxbow_49 (by decide) ⟨h.1, by decide⟩ ⟨fun c => ?_, fun c => ?_⟩
      · replace h := h.2.1 c
        refine z_iload_n (i := 2) dX9_oxbow_59 rfl rfl ?_
        refine z_iconst dX9_oxbow_60 ?_
        refine z_iconst dX9_oxbow_61 ?_
        refine z_callS (k' := M_X9_in) (As := [zI x2, zI 0, zI 1]) (st := []) dX9_oxbow_62 rfl wm_X9_50 ok_X9_in okS_X9_in rfl (zroom_self (by decide) (by decide)) (Nat.le_of_ble_eq_true rfl) (Nat.le_refl _) (zEnd_i (Nat.le_refl _) rfl (fun _ _ q => q)) (Ev_mono h (fun v2 d2 h => ?_))
        refine zb_if_eq (tgt := 85) dX9_oxbow_65 (by decide) h.1 ⟨fun c => ?_, fun c => ?_⟩
        · replace h := h.2.1 c
          refine z_bipush dX9_oxbow_85 (by decide +kernel) ?_
          exact zret_i rfl dX9_oxbow_87 h
        · replace h := h.2.2 c
          refine z_aloadR_n (i := 0) dX9_oxbow_68 rfl rfl ?_
          refine z_getR 9 0 (idx := 7) ly153 (by decide) (by decide) rfl (show 153 < 166 by decide) rfl rt_153_0 wf_X9_7 dX9_oxbow_69 ?_
          refine z_sipush dX9_oxbow_72 (by decide +kernel) ?_
          refine z_iconst dX9_oxbow_75 ?_
          refine z_iload_n (i := 1) dX9_oxbow_76 rfl rfl ?_
          refine z_imul dX9_oxbow_77 ?_
          refine z_iadd dX9_oxbow_78 ?_
          refine z_iload_n (i := 2) dX9_oxbow_79 rfl rfl ?_
          refine z_iadd dX9_oxbow_80 ?_
          refine z_iaload' (fv := (d2 154 ((1356 + (3 * x1)) + x2))) ly154 (show 154 < 166 by decide) (by decide) dX9_oxbow_81 h.1 rfl ?_
          replace h := h.2
          refine z_goto (tgt := 87) dX9_oxbow_82 (by decide) ?_
          exact zret_i rfl dX9_oxbow_87 h
      · replace h := h.2.2 c
        refine z_iload_n (i := 3) dX9_oxbow_52 rfl rfl ?_
        refine z_bipush dX9_oxbow_53 (by decide +kernel) ?_
        refine z_idiv dX9_oxbow_55 ⟨h.1.1, h.1.2, by decide, by decide⟩ ?_
        replace h := h.2
        refine z_goto (tgt := 87) dX9_oxbow_56 (by decide) ?_
        exact zret_i rfl dX9_oxbow_87 h
    · replace h := h.2.2 c
      refine z_iload_n (i := 3) dX9_oxbow_40 rfl rfl ?_
      refine z_bipush dX9_oxbow_41 (by decide +kernel) ?_
      refine z_irem dX9_oxbow_43 ⟨h.1.1, h.1.2, by decide, by decide⟩ ?_
      replace h := h.2
      refine z_goto (tgt := 87) dX9_oxbow_44 (by decide) ?_
      exact zret_i rfl dX9_oxbow_87 h
  · replace h := h.2.2 c
    refine z_iconst dX9_oxbow_18 ?_
    exact zret_i rfl dX9_oxbow_19 h
theorem e_X9_oxbow {g : zGG} {Q : Int → zMem → Prop} {d : zMem} {x1 : Int} {x2 : Int} (h : Ev g M_X9_in FUL FUL [zI x1, zI 0, zI ((d 154 1355) - 1)] d (fun v1 d1 => ((inR v1) ∧ (v1 ≠ 0 → (0 ≤ ((1356 + (3 * x1)) + 2) ∧ ((1356 + (3 * x1)) + 2) < 1407) ∧ ((inR x2) ∧ (x2 ≠ 2 → ((inR x2) ∧ (x2 ≠ 3 → Ev g M_X9_in FUL FUL [zI x2, zI 0, zI 1] d1 (fun v2 d2 => ((inR v2) ∧ (v2 = 0 → Q (-2) d2) ∧ (v2 ≠ 0 → (0 ≤ ((1356 + (3 * x1)) + x2) ∧ ((1356 + (3 * x1)) + x2) < 1407) ∧ Q (d2 154 ((1356 + (3 * x1)) + x2)) d2)))) ∧ (x2 = 3 → (0 ≤ (d1 154 ((1356 + (3 * x1)) + 2)) ∧ inR (d1 154 ((1356 + (3 * x1)) + 2))) ∧ Q ((d1 154 ((1356 + (3 * x1)) + 2)) / 20) d1))) ∧ (x2 = 2 → (0 ≤ (d1 154 ((1356 + (3 * x1)) + 2)) ∧ inR (d1 154 ((1356 + (3 * x1)) + 2))) ∧ Q ((d1 154 ((1356 + (3 * x1)) + 2)) % 20) d1))) ∧ (v1 = 0 → Q (-1) d1)))) : Ev g M_X9_oxbow FUL FUL [zR 153, zI x1, zI x2] d Q :=
  Ev_of (by decide +kernel) (Nat.le_of_ble_eq_true rfl) (v_X9_oxbow_0  h)
set_option maxRecDepth 20000 in
theorem v_X9_firm_0 {g : zGG} {Q : Int → zMem → Prop} {d : zMem}   (h : Ev g M_X9_findBends FUL FUL [zR 153] d (fun _ d1 => (Fr g (eM g M_X9_firm FUL FUL Q) M_X9_firm FUL 8 [some (zR 153), some (zI 0), some (zI 0)] [] d1))) : Fr g (eM g M_X9_firm FUL FUL Q) M_X9_firm FUL 0 [some (zR 153), none, none] [] d := by
  refine z_aloadR_n (i := 0) dX9_firm_0 rfl rfl ?_
  refine z_callVv (k' := M_X9_findBends) (As := []) (st := []) dX9_firm_1 rfl ly153 (by decide) rfl (show 153 < 166 by decide) wm_X9_112 ok_X9_findBends okV_X9_findBends rfl (zroom_self (by decide) (by decide)) (Nat.le_of_ble_eq_true rfl) (Nat.le_refl _) rfl (Ev_mono h (fun _ d1 h => ?_))
  refine z_iconst dX9_firm_4 ?_
  refine z_istore_n (i := 1) (ls2 := [some (zR 153), some (zI 0), none]) dX9_firm_5 rfl (by decide) rfl ?_
  refine z_iconst dX9_firm_6 ?_
  refine z_istore_n (i := 2) (ls2 := [some (zR 153), some (zI 0), some (zI 0)]) dX9_firm_7 rfl (by decide) rfl ?_
  exact h
theorem e_X9_firm {g : zGG} {Q : Int → zMem → Prop} {d : zMem}  (h : Ev g M_X9_findBends FUL FUL [zR 153] d (fun _ d1 => (Fr g (eM g M_X9_firm FUL FUL Q) M_X9_firm FUL 8 [some (zR 153), some (zI 0), some (zI 0)] [] d1))) : Ev g M_X9_firm FUL FUL [zR 153] d Q :=
  Ev_of (by decide +kernel) (Nat.le_of_ble_eq_true rfl) (v_X9_firm_0  h)
set_option maxRecDepth 20000 in
theorem v_X9_firm_8 {g : zGG} {Q : Int → zMem → Prop} {d : zMem}  {x1 : Int} {x2 : Int} (h : ((inR x2 ∧ inR (d 153 11)) ∧ ((d 153 11) ≤ x2 → Q x1 d) ∧ (x2 < (d 153 11) → Ev g M_X9_isFirm FUL FUL [zR 153, zI x2] d (fun v1 d1 => ((inR v1) ∧ (v1 = 0 → (Fr g (eM g M_X9_firm FUL FUL Q) M_X9_firm FUL 8 [some (zR 153), some (zI (x1 + 0)), some (zI (x2 + 1))] [] d1)) ∧ (v1 ≠ 0 → (Fr g (eM g M_X9_firm FUL FUL Q) M_X9_firm FUL 8 [some (zR 153), some (zI (x1 + 1)), some (zI (x2 + 1))] [] d1))))))) : Fr g (eM g M_X9_firm FUL FUL Q) M_X9_firm FUL 8 [some (zR 153), some (zI x1), some (zI x2)] [] d := by
  refine z_iload_n (i := 2) dX9_firm_8 rfl rfl ?_
  refine z_aloadR_n (i := 0) dX9_firm_9 rfl rfl ?_
  refine z_getI' 9 11 (idx := 62) (fv := (d 153 11)) ly153 (by decide) (by decide) rfl (show 153 < 166 by decide) wf_X9_62 dX9_firm_10 rfl ?_
  refine zb_icmp_ge (tgt := 38) dX9_firm_13 (by decide) h.1 ⟨fun c => ?_, fun c => ?_⟩
  · replace h := h.2.1 c
    refine z_iload_n (i := 1) dX9_firm_38 rfl rfl ?_
    exact zret_i rfl dX9_firm_39 h
  · replace h := h.2.2 c
    refine z_iload_n (i := 1) dX9_firm_16 rfl rfl ?_
    refine z_aloadR_n (i := 0) dX9_firm_17 rfl rfl ?_
    refine z_iload_n (i := 2) dX9_firm_18 rfl rfl ?_
    refine z_callVi (k' := M_X9_isFirm) (As := [zI x2]) (st := [zI x1]) dX9_firm_19 rfl ly153 (by decide) rfl (show 153 < 166 by decide) wm_X9_79 ok_X9_isFirm okV_X9_isFirm rfl (zroom_self (by decide) (by decide)) (Nat.le_of_ble_eq_true rfl) (Nat.le_refl _) rfl (Ev_mono h (fun v1 d1 h => ?_))
    refine zb_if_eq (tgt := 29) dX9_firm_22 (by decide) h.1 ⟨fun c => ?_, fun c => ?_⟩
    · replace h := h.2.1 c
      refine z_iconst dX9_firm_29 ?_
      refine z_iadd dX9_firm_30 ?_
      refine z_istore_n (i := 1) (ls2 := [some (zR 153), some (zI (x1 + 0)), some (zI x2)]) dX9_firm_31 rfl (by decide) rfl ?_
      refine z_iinc (i := 2) (ls2 := [some (zR 153), some (zI (x1 + 0)), some (zI (x2 + 1))]) dX9_firm_32 (by decide) rfl rfl ?_
      refine z_goto (tgt := 8) dX9_firm_35 (by decide) ?_
      exact h
    · replace h := h.2.2 c
      refine z_iconst dX9_firm_25 ?_
      refine z_goto (tgt := 30) dX9_firm_26 (by decide) ?_
      refine z_iadd dX9_firm_30 ?_
      refine z_istore_n (i := 1) (ls2 := [some (zR 153), some (zI (x1 + 1)), some (zI x2)]) dX9_firm_31 rfl (by decide) rfl ?_
      refine z_iinc (i := 2) (ls2 := [some (zR 153), some (zI (x1 + 1)), some (zI (x2 + 1))]) dX9_firm_32 (by decide) rfl rfl ?_
      refine z_goto (tgt := 8) dX9_firm_35 (by decide) ?_
      exact h
set_option maxRecDepth 20000 in
theorem v_X9_apart_0 {g : zGG} {Q : Int → zMem → Prop} {d : zMem} {x0 : Int} {x1 : Int}  (h : ((inR x0 ∧ inR x1) ∧ (x0 ≤ x1 → Q (x1 - x0) d) ∧ (x1 < x0 → Q (x0 - x1) d))) : Fr g (eM g M_X9_apart FUL FUL Q) M_X9_apart FUL 0 [some (zI x0), some (zI x1)] [] d := by
  refine z_iload_n (i := 0) dX9_apart_0 rfl rfl ?_
  refine z_iload_n (i := 1) dX9_apart_1 rfl rfl ?_
  refine zb_icmp_le (tgt := 11) dX9_apart_2 (by decide) h.1 ⟨fun c => ?_, fun c => ?_⟩
  · replace h := h.2.1 c
    refine z_iload_n (i := 1) dX9_apart_11 rfl rfl ?_
    refine z_iload_n (i := 0) dX9_apart_12 rfl rfl ?_
    refine z_isub dX9_apart_13 ?_
    exact zret_i rfl dX9_apart_14 h
  · replace h := h.2.2 c
    refine z_iload_n (i := 0) dX9_apart_5 rfl rfl ?_
    refine z_iload_n (i := 1) dX9_apart_6 rfl rfl ?_
    refine z_isub dX9_apart_7 ?_
    refine z_goto (tgt := 14) dX9_apart_8 (by decide) ?_
    exact zret_i rfl dX9_apart_14 h
theorem e_X9_apart {g : zGG} {Q : Int → zMem → Prop} {d : zMem} {x0 : Int} {x1 : Int} (h : ((inR x0 ∧ inR x1) ∧ (x0 ≤ x1 → Q (x1 - x0) d) ∧ (x1 < x0 → Q (x0 - x1) d))) : Ev g M_X9_apart FUL FUL [zI x0, zI x1] d Q :=
  Ev_of (by decide +kernel) (Nat.le_of_ble_eq_true rfl) (v_X9_apart_0  h)
set_option maxRecDepth 20000 in
theorem v_X9_winding_0 {g : zGG} {Q : Int → zMem → Prop} {d : zMem}   (h : (0 ≤ ((5 + (d 154 4)) - 1) ∧ ((5 + (d 154 4)) - 1) < 1407) ∧ (0 ≤ (d 154 5) ∧ inR (d 154 5)) ∧ (0 ≤ (d 154 ((5 + (d 154 4)) - 1)) ∧ inR (d 154 ((5 + (d 154 4)) - 1))) ∧ Ev g M_X9_apart FUL FUL [zI ((d 154 5) % 20), zI ((d 154 ((5 + (d 154 4)) - 1)) % 20)] d (fun v1 d1 => (0 ≤ (d 154 5) ∧ inR (d 154 5)) ∧ (0 ≤ (d 154 ((5 + (d 154 4)) - 1)) ∧ inR (d 154 ((5 + (d 154 4)) - 1))) ∧ Ev g M_X9_apart FUL FUL [zI ((d 154 5) / 20), zI ((d 154 ((5 + (d 154 4)) - 1)) / 20)] d1 (fun v2 d2 => (0 ≤ (1000 * ((d 154 4) - 1)) ∧ inR (1000 * ((d 154 4) - 1)) ∧ 0 < (v1 + v2) ∧ inR (v1 + v2)) ∧ Q ((1000 * ((d 154 4) - 1)) / (v1 + v2)) d2))) : Fr g (eM g M_X9_winding FUL FUL Q) M_X9_winding FUL 0 [some (zR 153), none, none] [] d := by
  refine z_aloadR_n (i := 0) dX9_winding_0 rfl rfl ?_
  refine z_getR 9 0 (idx := 7) ly153 (by decide) (by decide) rfl (show 153 < 166 by decide) rfl rt_153_0 wf_X9_7 dX9_winding_1 ?_
  refine z_iconst dX9_winding_4 ?_
  refine z_iaload' (fv := (d 154 5)) ly154 (show 154 < 166 by decide) (by decide) dX9_winding_5 (by decide) rfl ?_
  refine z_istore_n (i := 1) (ls2 := [some (zR 153), some (zI (d 154 5)), none]) dX9_winding_6 rfl (by decide) rfl ?_
  refine z_aloadR_n (i := 0) dX9_winding_7 rfl rfl ?_
  refine z_getR 9 0 (idx := 7) ly153 (by decide) (by decide) rfl (show 153 < 166 by decide) rfl rt_153_0 wf_X9_7 dX9_winding_8 ?_
  refine z_iconst dX9_winding_11 ?_
  refine z_aloadR_n (i := 0) dX9_winding_12 rfl rfl ?_
  refine z_getR 9 0 (idx := 7) ly153 (by decide) (by decide) rfl (show 153 < 166 by decide) rfl rt_153_0 wf_X9_7 dX9_winding_13 ?_
  refine z_iconst dX9_winding_16 ?_
  refine z_iaload' (fv := (d 154 4)) ly154 (show 154 < 166 by decide) (by decide) dX9_winding_17 (by decide) rfl ?_
  refine z_iadd dX9_winding_18 ?_
  refine z_iconst dX9_winding_19 ?_
  refine z_isub dX9_winding_20 ?_
  refine z_iaload' (fv := (d 154 ((5 + (d 154 4)) - 1))) ly154 (show 154 < 166 by decide) (by decide) dX9_winding_21 h.1 rfl ?_
  replace h := h.2
  refine z_istore_n (i := 2) (ls2 := [some (zR 153), some (zI (d 154 5)), some (zI (d 154 ((5 + (d 154 4)) - 1)))]) dX9_winding_22 rfl (by decide) rfl ?_
  refine z_sipush dX9_winding_23 (by decide +kernel) ?_
  refine z_aloadR_n (i := 0) dX9_winding_26 rfl rfl ?_
  refine z_getR 9 0 (idx := 7) ly153 (by decide) (by decide) rfl (show 153 < 166 by decide) rfl rt_153_0 wf_X9_7 dX9_winding_27 ?_
  refine z_iconst dX9_winding_30 ?_
  refine z_iaload' (fv := (d 154 4)) ly154 (show 154 < 166 by decide) (by decide) dX9_winding_31 (by decide) rfl ?_
  refine z_iconst dX9_winding_32 ?_
  refine z_isub dX9_winding_33 ?_
  refine z_imul dX9_winding_34 ?_
  refine z_iload_n (i := 1) dX9_winding_35 rfl rfl ?_
  refine z_bipush dX9_winding_36 (by decide +kernel) ?_
  refine z_irem dX9_winding_38 ⟨h.1.1, h.1.2, by decide, by decide⟩ ?_
  replace h := h.2
  refine z_iload_n (i := 2) dX9_winding_39 rfl rfl ?_
  refine z_bipush dX9_winding_40 (by decide +kernel) ?_
  refine z_irem dX9_winding_42 ⟨h.1.1, h.1.2, by decide, by decide⟩ ?_
  replace h := h.2
  refine z_callS (k' := M_X9_apart) (As := [zI ((d 154 5) % 20), zI ((d 154 ((5 + (d 154 4)) - 1)) % 20)]) (st := [zI (1000 * ((d 154 4) - 1))]) dX9_winding_43 rfl wm_X9_152 ok_X9_apart okS_X9_apart rfl (zroom_self (by decide) (by decide)) (Nat.le_of_ble_eq_true rfl) (Nat.le_refl _) (zEnd_i (Nat.le_refl _) rfl (fun _ _ q => q)) (Ev_mono h (fun v1 d1 h => ?_))
  refine z_iload_n (i := 1) dX9_winding_46 rfl rfl ?_
  refine z_bipush dX9_winding_47 (by decide +kernel) ?_
  refine z_idiv dX9_winding_49 ⟨h.1.1, h.1.2, by decide, by decide⟩ ?_
  replace h := h.2
  refine z_iload_n (i := 2) dX9_winding_50 rfl rfl ?_
  refine z_bipush dX9_winding_51 (by decide +kernel) ?_
  refine z_idiv dX9_winding_53 ⟨h.1.1, h.1.2, by decide, by decide⟩ ?_
  replace h := h.2
  refine z_callS (k' := M_X9_apart) (As := [zI ((d 154 5) / 20), zI ((d 154 ((5 + (d 154 4)) - 1)) / 20)]) (st := [zI v1, zI (1000 * ((d 154 4) - 1))]) dX9_winding_54 rfl wm_X9_152 ok_X9_apart okS_X9_apart rfl (zroom_self (by decide) (by decide)) (Nat.le_of_ble_eq_true rfl) (Nat.le_refl _) (zEnd_i (Nat.le_refl _) rfl (fun _ _ q => q)) (Ev_mono h (fun v2 d2 h => ?_))
  refine z_iadd dX9_winding_57 ?_
  refine z_idiv dX9_winding_58 h.1 ?_
  replace h := h.2
  exact zret_i rfl dX9_winding_59 h
theorem e_X9_winding {g : zGG} {Q : Int → zMem → Prop} {d : zMem}  (h : (0 ≤ ((5 + (d 154 4)) - 1) ∧ ((5 + (d 154 4)) - 1) < 1407) ∧ (0 ≤ (d 154 5) ∧ inR (d 154 5)) ∧ (0 ≤ (d 154 ((5 + (d 154 4)) - 1)) ∧ inR (d 154 ((5 + (d 154 4)) - 1))) ∧ Ev g M_X9_apart FUL FUL [zI ((d 154 5) % 20), zI ((d 154 ((5 + (d 154 4)) - 1)) % 20)] d (fun v1 d1 => (0 ≤ (d 154 5) ∧ inR (d 154 5)) ∧ (0 ≤ (d 154 ((5 + (d 154 4)) - 1)) ∧ inR (d 154 ((5 + (d 154 4)) - 1))) ∧ Ev g M_X9_apart FUL FUL [zI ((d 154 5) / 20), zI ((d 154 ((5 + (d 154 4)) - 1)) / 20)] d1 (fun v2 d2 => (0 ≤ (1000 * ((d 154 4) - 1)) ∧ inR (1000 * ((d 154 4) - 1)) ∧ 0 < (v1 + v2) ∧ inR (v1 + v2)) ∧ Q ((1000 * ((d 154 4) - 1)) / (v1 + v2)) d2))) : Ev g M_X9_winding FUL FUL [zR 153] d Q :=
  Ev_of (by decide +kernel) (Nat.le_of_ble_eq_true rfl) (v_X9_winding_0  h)
set_option maxRecDepth 20000 in
theorem v_X9_allWear_0 {g : zGG} {Q : Int → zMem → Prop} {d : zMem}   (h : (Fr g (eM g M_X9_allWear FUL FUL Q) M_X9_allWear FUL 4 [some (zR 153), some (zI 0), some (zI 0)] [] d)) : Fr g (eM g M_X9_allWear FUL FUL Q) M_X9_allWear FUL 0 [some (zR 153), none, none] [] d := by
  refine z_iconst dX9_allWear_0 ?_
  refine z_istore_n (i := 1) (ls2 := [some (zR 153), some (zI 0), none]) dX9_allWear_1 rfl (by decide) rfl ?_
  refine z_iconst dX9_allWear_2 ?_
  refine z_istore_n (i := 2) (ls2 := [some (zR 153), some (zI 0), some (zI 0)]) dX9_allWear_3 rfl (by decide) rfl ?_
  exact h
theorem e_X9_allWear {g : zGG} {Q : Int → zMem → Prop} {d : zMem}  (h : (Fr g (eM g M_X9_allWear FUL FUL Q) M_X9_allWear FUL 4 [some (zR 153), some (zI 0), some (zI 0)] [] d)) : Ev g M_X9_allWear FUL FUL [zR 153] d Q :=
  Ev_of (by decide +kernel) (Nat.le_of_ble_eq_true rfl) (v_X9_allWear_0  h)
set_option maxRecDepth 20000 in
theorem v_X9_allWear_4 {g : zGG} {Q : Int → zMem → Prop} {d : zMem}  {x1 : Int} {x2 : Int} (h : ((inR x2) ∧ (240 ≤ x2 → Q x1 d) ∧ (x2 < 240 → (0 ≤ (155 + x2) ∧ (155 + x2) < 1407) ∧ (Fr g (eM g M_X9_allWear FUL FUL Q) M_X9_allWear FUL 4 [some (zR 153), some (zI (x1 + (d 154 (155 + x2)))), some (zI (x2 + 1))] [] d)))) : Fr g (eM g M_X9_allWear FUL FUL Q) M_X9_allWear FUL 4 [some (zR 153), some (zI x1), some (zI x2)] [] d := by
  refine z_iload_n (i := 2) dX9_allWear_4 rfl rfl ?_
  refine z_sipush dX9_allWear_5 (by decide +kernel) ?_
  refine zb_icmp_ge (tgt := 30) dX9_allWear_8 (by decide) ⟨h.1, by decide⟩ ⟨fun c => ?_, fun c => ?_⟩
  · replace h := h.2.1 c
    refine z_iload_n (i := 1) dX9_allWear_30 rfl rfl ?_
    exact zret_i rfl dX9_allWear_31 h
  · replace h := h.2.2 c
    refine z_iload_n (i := 1) dX9_allWear_11 rfl rfl ?_
    refine z_aloadR_n (i := 0) dX9_allWear_12 rfl rfl ?_
    refine z_getR 9 0 (idx := 7) ly153 (by decide) (by decide) rfl (show 153 < 166 by decide) rfl rt_153_0 wf_X9_7 dX9_allWear_13 ?_
    refine z_sipush dX9_allWear_16 (by decide +kernel) ?_
    refine z_iload_n (i := 2) dX9_allWear_19 rfl rfl ?_
    refine z_iadd dX9_allWear_20 ?_
    refine z_iaload' (fv := (d 154 (155 + x2))) ly154 (show 154 < 166 by decide) (by decide) dX9_allWear_21 h.1 rfl ?_
    replace h := h.2
    refine z_iadd dX9_allWear_22 ?_
    refine z_istore_n (i := 1) (ls2 := [some (zR 153), some (zI (x1 + (d 154 (155 + x2)))), some (zI x2)]) dX9_allWear_23 rfl (by decide) rfl ?_
    refine z_iinc (i := 2) (ls2 := [some (zR 153), some (zI (x1 + (d 154 (155 + x2)))), some (zI (x2 + 1))]) dX9_allWear_24 (by decide) rfl rfl ?_
    refine z_goto (tgt := 4) dX9_allWear_27 (by decide) ?_
    exact h
set_option maxRecDepth 20000 in
theorem v_X9_allNecks_0 {g : zGG} {Q : Int → zMem → Prop} {d : zMem}   (h : Ev g M_X9_findNeck FUL FUL [zR 153, zI 0, zI 0] d (fun v1 d1 => Q (d1 153 17) d1)) : Fr g (eM g M_X9_allNecks FUL FUL Q) M_X9_allNecks FUL 0 [some (zR 153), none] [] d := by
  refine z_aloadR_n (i := 0) dX9_allNecks_0 rfl rfl ?_
  refine z_iconst dX9_allNecks_1 ?_
  refine z_iconst dX9_allNecks_2 ?_
  refine z_callVi (k' := M_X9_findNeck) (As := [zI 0, zI 0]) (st := []) dX9_allNecks_3 rfl ly153 (by decide) rfl (show 153 < 166 by decide) wm_X9_133 ok_X9_findNeck okV_X9_findNeck rfl (zroom_self (by decide) (by decide)) (Nat.le_of_ble_eq_true rfl) (Nat.le_refl _) rfl (Ev_mono h (fun v1 d1 h => ?_))
  refine z_istore_n (i := 1) (ls2 := [some (zR 153), some (zI v1)]) dX9_allNecks_6 rfl (by decide) rfl ?_
  refine z_aloadR_n (i := 0) dX9_allNecks_7 rfl rfl ?_
  refine z_getI' 9 17 (idx := 109) (fv := (d1 153 17)) ly153 (by decide) (by decide) rfl (show 153 < 166 by decide) wf_X9_109 dX9_allNecks_8 rfl ?_
  exact zret_i rfl dX9_allNecks_11 h
theorem e_X9_allNecks {g : zGG} {Q : Int → zMem → Prop} {d : zMem}  (h : Ev g M_X9_findNeck FUL FUL [zR 153, zI 0, zI 0] d (fun v1 d1 => Q (d1 153 17) d1)) : Ev g M_X9_allNecks FUL FUL [zR 153] d Q :=
  Ev_of (by decide +kernel) (Nat.le_of_ble_eq_true rfl) (v_X9_allNecks_0  h)
set_option maxRecDepth 20000 in
theorem v_X9_count_0 {g : zGG} {Q : Int → zMem → Prop} {d : zMem} {x1 : Int}  (h : ((inR x1) ∧ ((x1 < 0 ∨ 17 < x1) → Ev g M_X9_in FUL FUL [zI x1, zI 12, zI 15] d (fun v1 d1 => ((inR v1) ∧ (v1 = 0 → Q (-2) d1) ∧ (v1 ≠ 0 → (0 ≤ ((0 + x1) - 12) ∧ ((0 + x1) - 12) < 1407) ∧ Q (d1 154 ((0 + x1) - 12)) d1)))) ∧ (x1 = 0 → Q (d 154 4) d) ∧ (x1 = 1 → Ev g M_X9_findBends FUL FUL [zR 153] d (fun _ d2 => Q (d2 153 11) d2)) ∧ (x1 = 2 → Ev g M_X9_firm FUL FUL [zR 153] d (fun v2 d3 => Q v2 d3)) ∧ (x1 = 3 → Ev g M_X9_allNecks FUL FUL [zR 153] d (fun v3 d4 => Q v3 d4)) ∧ (x1 = 4 → Q (d 154 1355) d) ∧ (x1 = 5 → Q (d 154 1404) d) ∧ (x1 = 6 → Q (d 154 1395) d) ∧ (x1 = 7 → Ev g M_X9_dikes FUL FUL [zR 153] d (fun v4 d5 => Q v4 d5)) ∧ (x1 = 8 → Q (d 154 1405) d) ∧ (x1 = 9 → Q (d 154 1406) d) ∧ (x1 = 10 → Ev g M_X9_winding FUL FUL [zR 153] d (fun v5 d6 => Q v5 d6)) ∧ (x1 = 11 → Ev g M_X9_allWear FUL FUL [zR 153] d (fun v6 d7 => Q v6 d7)) ∧ (x1 = 12 → Ev g M_X9_in FUL FUL [zI x1, zI 12, zI 15] d (fun v7 d8 => ((inR v7) ∧ (v7 = 0 → Q (-2) d8) ∧ (v7 ≠ 0 → (0 ≤ ((0 + x1) - 12) ∧ ((0 + x1) - 12) < 1407) ∧ Q (d8 154 ((0 + x1) - 12)) d8)))) ∧ (x1 = 13 → Ev g M_X9_in FUL FUL [zI x1, zI 12, zI 15] d (fun v8 d9 => ((inR v8) ∧ (v8 = 0 → Q (-2) d9) ∧ (v8 ≠ 0 → (0 ≤ ((0 + x1) - 12) ∧ ((0 + x1) - 12) < 1407) ∧ Q (d9 154 ((0 + x1) - 12)) d9)))) ∧ (x1 = 14 → Ev g M_X9_in FUL FUL [zI x1, zI 12, zI 15] d (fun v9 d10 => ((inR v9) ∧ (v9 = 0 → Q (-2) d10) ∧ (v9 ≠ 0 → (0 ≤ ((0 + x1) - 12) ∧ ((0 + x1) - 12) < 1407) ∧ Q (d10 154 ((0 + x1) - 12)) d10)))) ∧ (x1 = 15 → Ev g M_X9_in FUL FUL [zI x1, zI 12, zI 15] d (fun v10 d11 => ((inR v10) ∧ (v10 = 0 → Q (-2) d11) ∧ (v10 ≠ 0 → (0 ≤ ((0 + x1) - 12) ∧ ((0 + x1) - 12) < 1407) ∧ Q (d11 154 ((0 + x1) - 12)) d11)))) ∧ (x1 = 16 → Q (d 153 7) d) ∧ (x1 = 17 → Q (d 153 3) d))) : Fr g (eM g M_X9_count FUL FUL Q) M_X9_count FUL 0 [some (zR 153), some (zI x1)] [] d := by
  refine z_iload_n (i := 1) dX9_count_0 rfl rfl ?_
  have hr := h.1
  rcases (show (x1 < 0 ∨ 17 < x1) ∨ x1 = 0 ∨ x1 = 1 ∨ x1 = 2 ∨ x1 = 3 ∨ x1 = 4 ∨ x1 = 5 ∨ x1 = 6 ∨ x1 = 7 ∨ x1 = 8 ∨ x1 = 9 ∨ x1 = 10 ∨ x1 = 11 ∨ x1 = 12 ∨ x1 = 13 ∨ x1 = 14 ∨ x1 = 15 ∨ x1 = 16 ∨ x1 = 17 by omega) with c | c | c | c | c | c | c | c | c | c | c | c | c | c | c | c | c | c | c
  · replace h := h.2.1 c
    refine z_tsOut (tgt := 184) dX9_count_1 (by decide) hr c ?_
    refine z_iload_n (i := 1) dX9_count_184 rfl rfl ?_
    refine z_bipush dX9_count_185 (by decide +kernel) ?_
    refine z_bipush dX9_count_187 (by decide +kernel) ?_
    refine z_callS (k' := M_X9_in) (As := [zI x1, zI 12, zI 15]) (st := []) dX9_count_189 rfl wm_X9_50 ok_X9_in okS_X9_in rfl (zroom_self (by decide) (by decide)) (Nat.le_of_ble_eq_true rfl) (Nat.le_refl _) (zEnd_i (Nat.le_refl _) rfl (fun _ _ q => q)) (Ev_mono h (fun v1 d1 h => ?_))
    refine zb_if_eq (tgt := 209) dX9_count_192 (by decide) h.1 ⟨fun c => ?_, fun c => ?_⟩
    · replace h := h.2.1 c
      refine z_bipush dX9_count_209 (by decide +kernel) ?_
      exact zret_i rfl dX9_count_211 h
    · replace h := h.2.2 c
      refine z_aloadR_n (i := 0) dX9_count_195 rfl rfl ?_
      refine z_getR 9 0 (idx := 7) ly153 (by decide) (by decide) rfl (show 153 < 166 by decide) rfl rt_153_0 wf_X9_7 dX9_count_196 ?_
      refine z_iconst dX9_count_199 ?_
      refine z_iload_n (i := 1) dX9_count_200 rfl rfl ?_
      refine z_iadd dX9_count_201 ?_
      refine z_bipush dX9_count_202 (by decide +kernel) ?_
      refine z_isub dX9_count_204 ?_
      refine z_iaload' (fv := (d1 154 ((0 + x1) - 12))) ly154 (show 154 < 166 by decide) (by decide) dX9_count_205 h.1 rfl ?_
      replace h := h.2
      refine z_goto (tgt := 211) dX9_count_206 (by decide) ?_
      exact zret_i rfl dX9_count_211 h
  · replace h := h.2.2.1 c
    refine z_tsCase (0) (off := 87) (tgt := 88) dX9_count_1 rfl (by decide) (by decide) c ?_
    refine z_aloadR_n (i := 0) dX9_count_88 rfl rfl ?_
    refine z_getR 9 0 (idx := 7) ly153 (by decide) (by decide) rfl (show 153 < 166 by decide) rfl rt_153_0 wf_X9_7 dX9_count_89 ?_
    refine z_iconst dX9_count_92 ?_
    refine z_iaload' (fv := (d 154 4)) ly154 (show 154 < 166 by decide) (by decide) dX9_count_93 (by decide) rfl ?_
    exact zret_i rfl dX9_count_94 h
  · replace h := h.2.2.2.1 c
    refine z_tsCase (1) (off := 94) (tgt := 95) dX9_count_1 rfl (by decide) (by decide) c ?_
    refine z_aloadR_n (i := 0) dX9_count_95 rfl rfl ?_
    refine z_callVv (k' := M_X9_findBends) (As := []) (st := []) dX9_count_96 rfl ly153 (by decide) rfl (show 153 < 166 by decide) wm_X9_112 ok_X9_findBends okV_X9_findBends rfl (zroom_self (by decide) (by decide)) (Nat.le_of_ble_eq_true rfl) (Nat.le_refl _) rfl (Ev_mono h (fun _ d2 h => ?_))
    refine z_aloadR_n (i := 0) dX9_count_99 rfl rfl ?_
    refine z_getI' 9 11 (idx := 62) (fv := (d2 153 11)) ly153 (by decide) (by decide) rfl (show 153 < 166 by decide) wf_X9_62 dX9_count_100 rfl ?_
    exact zret_i rfl dX9_count_103 h
  · replace h := h.2.2.2.2.1 c
    refine z_tsCase (2) (off := 103) (tgt := 104) dX9_count_1 rfl (by decide) (by decide) c ?_
    refine z_aloadR_n (i := 0) dX9_count_104 rfl rfl ?_
    refine z_callVi (k' := M_X9_firm) (As := []) (st := []) dX9_count_105 rfl ly153 (by decide) rfl (show 153 < 166 by decide) wm_X9_155 ok_X9_firm okV_X9_firm rfl (zroom_self (by decide) (by decide)) (Nat.le_of_ble_eq_true rfl) (Nat.le_refl _) rfl (Ev_mono h (fun v2 d3 h => ?_))
    exact zret_i rfl dX9_count_108 h
  · replace h := h.2.2.2.2.2.1 c
    refine z_tsCase (3) (off := 108) (tgt := 109) dX9_count_1 rfl (by decide) (by decide) c ?_
    refine z_aloadR_n (i := 0) dX9_count_109 rfl rfl ?_
    refine z_callVi (k' := M_X9_allNecks) (As := []) (st := []) dX9_count_110 rfl ly153 (by decide) rfl (show 153 < 166 by decide) wm_X9_158 ok_X9_allNecks okV_X9_allNecks rfl (zroom_self (by decide) (by decide)) (Nat.le_of_ble_eq_true rfl) (Nat.le_refl _) rfl (Ev_mono h (fun v3 d4 h => ?_))
    exact zret_i rfl dX9_count_113 h
  · replace h := h.2.2.2.2.2.2.1 c
    refine z_tsCase (4) (off := 113) (tgt := 114) dX9_count_1 rfl (by decide) (by decide) c ?_
    refine z_aloadR_n (i := 0) dX9_count_114 rfl rfl ?_
    refine z_getR 9 0 (idx := 7) ly153 (by decide) (by decide) rfl (show 153 < 166 by decide) rfl rt_153_0 wf_X9_7 dX9_count_115 ?_
    refine z_sipush dX9_count_118 (by decide +kernel) ?_
    refine z_iaload' (fv := (d 154 1355)) ly154 (show 154 < 166 by decide) (by decide) dX9_count_121 (by decide) rfl ?_
    exact zret_i rfl dX9_count_122 h
  · replace h := h.2.2.2.2.2.2.2.1 c
    refine z_tsCase (5) (off := 122) (tgt := 123) dX9_count_1 rfl (by decide) (by decide) c ?_
    refine z_aloadR_n (i := 0) dX9_count_123 rfl rfl ?_
    refine z_getR 9 0 (idx := 7) ly153 (by decide) (by decide) rfl (show 153 < 166 by decide) rfl rt_153_0 wf_X9_7 dX9_count_124 ?_
    refine z_sipush dX9_count_127 (by decide +kernel) ?_
    refine z_iaload' (fv := (d 154 1404)) ly154 (show 154 < 166 by decide) (by decide) dX9_count_130 (by decide) rfl ?_
    exact zret_i rfl dX9_count_131 h
  · replace h := h.2.2.2.2.2.2.2.2.1 c
    refine z_tsCase (6) (off := 131) (tgt := 132) dX9_count_1 rfl (by decide) (by decide) c ?_
    refine z_aloadR_n (i := 0) dX9_count_132 rfl rfl ?_
    refine z_getR 9 0 (idx := 7) ly153 (by decide) (by decide) rfl (show 153 < 166 by decide) rfl rt_153_0 wf_X9_7 dX9_count_133 ?_
    refine z_sipush dX9_count_136 (by decide +kernel) ?_
    refine z_iaload' (fv := (d 154 1395)) ly154 (show 154 < 166 by decide) (by decide) dX9_count_139 (by decide) rfl ?_
    exact zret_i rfl dX9_count_140 h
  · replace h := h.2.2.2.2.2.2.2.2.2.1 c
    refine z_tsCase (7) (off := 140) (tgt := 141) dX9_count_1 rfl (by decide) (by decide) c ?_
    refine z_aloadR_n (i := 0) dX9_count_141 rfl rfl ?_
    refine z_callVi (k' := M_X9_dikes) (As := []) (st := []) dX9_count_142 rfl ly153 (by decide) rfl (show 153 < 166 by decide) wm_X9_145 ok_X9_dikes okV_X9_dikes rfl (zroom_self (by decide) (by decide)) (Nat.le_of_ble_eq_true rfl) (Nat.le_refl _) rfl (Ev_mono h (fun v4 d5 h => ?_))
    exact zret_i rfl dX9_count_145 h
  · replace h := h.2.2.2.2.2.2.2.2.2.2.1 c
    refine z_tsCase (8) (off := 145) (tgt := 146) dX9_count_1 rfl (by decide) (by decide) c ?_
    refine z_aloadR_n (i := 0) dX9_count_146 rfl rfl ?_
    refine z_getR 9 0 (idx := 7) ly153 (by decide) (by decide) rfl (show 153 < 166 by decide) rfl rt_153_0 wf_X9_7 dX9_count_147 ?_
    refine z_sipush dX9_count_150 (by decide +kernel) ?_
    refine z_iaload' (fv := (d 154 1405)) ly154 (show 154 < 166 by decide) (by decide) dX9_count_153 (by decide) rfl ?_
    exact zret_i rfl dX9_count_154 h
  · replace h := h.2.2.2.2.2.2.2.2.2.2.2.1 c
    refine z_tsCase (9) (off := 154) (tgt := 155) dX9_count_1 rfl (by decide) (by decide) c ?_
    refine z_aloadR_n (i := 0) dX9_count_155 rfl rfl ?_
    refine z_getR 9 0 (idx := 7) ly153 (by decide) (by decide) rfl (show 153 < 166 by decide) rfl rt_153_0 wf_X9_7 dX9_count_156 ?_
    refine z_sipush dX9_count_159 (by decide +kernel) ?_
    refine z_iaload' (fv := (d 154 1406)) ly154 (show 154 < 166 by decide) (by decide) dX9_count_162 (by decide) rfl ?_
    exact zret_i rfl dX9_count_163 h
  · replace h := h.2.2.2.2.2.2.2.2.2.2.2.2.1 c
    refine z_tsCase (10) (off := 163) (tgt := 164) dX9_count_1 rfl (by decide) (by decide) c ?_
    refine z_aloadR_n (i := 0) dX9_count_164 rfl rfl ?_
    refine z_callVi (k' := M_X9_winding) (As := []) (st := []) dX9_count_165 rfl ly153 (by decide) rfl (show 153 < 166 by decide) wm_X9_161 ok_X9_winding okV_X9_winding rfl (zroom_self (by decide) (by decide)) (Nat.le_of_ble_eq_true rfl) (Nat.le_refl _) rfl (Ev_mono h (fun v5 d6 h => ?_))
    exact zret_i rfl dX9_count_168 h
  · replace h := h.2.2.2.2.2.2.2.2.2.2.2.2.2.1 c
    refine z_tsCase (11) (off := 168) (tgt := 169) dX9_count_1 rfl (by decide) (by decide) c ?_
    refine z_aloadR_n (i := 0) dX9_count_169 rfl rfl ?_
    refine z_callVi (k' := M_X9_allWear) (As := []) (st := []) dX9_count_170 rfl ly153 (by decide) rfl (show 153 < 166 by decide) wm_X9_164 ok_X9_allWear okV_X9_allWear rfl (zroom_self (by decide) (by decide)) (Nat.le_of_ble_eq_true rfl) (Nat.le_refl _) rfl (Ev_mono h (fun v6 d7 h => ?_))
    exact zret_i rfl dX9_count_173 h
  · replace h := h.2.2.2.2.2.2.2.2.2.2.2.2.2.2.1 c
    refine z_tsCase (12) (off := 183) (tgt := 184) dX9_count_1 rfl (by decide) (by decide) c ?_
    refine z_iload_n (i := 1) dX9_count_184 rfl rfl ?_
    refine z_bipush dX9_count_185 (by decide +kernel) ?_
    refine z_bipush dX9_count_187 (by decide +kernel) ?_
    refine z_callS (k' := M_X9_in) (As := [zI x1, zI 12, zI 15]) (st := []) dX9_count_189 rfl wm_X9_50 ok_X9_in okS_X9_in rfl (zroom_self (by decide) (by decide)) (Nat.le_of_ble_eq_true rfl) (Nat.le_refl _) (zEnd_i (Nat.le_refl _) rfl (fun _ _ q => q)) (Ev_mono h (fun v7 d8 h => ?_))
    refine zb_if_eq (tgt := 209) dX9_count_192 (by decide) h.1 ⟨fun c => ?_, fun c => ?_⟩
    · replace h := h.2.1 c
      refine z_bipush dX9_count_209 (by decide +kernel) ?_
      exact zret_i rfl dX9_count_211 h
    · replace h := h.2.2 c
      refine z_aloadR_n (i := 0) dX9_count_195 rfl rfl ?_
      refine z_getR 9 0 (idx := 7) ly153 (by decide) (by decide) rfl (show 153 < 166 by decide) rfl rt_153_0 wf_X9_7 dX9_count_196 ?_
      refine z_iconst dX9_count_199 ?_
      refine z_iload_n (i := 1) dX9_count_200 rfl rfl ?_
      refine z_iadd dX9_count_201 ?_
      refine z_bipush dX9_count_202 (by decide +kernel) ?_
      refine z_isub dX9_count_204 ?_
      refine z_iaload' (fv := (d8 154 ((0 + x1) - 12))) ly154 (show 154 < 166 by decide) (by decide) dX9_count_205 h.1 rfl ?_
      replace h := h.2
      refine z_goto (tgt := 211) dX9_count_206 (by decide) ?_
      exact zret_i rfl dX9_count_211 h
  · replace h := h.2.2.2.2.2.2.2.2.2.2.2.2.2.2.2.1 c
    refine z_tsCase (13) (off := 183) (tgt := 184) dX9_count_1 rfl (by decide) (by decide) c ?_
    refine z_iload_n (i := 1) dX9_count_184 rfl rfl ?_
    refine z_bipush dX9_count_185 (by decide +kernel) ?_
    refine z_bipush dX9_count_187 (by decide +kernel) ?_
    refine z_callS (k' := M_X9_in) (As := [zI x1, zI 12, zI 15]) (st := []) dX9_count_189 rfl wm_X9_50 ok_X9_in okS_X9_in rfl (zroom_self (by decide) (by decide)) (Nat.le_of_ble_eq_true rfl) (Nat.le_refl _) (zEnd_i (Nat.le_refl _) rfl (fun _ _ q => q)) (Ev_mono h (fun v8 d9 h => ?_))
    refine zb_if_eq (tgt := 209) dX9_count_192 (by decide) h.1 ⟨fun c => ?_, fun c => ?_⟩
    · replace h := h.2.1 c
      refine z_bipush dX9_count_209 (by decide +kernel) ?_
      exact zret_i rfl dX9_count_211 h
    · replace h := h.2.2 c
      refine z_aloadR_n (i := 0) dX9_count_195 rfl rfl ?_
      refine z_getR 9 0 (idx := 7) ly153 (by decide) (by decide) rfl (show 153 < 166 by decide) rfl rt_153_0 wf_X9_7 dX9_count_196 ?_
      refine z_iconst dX9_count_199 ?_
      refine z_iload_n (i := 1) dX9_count_200 rfl rfl ?_
      refine z_iadd dX9_count_201 ?_
      refine z_bipush dX9_count_202 (by decide +kernel) ?_
      refine z_isub dX9_count_204 ?_
      refine z_iaload' (fv := (d9 154 ((0 + x1) - 12))) ly154 (show 154 < 166 by decide) (by decide) dX9_count_205 h.1 rfl ?_
      replace h := h.2
      refine z_goto (tgt := 211) dX9_count_206 (by decide) ?_
      exact zret_i rfl dX9_count_211 h
  · replace h := h.2.2.2.2.2.2.2.2.2.2.2.2.2.2.2.2.1 c
    refine z_tsCase (14) (off := 183) (tgt := 184) dX9_count_1 rfl (by decide) (by decide) c ?_
    refine z_iload_n (i := 1) dX9_count_184 rfl rfl ?_
    refine z_bipush dX9_count_185 (by decide +kernel) ?_
    refine z_bipush dX9_count_187 (by decide +kernel) ?_
    refine z_callS (k' := M_X9_in) (As := [zI x1, zI 12, zI 15]) (st := []) dX9_count_189 rfl wm_X9_50 ok_X9_in okS_X9_in rfl (zroom_self (by decide) (by decide)) (Nat.le_of_ble_eq_true rfl) (Nat.le_refl _) (zEnd_i (Nat.le_refl _) rfl (fun _ _ q => q)) (Ev_mono h (fun v9 d10 h => ?_))
    refine zb_if_eq (tgt := 209) dX9_count_192 (by decide) h.1 ⟨fun c => ?_, fun c => ?_⟩
    · replace h := h.2.1 c
      refine z_bipush dX9_count_209 (by decide +kernel) ?_
      exact zret_i rfl dX9_count_211 h
    · replace h := h.2.2 c
      refine z_aloadR_n (i := 0) dX9_count_195 rfl rfl ?_
      refine z_getR 9 0 (idx := 7) ly153 (by decide) (by decide) rfl (show 153 < 166 by decide) rfl rt_153_0 wf_X9_7 dX9_count_196 ?_
      refine z_iconst dX9_count_199 ?_
      refine z_iload_n (i := 1) dX9_count_200 rfl rfl ?_
      refine z_iadd dX9_count_201 ?_
      refine z_bipush dX9_count_202 (by decide +kernel) ?_
      refine z_isub dX9_count_204 ?_
      refine z_iaload' (fv := (d10 154 ((0 + x1) - 12))) ly154 (show 154 < 166 by decide) (by decide) dX9_count_205 h.1 rfl ?_
      replace h := h.2
      refine z_goto (tgt := 211) dX9_count_206 (by decide) ?_
      exact zret_i rfl dX9_count_211 h
  · replace h := h.2.2.2.2.2.2.2.2.2.2.2.2.2.2.2.2.2.1 c
    refine z_tsCase (15) (off := 183) (tgt := 184) dX9_count_1 rfl (by decide) (by decide) c ?_
    refine z_iload_n (i := 1) dX9_count_184 rfl rfl ?_
    refine z_bipush dX9_count_185 (by decide +kernel) ?_
    refine z_bipush dX9_count_187 (by decide +kernel) ?_
    refine z_callS (k' := M_X9_in) (As := [zI x1, zI 12, zI 15]) (st := []) dX9_count_189 rfl wm_X9_50 ok_X9_in okS_X9_in rfl (zroom_self (by decide) (by decide)) (Nat.le_of_ble_eq_true rfl) (Nat.le_refl _) (zEnd_i (Nat.le_refl _) rfl (fun _ _ q => q)) (Ev_mono h (fun v10 d11 h => ?_))
    refine zb_if_eq (tgt := 209) dX9_count_192 (by decide) h.1 ⟨fun c => ?_, fun c => ?_⟩
    · replace h := h.2.1 c
      refine z_bipush dX9_count_209 (by decide +kernel) ?_
      exact zret_i rfl dX9_count_211 h
    · replace h := h.2.2 c
      refine z_aloadR_n (i := 0) dX9_count_195 rfl rfl ?_
      refine z_getR 9 0 (idx := 7) ly153 (by decide) (by decide) rfl (show 153 < 166 by decide) rfl rt_153_0 wf_X9_7 dX9_count_196 ?_
      refine z_iconst dX9_count_199 ?_
      refine z_iload_n (i := 1) dX9_count_200 rfl rfl ?_
      refine z_iadd dX9_count_201 ?_
      refine z_bipush dX9_count_202 (by decide +kernel) ?_
      refine z_isub dX9_count_204 ?_
      refine z_iaload' (fv := (d11 154 ((0 + x1) - 12))) ly154 (show 154 < 166 by decide) (by decide) dX9_count_205 h.1 rfl ?_
      replace h := h.2
      refine z_goto (tgt := 211) dX9_count_206 (by decide) ?_
      exact zret_i rfl dX9_count_211 h
  · replace h := h.2.2.2.2.2.2.2.2.2.2.2.2.2.2.2.2.2.2.1 c
    refine z_tsCase (16) (off := 173) (tgt := 174) dX9_count_1 rfl (by decide) (by decide) c ?_
    refine z_aloadR_n (i := 0) dX9_count_174 rfl rfl ?_
    refine z_getI' 9 7 (idx := 167) (fv := (d 153 7)) ly153 (by decide) (by decide) rfl (show 153 < 166 by decide) wf_X9_167 dX9_count_175 rfl ?_
    exact zret_i rfl dX9_count_178 h
  · replace h := h.2.2.2.2.2.2.2.2.2.2.2.2.2.2.2.2.2.2.2 c
    refine z_tsCase (17) (off := 178) (tgt := 179) dX9_count_1 rfl (by decide) (by decide) c ?_
    refine z_aloadR_n (i := 0) dX9_count_179 rfl rfl ?_
    refine z_getI' 9 3 (idx := 54) (fv := (d 153 3)) ly153 (by decide) (by decide) rfl (show 153 < 166 by decide) wf_X9_54 dX9_count_180 rfl ?_
    exact zret_i rfl dX9_count_183 h
theorem e_X9_count {g : zGG} {Q : Int → zMem → Prop} {d : zMem} {x1 : Int} (h : ((inR x1) ∧ ((x1 < 0 ∨ 17 < x1) → Ev g M_X9_in FUL FUL [zI x1, zI 12, zI 15] d (fun v1 d1 => ((inR v1) ∧ (v1 = 0 → Q (-2) d1) ∧ (v1 ≠ 0 → (0 ≤ ((0 + x1) - 12) ∧ ((0 + x1) - 12) < 1407) ∧ Q (d1 154 ((0 + x1) - 12)) d1)))) ∧ (x1 = 0 → Q (d 154 4) d) ∧ (x1 = 1 → Ev g M_X9_findBends FUL FUL [zR 153] d (fun _ d2 => Q (d2 153 11) d2)) ∧ (x1 = 2 → Ev g M_X9_firm FUL FUL [zR 153] d (fun v2 d3 => Q v2 d3)) ∧ (x1 = 3 → Ev g M_X9_allNecks FUL FUL [zR 153] d (fun v3 d4 => Q v3 d4)) ∧ (x1 = 4 → Q (d 154 1355) d) ∧ (x1 = 5 → Q (d 154 1404) d) ∧ (x1 = 6 → Q (d 154 1395) d) ∧ (x1 = 7 → Ev g M_X9_dikes FUL FUL [zR 153] d (fun v4 d5 => Q v4 d5)) ∧ (x1 = 8 → Q (d 154 1405) d) ∧ (x1 = 9 → Q (d 154 1406) d) ∧ (x1 = 10 → Ev g M_X9_winding FUL FUL [zR 153] d (fun v5 d6 => Q v5 d6)) ∧ (x1 = 11 → Ev g M_X9_allWear FUL FUL [zR 153] d (fun v6 d7 => Q v6 d7)) ∧ (x1 = 12 → Ev g M_X9_in FUL FUL [zI x1, zI 12, zI 15] d (fun v7 d8 => ((inR v7) ∧ (v7 = 0 → Q (-2) d8) ∧ (v7 ≠ 0 → (0 ≤ ((0 + x1) - 12) ∧ ((0 + x1) - 12) < 1407) ∧ Q (d8 154 ((0 + x1) - 12)) d8)))) ∧ (x1 = 13 → Ev g M_X9_in FUL FUL [zI x1, zI 12, zI 15] d (fun v8 d9 => ((inR v8) ∧ (v8 = 0 → Q (-2) d9) ∧ (v8 ≠ 0 → (0 ≤ ((0 + x1) - 12) ∧ ((0 + x1) - 12) < 1407) ∧ Q (d9 154 ((0 + x1) - 12)) d9)))) ∧ (x1 = 14 → Ev g M_X9_in FUL FUL [zI x1, zI 12, zI 15] d (fun v9 d10 => ((inR v9) ∧ (v9 = 0 → Q (-2) d10) ∧ (v9 ≠ 0 → (0 ≤ ((0 + x1) - 12) ∧ ((0 + x1) - 12) < 1407) ∧ Q (d10 154 ((0 + x1) - 12)) d10)))) ∧ (x1 = 15 → Ev g M_X9_in FUL FUL [zI x1, zI 12, zI 15] d (fun v10 d11 => ((inR v10) ∧ (v10 = 0 → Q (-2) d11) ∧ (v10 ≠ 0 → (0 ≤ ((0 + x1) - 12) ∧ ((0 + x1) - 12) < 1407) ∧ Q (d11 154 ((0 + x1) - 12)) d11)))) ∧ (x1 = 16 → Q (d 153 7) d) ∧ (x1 = 17 → Q (d 153 3) d))) : Ev g M_X9_count FUL FUL [zR 153, zI x1] d Q :=
  Ev_of (by decide +kernel) (Nat.le_of_ble_eq_true rfl) (v_X9_count_0  h)
set_option maxRecDepth 20000 in
theorem v_X9_isFlood_0 {g : zGG} {Q : Int → zMem → Prop} {d : zMem} {x1 : Int}  (h : Ev g M_X9_in FUL FUL [zI x1, zI 0, zI 999] d (fun v1 d1 => ((inR v1) ∧ (v1 ≠ 0 → Ev g M_X9_isFloodYear FUL FUL [zR 153, zI x1] d1 (fun v2 d2 => ((inR v2) ∧ (v2 = 0 → Q 0 d2) ∧ (v2 ≠ 0 → Q 1 d2)))) ∧ (v1 = 0 → Q (-2) d1)))) : Fr g (eM g M_X9_isFlood FUL FUL Q) M_X9_isFlood FUL 0 [some (zR 153), some (zI x1)] [] d := by
  refine z_iload_n (i := 1) dX9_isFlood_0 rfl rfl ?_
  refine z_iconst dX9_isFlood_1 ?_
  refine z_sipush dX9_isFlood_2 (by decide +kernel) ?_
  refine z_callS (k' := M_X9_in) (As := [zI x1, zI 0, zI 999]) (st := []) dX9_isFlood_5 rfl wm_X9_50 ok_X9_in okS_X9_in rfl (zroom_self (by decide) (by decide)) (Nat.le_of_ble_eq_true rfl) (Nat.le_refl _) (zEnd_i (Nat.le_refl _) rfl (fun _ _ q => q)) (Ev_mono h (fun v1 d1 h => ?_))
  refine zb_if_ne (tgt := 16) dX9_isFlood_8 (by decide) h.1 ⟨fun c => ?_, fun c => ?_⟩
  · replace h := h.2.1 c
    refine z_aloadR_n (i := 0) dX9_isFlood_16 rfl rfl ?_
    refine z_iload_n (i := 1) dX9_isFlood_17 rfl rfl ?_
    refine z_callVi (k' := M_X9_isFloodYear) (As := [zI x1]) (st := []) dX9_isFlood_18 rfl ly153 (by decide) rfl (show 153 < 166 by decide) wm_X9_115 ok_X9_isFloodYear okV_X9_isFloodYear rfl (zroom_self (by decide) (by decide)) (Nat.le_of_ble_eq_true rfl) (Nat.le_refl _) rfl (Ev_mono h (fun v2 d2 h => ?_))
    refine zb_if_eq (tgt := 28) dX9_isFlood_21 (by decide) h.1 ⟨fun c => ?_, fun c => ?_⟩
    · replace h := h.2.1 c
      refine z_iconst dX9_isFlood_28 ?_
      exact zret_i rfl dX9_isFlood_29 h
    · replace h := h.2.2 c
      refine z_iconst dX9_isFlood_24 ?_
      refine z_goto (tgt := 29) dX9_isFlood_25 (by decide) ?_
      exact zret_i rfl dX9_isFlood_29 h
  · replace h := h.2.2 c
    refine z_bipush dX9_isFlood_11 (by decide +kernel) ?_
    refine z_goto (tgt := 29) dX9_isFlood_13 (by decide) ?_
    exact zret_i rfl dX9_isFlood_29 h
theorem e_X9_isFlood {g : zGG} {Q : Int → zMem → Prop} {d : zMem} {x1 : Int} (h : Ev g M_X9_in FUL FUL [zI x1, zI 0, zI 999] d (fun v1 d1 => ((inR v1) ∧ (v1 ≠ 0 → Ev g M_X9_isFloodYear FUL FUL [zR 153, zI x1] d1 (fun v2 d2 => ((inR v2) ∧ (v2 = 0 → Q 0 d2) ∧ (v2 ≠ 0 → Q 1 d2)))) ∧ (v1 = 0 → Q (-2) d1)))) : Ev g M_X9_isFlood FUL FUL [zR 153, zI x1] d Q :=
  Ev_of (by decide +kernel) (Nat.le_of_ble_eq_true rfl) (v_X9_isFlood_0  h)
set_option maxRecDepth 20000 in
theorem v_X9_ifPassed_0 {g : zGG} {Q : Int → zMem → Prop} {d : zMem} {x1 : Int} {x2 : Int}  (h : Ev g M_X9_in FUL FUL [zI x1, zI 1, zI 50] d (fun v1 d1 => ((inR v1) ∧ (v1 = 0 → Q (-2) d1) ∧ (v1 ≠ 0 → Ev g M_X9_in FUL FUL [zI x2, zI 0, zI 3] d1 (fun v2 d2 => ((inR v2) ∧ (v2 ≠ 0 → Ev g M_X9_putAside FUL FUL [zR 153] d2 (fun _ d3 => (Fr g (eM g M_X9_ifPassed FUL FUL Q) M_X9_ifPassed FUL 28 [some (zR 153), some (zI x1), some (zI x2), some (zI 0), none] [] d3))) ∧ (v2 = 0 → Q (-2) d2))))))) : Fr g (eM g M_X9_ifPassed FUL FUL Q) M_X9_ifPassed FUL 0 [some (zR 153), some (zI x1), some (zI x2), none, none] [] d := by
  refine z_iload_n (i := 1) dX9_ifPassed_0 rfl rfl ?_
  refine z_iconst dX9_ifPassed_1 ?_
  refine z_bipush dX9_ifPassed_2 (by decide +kernel) ?_
  refine z_callS (k' := M_X9_in) (As := [zI x1, zI 1, zI 50]) (st := []) dX9_ifPassed_4 rfl wm_X9_50 ok_X9_in okS_X9_in rfl (zroom_self (by decide) (by decide)) (Nat.le_of_ble_eq_true rfl) (Nat.le_refl _) (zEnd_i (Nat.le_refl _) rfl (fun _ _ q => q)) (Ev_mono h (fun v1 d1 h => ?_))
  refine zb_if_eq (tgt := 19) dX9_ifPassed_7 (by decide) h.1 ⟨fun c => ?_, fun c => ?_⟩
  · replace h := h.2.1 c
    refine z_bipush dX9_ifPassed_19 (by decide +kernel) ?_
    exact zret_i rfl dX9_ifPassed_21 h
  · replace h := h.2.2 c
    refine z_iload_n (i := 2) dX9_ifPassed_10 rfl rfl ?_
    refine z_iconst dX9_ifPassed_11 ?_
    refine z_iconst dX9_ifPassed_12 ?_
    refine z_callS (k' := M_X9_in) (As := [zI x2, zI 0, zI 3]) (st := []) dX9_ifPassed_13 rfl wm_X9_50 ok_X9_in okS_X9_in rfl (zroom_self (by decide) (by decide)) (Nat.le_of_ble_eq_true rfl) (Nat.le_refl _) (zEnd_i (Nat.le_refl _) rfl (fun _ _ q => q)) (Ev_mono h (fun v2 d2 h => ?_))
    refine zb_if_ne (tgt := 22) dX9_ifPassed_16 (by decide) h.1 ⟨fun c => ?_, fun c => ?_⟩
    · replace h := h.2.1 c
      refine z_aloadR_n (i := 0) dX9_ifPassed_22 rfl rfl ?_
      refine z_callVv (k' := M_X9_putAside) (As := []) (st := []) dX9_ifPassed_23 rfl ly153 (by decide) rfl (show 153 < 166 by decide) wm_X9_170 ok_X9_putAside okV_X9_putAside rfl (zroom_self (by decide) (by decide)) (Nat.le_of_ble_eq_true rfl) (Nat.le_refl _) rfl (Ev_mono h (fun _ d3 h => ?_))
      refine z_iconst dX9_ifPassed_26 ?_
      refine z_istore_n (i := 3) (ls2 := [some (zR 153), some (zI x1), some (zI x2), some (zI 0), none]) dX9_ifPassed_27 rfl (by decide) rfl ?_
      exact h
    · replace h := h.2.2 c
      refine z_bipush dX9_ifPassed_19 (by decide +kernel) ?_
      exact zret_i rfl dX9_ifPassed_21 h
theorem e_X9_ifPassed {g : zGG} {Q : Int → zMem → Prop} {d : zMem} {x1 : Int} {x2 : Int} (h : Ev g M_X9_in FUL FUL [zI x1, zI 1, zI 50] d (fun v1 d1 => ((inR v1) ∧ (v1 = 0 → Q (-2) d1) ∧ (v1 ≠ 0 → Ev g M_X9_in FUL FUL [zI x2, zI 0, zI 3] d1 (fun v2 d2 => ((inR v2) ∧ (v2 ≠ 0 → Ev g M_X9_putAside FUL FUL [zR 153] d2 (fun _ d3 => (Fr g (eM g M_X9_ifPassed FUL FUL Q) M_X9_ifPassed FUL 28 [some (zR 153), some (zI x1), some (zI x2), some (zI 0), none] [] d3))) ∧ (v2 = 0 → Q (-2) d2))))))) : Ev g M_X9_ifPassed FUL FUL [zR 153, zI x1, zI x2] d Q :=
  Ev_of (by decide +kernel) (Nat.le_of_ble_eq_true rfl) (v_X9_ifPassed_0  h)
set_option maxRecDepth 20000 in
theorem v_X9_ifPassed_28 {g : zGG} {Q : Int → zMem → Prop} {d : zMem} {x1 : Int} {x2 : Int} {x3 : Int} (h : ((inR x3 ∧ inR x1) ∧ (x1 ≤ x3 → ((inR x2) ∧ (x2 ≠ 0 → ((inR x2) ∧ (x2 ≠ 1 → ((inR x2) ∧ (x2 ≠ 2 → Ev g M_X9_putBack FUL FUL [zR 153] d (fun _ d1 => Q (d 154 1355) d1)) ∧ (x2 = 2 → Ev g M_X9_putBack FUL FUL [zR 153] d (fun _ d2 => Q (d 154 4) d2)))) ∧ (x2 = 1 → Ev g M_X9_putBack FUL FUL [zR 153] d (fun _ d3 => Q ((d 154 1406) - (d 155 1406)) d3)))) ∧ (x2 = 0 → Ev g M_X9_putBack FUL FUL [zR 153] d (fun _ d4 => Q ((d 154 1405) - (d 155 1405)) d4)))) ∧ (x3 < x1 → Ev g M_X9_goOn FUL FUL [zR 153] d (fun v1 d5 => (Fr g (eM g M_X9_ifPassed FUL FUL Q) M_X9_ifPassed FUL 28 [some (zR 153), some (zI x1), some (zI x2), some (zI (x3 + 1)), none] [] d5))))) : Fr g (eM g M_X9_ifPassed FUL FUL Q) M_X9_ifPassed FUL 28 [some (zR 153), some (zI x1), some (zI x2), some (zI x3), none] [] d := by
  refine z_iload_n (i := 3) dX9_ifPassed_28 rfl rfl ?_
  refine z_iload_n (i := 1) dX9_ifPassed_29 rfl rfl ?_
  refine zb_icmp_ge (tgt := 45) dX9_ifPassed_30 (by decide) h.1 ⟨fun c => ?_, fun c => ?_⟩
  · replace h := h.2.1 c
    refine z_iload_n (i := 2) dX9_ifPassed_45 rfl rfl ?_
    refine zb_if_ne (tgt := 69) dX9_ifPassed_46 (by decide) h.1 ⟨fun c => ?_, fun c => ?_⟩
    · replace h := h.2.1 c
      refine z_iload_n (i := 2) dX9_ifPassed_69 rfl rfl ?_
      refine z_iconst dX9_ifPassed_70 ?_
      refine zb_icmp_ne (tgt := 94) dX9_ifPassed_71 (by decide) ⟨h.1, by decide⟩ ⟨fun c => ?_, fun c => ?_⟩
      · replace h := h.2.1 c
        refine z_iload_n (i := 2) dX9_ifPassed_94 rfl rfl ?_
        refine z_iconst dX9_ifPassed_95 ?_
        refine zb_icmp_ne (tgt := 108) dX9_ifPassed_96 (by decide) ⟨h.1, by decide⟩ ⟨fun c => ?_, fun c => ?_⟩
        · replace h := h.2.1 c
          refine z_aloadR_n (i := 0) dX9_ifPassed_108 rfl rfl ?_
          refine z_getR 9 0 (idx := 7) ly153 (by decide) (by decide) rfl (show 153 < 166 by decide) rfl rt_153_0 wf_X9_7 dX9_ifPassed_109 ?_
          refine z_sipush dX9_ifPassed_112 (by decide +kernel) ?_
          refine z_iaload' (fv := (d 154 1355)) ly154 (show 154 < 166 by decide) (by decide) dX9_ifPassed_115 (by decide) rfl ?_
          refine z_istore_n (i := 3) (ls2 := [some (zR 153), some (zI x1), some (zI x2), some (zI (d 154 1355)), none]) dX9_ifPassed_116 rfl (by decide) rfl ?_
          refine z_aloadR_n (i := 0) dX9_ifPassed_117 rfl rfl ?_
          refine z_callVv (k' := M_X9_putBack) (As := []) (st := []) dX9_ifPassed_118 rfl ly153 (by decide) rfl (show 153 < 166 by decide) wm_X9_173 ok_X9_putBack okV_X9_putBack rfl (zroom_self (by decide) (by decide)) (Nat.le_of_ble_eq_true rfl) (Nat.le_refl _) rfl (Ev_mono h (fun _ d1 h => ?_))
          refine z_iload_n (i := 3) dX9_ifPassed_121 rfl rfl ?_
          exact zret_i rfl dX9_ifPassed_122 h
        · replace h := h.2.2 c
          refine z_aloadR_n (i := 0) dX9_ifPassed_99 rfl rfl ?_
          refine z_getR 9 0 (idx := 7) ly153 (by decide) (by decide) rfl (show 153 < 166 by decide) rfl rt_153_0 wf_X9_7 dX9_ifPassed_100 ?_
          refine z_iconst dX9_ifPassed_103 ?_
          refine z_iaload' (fv := (d 154 4)) ly154 (show 154 < 166 by decide) (by decide) dX9_ifPassed_104 (by decide) rfl ?_
          refine z_goto (tgt := 116) dX9_ifPassed_105 (by decide) ?_
          refine z_istore_n (i := 3) (ls2 := [some (zR 153), some (zI x1), some (zI x2), some (zI (d 154 4)), none]) dX9_ifPassed_116 rfl (by decide) rfl ?_
          refine z_aloadR_n (i := 0) dX9_ifPassed_117 rfl rfl ?_
          refine z_callVv (k' := M_X9_putBack) (As := []) (st := []) dX9_ifPassed_118 rfl ly153 (by decide) rfl (show 153 < 166 by decide) wm_X9_173 ok_X9_putBack okV_X9_putBack rfl (zroom_self (by decide) (by decide)) (Nat.le_of_ble_eq_true rfl) (Nat.le_refl _) rfl (Ev_mono h (fun _ d2 h => ?_))
          refine z_iload_n (i := 3) dX9_ifPassed_121 rfl rfl ?_
          exact zret_i rfl dX9_ifPassed_122 h
      · replace h := h.2.2 c
        refine z_aloadR_n (i := 0) dX9_ifPassed_74 rfl rfl ?_
        refine z_getR 9 0 (idx := 7) ly153 (by decide) (by decide) rfl (show 153 < 166 by decide) rfl rt_153_0 wf_X9_7 dX9_ifPassed_75 ?_
        refine z_sipush dX9_ifPassed_78 (by decide +kernel) ?_
        refine z_iaload' (fv := (d 154 1406)) ly154 (show 154 < 166 by decide) (by decide) dX9_ifPassed_81 (by decide) rfl ?_
        refine z_aloadR_n (i := 0) dX9_ifPassed_82 rfl rfl ?_
        refine z_getR 9 1 (idx := 13) ly153 (by decide) (by decide) rfl (show 153 < 166 by decide) rfl rt_153_1 wf_X9_13 dX9_ifPassed_83 ?_
        refine z_sipush dX9_ifPassed_86 (by decide +kernel) ?_
        refine z_iaload' (fv := (d 155 1406)) ly155 (show 155 < 166 by decide) (by decide) dX9_ifPassed_89 (by decide) rfl ?_
        refine z_isub dX9_ifPassed_90 ?_
        refine z_goto (tgt := 116) dX9_ifPassed_91 (by decide) ?_
        refine z_istore_n (i := 3) (ls2 := [some (zR 153), some (zI x1), some (zI x2), some (zI ((d 154 1406) - (d 155 1406))), none]) dX9_ifPassed_116 rfl (by decide) rfl ?_
        refine z_aloadR_n (i := 0) dX9_ifPassed_117 rfl rfl ?_
        refine z_callVv (k' := M_X9_putBack) (As := []) (st := []) dX9_ifPassed_118 rfl ly153 (by decide) rfl (show 153 < 166 by decide) wm_X9_173 ok_X9_putBack okV_X9_putBack rfl (zroom_self (by decide) (by decide)) (Nat.le_of_ble_eq_true rfl) (Nat.le_refl _) rfl (Ev_mono h (fun _ d3 h => ?_))
        refine z_iload_n (i := 3) dX9_ifPassed_121 rfl rfl ?_
        exact zret_i rfl dX9_ifPassed_122 h
    · replace h := h.2.2 c
      refine z_aloadR_n (i := 0) dX9_ifPassed_49 rfl rfl ?_
      refine z_getR 9 0 (idx := 7) ly153 (by decide) (by decide) rfl (show 153 < 166 by decide) rfl rt_153_0 wf_X9_7 dX9_ifPassed_50 ?_
      refine z_sipush dX9_ifPassed_53 (by decide +kernel) ?_
      refine z_iaload' (fv := (d 154 1405)) ly154 (show 154 < 166 by decide) (by decide) dX9_ifPassed_56 (by decide) rfl ?_
      refine z_aloadR_n (i := 0) dX9_ifPassed_57 rfl rfl ?_
      refine z_getR 9 1 (idx := 13) ly153 (by decide) (by decide) rfl (show 153 < 166 by decide) rfl rt_153_1 wf_X9_13 dX9_ifPassed_58 ?_
      refine z_sipush dX9_ifPassed_61 (by decide +kernel) ?_
      refine z_iaload' (fv := (d 155 1405)) ly155 (show 155 < 166 by decide) (by decide) dX9_ifPassed_64 (by decide) rfl ?_
      refine z_isub dX9_ifPassed_65 ?_
      refine z_goto (tgt := 116) dX9_ifPassed_66 (by decide) ?_
      refine z_istore_n (i := 3) (ls2 := [some (zR 153), some (zI x1), some (zI x2), some (zI ((d 154 1405) - (d 155 1405))), none]) dX9_ifPassed_116 rfl (by decide) rfl ?_
      refine z_aloadR_n (i := 0) dX9_ifPassed_117 rfl rfl ?_
      refine z_callVv (k' := M_X9_putBack) (As := []) (st := []) dX9_ifPassed_118 rfl ly153 (by decide) rfl (show 153 < 166 by decide) wm_X9_173 ok_X9_putBack okV_X9_putBack rfl (zroom_self (by decide) (by decide)) (Nat.le_of_ble_eq_true rfl) (Nat.le_refl _) rfl (Ev_mono h (fun _ d4 h => ?_))
      refine z_iload_n (i := 3) dX9_ifPassed_121 rfl rfl ?_
      exact zret_i rfl dX9_ifPassed_122 h
  · replace h := h.2.2 c
    refine z_aloadR_n (i := 0) dX9_ifPassed_33 rfl rfl ?_
    refine z_callVi (k' := M_X9_goOn) (As := []) (st := []) dX9_ifPassed_34 rfl ly153 (by decide) rfl (show 153 < 166 by decide) wm_X9_149 ok_X9_goOn okV_X9_goOn rfl (zroom_self (by decide) (by decide)) (Nat.le_of_ble_eq_true rfl) (Nat.le_refl _) rfl (Ev_mono h (fun v1 d5 h => ?_))
    refine z_istore (i := 4) (ls2 := [some (zR 153), some (zI x1), some (zI x2), some (zI x3), some (zI v1)]) dX9_ifPassed_37 (by decide) rfl ?_
    refine z_iinc (i := 3) (ls2 := [some (zR 153), some (zI x1), some (zI x2), some (zI (x3 + 1)), some (zI v1)]) dX9_ifPassed_39 (by decide) rfl rfl ?_
    refine z_goto (tgt := 28) dX9_ifPassed_42 (by decide) ?_
    exact Fr_weak (ls2 := [some (zR 153), some (zI x1), some (zI x2), some (zI (x3 + 1)), none]) (by exact ⟨Or.inr rfl, Or.inr rfl, Or.inr rfl, Or.inr rfl, Or.inl rfl, trivial⟩) h
set_option maxRecDepth 20000 in
theorem v_X9_nextCut_0 {g : zGG} {Q : Int → zMem → Prop} {d : zMem} {x1 : Int}  (h : Ev g M_X9_in FUL FUL [zI x1, zI 0, zI 1] d (fun v1 d1 => ((inR v1) ∧ (v1 ≠ 0 → Ev g M_X9_putAside FUL FUL [zR 153] d1 (fun _ d2 => (Fr g (eM g M_X9_nextCut FUL FUL Q) M_X9_nextCut FUL 21 [some (zR 153), some (zI x1), some (zI (-6)), some (zI 0), none] [] d2))) ∧ (v1 = 0 → Q (-2) d1)))) : Fr g (eM g M_X9_nextCut FUL FUL Q) M_X9_nextCut FUL 0 [some (zR 153), some (zI x1), none, none, none] [] d := by
  refine z_iload_n (i := 1) dX9_nextCut_0 rfl rfl ?_
  refine z_iconst dX9_nextCut_1 ?_
  refine z_iconst dX9_nextCut_2 ?_
  refine z_callS (k' := M_X9_in) (As := [zI x1, zI 0, zI 1]) (st := []) dX9_nextCut_3 rfl wm_X9_50 ok_X9_in okS_X9_in rfl (zroom_self (by decide) (by decide)) (Nat.le_of_ble_eq_true rfl) (Nat.le_refl _) (zEnd_i (Nat.le_refl _) rfl (fun _ _ q => q)) (Ev_mono h (fun v1 d1 h => ?_))
  refine zb_if_ne (tgt := 12) dX9_nextCut_6 (by decide) h.1 ⟨fun c => ?_, fun c => ?_⟩
  · replace h := h.2.1 c
    refine z_aloadR_n (i := 0) dX9_nextCut_12 rfl rfl ?_
    refine z_callVv (k' := M_X9_putAside) (As := []) (st := []) dX9_nextCut_13 rfl ly153 (by decide) rfl (show 153 < 166 by decide) wm_X9_170 ok_X9_putAside okV_X9_putAside rfl (zroom_self (by decide) (by decide)) (Nat.le_of_ble_eq_true rfl) (Nat.le_refl _) rfl (Ev_mono h (fun _ d2 h => ?_))
    refine z_bipush dX9_nextCut_16 (by decide +kernel) ?_
    refine z_istore_n (i := 2) (ls2 := [some (zR 153), some (zI x1), some (zI (-6)), none, none]) dX9_nextCut_18 rfl (by decide) rfl ?_
    refine z_iconst dX9_nextCut_19 ?_
    refine z_istore_n (i := 3) (ls2 := [some (zR 153), some (zI x1), some (zI (-6)), some (zI 0), none]) dX9_nextCut_20 rfl (by decide) rfl ?_
    exact h
  · replace h := h.2.2 c
    refine z_bipush dX9_nextCut_9 (by decide +kernel) ?_
    exact zret_i rfl dX9_nextCut_11 h
theorem e_X9_nextCut {g : zGG} {Q : Int → zMem → Prop} {d : zMem} {x1 : Int} (h : Ev g M_X9_in FUL FUL [zI x1, zI 0, zI 1] d (fun v1 d1 => ((inR v1) ∧ (v1 ≠ 0 → Ev g M_X9_putAside FUL FUL [zR 153] d1 (fun _ d2 => (Fr g (eM g M_X9_nextCut FUL FUL Q) M_X9_nextCut FUL 21 [some (zR 153), some (zI x1), some (zI (-6)), some (zI 0), none] [] d2))) ∧ (v1 = 0 → Q (-2) d1)))) : Ev g M_X9_nextCut FUL FUL [zR 153, zI x1] d Q :=
  Ev_of (by decide +kernel) (Nat.le_of_ble_eq_true rfl) (v_X9_nextCut_0  h)
set_option maxRecDepth 20000 in
theorem v_X9_nextCut_21 {g : zGG} {Q : Int → zMem → Prop} {d : zMem} {x1 : Int} {x2 : Int} {x3 : Int} (h : ((inR x3) ∧ (60 ≤ x3 → Ev g M_X9_putBack FUL FUL [zR 153] d (fun _ d1 => Q x2 d1)) ∧ (x3 < 60 → ((inR x2) ∧ (x2 ≠ (-6) → Ev g M_X9_putBack FUL FUL [zR 153] d (fun _ d2 => Q x2 d2)) ∧ (x2 = (-6) → Ev g M_X9_goOn FUL FUL [zR 153] d (fun v1 d3 => ((inR v1) ∧ (v1 ≠ 0 → ((inR x1) ∧ (x1 ≠ 0 → (Fr g (eM g M_X9_nextCut FUL FUL Q) M_X9_nextCut FUL 21 [some (zR 153), some (zI x1), some (zI v1), some (zI (x3 + 1)), none] [] d3)) ∧ (x1 = 0 → (Fr g (eM g M_X9_nextCut FUL FUL Q) M_X9_nextCut FUL 21 [some (zR 153), some (zI x1), some (zI x3), some (zI (x3 + 1)), none] [] d3)))) ∧ (v1 = 0 → (Fr g (eM g M_X9_nextCut FUL FUL Q) M_X9_nextCut FUL 21 [some (zR 153), some (zI x1), some (zI (-6)), some (zI (x3 + 1)), none] [] d3))))))))) : Fr g (eM g M_X9_nextCut FUL FUL Q) M_X9_nextCut FUL 21 [some (zR 153), some (zI x1), some (zI x2), some (zI x3), none] [] d := by
  refine z_iload_n (i := 3) dX9_nextCut_21 rfl rfl ?_
  refine z_bipush dX9_nextCut_22 (by decide +kernel) ?_
  refine zb_icmp_ge (tgt := 66) dX9_nextCut_24 (by decide) ⟨h.1, by decide⟩ ⟨fun c => ?_, fun c => ?_⟩
  · replace h := h.2.1 c
    refine z_aloadR_n (i := 0) dX9_nextCut_66 rfl rfl ?_
    refine z_callVv (k' := M_X9_putBack) (As := []) (st := []) dX9_nextCut_67 rfl ly153 (by decide) rfl (show 153 < 166 by decide) wm_X9_173 ok_X9_putBack okV_X9_putBack rfl (zroom_self (by decide) (by decide)) (Nat.le_of_ble_eq_true rfl) (Nat.le_refl _) rfl (Ev_mono h (fun _ d1 h => ?_))
    refine z_iload_n (i := 2) dX9_nextCut_70 rfl rfl ?_
    exact zret_i rfl dX9_nextCut_71 h
  · replace h := h.2.2 c
    refine z_iload_n (i := 2) dX9_nextCut_27 rfl rfl ?_
    refine z_bipush dX9_nextCut_28 (by decide +kernel) ?_
    refine zb_icmp_ne (tgt := 66) dX9_nextCut_30 (by decide) ⟨h.1, by decide⟩ ⟨fun c => ?_, fun c => ?_⟩
    · replace h := h.2.1 c
      refine z_aloadR_n (i := 0) dX9_nextCut_66 rfl rfl ?_
      refine z_callVv (k' := M_X9_putBack) (As := []) (st := []) dX9_nextCut_67 rfl ly153 (by decide) rfl (show 153 < 166 by decide) wm_X9_173 ok_X9_putBack okV_X9_putBack rfl (zroom_self (by decide) (by decide)) (Nat.le_of_ble_eq_true rfl) (Nat.le_refl _) rfl (Ev_mono h (fun _ d2 h => ?_))
      refine z_iload_n (i := 2) dX9_nextCut_70 rfl rfl ?_
      exact zret_i rfl dX9_nextCut_71 h
    · replace h := h.2.2 c
      refine z_aloadR_n (i := 0) dX9_nextCut_33 rfl rfl ?_
      refine z_callVi (k' := M_X9_goOn) (As := []) (st := []) dX9_nextCut_34 rfl ly153 (by decide) rfl (show 153 < 166 by decide) wm_X9_149 ok_X9_goOn okV_X9_goOn rfl (zroom_self (by decide) (by decide)) (Nat.le_of_ble_eq_true rfl) (Nat.le_refl _) rfl (Ev_mono h (fun v1 d3 h => ?_))
      refine z_istore (i := 4) (ls2 := [some (zR 153), some (zI x1), some (zI x2), some (zI x3), some (zI v1)]) dX9_nextCut_37 (by decide) rfl ?_
      refine z_iload (i := 4) dX9_nextCut_39 rfl ?_
      refine zb_if_ne (tgt := 49) dX9_nextCut_41 (by decide) h.1 ⟨fun c => ?_, fun c => ?_⟩
      · replace h := h.2.1 c
        refine z_iload_n (i := 1) dX9_nextCut_49 rfl rfl ?_
        refine zb_if_ne (tgt := 57) dX9_nextCut_50 (by decide) h.1 ⟨fun c => ?_, fun c => ?_⟩
        · replace h := h.2.1 c
          refine z_iload (i := 4) dX9_nextCut_57 rfl ?_
          refine z_istore_n (i := 2) (ls2 := [some (zR 153), some (zI x1), some (zI v1), some (zI x3), some (zI v1)]) dX9_nextCut_59 rfl (by decide) rfl ?_
          refine z_iinc (i := 3) (ls2 := [some (zR 153), some (zI x1), some (zI v1), some (zI (x3 + 1)), some (zI v1)]) dX9_nextCut_60 (by decide) rfl rfl ?_
          refine z_goto (tgt := 21) dX9_nextCut_63 (by decide) ?_
          exact Fr_weak (ls2 := [some (zR 153), some (zI x1), some (zI v1), some (zI (x3 + 1)), none]) (by exact ⟨Or.inr rfl, Or.inr rfl, Or.inr rfl, Or.inr rfl, Or.inl rfl, trivial⟩) h
        · replace h := h.2.2 c
          refine z_iload_n (i := 3) dX9_nextCut_53 rfl rfl ?_
          refine z_goto (tgt := 59) dX9_nextCut_54 (by decide) ?_
          refine z_istore_n (i := 2) (ls2 := [some (zR 153), some (zI x1), some (zI x3), some (zI x3), some (zI v1)]) dX9_nextCut_59 rfl (by decide) rfl ?_
          refine z_iinc (i := 3) (ls2 := [some (zR 153), some (zI x1), some (zI x3), some (zI (x3 + 1)), some (zI v1)]) dX9_nextCut_60 (by decide) rfl rfl ?_
          refine z_goto (tgt := 21) dX9_nextCut_63 (by decide) ?_
          exact Fr_weak (ls2 := [some (zR 153), some (zI x1), some (zI x3), some (zI (x3 + 1)), none]) (by exact ⟨Or.inr rfl, Or.inr rfl, Or.inr rfl, Or.inr rfl, Or.inl rfl, trivial⟩) h
      · replace h := h.2.2 c
        refine z_bipush dX9_nextCut_44 (by decide +kernel) ?_
        refine z_goto (tgt := 59) dX9_nextCut_46 (by decide) ?_
        refine z_istore_n (i := 2) (ls2 := [some (zR 153), some (zI x1), some (zI (-6)), some (zI x3), some (zI v1)]) dX9_nextCut_59 rfl (by decide) rfl ?_
        refine z_iinc (i := 3) (ls2 := [some (zR 153), some (zI x1), some (zI (-6)), some (zI (x3 + 1)), some (zI v1)]) dX9_nextCut_60 (by decide) rfl rfl ?_
        refine z_goto (tgt := 21) dX9_nextCut_63 (by decide) ?_
        exact Fr_weak (ls2 := [some (zR 153), some (zI x1), some (zI (-6)), some (zI (x3 + 1)), none]) (by exact ⟨Or.inr rfl, Or.inr rfl, Or.inr rfl, Or.inr rfl, Or.inl rfl, trivial⟩) h
set_option maxRecDepth 20000 in
theorem v_X9_taken_0 {g : zGG} {Q : Int → zMem → Prop} {d : zMem} {x1 : Int} {x2 : Int}  (h : Ev g M_X9_isCell FUL FUL [zI x1, zI x2] d (fun v1 d1 => ((inR v1) ∧ (v1 ≠ 0 → Ev g M_X9_numberOf FUL FUL [zR 153, zI ((20 * x2) + x1)] d1 (fun v2 d2 => ((inR v2) ∧ (v2 = (-6) → Ev g M_X9_putAside FUL FUL [zR 153] d2 (fun _ d3 => ∀ d4, d4 = mu d3 153 13 ((20 * x2) + x1) → ∀ d5, d5 = mu d4 153 14 0 → (Fr g (eM g M_X9_taken FUL FUL Q) M_X9_taken FUL 51 [some (zR 153), some (zI x1), some (zI x2), some (zI ((20 * x2) + x1)), some (zI (-6)), some (zI 0), none] [] d5))) ∧ (v2 ≠ (-6) → Q (-6) d2)))) ∧ (v1 = 0 → Q (-1) d1)))) : Fr g (eM g M_X9_taken FUL FUL Q) M_X9_taken FUL 0 [some (zR 153), some (zI x1), some (zI x2), none, none, none, none] [] d := by
  refine z_iload_n (i := 1) dX9_taken_0 rfl rfl ?_
  refine z_iload_n (i := 2) dX9_taken_1 rfl rfl ?_
  refine z_callS (k' := M_X9_isCell) (As := [zI x1, zI x2]) (st := []) dX9_taken_2 rfl wm_X9_58 ok_X9_isCell okS_X9_isCell rfl (zroom_self (by decide) (by decide)) (Nat.le_of_ble_eq_true rfl) (Nat.le_refl _) (zEnd_i (Nat.le_refl _) rfl (fun _ _ q => q)) (Ev_mono h (fun v1 d1 h => ?_))
  refine zb_if_ne (tgt := 10) dX9_taken_5 (by decide) h.1 ⟨fun c => ?_, fun c => ?_⟩
  · replace h := h.2.1 c
    refine z_bipush dX9_taken_10 (by decide +kernel) ?_
    refine z_iload_n (i := 2) dX9_taken_12 rfl rfl ?_
    refine z_imul dX9_taken_13 ?_
    refine z_iload_n (i := 1) dX9_taken_14 rfl rfl ?_
    refine z_iadd dX9_taken_15 ?_
    refine z_istore_n (i := 3) (ls2 := [some (zR 153), some (zI x1), some (zI x2), some (zI ((20 * x2) + x1)), none, none, none]) dX9_taken_16 rfl (by decide) rfl ?_
    refine z_aloadR_n (i := 0) dX9_taken_17 rfl rfl ?_
    refine z_iload_n (i := 3) dX9_taken_18 rfl rfl ?_
    refine z_callVi (k' := M_X9_numberOf) (As := [zI ((20 * x2) + x1)]) (st := []) dX9_taken_19 rfl ly153 (by decide) rfl (show 153 < 166 by decide) wm_X9_142 ok_X9_numberOf okV_X9_numberOf rfl (zroom_self (by decide) (by decide)) (Nat.le_of_ble_eq_true rfl) (Nat.le_refl _) rfl (Ev_mono h (fun v2 d2 h => ?_))
    refine z_bipush dX9_taken_22 (by decide +kernel) ?_
    refine zb_icmp_eq (tgt := 30) dX9_taken_24 (by decide) ⟨h.1, by decide⟩ ⟨fun c => ?_, fun c => ?_⟩
    · replace h := h.2.1 c
      refine z_aloadR_n (i := 0) dX9_taken_30 rfl rfl ?_
      refine z_callVv (k' := M_X9_putAside) (As := []) (st := []) dX9_taken_31 rfl ly153 (by decide) rfl (show 153 < 166 by decide) wm_X9_170 ok_X9_putAside okV_X9_putAside rfl (zroom_self (by decide) (by decide)) (Nat.le_of_ble_eq_true rfl) (Nat.le_refl _) rfl (Ev_mono h (fun _ d3 h => ?_))
      refine z_aloadR_n (i := 0) dX9_taken_34 rfl rfl ?_
      refine z_iload_n (i := 3) dX9_taken_35 rfl rfl ?_
      refine z_putI 9 13 (idx := 90) ly153 (by decide) (by decide) rfl (show 153 < 166 by decide) rfl wf_X9_90 dX9_taken_36 (Or.inl rfl) ?_
      generalize hd4 : mu d3 153 ((13 : Nat) : Int) ((20 * x2) + x1) = d4
      replace hd4 : d4 = mu d3 153 13 ((20 * x2) + x1) := hd4.symm
      replace h := h d4 hd4
      refine z_aloadR_n (i := 0) dX9_taken_39 rfl rfl ?_
      refine z_iconst dX9_taken_40 ?_
      refine z_putI 9 14 (idx := 86) ly153 (by decide) (by decide) rfl (show 153 < 166 by decide) rfl wf_X9_86 dX9_taken_41 (Or.inr ⟨rfl, by decide⟩) ?_
      generalize hd5 : mu d4 153 ((14 : Nat) : Int) 0 = d5
      replace hd5 : d5 = mu d4 153 14 0 := hd5.symm
      replace h := h d5 hd5
      refine z_bipush dX9_taken_44 (by decide +kernel) ?_
      refine z_istore (i := 4) (ls2 := [some (zR 153), some (zI x1), some (zI x2), some (zI ((20 * x2) + x1)), some (zI (-6)), none, none]) dX9_taken_46 (by decide) rfl ?_
      refine z_iconst dX9_taken_48 ?_
      refine z_istore (i := 5) (ls2 := [some (zR 153), some (zI x1), some (zI x2), some (zI ((20 * x2) + x1)), some (zI (-6)), some (zI 0), none]) dX9_taken_49 (by decide) rfl ?_
      exact h
    · replace h := h.2.2 c
      refine z_bipush dX9_taken_27 (by decide +kernel) ?_
      exact zret_i rfl dX9_taken_29 h
  · replace h := h.2.2 c
    refine z_iconst dX9_taken_8 ?_
    exact zret_i rfl dX9_taken_9 h
theorem e_X9_taken {g : zGG} {Q : Int → zMem → Prop} {d : zMem} {x1 : Int} {x2 : Int} (h : Ev g M_X9_isCell FUL FUL [zI x1, zI x2] d (fun v1 d1 => ((inR v1) ∧ (v1 ≠ 0 → Ev g M_X9_numberOf FUL FUL [zR 153, zI ((20 * x2) + x1)] d1 (fun v2 d2 => ((inR v2) ∧ (v2 = (-6) → Ev g M_X9_putAside FUL FUL [zR 153] d2 (fun _ d3 => ∀ d4, d4 = mu d3 153 13 ((20 * x2) + x1) → ∀ d5, d5 = mu d4 153 14 0 → (Fr g (eM g M_X9_taken FUL FUL Q) M_X9_taken FUL 51 [some (zR 153), some (zI x1), some (zI x2), some (zI ((20 * x2) + x1)), some (zI (-6)), some (zI 0), none] [] d5))) ∧ (v2 ≠ (-6) → Q (-6) d2)))) ∧ (v1 = 0 → Q (-1) d1)))) : Ev g M_X9_taken FUL FUL [zR 153, zI x1, zI x2] d Q :=
  Ev_of (by decide +kernel) (Nat.le_of_ble_eq_true rfl) (v_X9_taken_0  h)
set_option maxRecDepth 20000 in
theorem v_X9_taken_51 {g : zGG} {Q : Int → zMem → Prop} {d : zMem} {x1 : Int} {x2 : Int} {x3 : Int} {x4 : Int} {x5 : Int} (h : ((inR x5) ∧ (60 ≤ x5 → Ev g M_X9_putBack FUL FUL [zR 153] d (fun _ d1 => Q x4 d1)) ∧ (x5 < 60 → ((inR x4) ∧ (x4 ≠ (-6) → Ev g M_X9_putBack FUL FUL [zR 153] d (fun _ d2 => Q x4 d2)) ∧ (x4 = (-6) → Ev g M_X9_goOn FUL FUL [zR 153] d (fun v1 d3 => ((inR (d3 153 14)) ∧ ((d3 153 14) = 0 → (Fr g (eM g M_X9_taken FUL FUL Q) M_X9_taken FUL 51 [some (zR 153), some (zI x1), some (zI x2), some (zI x3), some (zI (-6)), some (zI (x5 + 1)), none] [] d3)) ∧ ((d3 153 14) ≠ 0 → (Fr g (eM g M_X9_taken FUL FUL Q) M_X9_taken FUL 51 [some (zR 153), some (zI x1), some (zI x2), some (zI x3), some (zI x5), some (zI (x5 + 1)), none] [] d3))))))))) : Fr g (eM g M_X9_taken FUL FUL Q) M_X9_taken FUL 51 [some (zR 153), some (zI x1), some (zI x2), some (zI x3), some (zI x4), some (zI x5), none] [] d := by
  refine z_iload (i := 5) dX9_taken_51 rfl ?_
  refine z_bipush dX9_taken_53 (by decide +kernel) ?_
  refine zb_icmp_ge (tgt := 93) dX9_taken_55 (by decide) ⟨h.1, by decide⟩ ⟨fun c => ?_, fun c => ?_⟩
  · replace h := h.2.1 c
    refine z_aloadR_n (i := 0) dX9_taken_93 rfl rfl ?_
    refine z_callVv (k' := M_X9_putBack) (As := []) (st := []) dX9_taken_94 rfl ly153 (by decide) rfl (show 153 < 166 by decide) wm_X9_173 ok_X9_putBack okV_X9_putBack rfl (zroom_self (by decide) (by decide)) (Nat.le_of_ble_eq_true rfl) (Nat.le_refl _) rfl (Ev_mono h (fun _ d1 h => ?_))
    refine z_iload (i := 4) dX9_taken_97 rfl ?_
    exact zret_i rfl dX9_taken_99 h
  · replace h := h.2.2 c
    refine z_iload (i := 4) dX9_taken_58 rfl ?_
    refine z_bipush dX9_taken_60 (by decide +kernel) ?_
    refine zb_icmp_ne (tgt := 93) dX9_taken_62 (by decide) ⟨h.1, by decide⟩ ⟨fun c => ?_, fun c => ?_⟩
    · replace h := h.2.1 c
      refine z_aloadR_n (i := 0) dX9_taken_93 rfl rfl ?_
      refine z_callVv (k' := M_X9_putBack) (As := []) (st := []) dX9_taken_94 rfl ly153 (by decide) rfl (show 153 < 166 by decide) wm_X9_173 ok_X9_putBack okV_X9_putBack rfl (zroom_self (by decide) (by decide)) (Nat.le_of_ble_eq_true rfl) (Nat.le_refl _) rfl (Ev_mono h (fun _ d2 h => ?_))
      refine z_iload (i := 4) dX9_taken_97 rfl ?_
      exact zret_i rfl dX9_taken_99 h
    · replace h := h.2.2 c
      refine z_aloadR_n (i := 0) dX9_taken_65 rfl rfl ?_
      refine z_callVi (k' := M_X9_goOn) (As := []) (st := []) dX9_taken_66 rfl ly153 (by decide) rfl (show 153 < 166 by decide) wm_X9_149 ok_X9_goOn okV_X9_goOn rfl (zroom_self (by decide) (by decide)) (Nat.le_of_ble_eq_true rfl) (Nat.le_refl _) rfl (Ev_mono h (fun v1 d3 h => ?_))
      refine z_istore (i := 6) (ls2 := [some (zR 153), some (zI x1), some (zI x2), some (zI x3), some (zI x4), some (zI x5), some (zI v1)]) dX9_taken_69 (by decide) rfl ?_
      refine z_aloadR_n (i := 0) dX9_taken_71 rfl rfl ?_
      refine z_getI' 9 14 (idx := 86) (fv := (d3 153 14)) ly153 (by decide) (by decide) rfl (show 153 < 166 by decide) wf_X9_86 dX9_taken_72 rfl ?_
      refine zb_if_eq (tgt := 83) dX9_taken_75 (by decide) h.1 ⟨fun c => ?_, fun c => ?_⟩
      · replace h := h.2.1 c
        refine z_bipush dX9_taken_83 (by decide +kernel) ?_
        refine z_istore (i := 4) (ls2 := [some (zR 153), some (zI x1), some (zI x2), some (zI x3), some (zI (-6)), some (zI x5), some (zI v1)]) dX9_taken_85 (by decide) rfl ?_
        refine z_iinc (i := 5) (ls2 := [some (zR 153), some (zI x1), some (zI x2), some (zI x3), some (zI (-6)), some (zI (x5 + 1)), some (zI v1)]) dX9_taken_87 (by decide) rfl rfl ?_
        refine z_goto (tgt := 51) dX9_taken_90 (by decide) ?_
        exact Fr_weak (ls2 := [some (zR 153), some (zI x1), some (zI x2), some (zI x3), some (zI (-6)), some (zI (x5 + 1)), none]) (by exact ⟨Or.inr rfl, Or.inr rfl, Or.inr rfl, Or.inr rfl, Or.inr rfl, Or.inr rfl, Or.inl rfl, trivial⟩) h
      · replace h := h.2.2 c
        refine z_iload (i := 5) dX9_taken_78 rfl ?_
        refine z_goto (tgt := 85) dX9_taken_80 (by decide) ?_
        refine z_istore (i := 4) (ls2 := [some (zR 153), some (zI x1), some (zI x2), some (zI x3), some (zI x5), some (zI x5), some (zI v1)]) dX9_taken_85 (by decide) rfl ?_
        refine z_iinc (i := 5) (ls2 := [some (zR 153), some (zI x1), some (zI x2), some (zI x3), some (zI x5), some (zI (x5 + 1)), some (zI v1)]) dX9_taken_87 (by decide) rfl rfl ?_
        refine z_goto (tgt := 51) dX9_taken_90 (by decide) ?_
        exact Fr_weak (ls2 := [some (zR 153), some (zI x1), some (zI x2), some (zI x3), some (zI x5), some (zI (x5 + 1)), none]) (by exact ⟨Or.inr rfl, Or.inr rfl, Or.inr rfl, Or.inr rfl, Or.inr rfl, Or.inr rfl, Or.inl rfl, trivial⟩) h
set_option maxRecDepth 20000 in
theorem v_X9_put_0 {g : zGG} {Q : Int → zMem → Prop} {d : zMem} {n1 : Int}  (h : (Fr g (eM g M_X9_put FUL FUL Q) M_X9_put FUL 8 [some (zR 153), some (zL n1), none, some (zI 0), some (zI 0), some (zI 0), none, none] [] d)) : Fr g (eM g M_X9_put FUL FUL Q) M_X9_put FUL 0 [some (zR 153), some (zL n1), none, none, none, none, none, none] [] d := by
  refine z_iconst dX9_put_0 ?_
  refine z_istore_n (i := 3) (ls2 := [some (zR 153), some (zL n1), none, some (zI 0), none, none, none, none]) dX9_put_1 rfl (by decide) rfl ?_
  refine z_iconst dX9_put_2 ?_
  refine z_istore (i := 4) (ls2 := [some (zR 153), some (zL n1), none, some (zI 0), some (zI 0), none, none, none]) dX9_put_3 (by decide) rfl ?_
  refine z_iconst dX9_put_5 ?_
  refine z_istore (i := 5) (ls2 := [some (zR 153), some (zL n1), none, some (zI 0), some (zI 0), some (zI 0), none, none]) dX9_put_6 (by decide) rfl ?_
  exact h
theorem e_X9_put {g : zGG} {Q : Int → zMem → Prop} {d : zMem} {n1 : Int} (h : (Fr g (eM g M_X9_put FUL FUL Q) M_X9_put FUL 8 [some (zR 153), some (zL n1), none, some (zI 0), some (zI 0), some (zI 0), none, none] [] d)) : Ev g M_X9_put FUL FUL [zR 153, zL n1] d Q :=
  Ev_of (by decide +kernel) (Nat.le_of_ble_eq_true rfl) (v_X9_put_0  h)
set_option maxRecDepth 20000 in
theorem v_X9_put_8 {g : zGG} {Q : Int → zMem → Prop} {d : zMem} {n1 : Int} {x3 : Int} {x4 : Int} {x5 : Int} (h : ((inR x5) ∧ (8 ≤ x5 → ((inR x4) ∧ (x4 = 0 → ((inR ((d 153 7) + x3)) ∧ (((d 153 7) + x3) ≤ 64 → (Fr g (eM g M_X9_put FUL FUL Q) M_X9_put FUL 126 [some (zR 153), some (zL n1), none, some (zI x3), some (zI x4), some (zI 0), none, none] [] d)) ∧ (64 < ((d 153 7) + x3) → Q (-4) d))) ∧ (x4 ≠ 0 → Q (-2) d))) ∧ (x5 < 8 → ((0 ≤ n1 ∧ n1 < 18446744073709551616) ∧ 0 ≤ (8 * x5) ∧ (8 * x5) < 64) ∧ (0 ≤ (n1 / 2 ^ ((8 * x5)).toNat) ∧ (n1 / 2 ^ ((8 * x5)).toNat) < 18446744073709551616) ∧ ((inR x5) ∧ (x5 ≤ 0 → ((inR x4) ∧ (x4 ≠ 0 → (Fr g (eM g M_X9_put FUL FUL Q) M_X9_put FUL 8 [some (zR 153), some (zL n1), none, some (zI (x3 + 1)), some (zI 1), some (zI (x5 + 1)), none, none] [] d)) ∧ (x4 = 0 → Ev g M_X9_in FUL FUL [zI ((n1 / 2 ^ ((8 * x5)).toNat) % 256), zI 33, zI 126] d (fun v1 d1 => ((inR v1) ∧ (v1 ≠ 0 → (Fr g (eM g M_X9_put FUL FUL Q) M_X9_put FUL 8 [some (zR 153), some (zL n1), none, some (zI (x3 + 1)), some (zI 0), some (zI (x5 + 1)), none, none] [] d1)) ∧ (v1 = 0 → (Fr g (eM g M_X9_put FUL FUL Q) M_X9_put FUL 8 [some (zR 153), some (zL n1), none, some (zI (x3 + 1)), some (zI 1), some (zI (x5 + 1)), none, none] [] d1))))))) ∧ (0 < x5 → ((0 ≤ n1 ∧ n1 < 18446744073709551616) ∧ 0 ≤ (8 * x5) ∧ (8 * x5) < 64) ∧ ((0 ≤ (n1 / 2 ^ ((8 * x5)).toNat) ∧ (n1 / 2 ^ ((8 * x5)).toNat) < 18446744073709551616) ∧ ((n1 / 2 ^ ((8 * x5)).toNat) = 0 → ((inR x4) ∧ (x4 ≠ 0 → (Fr g (eM g M_X9_put FUL FUL Q) M_X9_put FUL 8 [some (zR 153), some (zL n1), none, some (zI (x3 + 0)), some (zI 1), some (zI (x5 + 1)), none, none] [] d)) ∧ (x4 = 0 → (Fr g (eM g M_X9_put FUL FUL Q) M_X9_put FUL 8 [some (zR 153), some (zL n1), none, some (zI (x3 + 0)), some (zI 0), some (zI (x5 + 1)), none, none] [] d)))) ∧ ((n1 / 2 ^ ((8 * x5)).toNat) ≠ 0 → ((inR x4) ∧ (x4 ≠ 0 → (Fr g (eM g M_X9_put FUL FUL Q) M_X9_put FUL 8 [some (zR 153), some (zL n1), none, some (zI (x3 + 1)), some (zI 1), some (zI (x5 + 1)), none, none] [] d)) ∧ (x4 = 0 → Ev g M_X9_in FUL FUL [zI ((n1 / 2 ^ ((8 * x5)).toNat) % 256), zI 33, zI 126] d (fun v2 d2 => ((inR v2) ∧ (v2 ≠ 0 → (Fr g (eM g M_X9_put FUL FUL Q) M_X9_put FUL 8 [some (zR 153), some (zL n1), none, some (zI (x3 + 1)), some (zI 0), some (zI (x5 + 1)), none, none] [] d2)) ∧ (v2 = 0 → (Fr g (eM g M_X9_put FUL FUL Q) M_X9_put FUL 8 [some (zR 153), some (zL n1), none, some (zI (x3 + 1)), some (zI 1), some (zI (x5 + 1)), none, none] [] d2))))))))))))) : Fr g (eM g M_X9_put FUL FUL Q) M_X9_put FUL 8 [some (zR 153), some (zL n1), none, some (zI x3), some (zI x4), some (zI x5), none, none] [] d := by
  refine z_iload (i := 5) dX9_put_8 rfl ?_
  refine z_bipush dX9_put_10 (by decide +kernel) ?_
  refine zb_icmp_ge (tgt := 101) dX9_put_12 (by decide) ⟨h.1, by decide⟩ ⟨fun c => ?_, fun c => ?_⟩
  · replace h := h.2.1 c
    refine z_iload (i := 4) dX9_put_101 rfl ?_
    refine zb_if_eq (tgt := 109) dX9_put_103 (by decide) h.1 ⟨fun c => ?_, fun c => ?_⟩
    · replace h := h.2.1 c
      refine z_aloadR_n (i := 0) dX9_put_109 rfl rfl ?_
      refine z_getI' 9 7 (idx := 167) (fv := (d 153 7)) ly153 (by decide) (by decide) rfl (show 153 < 166 by decide) wf_X9_167 dX9_put_110 rfl ?_
      refine z_iload_n (i := 3) dX9_put_113 rfl rfl ?_
      refine z_iadd dX9_put_114 ?_
      refine z_bipush dX9_put_115 (by decide +kernel) ?_
      refine zb_icmp_le (tgt := 123) dX9_put_117 (by decide) ⟨h.1, by decide⟩ ⟨fun c => ?_, fun c => ?_⟩
      · replace h := h.2.1 c
        refine z_iconst dX9_put_123 ?_
        refine z_istore (i := 5) (ls2 := [some (zR 153), some (zL n1), none, some (zI x3), some (zI x4), some (zI 0), none, none]) dX9_put_124 (by decide) rfl ?_
        exact h
      · replace h := h.2.2 c
        refine z_bipush dX9_put_120 (by decide +kernel) ?_
        exact zret_i rfl dX9_put_122 h
    · replace h := h.2.2 c
      refine z_bipush dX9_put_106 (by decide +kernel) ?_
      exact zret_i rfl dX9_put_108 h
  · replace h := h.2.2 c
    refine z_lload_n (i := 1) dX9_put_15 rfl rfl ?_
    refine z_bipush dX9_put_16 (by decide +kernel) ?_
    refine z_iload (i := 5) dX9_put_18 rfl ?_
    refine z_imul dX9_put_20 ?_
    refine z_lushr h.1.1 h.1.2 dX9_put_21 ?_
    replace h := h.2
    refine z_ldc2 (n := 255) (v := 255) (by decide +kernel) wl_X9_176 dX9_put_22 ?_
    refine z_land (l_mask8 h.1) dX9_put_25 ?_
    replace h := h.2
    refine z_l2i dX9_put_26 ?_
    refine z_istore (i := 6) (ls2 := [some (zR 153), some (zL n1), none, some (zI x3), some (zI x4), some (zI x5), some (zI ((n1 / 2 ^ ((8 * x5)).toNat) % 256)), none]) dX9_put_27 (by decide) rfl ?_
    refine z_iload (i := 5) dX9_put_29 rfl ?_
    refine zb_if_le (tgt := 50) dX9_put_31 (by decide) h.1 ⟨fun c => ?_, fun c => ?_⟩
    · replace h := h.2.1 c
      refine z_iconst dX9_put_50 ?_
      refine z_istore (i := 7) (ls2 := [some (zR 153), some (zL n1), none, some (zI x3), some (zI x4), some (zI x5), some (zI ((n1 / 2 ^ ((8 * x5)).toNat) % 256)), some (zI 0)]) dX9_put_51 (by decide) rfl ?_
      refine z_iload (i := 4) dX9_put_53 rfl ?_
      refine zb_if_ne (tgt := 75) dX9_put_55 (by decide) h.1 ⟨fun c => ?_, fun c => ?_⟩
      · replace h := h.2.1 c
        refine z_iconst dX9_put_75 ?_
        refine z_goto (tgt := 80) dX9_put_76 (by decide) ?_
        refine z_istore (i := 4) (ls2 := [some (zR 153), some (zL n1), none, some (zI x3), some (zI 1), some (zI x5), some (zI ((n1 / 2 ^ ((8 * x5)).toNat) % 256)), some (zI 0)]) dX9_put_80 (by decide) rfl ?_
        refine z_iload_n (i := 3) dX9_put_82 rfl rfl ?_
        refine z_iload (i := 7) dX9_put_83 rfl ?_
        refine zb_if_eq (tgt := 92) dX9_put_85 (by decide) (by decide) ⟨fun _ => ?_, fun q => absurd q (by decide)⟩
        refine z_iconst dX9_put_92 ?_
        refine z_iadd dX9_put_93 ?_
        refine z_istore_n (i := 3) (ls2 := [some (zR 153), some (zL n1), none, some (zI (x3 + 1)), some (zI 1), some (zI x5), some (zI ((n1 / 2 ^ ((8 * x5)).toNat) % 256)), some (zI 0)]) dX9_put_94 rfl (by decide) rfl ?_
        refine z_iinc (i := 5) (ls2 := [some (zR 153), some (zL n1), none, some (zI (x3 + 1)), some (zI 1), some (zI (x5 + 1)), some (zI ((n1 / 2 ^ ((8 * x5)).toNat) % 256)), some (zI 0)]) dX9_put_95 (by decide) rfl rfl ?_
        refine z_goto (tgt := 8) dX9_put_98 (by decide) ?_
        exact Fr_weak (ls2 := [some (zR 153), some (zL n1), none, some (zI (x3 + 1)), some (zI 1), some (zI (x5 + 1)), none, none]) (by exact ⟨Or.inr rfl, Or.inr rfl, Or.inl rfl, Or.inr rfl, Or.inr rfl, Or.inr rfl, Or.inl rfl, Or.inl rfl, trivial⟩) h
      · replace h := h.2.2 c
        refine z_iload (i := 7) dX9_put_58 rfl ?_
        refine zb_if_ne (tgt := 79) dX9_put_60 (by decide) (by decide) ⟨fun q => absurd q (by decide), fun _ => ?_⟩
        refine z_iload (i := 6) dX9_put_63 rfl ?_
        refine z_bipush dX9_put_65 (by decide +kernel) ?_
        refine z_bipush dX9_put_67 (by decide +kernel) ?_
        refine z_callS (k' := M_X9_in) (As := [zI ((n1 / 2 ^ ((8 * x5)).toNat) % 256), zI 33, zI 126]) (st := []) dX9_put_69 rfl wm_X9_50 ok_X9_in okS_X9_in rfl (zroom_self (by decide) (by decide)) (Nat.le_of_ble_eq_true rfl) (Nat.le_refl _) (zEnd_i (Nat.le_refl _) rfl (fun _ _ q => q)) (Ev_mono h (fun v1 d1 h => ?_))
        refine zb_if_ne (tgt := 79) dX9_put_72 (by decide) h.1 ⟨fun c => ?_, fun c => ?_⟩
        · replace h := h.2.1 c
          refine z_iconst dX9_put_79 ?_
          refine z_istore (i := 4) (ls2 := [some (zR 153), some (zL n1), none, some (zI x3), some (zI 0), some (zI x5), some (zI ((n1 / 2 ^ ((8 * x5)).toNat) % 256)), some (zI 0)]) dX9_put_80 (by decide) rfl ?_
          refine z_iload_n (i := 3) dX9_put_82 rfl rfl ?_
          refine z_iload (i := 7) dX9_put_83 rfl ?_
          refine zb_if_eq (tgt := 92) dX9_put_85 (by decide) (by decide) ⟨fun _ => ?_, fun q => absurd q (by decide)⟩
          refine z_iconst dX9_put_92 ?_
          refine z_iadd dX9_put_93 ?_
          refine z_istore_n (i := 3) (ls2 := [some (zR 153), some (zL n1), none, some (zI (x3 + 1)), some (zI 0), some (zI x5), some (zI ((n1 / 2 ^ ((8 * x5)).toNat) % 256)), some (zI 0)]) dX9_put_94 rfl (by decide) rfl ?_
          refine z_iinc (i := 5) (ls2 := [some (zR 153), some (zL n1), none, some (zI (x3 + 1)), some (zI 0), some (zI (x5 + 1)), some (zI ((n1 / 2 ^ ((8 * x5)).toNat) % 256)), some (zI 0)]) dX9_put_95 (by decide) rfl rfl ?_
          refine z_goto (tgt := 8) dX9_put_98 (by decide) ?_
          exact Fr_weak (ls2 := [some (zR 153), some (zL n1), none, some (zI (x3 + 1)), some (zI 0), some (zI (x5 + 1)), none, none]) (by exact ⟨Or.inr rfl, Or.inr rfl, Or.inl rfl, Or.inr rfl, Or.inr rfl, Or.inr rfl, Or.inl rfl, Or.inl rfl, trivial⟩) h
        · replace h := h.2.2 c
          refine z_iconst dX9_put_75 ?_
          refine z_goto (tgt := 80) dX9_put_76 (by decide) ?_
          refine z_istore (i := 4) (ls2 := [some (zR 153), some (zL n1), none, some (zI x3), some (zI 1), some (zI x5), some (zI ((n1 / 2 ^ ((8 * x5)).toNat) % 256)), some (zI 0)]) dX9_put_80 (by decide) rfl ?_
          refine z_iload_n (i := 3) dX9_put_82 rfl rfl ?_
          refine z_iload (i := 7) dX9_put_83 rfl ?_
          refine zb_if_eq (tgt := 92) dX9_put_85 (by decide) (by decide) ⟨fun _ => ?_, fun q => absurd q (by decide)⟩
          refine z_iconst dX9_put_92 ?_
          refine z_iadd dX9_put_93 ?_
          refine z_istore_n (i := 3) (ls2 := [some (zR 153), some (zL n1), none, some (zI (x3 + 1)), some (zI 1), some (zI x5), some (zI ((n1 / 2 ^ ((8 * x5)).toNat) % 256)), some (zI 0)]) dX9_put_94 rfl (by decide) rfl ?_
          refine z_iinc (i := 5) (ls2 := [some (zR 153), some (zL n1), none, some (zI (x3 + 1)), some (zI 1), some (zI (x5 + 1)), some (zI ((n1 / 2 ^ ((8 * x5)).toNat) % 256)), some (zI 0)]) dX9_put_95 (by decide) rfl rfl ?_
          refine z_goto (tgt := 8) dX9_put_98 (by decide) ?_
          exact Fr_weak (ls2 := [some (zR 153), some (zL n1), none, some (zI (x3 + 1)), some (zI 1), some (zI (x5 + 1)), none, none]) (by exact ⟨Or.inr rfl, Or.inr rfl, Or.inl rfl, Or.inr rfl, Or.inr rfl, Or.inr rfl, Or.inl rfl, Or.inl rfl, trivial⟩) h
    · replace h := h.2.2 c
      refine z_lload_n (i := 1) dX9_put_34 rfl rfl ?_
      refine z_bipush dX9_put_35 (by decide +kernel) ?_
      refine z_iload (i := 5) dX9_put_37 rfl ?_
      refine z_imul dX9_put_39 ?_
      refine z_lushr h.1.1 h.1.2 dX9_put_40 ?_
      replace h := h.2
      refine z_lconst (v := 0) dX9_put_41 (by decide +kernel) ?_
      refine z_lcmp h.1 (by decide) dX9_put_42 ⟨fun c => ?_, fun c v hv1 hv2 => ?_⟩
      · replace h := h.2.1 c
        refine zb_if_ne (tgt := 50) dX9_put_43 (by decide) (by decide) ⟨fun q => absurd q (by decide), fun _ => ?_⟩
        refine z_iconst dX9_put_46 ?_
        refine z_goto (tgt := 51) dX9_put_47 (by decide) ?_
        refine z_istore (i := 7) (ls2 := [some (zR 153), some (zL n1), none, some (zI x3), some (zI x4), some (zI x5), some (zI ((n1 / 2 ^ ((8 * x5)).toNat) % 256)), some (zI 1)]) dX9_put_51 (by decide) rfl ?_
        refine z_iload (i := 4) dX9_put_53 rfl ?_
        refine zb_if_ne (tgt := 75) dX9_put_55 (by decide) h.1 ⟨fun c => ?_, fun c => ?_⟩
        · replace h := h.2.1 c
          refine z_iconst dX9_put_75 ?_
          refine z_goto (tgt := 80) dX9_put_76 (by decide) ?_
          refine z_istore (i := 4) (ls2 := [some (zR 153), some (zL n1), none, some (zI x3), some (zI 1), some (zI x5), some (zI ((n1 / 2 ^ ((8 * x5)).toNat) % 256)), some (zI 1)]) dX9_put_80 (by decide) rfl ?_
          refine z_iload_n (i := 3) dX9_put_82 rfl rfl ?_
          refine z_iload (i := 7) dX9_put_83 rfl ?_
          refine zb_if_eq (tgt := 92) dX9_put_85 (by decide) (by decide) ⟨fun q => absurd q (by decide), fun _ => ?_⟩
          refine z_iconst dX9_put_88 ?_
          refine z_goto (tgt := 93) dX9_put_89 (by decide) ?_
          refine z_iadd dX9_put_93 ?_
          refine z_istore_n (i := 3) (ls2 := [some (zR 153), some (zL n1), none, some (zI (x3 + 0)), some (zI 1), some (zI x5), some (zI ((n1 / 2 ^ ((8 * x5)).toNat) % 256)), some (zI 1)]) dX9_put_94 rfl (by decide) rfl ?_
          refine z_iinc (i := 5) (ls2 := [some (zR 153), some (zL n1), none, some (zI (x3 + 0)), some (zI 1), some (zI (x5 + 1)), some (zI ((n1 / 2 ^ ((8 * x5)).toNat) % 256)), some (zI 1)]) dX9_put_95 (by decide) rfl rfl ?_
          refine z_goto (tgt := 8) dX9_put_98 (by decide) ?_
          exact Fr_weak (ls2 := [some (zR 153), some (zL n1), none, some (zI (x3 + 0)), some (zI 1), some (zI (x5 + 1)), none, none]) (by exact ⟨Or.inr rfl, Or.inr rfl, Or.inl rfl, Or.inr rfl, Or.inr rfl, Or.inr rfl, Or.inl rfl, Or.inl rfl, trivial⟩) h
        · replace h := h.2.2 c
          refine z_iload (i := 7) dX9_put_58 rfl ?_
          refine zb_if_ne (tgt := 79) dX9_put_60 (by decide) (by decide) ⟨fun _ => ?_, fun q => absurd q (by decide)⟩
          refine z_iconst dX9_put_79 ?_
          refine z_istore (i := 4) (ls2 := [some (zR 153), some (zL n1), none, some (zI x3), some (zI 0), some (zI x5), some (zI ((n1 / 2 ^ ((8 * x5)).toNat) % 256)), some (zI 1)]) dX9_put_80 (by decide) rfl ?_
          refine z_iload_n (i := 3) dX9_put_82 rfl rfl ?_
          refine z_iload (i := 7) dX9_put_83 rfl ?_
          refine zb_if_eq (tgt := 92) dX9_put_85 (by decide) (by decide) ⟨fun q => absurd q (by decide), fun _ => ?_⟩
          refine z_iconst dX9_put_88 ?_
          refine z_goto (tgt := 93) dX9_put_89 (by decide) ?_
          refine z_iadd dX9_put_93 ?_
          refine z_istore_n (i := 3) (ls2 := [some (zR 153), some (zL n1), none, some (zI (x3 + 0)), some (zI 0), some (zI x5), some (zI ((n1 / 2 ^ ((8 * x5)).toNat) % 256)), some (zI 1)]) dX9_put_94 rfl (by decide) rfl ?_
          refine z_iinc (i := 5) (ls2 := [some (zR 153), some (zL n1), none, some (zI (x3 + 0)), some (zI 0), some (zI (x5 + 1)), some (zI ((n1 / 2 ^ ((8 * x5)).toNat) % 256)), some (zI 1)]) dX9_put_95 (by decide) rfl rfl ?_
          refine z_goto (tgt := 8) dX9_put_98 (by decide) ?_
          exact Fr_weak (ls2 := [some (zR 153), some (zL n1), none, some (zI (x3 + 0)), some (zI 0), some (zI (x5 + 1)), none, none]) (by exact ⟨Or.inr rfl, Or.inr rfl, Or.inl rfl, Or.inr rfl, Or.inr rfl, Or.inr rfl, Or.inl rfl, Or.inl rfl, trivial⟩) h
      · replace h := h.2.2 c
        refine zb_if_ne (tgt := 50) dX9_put_43 (by decide) hv1 ⟨fun _ => ?_, fun q => absurd q hv2⟩
        refine z_iconst dX9_put_50 ?_
        refine z_istore (i := 7) (ls2 := [some (zR 153), some (zL n1), none, some (zI x3), some (zI x4), some (zI x5), some (zI ((n1 / 2 ^ ((8 * x5)).toNat) % 256)), some (zI 0)]) dX9_put_51 (by decide) rfl ?_
        refine z_iload (i := 4) dX9_put_53 rfl ?_
        refine zb_if_ne (tgt := 75) dX9_put_55 (by decide) h.1 ⟨fun c => ?_, fun c => ?_⟩
        · replace h := h.2.1 c
          refine z_iconst dX9_put_75 ?_
          refine z_goto (tgt := 80) dX9_put_76 (by decide) ?_
          refine z_istore (i := 4) (ls2 := [some (zR 153), some (zL n1), none, some (zI x3), some (zI 1), some (zI x5), some (zI ((n1 / 2 ^ ((8 * x5)).toNat) % 256)), some (zI 0)]) dX9_put_80 (by decide) rfl ?_
          refine z_iload_n (i := 3) dX9_put_82 rfl rfl ?_
          refine z_iload (i := 7) dX9_put_83 rfl ?_
          refine zb_if_eq (tgt := 92) dX9_put_85 (by decide) (by decide) ⟨fun _ => ?_, fun q => absurd q (by decide)⟩
          refine z_iconst dX9_put_92 ?_
          refine z_iadd dX9_put_93 ?_
          refine z_istore_n (i := 3) (ls2 := [some (zR 153), some (zL n1), none, some (zI (x3 + 1)), some (zI 1), some (zI x5), some (zI ((n1 / 2 ^ ((8 * x5)).toNat) % 256)), some (zI 0)]) dX9_put_94 rfl (by decide) rfl ?_
          refine z_iinc (i := 5) (ls2 := [some (zR 153), some (zL n1), none, some (zI (x3 + 1)), some (zI 1), some (zI (x5 + 1)), some (zI ((n1 / 2 ^ ((8 * x5)).toNat) % 256)), some (zI 0)]) dX9_put_95 (by decide) rfl rfl ?_
          refine z_goto (tgt := 8) dX9_put_98 (by decide) ?_
          exact Fr_weak (ls2 := [some (zR 153), some (zL n1), none, some (zI (x3 + 1)), some (zI 1), some (zI (x5 + 1)), none, none]) (by exact ⟨Or.inr rfl, Or.inr rfl, Or.inl rfl, Or.inr rfl, Or.inr rfl, Or.inr rfl, Or.inl rfl, Or.inl rfl, trivial⟩) h
        · replace h := h.2.2 c
          refine z_iload (i := 7) dX9_put_58 rfl ?_
          refine zb_if_ne (tgt := 79) dX9_put_60 (by decide) (by decide) ⟨fun q => absurd q (by decide), fun _ => ?_⟩
          refine z_iload (i := 6) dX9_put_63 rfl ?_
          refine z_bipush dX9_put_65 (by decide +kernel) ?_
          refine z_bipush dX9_put_67 (by decide +kernel) ?_
          refine z_callS (k' := M_X9_in) (As := [zI ((n1 / 2 ^ ((8 * x5)).toNat) % 256), zI 33, zI 126]) (st := []) dX9_put_69 rfl wm_X9_50 ok_X9_in okS_X9_in rfl (zroom_self (by decide) (by decide)) (Nat.le_of_ble_eq_true rfl) (Nat.le_refl _) (zEnd_i (Nat.le_refl _) rfl (fun _ _ q => q)) (Ev_mono h (fun v2 d2 h => ?_))
          refine zb_if_ne (tgt := 79) dX9_put_72 (by decide) h.1 ⟨fun c => ?_, fun c => ?_⟩
          · replace h := h.2.1 c
            refine z_iconst dX9_put_79 ?_
            refine z_istore (i := 4) (ls2 := [some (zR 153), some (zL n1), none, some (zI x3), some (zI 0), some (zI x5), some (zI ((n1 / 2 ^ ((8 * x5)).toNat) % 256)), some (zI 0)]) dX9_put_80 (by decide) rfl ?_
            refine z_iload_n (i := 3) dX9_put_82 rfl rfl ?_
            refine z_iload (i := 7) dX9_put_83 rfl ?_
            refine zb_if_eq (tgt := 92) dX9_put_85 (by decide) (by decide) ⟨fun _ => ?_, fun q => absurd q (by decide)⟩
            refine z_iconst dX9_put_92 ?_
            refine z_iadd dX9_put_93 ?_
            refine z_istore_n (i := 3) (ls2 := [some (zR 153), some (zL n1), none, some (zI (x3 + 1)), some (zI 0), some (zI x5), some (zI ((n1 / 2 ^ ((8 * x5)).toNat) % 256)), some (zI 0)]) dX9_put_94 rfl (by decide) rfl ?_
            refine z_iinc (i := 5) (ls2 := [some (zR 153), some (zL n1), none, some (zI (x3 + 1)), some (zI 0), some (zI (x5 + 1)), some (zI ((n1 / 2 ^ ((8 * x5)).toNat) % 256)), some (zI 0)]) dX9_put_95 (by decide) rfl rfl ?_
            refine z_goto (tgt := 8) dX9_put_98 (by decide) ?_
            exact Fr_weak (ls2 := [some (zR 153), some (zL n1), none, some (zI (x3 + 1)), some (zI 0), some (zI (x5 + 1)), none, none]) (by exact ⟨Or.inr rfl, Or.inr rfl, Or.inl rfl, Or.inr rfl, Or.inr rfl, Or.inr rfl, Or.inl rfl, Or.inl rfl, trivial⟩) h
          · replace h := h.2.2 c
            refine z_iconst dX9_put_75 ?_
            refine z_goto (tgt := 80) dX9_put_76 (by decide) ?_
            refine z_istore (i := 4) (ls2 := [some (zR 153), some (zL n1), none, some (zI x3), some (zI 1), some (zI x5), some (zI ((n1 / 2 ^ ((8 * x5)).toNat) % 256)), some (zI 0)]) dX9_put_80 (by decide) rfl ?_
            refine z_iload_n (i := 3) dX9_put_82 rfl rfl ?_
            refine z_iload (i := 7) dX9_put_83 rfl ?_
            refine zb_if_eq (tgt := 92) dX9_put_85 (by decide) (by decide) ⟨fun _ => ?_, fun q => absurd q (by decide)⟩
            refine z_iconst dX9_put_92 ?_
            refine z_iadd dX9_put_93 ?_
            refine z_istore_n (i := 3) (ls2 := [some (zR 153), some (zL n1), none, some (zI (x3 + 1)), some (zI 1), some (zI x5), some (zI ((n1 / 2 ^ ((8 * x5)).toNat) % 256)), some (zI 0)]) dX9_put_94 rfl (by decide) rfl ?_
            refine z_iinc (i := 5) (ls2 := [some (zR 153), some (zL n1), none, some (zI (x3 + 1)), some (zI 1), some (zI (x5 + 1)), some (zI ((n1 / 2 ^ ((8 * x5)).toNat) % 256)), some (zI 0)]) dX9_put_95 (by decide) rfl rfl ?_
            refine z_goto (tgt := 8) dX9_put_98 (by decide) ?_
            exact Fr_weak (ls2 := [some (zR 153), some (zL n1), none, some (zI (x3 + 1)), some (zI 1), some (zI (x5 + 1)), none, none]) (by exact ⟨Or.inr rfl, Or.inr rfl, Or.inl rfl, Or.inr rfl, Or.inr rfl, Or.inr rfl, Or.inl rfl, Or.inl rfl, trivial⟩) h
set_option maxRecDepth 20000 in
theorem v_X9_put_126 {g : zGG} {Q : Int → zMem → Prop} {d : zMem} {n1 : Int} {x3 : Int} {x4 : Int} {x5 : Int} (h : ((inR x5 ∧ inR x3) ∧ (x3 ≤ x5 → ∀ d1, d1 = mu d 153 7 ((d 153 7) + x3) → Q ((d 153 7) + x3) d1) ∧ (x5 < x3 → ((0 ≤ n1 ∧ n1 < 18446744073709551616) ∧ 0 ≤ (8 * x5) ∧ (8 * x5) < 64) ∧ (0 ≤ (n1 / 2 ^ ((8 * x5)).toNat) ∧ (n1 / 2 ^ ((8 * x5)).toNat) < 18446744073709551616) ∧ (0 ≤ ((((d 153 7) + x3) - 1) - x5) ∧ ((((d 153 7) + x3) - 1) - x5) < 64) ∧ ∀ d2, d2 = mu d 159 ((((d 153 7) + x3) - 1) - x5) ((n1 / 2 ^ ((8 * x5)).toNat) % 256) → (Fr g (eM g M_X9_put FUL FUL Q) M_X9_put FUL 126 [some (zR 153), some (zL n1), none, some (zI x3), some (zI x4), some (zI (x5 + 1)), none, none] [] d2)))) : Fr g (eM g M_X9_put FUL FUL Q) M_X9_put FUL 126 [some (zR 153), some (zL n1), none, some (zI x3), some (zI x4), some (zI x5), none, none] [] d := by
  refine z_iload (i := 5) dX9_put_126 rfl ?_
  refine z_iload_n (i := 3) dX9_put_128 rfl rfl ?_
  refine zb_icmp_ge (tgt := 166) dX9_put_129 (by decide) h.1 ⟨fun c => ?_, fun c => ?_⟩
  · replace h := h.2.1 c
    refine z_aloadR_n (i := 0) dX9_put_166 rfl rfl ?_
    refine z_dup dX9_put_167 (Nat.le_of_ble_eq_true rfl) ?_
    refine z_getI' 9 7 (idx := 167) (fv := (d 153 7)) ly153 (by decide) (by decide) rfl (show 153 < 166 by decide) wf_X9_167 dX9_put_168 rfl ?_
    refine z_iload_n (i := 3) dX9_put_171 rfl rfl ?_
    refine z_iadd dX9_put_172 ?_
    refine z_putI 9 7 (idx := 167) ly153 (by decide) (by decide) rfl (show 153 < 166 by decide) rfl wf_X9_167 dX9_put_173 (Or.inl rfl) ?_
    generalize hd1 : mu d 153 ((7 : Nat) : Int) ((d 153 7) + x3) = d1
    replace hd1 : d1 = mu d 153 7 ((d 153 7) + x3) := hd1.symm
    replace h := h d1 hd1
    refine z_aloadR_n (i := 0) dX9_put_176 rfl rfl ?_
    refine z_getI' 9 7 (idx := 167) (fv := ((d 153 7) + x3)) ly153 (by decide) (by decide) rfl (show 153 < 166 by decide) wf_X9_167 dX9_put_177 (by show d1 153 7 = _; rw [hd1, mu_get]) ?_
    exact zret_i rfl dX9_put_180 h
  · replace h := h.2.2 c
    refine z_aloadR_n (i := 0) dX9_put_132 rfl rfl ?_
    refine z_getR 9 6 (idx := 26) ly153 (by decide) (by decide) rfl (show 153 < 166 by decide) rfl rt_153_6 wf_X9_26 dX9_put_133 ?_
    refine z_aloadR_n (i := 0) dX9_put_136 rfl rfl ?_
    refine z_getI' 9 7 (idx := 167) (fv := (d 153 7)) ly153 (by decide) (by decide) rfl (show 153 < 166 by decide) wf_X9_167 dX9_put_137 rfl ?_
    refine z_iload_n (i := 3) dX9_put_140 rfl rfl ?_
    refine z_iadd dX9_put_141 ?_
    refine z_iconst dX9_put_142 ?_
    refine z_isub dX9_put_143 ?_
    refine z_iload (i := 5) dX9_put_144 rfl ?_
    refine z_isub dX9_put_146 ?_
    refine z_lload_n (i := 1) dX9_put_147 rfl rfl ?_
    refine z_bipush dX9_put_148 (by decide +kernel) ?_
    refine z_iload (i := 5) dX9_put_150 rfl ?_
    refine z_imul dX9_put_152 ?_
    refine z_lushr h.1.1 h.1.2 dX9_put_153 ?_
    replace h := h.2
    refine z_ldc2 (n := 255) (v := 255) (by decide +kernel) wl_X9_176 dX9_put_154 ?_
    refine z_land (l_mask8 h.1) dX9_put_157 ?_
    replace h := h.2
    refine z_l2i dX9_put_158 ?_
    refine z_iastore ly159 (show 159 < 166 by decide) (by decide) dX9_put_159 h.1 ?_
    replace h := h.2
    generalize hd2 : mu d 159 ((((d 153 7) + x3) - 1) - x5) ((n1 / 2 ^ ((8 * x5)).toNat) % 256) = d2
    replace hd2 := hd2.symm
    replace h := h d2 hd2
    refine z_iinc (i := 5) (ls2 := [some (zR 153), some (zL n1), none, some (zI x3), some (zI x4), some (zI (x5 + 1)), none, none]) dX9_put_160 (by decide) rfl rfl ?_
    refine z_goto (tgt := 126) dX9_put_163 (by decide) ?_
    exact h
set_option maxRecDepth 20000 in
theorem v_X9_wipe_0 {g : zGG} {Q : Int → zMem → Prop} {d : zMem}   (h : ∀ d1, d1 = mu d 153 7 0 → Q (d 153 7) d1) : Fr g (eM g M_X9_wipe FUL FUL Q) M_X9_wipe FUL 0 [some (zR 153), none] [] d := by
  refine z_aloadR_n (i := 0) dX9_wipe_0 rfl rfl ?_
  refine z_getI' 9 7 (idx := 167) (fv := (d 153 7)) ly153 (by decide) (by decide) rfl (show 153 < 166 by decide) wf_X9_167 dX9_wipe_1 rfl ?_
  refine z_istore_n (i := 1) (ls2 := [some (zR 153), some (zI (d 153 7))]) dX9_wipe_4 rfl (by decide) rfl ?_
  refine z_aloadR_n (i := 0) dX9_wipe_5 rfl rfl ?_
  refine z_iconst dX9_wipe_6 ?_
  refine z_putI 9 7 (idx := 167) ly153 (by decide) (by decide) rfl (show 153 < 166 by decide) rfl wf_X9_167 dX9_wipe_7 (Or.inl rfl) ?_
  generalize hd1 : mu d 153 ((7 : Nat) : Int) 0 = d1
  replace hd1 : d1 = mu d 153 7 0 := hd1.symm
  replace h := h d1 hd1
  refine z_iload_n (i := 1) dX9_wipe_10 rfl rfl ?_
  exact zret_i rfl dX9_wipe_11 h
theorem e_X9_wipe {g : zGG} {Q : Int → zMem → Prop} {d : zMem}  (h : ∀ d1, d1 = mu d 153 7 0 → Q (d 153 7) d1) : Ev g M_X9_wipe FUL FUL [zR 153] d Q :=
  Ev_of (by decide +kernel) (Nat.le_of_ble_eq_true rfl) (v_X9_wipe_0  h)
set_option maxRecDepth 20000 in
theorem v_X9_sign_0 {g : zGG} {Q : Int → zMem → Prop} {d : zMem} {x1 : Int} {x2 : Int}  (h : ((inR (d 153 19) ∧ inR (d 153 7)) ∧ ((d 153 7) ≤ (d 153 19) → ((inR (d 153 20)) ∧ ((d 153 20) ≠ 0 → ∀ d1, d1 = mu d 153 20 1 → ∀ d2, d2 = mu d1 153 19 ((d 153 19) + 0) → Q 0 d2) ∧ ((d 153 20) = 0 → Ev g M_X9_in FUL FUL [zI 0, zI x1, zI x2] d (fun v1 d3 => ((inR v1) ∧ (v1 ≠ 0 → ∀ d4, d4 = mu d3 153 20 0 → ∀ d5, d5 = mu d4 153 19 ((d3 153 19) + 1) → Q 0 d5) ∧ (v1 = 0 → ∀ d6, d6 = mu d3 153 20 1 → ∀ d7, d7 = mu d6 153 19 ((d3 153 19) + 0) → Q 0 d7)))))) ∧ ((d 153 19) < (d 153 7) → (0 ≤ (d 153 19) ∧ (d 153 19) < 64) ∧ ((inR (d 153 20)) ∧ ((d 153 20) ≠ 0 → ∀ d8, d8 = mu d 153 20 1 → ∀ d9, d9 = mu d8 153 19 ((d 153 19) + 0) → Q (d 159 (d 153 19)) d9) ∧ ((d 153 20) = 0 → Ev g M_X9_in FUL FUL [zI (d 159 (d 153 19)), zI x1, zI x2] d (fun v2 d10 => ((inR v2) ∧ (v2 ≠ 0 → ∀ d11, d11 = mu d10 153 20 0 → ∀ d12, d12 = mu d11 153 19 ((d10 153 19) + 1) → Q (d 159 (d 153 19)) d12) ∧ (v2 = 0 → ∀ d13, d13 = mu d10 153 20 1 → ∀ d14, d14 = mu d13 153 19 ((d10 153 19) + 0) → Q (d 159 (d 153 19)) d14)))))))) : Fr g (eM g M_X9_sign FUL FUL Q) M_X9_sign FUL 0 [some (zR 153), some (zI x1), some (zI x2), none] [] d := by
  refine z_aloadR_n (i := 0) dX9_sign_0 rfl rfl ?_
  refine z_getI' 9 19 (idx := 178) (fv := (d 153 19)) ly153 (by decide) (by decide) rfl (show 153 < 166 by decide) wf_X9_178 dX9_sign_1 rfl ?_
  refine z_aloadR_n (i := 0) dX9_sign_4 rfl rfl ?_
  refine z_getI' 9 7 (idx := 167) (fv := (d 153 7)) ly153 (by decide) (by decide) rfl (show 153 < 166 by decide) wf_X9_167 dX9_sign_5 rfl ?_
  refine zb_icmp_ge (tgt := 23) dX9_sign_8 (by decide) h.1 ⟨fun c => ?_, fun c => ?_⟩
  · replace h := h.2.1 c
    refine z_iconst dX9_sign_23 ?_
    refine z_istore_n (i := 3) (ls2 := [some (zR 153), some (zI x1), some (zI x2), some (zI 0)]) dX9_sign_24 rfl (by decide) rfl ?_
    refine z_aloadR_n (i := 0) dX9_sign_25 rfl rfl ?_
    refine z_aloadR_n (i := 0) dX9_sign_26 rfl rfl ?_
    refine z_getI' 9 20 (idx := 181) (fv := (d 153 20)) ly153 (by decide) (by decide) rfl (show 153 < 166 by decide) wf_X9_181 dX9_sign_27 rfl ?_
    refine zb_if_ne (tgt := 42) dX9_sign_30 (by decide) h.1 ⟨fun c => ?_, fun c => ?_⟩
    · replace h := h.2.1 c
      refine z_iconst dX9_sign_42 ?_
      refine z_goto (tgt := 47) dX9_sign_43 (by decide) ?_
      refine z_putI 9 20 (idx := 181) ly153 (by decide) (by decide) rfl (show 153 < 166 by decide) rfl wf_X9_181 dX9_sign_47 (Or.inr ⟨rfl, by decide⟩) ?_
      generalize hd1 : mu d 153 ((20 : Nat) : Int) 1 = d1
      replace hd1 : d1 = mu d 153 20 1 := hd1.symm
      replace h := h d1 hd1
      refine z_aloadR_n (i := 0) dX9_sign_50 rfl rfl ?_
      refine z_dup dX9_sign_51 (Nat.le_of_ble_eq_true rfl) ?_
      refine z_getI' 9 19 (idx := 178) (fv := (d 153 19)) ly153 (by decide) (by decide) rfl (show 153 < 166 by decide) wf_X9_178 dX9_sign_52 (by show d1 153 19 = _; rw [hd1, mu_ni (by decide)]) ?_
      refine z_aloadR_n (i := 0) dX9_sign_55 rfl rfl ?_
      refine z_getI' 9 20 (idx := 181) (fv := 1) ly153 (by decide) (by decide) rfl (show 153 < 166 by decide) wf_X9_181 dX9_sign_56 (by show d1 153 20 = _; rw [hd1, mu_get]) ?_
      refine zb_if_eq (tgt := 66) dX9_sign_59 (by decide) (by decide) ⟨fun q => absurd q (by decide), fun _ => ?_⟩
      refine z_iconst dX9_sign_62 ?_
      refine z_goto (tgt := 67) dX9_sign_63 (by decide) ?_
      refine z_iadd dX9_sign_67 ?_
      refine z_putI 9 19 (idx := 178) ly153 (by decide) (by decide) rfl (show 153 < 166 by decide) rfl wf_X9_178 dX9_sign_68 (Or.inl rfl) ?_
      generalize hd2 : mu d1 153 ((19 : Nat) : Int) ((d 153 19) + 0) = d2
      replace hd2 : d2 = mu d1 153 19 ((d 153 19) + 0) := hd2.symm
      replace h := h d2 hd2
      refine z_iload_n (i := 3) dX9_sign_71 rfl rfl ?_
      exact zret_i rfl dX9_sign_72 h
    · replace h := h.2.2 c
      refine z_iload_n (i := 3) dX9_sign_33 rfl rfl ?_
      refine z_iload_n (i := 1) dX9_sign_34 rfl rfl ?_
      refine z_iload_n (i := 2) dX9_sign_35 rfl rfl ?_
      refine z_callS (k' := M_X9_in) (As := [zI 0, zI x1, zI x2]) (st := [zR 153]) dX9_sign_36 rfl wm_X9_50 ok_X9_in okS_X9_in rfl (zroom_self (by decide) (by decide)) (Nat.le_of_ble_eq_true rfl) (Nat.le_refl _) (zEnd_i (Nat.le_refl _) rfl (fun _ _ q => q)) (Ev_mono h (fun v1 d3 h => ?_))
      refine zb_if_ne (tgt := 46) dX9_sign_39 (by decide) h.1 ⟨fun c => ?_, fun c => ?_⟩
      · replace h := h.2.1 c
        refine z_iconst dX9_sign_46 ?_
        refine z_putI 9 20 (idx := 181) ly153 (by decide) (by decide) rfl (show 153 < 166 by decide) rfl wf_X9_181 dX9_sign_47 (Or.inr ⟨rfl, by decide⟩) ?_
        generalize hd4 : mu d3 153 ((20 : Nat) : Int) 0 = d4
        replace hd4 : d4 = mu d3 153 20 0 := hd4.symm
        replace h := h d4 hd4
        refine z_aloadR_n (i := 0) dX9_sign_50 rfl rfl ?_
        refine z_dup dX9_sign_51 (Nat.le_of_ble_eq_true rfl) ?_
        refine z_getI' 9 19 (idx := 178) (fv := (d3 153 19)) ly153 (by decide) (by decide) rfl (show 153 < 166 by decide) wf_X9_178 dX9_sign_52 (by show d4 153 19 = _; rw [hd4, mu_ni (by decide)]) ?_
        refine z_aloadR_n (i := 0) dX9_sign_55 rfl rfl ?_
        refine z_getI' 9 20 (idx := 181) (fv := 0) ly153 (by decide) (by decide) rfl (show 153 < 166 by decide) wf_X9_181 dX9_sign_56 (by show d4 153 20 = _; rw [hd4, mu_get]) ?_
        refine zb_if_eq (tgt := 66) dX9_sign_59 (by decide) (by decide) ⟨fun _ => ?_, fun q => absurd q (by decide)⟩
        refine z_iconst dX9_sign_66 ?_
        refine z_iadd dX9_sign_67 ?_
        refine z_putI 9 19 (idx := 178) ly153 (by decide) (by decide) rfl (show 153 < 166 by decide) rfl wf_X9_178 dX9_sign_68 (Or.inl rfl) ?_
        generalize hd5 : mu d4 153 ((19 : Nat) : Int) ((d3 153 19) + 1) = d5
        replace hd5 : d5 = mu d4 153 19 ((d3 153 19) + 1) := hd5.symm
        replace h := h d5 hd5
        refine z_iload_n (i := 3) dX9_sign_71 rfl rfl ?_
        exact zret_i rfl dX9_sign_72 h
      · replace h := h.2.2 c
        refine z_iconst dX9_sign_42 ?_
        refine z_goto (tgt := 47) dX9_sign_43 (by decide) ?_
        refine z_putI 9 20 (idx := 181) ly153 (by decide) (by decide) rfl (show 153 < 166 by decide) rfl wf_X9_181 dX9_sign_47 (Or.inr ⟨rfl, by decide⟩) ?_
        generalize hd6 : mu d3 153 ((20 : Nat) : Int) 1 = d6
        replace hd6 : d6 = mu d3 153 20 1 := hd6.symm
        replace h := h d6 hd6
        refine z_aloadR_n (i := 0) dX9_sign_50 rfl rfl ?_
        refine z_dup dX9_sign_51 (Nat.le_of_ble_eq_true rfl) ?_
        refine z_getI' 9 19 (idx := 178) (fv := (d3 153 19)) ly153 (by decide) (by decide) rfl (show 153 < 166 by decide) wf_X9_178 dX9_sign_52 (by show d6 153 19 = _; rw [hd6, mu_ni (by decide)]) ?_
        refine z_aloadR_n (i := 0) dX9_sign_55 rfl rfl ?_
        refine z_getI' 9 20 (idx := 181) (fv := 1) ly153 (by decide) (by decide) rfl (show 153 < 166 by decide) wf_X9_181 dX9_sign_56 (by show d6 153 20 = _; rw [hd6, mu_get]) ?_
        refine zb_if_eq (tgt := 66) dX9_sign_59 (by decide) (by decide) ⟨fun q => absurd q (by decide), fun _ => ?_⟩
        refine z_iconst dX9_sign_62 ?_
        refine z_goto (tgt := 67) dX9_sign_63 (by decide) ?_
        refine z_iadd dX9_sign_67 ?_
        refine z_putI 9 19 (idx := 178) ly153 (by decide) (by decide) rfl (show 153 < 166 by decide) rfl wf_X9_178 dX9_sign_68 (Or.inl rfl) ?_
        generalize hd7 : mu d6 153 ((19 : Nat) : Int) ((d3 153 19) + 0) = d7
        replace hd7 : d7 = mu d6 153 19 ((d3 153 19) + 0) := hd7.symm
        replace h := h d7 hd7
        refine z_iload_n (i := 3) dX9_sign_71 rfl rfl ?_
        exact zret_i rfl dX9_sign_72 h
  · replace h := h.2.2 c
    refine z_aloadR_n (i := 0) dX9_sign_11 rfl rfl ?_
    refine z_getR 9 6 (idx := 26) ly153 (by decide) (by decide) rfl (show 153 < 166 by decide) rfl rt_153_6 wf_X9_26 dX9_sign_12 ?_
    refine z_aloadR_n (i := 0) dX9_sign_15 rfl rfl ?_
    refine z_getI' 9 19 (idx := 178) (fv := (d 153 19)) ly153 (by decide) (by decide) rfl (show 153 < 166 by decide) wf_X9_178 dX9_sign_16 rfl ?_
    refine z_iaload' (fv := (d 159 (d 153 19))) ly159 (show 159 < 166 by decide) (by decide) dX9_sign_19 h.1 rfl ?_
    replace h := h.2
    refine z_goto (tgt := 24) dX9_sign_20 (by decide) ?_
    refine z_istore_n (i := 3) (ls2 := [some (zR 153), some (zI x1), some (zI x2), some (zI (d 159 (d 153 19)))]) dX9_sign_24 rfl (by decide) rfl ?_
    refine z_aloadR_n (i := 0) dX9_sign_25 rfl rfl ?_
    refine z_aloadR_n (i := 0) dX9_sign_26 rfl rfl ?_
    refine z_getI' 9 20 (idx := 181) (fv := (d 153 20)) ly153 (by decide) (by decide) rfl (show 153 < 166 by decide) wf_X9_181 dX9_sign_27 rfl ?_
    refine zb_if_ne (tgt := 42) dX9_sign_30 (by decide) h.1 ⟨fun c => ?_, fun c => ?_⟩
    · replace h := h.2.1 c
      refine z_iconst dX9_sign_42 ?_
      refine z_goto (tgt := 47) dX9_sign_43 (by decide) ?_
      refine z_putI 9 20 (idx := 181) ly153 (by decide) (by decide) rfl (show 153 < 166 by decide) rfl wf_X9_181 dX9_sign_47 (Or.inr ⟨rfl, by decide⟩) ?_
      generalize hd8 : mu d 153 ((20 : Nat) : Int) 1 = d8
      replace hd8 : d8 = mu d 153 20 1 := hd8.symm
      replace h := h d8 hd8
      refine z_aloadR_n (i := 0) dX9_sign_50 rfl rfl ?_
      refine z_dup dX9_sign_51 (Nat.le_of_ble_eq_true rfl) ?_
      refine z_getI' 9 19 (idx := 178) (fv := (d 153 19)) ly153 (by decide) (by decide) rfl (show 153 < 166 by decide) wf_X9_178 dX9_sign_52 (by show d8 153 19 = _; rw [hd8, mu_ni (by decide)]) ?_
      refine z_aloadR_n (i := 0) dX9_sign_55 rfl rfl ?_
      refine z_getI' 9 20 (idx := 181) (fv := 1) ly153 (by decide) (by decide) rfl (show 153 < 166 by decide) wf_X9_181 dX9_sign_56 (by show d8 153 20 = _; rw [hd8, mu_get]) ?_
      refine zb_if_eq (tgt := 66) dX9_sign_59 (by decide) (by decide) ⟨fun q => absurd q (by decide), fun _ => ?_⟩
      refine z_iconst dX9_sign_62 ?_
      refine z_goto (tgt := 67) dX9_sign_63 (by decide) ?_
      refine z_iadd dX9_sign_67 ?_
      refine z_putI 9 19 (idx := 178) ly153 (by decide) (by decide) rfl (show 153 < 166 by decide) rfl wf_X9_178 dX9_sign_68 (Or.inl rfl) ?_
      generalize hd9 : mu d8 153 ((19 : Nat) : Int) ((d 153 19) + 0) = d9
      replace hd9 : d9 = mu d8 153 19 ((d 153 19) + 0) := hd9.symm
      replace h := h d9 hd9
      refine z_iload_n (i := 3) dX9_sign_71 rfl rfl ?_
      exact zret_i rfl dX9_sign_72 h
    · replace h := h.2.2 c
      refine z_iload_n (i := 3) dX9_sign_33 rfl rfl ?_
      refine z_iload_n (i := 1) dX9_sign_34 rfl rfl ?_
      refine z_iload_n (i := 2) dX9_sign_35 rfl rfl ?_
      refine z_callS (k' := M_X9_in) (As := [zI (d 159 (d 153 19)), zI x1, zI x2]) (st := [zR 153]) dX9_sign_36 rfl wm_X9_50 ok_X9_in okS_X9_in rfl (zroom_self (by decide) (by decide)) (Nat.le_of_ble_eq_true rfl) (Nat.le_refl _) (zEnd_i (Nat.le_refl _) rfl (fun _ _ q => q)) (Ev_mono h (fun v2 d10 h => ?_))
      refine zb_if_ne (tgt := 46) dX9_sign_39 (by decide) h.1 ⟨fun c => ?_, fun c => ?_⟩
      · replace h := h.2.1 c
        refine z_iconst dX9_sign_46 ?_
        refine z_putI 9 20 (idx := 181) ly153 (by decide) (by decide) rfl (show 153 < 166 by decide) rfl wf_X9_181 dX9_sign_47 (Or.inr ⟨rfl, by decide⟩) ?_
        generalize hd11 : mu d10 153 ((20 : Nat) : Int) 0 = d11
        replace hd11 : d11 = mu d10 153 20 0 := hd11.symm
        replace h := h d11 hd11
        refine z_aloadR_n (i := 0) dX9_sign_50 rfl rfl ?_
        refine z_dup dX9_sign_51 (Nat.le_of_ble_eq_true rfl) ?_
        refine z_getI' 9 19 (idx := 178) (fv := (d10 153 19)) ly153 (by decide) (by decide) rfl (show 153 < 166 by decide) wf_X9_178 dX9_sign_52 (by show d11 153 19 = _; rw [hd11, mu_ni (by decide)]) ?_
        refine z_aloadR_n (i := 0) dX9_sign_55 rfl rfl ?_
        refine z_getI' 9 20 (idx := 181) (fv := 0) ly153 (by decide) (by decide) rfl (show 153 < 166 by decide) wf_X9_181 dX9_sign_56 (by show d11 153 20 = _; rw [hd11, mu_get]) ?_
        refine zb_if_eq (tgt := 66) dX9_sign_59 (by decide) (by decide) ⟨fun _ => ?_, fun q => absurd q (by decide)⟩
        refine z_iconst dX9_sign_66 ?_
        refine z_iadd dX9_sign_67 ?_
        refine z_putI 9 19 (idx := 178) ly153 (by decide) (by decide) rfl (show 153 < 166 by decide) rfl wf_X9_178 dX9_sign_68 (Or.inl rfl) ?_
        generalize hd12 : mu d11 153 ((19 : Nat) : Int) ((d10 153 19) + 1) = d12
        replace hd12 : d12 = mu d11 153 19 ((d10 153 19) + 1) := hd12.symm
        replace h := h d12 hd12
        refine z_iload_n (i := 3) dX9_sign_71 rfl rfl ?_
        exact zret_i rfl dX9_sign_72 h
      · replace h := h.2.2 c
        refine z_iconst dX9_sign_42 ?_
        refine z_goto (tgt := 47) dX9_sign_43 (by decide) ?_
        refine z_putI 9 20 (idx := 181) ly153 (by decide) (by decide) rfl (show 153 < 166 by decide) rfl wf_X9_181 dX9_sign_47 (Or.inr ⟨rfl, by decide⟩) ?_
        generalize hd13 : mu d10 153 ((20 : Nat) : Int) 1 = d13
        replace hd13 : d13 = mu d10 153 20 1 := hd13.symm
        replace h := h d13 hd13
        refine z_aloadR_n (i := 0) dX9_sign_50 rfl rfl ?_
        refine z_dup dX9_sign_51 (Nat.le_of_ble_eq_true rfl) ?_
        refine z_getI' 9 19 (idx := 178) (fv := (d10 153 19)) ly153 (by decide) (by decide) rfl (show 153 < 166 by decide) wf_X9_178 dX9_sign_52 (by show d13 153 19 = _; rw [hd13, mu_ni (by decide)]) ?_
        refine z_aloadR_n (i := 0) dX9_sign_55 rfl rfl ?_
        refine z_getI' 9 20 (idx := 181) (fv := 1) ly153 (by decide) (by decide) rfl (show 153 < 166 by decide) wf_X9_181 dX9_sign_56 (by show d13 153 20 = _; rw [hd13, mu_get]) ?_
        refine zb_if_eq (tgt := 66) dX9_sign_59 (by decide) (by decide) ⟨fun q => absurd q (by decide), fun _ => ?_⟩
        refine z_iconst dX9_sign_62 ?_
        refine z_goto (tgt := 67) dX9_sign_63 (by decide) ?_
        refine z_iadd dX9_sign_67 ?_
        refine z_putI 9 19 (idx := 178) ly153 (by decide) (by decide) rfl (show 153 < 166 by decide) rfl wf_X9_178 dX9_sign_68 (Or.inl rfl) ?_
        generalize hd14 : mu d13 153 ((19 : Nat) : Int) ((d10 153 19) + 0) = d14
        replace hd14 : d14 = mu d13 153 19 ((d10 153 19) + 0) := hd14.symm
        replace h := h d14 hd14
        refine z_iload_n (i := 3) dX9_sign_71 rfl rfl ?_
        exact zret_i rfl dX9_sign_72 h
theorem e_X9_sign {g : zGG} {Q : Int → zMem → Prop} {d : zMem} {x1 : Int} {x2 : Int} (h : ((inR (d 153 19) ∧ inR (d 153 7)) ∧ ((d 153 7) ≤ (d 153 19) → ((inR (d 153 20)) ∧ ((d 153 20) ≠ 0 → ∀ d1, d1 = mu d 153 20 1 → ∀ d2, d2 = mu d1 153 19 ((d 153 19) + 0) → Q 0 d2) ∧ ((d 153 20) = 0 → Ev g M_X9_in FUL FUL [zI 0, zI x1, zI x2] d (fun v1 d3 => ((inR v1) ∧ (v1 ≠ 0 → ∀ d4, d4 = mu d3 153 20 0 → ∀ d5, d5 = mu d4 153 19 ((d3 153 19) + 1) → Q 0 d5) ∧ (v1 = 0 → ∀ d6, d6 = mu d3 153 20 1 → ∀ d7, d7 = mu d6 153 19 ((d3 153 19) + 0) → Q 0 d7)))))) ∧ ((d 153 19) < (d 153 7) → (0 ≤ (d 153 19) ∧ (d 153 19) < 64) ∧ ((inR (d 153 20)) ∧ ((d 153 20) ≠ 0 → ∀ d8, d8 = mu d 153 20 1 → ∀ d9, d9 = mu d8 153 19 ((d 153 19) + 0) → Q (d 159 (d 153 19)) d9) ∧ ((d 153 20) = 0 → Ev g M_X9_in FUL FUL [zI (d 159 (d 153 19)), zI x1, zI x2] d (fun v2 d10 => ((inR v2) ∧ (v2 ≠ 0 → ∀ d11, d11 = mu d10 153 20 0 → ∀ d12, d12 = mu d11 153 19 ((d10 153 19) + 1) → Q (d 159 (d 153 19)) d12) ∧ (v2 = 0 → ∀ d13, d13 = mu d10 153 20 1 → ∀ d14, d14 = mu d13 153 19 ((d10 153 19) + 0) → Q (d 159 (d 153 19)) d14)))))))) : Ev g M_X9_sign FUL FUL [zR 153, zI x1, zI x2] d Q :=
  Ev_of (by decide +kernel) (Nat.le_of_ble_eq_true rfl) (v_X9_sign_0  h)
set_option maxRecDepth 20000 in
theorem v_X9_isNext_0 {g : zGG} {Q : Int → zMem → Prop} {d : zMem} {x1 : Int} {x2 : Int}  (h : ((inR (d 153 20)) ∧ ((d 153 20) ≠ 0 → Q 0 d) ∧ ((d 153 20) = 0 → ((inR (d 153 19) ∧ inR (d 153 7)) ∧ ((d 153 7) ≤ (d 153 19) → Q 0 d) ∧ ((d 153 19) < (d 153 7) → (0 ≤ (d 153 19) ∧ (d 153 19) < 64) ∧ Ev g M_X9_in FUL FUL [zI (d 159 (d 153 19)), zI x1, zI x2] d (fun v1 d1 => ((inR v1) ∧ (v1 = 0 → Q 0 d1) ∧ (v1 ≠ 0 → Q 1 d1)))))))) : Fr g (eM g M_X9_isNext FUL FUL Q) M_X9_isNext FUL 0 [some (zR 153), some (zI x1), some (zI x2)] [] d := by
  refine z_aloadR_n (i := 0) dX9_isNext_0 rfl rfl ?_
  refine z_getI' 9 20 (idx := 181) (fv := (d 153 20)) ly153 (by decide) (by decide) rfl (show 153 < 166 by decide) wf_X9_181 dX9_isNext_1 rfl ?_
  refine zb_if_ne (tgt := 39) dX9_isNext_4 (by decide) h.1 ⟨fun c => ?_, fun c => ?_⟩
  · replace h := h.2.1 c
    refine z_iconst dX9_isNext_39 ?_
    exact zret_z rfl dX9_isNext_40 (by decide) h
  · replace h := h.2.2 c
    refine z_aloadR_n (i := 0) dX9_isNext_7 rfl rfl ?_
    refine z_getI' 9 19 (idx := 178) (fv := (d 153 19)) ly153 (by decide) (by decide) rfl (show 153 < 166 by decide) wf_X9_178 dX9_isNext_8 rfl ?_
    refine z_aloadR_n (i := 0) dX9_isNext_11 rfl rfl ?_
    refine z_getI' 9 7 (idx := 167) (fv := (d 153 7)) ly153 (by decide) (by decide) rfl (show 153 < 166 by decide) wf_X9_167 dX9_isNext_12 rfl ?_
    refine zb_icmp_ge (tgt := 39) dX9_isNext_15 (by decide) h.1 ⟨fun c => ?_, fun c => ?_⟩
    · replace h := h.2.1 c
      refine z_iconst dX9_isNext_39 ?_
      exact zret_z rfl dX9_isNext_40 (by decide) h
    · replace h := h.2.2 c
      refine z_aloadR_n (i := 0) dX9_isNext_18 rfl rfl ?_
      refine z_getR 9 6 (idx := 26) ly153 (by decide) (by decide) rfl (show 153 < 166 by decide) rfl rt_153_6 wf_X9_26 dX9_isNext_19 ?_
      refine z_aloadR_n (i := 0) dX9_isNext_22 rfl rfl ?_
      refine z_getI' 9 19 (idx := 178) (fv := (d 153 19)) ly153 (by decide) (by decide) rfl (show 153 < 166 by decide) wf_X9_178 dX9_isNext_23 rfl ?_
      refine z_iaload' (fv := (d 159 (d 153 19))) ly159 (show 159 < 166 by decide) (by decide) dX9_isNext_26 h.1 rfl ?_
      replace h := h.2
      refine z_iload_n (i := 1) dX9_isNext_27 rfl rfl ?_
      refine z_iload_n (i := 2) dX9_isNext_28 rfl rfl ?_
      refine z_callS (k' := M_X9_in) (As := [zI (d 159 (d 153 19)), zI x1, zI x2]) (st := []) dX9_isNext_29 rfl wm_X9_50 ok_X9_in okS_X9_in rfl (zroom_self (by decide) (by decide)) (Nat.le_of_ble_eq_true rfl) (Nat.le_refl _) (zEnd_i (Nat.le_refl _) rfl (fun _ _ q => q)) (Ev_mono h (fun v1 d1 h => ?_))
      refine zb_if_eq (tgt := 39) dX9_isNext_32 (by decide) h.1 ⟨fun c => ?_, fun c => ?_⟩
      · replace h := h.2.1 c
        refine z_iconst dX9_isNext_39 ?_
        exact zret_z rfl dX9_isNext_40 (by decide) h
      · replace h := h.2.2 c
        refine z_iconst dX9_isNext_35 ?_
        refine z_goto (tgt := 40) dX9_isNext_36 (by decide) ?_
        exact zret_z rfl dX9_isNext_40 (by decide) h
theorem e_X9_isNext {g : zGG} {Q : Int → zMem → Prop} {d : zMem} {x1 : Int} {x2 : Int} (h : ((inR (d 153 20)) ∧ ((d 153 20) ≠ 0 → Q 0 d) ∧ ((d 153 20) = 0 → ((inR (d 153 19) ∧ inR (d 153 7)) ∧ ((d 153 7) ≤ (d 153 19) → Q 0 d) ∧ ((d 153 19) < (d 153 7) → (0 ≤ (d 153 19) ∧ (d 153 19) < 64) ∧ Ev g M_X9_in FUL FUL [zI (d 159 (d 153 19)), zI x1, zI x2] d (fun v1 d1 => ((inR v1) ∧ (v1 = 0 → Q 0 d1) ∧ (v1 ≠ 0 → Q 1 d1)))))))) : Ev g M_X9_isNext FUL FUL [zR 153, zI x1, zI x2] d Q :=
  Ev_of (by decide +kernel) (Nat.le_of_ble_eq_true rfl) (v_X9_isNext_0  h)
set_option maxRecDepth 20000 in
theorem v_X9_number_0 {g : zGG} {Q : Int → zMem → Prop} {d : zMem} {x1 : Int}  (h : Ev g M_X9_sign FUL FUL [zR 153, zI 48, zI 57] d (fun v1 d1 => ((inR (v1 - 48)) ∧ ((v1 - 48) ≤ 0 → Q (v1 - 48) d1) ∧ (0 < (v1 - 48) → Ev g M_X9_isNext FUL FUL [zR 153, zI 48, zI 57] d1 (fun v2 d2 => ((inR v2) ∧ (v2 = 0 → Q (v1 - 48) d2) ∧ (v2 ≠ 0 → (0 ≤ (d2 153 19) ∧ (d2 153 19) < 64) ∧ ((inR (((10 * (v1 - 48)) + (d2 159 (d2 153 19))) - 48) ∧ inR x1) ∧ (x1 < (((10 * (v1 - 48)) + (d2 159 (d2 153 19))) - 48) → Q (v1 - 48) d2) ∧ ((((10 * (v1 - 48)) + (d2 159 (d2 153 19))) - 48) ≤ x1 → Ev g M_X9_sign FUL FUL [zR 153, zI 48, zI 57] d2 (fun v3 d3 => Q (((10 * (v1 - 48)) + v3) - 48) d3)))))))))) : Fr g (eM g M_X9_number FUL FUL Q) M_X9_number FUL 0 [some (zR 153), some (zI x1), none, none] [] d := by
  refine z_aloadR_n (i := 0) dX9_number_0 rfl rfl ?_
  refine z_bipush dX9_number_1 (by decide +kernel) ?_
  refine z_bipush dX9_number_3 (by decide +kernel) ?_
  refine z_callVi (k' := M_X9_sign) (As := [zI 48, zI 57]) (st := []) dX9_number_5 rfl ly153 (by decide) rfl (show 153 < 166 by decide) wm_X9_184 ok_X9_sign okV_X9_sign rfl (zroom_self (by decide) (by decide)) (Nat.le_of_ble_eq_true rfl) (Nat.le_refl _) rfl (Ev_mono h (fun v1 d1 h => ?_))
  refine z_bipush dX9_number_8 (by decide +kernel) ?_
  refine z_isub dX9_number_10 ?_
  refine z_istore_n (i := 2) (ls2 := [some (zR 153), some (zI x1), some (zI (v1 - 48)), none]) dX9_number_11 rfl (by decide) rfl ?_
  refine z_iload_n (i := 2) dX9_number_12 rfl rfl ?_
  refine zb_if_le (tgt := 52) dX9_number_13 (by decide) h.1 ⟨fun c => ?_, fun c => ?_⟩
  · replace h := h.2.1 c
    refine z_iconst dX9_number_52 ?_
    refine z_istore_n (i := 3) (ls2 := [some (zR 153), some (zI x1), some (zI (v1 - 48)), some (zI 0)]) dX9_number_53 rfl (by decide) rfl ?_
    refine z_iload_n (i := 3) dX9_number_54 rfl rfl ?_
    refine zb_if_eq (tgt := 77) dX9_number_55 (by decide) (by decide) ⟨fun _ => ?_, fun q => absurd q (by decide)⟩
    refine z_iload_n (i := 2) dX9_number_77 rfl rfl ?_
    exact zret_i rfl dX9_number_78 h
  · replace h := h.2.2 c
    refine z_aloadR_n (i := 0) dX9_number_16 rfl rfl ?_
    refine z_bipush dX9_number_17 (by decide +kernel) ?_
    refine z_bipush dX9_number_19 (by decide +kernel) ?_
    refine z_callVi (k' := M_X9_isNext) (As := [zI 48, zI 57]) (st := []) dX9_number_21 rfl ly153 (by decide) rfl (show 153 < 166 by decide) wm_X9_187 ok_X9_isNext okV_X9_isNext rfl (zroom_self (by decide) (by decide)) (Nat.le_of_ble_eq_true rfl) (Nat.le_refl _) rfl (Ev_mono h (fun v2 d2 h => ?_))
    refine zb_if_eq (tgt := 52) dX9_number_24 (by decide) h.1 ⟨fun c => ?_, fun c => ?_⟩
    · replace h := h.2.1 c
      refine z_iconst dX9_number_52 ?_
      refine z_istore_n (i := 3) (ls2 := [some (zR 153), some (zI x1), some (zI (v1 - 48)), some (zI 0)]) dX9_number_53 rfl (by decide) rfl ?_
      refine z_iload_n (i := 3) dX9_number_54 rfl rfl ?_
      refine zb_if_eq (tgt := 77) dX9_number_55 (by decide) (by decide) ⟨fun _ => ?_, fun q => absurd q (by decide)⟩
      refine z_iload_n (i := 2) dX9_number_77 rfl rfl ?_
      exact zret_i rfl dX9_number_78 h
    · replace h := h.2.2 c
      refine z_bipush dX9_number_27 (by decide +kernel) ?_
      refine z_iload_n (i := 2) dX9_number_29 rfl rfl ?_
      refine z_imul dX9_number_30 ?_
      refine z_aloadR_n (i := 0) dX9_number_31 rfl rfl ?_
      refine z_getR 9 6 (idx := 26) ly153 (by decide) (by decide) rfl (show 153 < 166 by decide) rfl rt_153_6 wf_X9_26 dX9_number_32 ?_
      refine z_aloadR_n (i := 0) dX9_number_35 rfl rfl ?_
      refine z_getI' 9 19 (idx := 178) (fv := (d2 153 19)) ly153 (by decide) (by decide) rfl (show 153 < 166 by decide) wf_X9_178 dX9_number_36 rfl ?_
      refine z_iaload' (fv := (d2 159 (d2 153 19))) ly159 (show 159 < 166 by decide) (by decide) dX9_number_39 h.1 rfl ?_
      replace h := h.2
      refine z_iadd dX9_number_40 ?_
      refine z_bipush dX9_number_41 (by decide +kernel) ?_
      refine z_isub dX9_number_43 ?_
      refine z_iload_n (i := 1) dX9_number_44 rfl rfl ?_
      refine zb_icmp_gt (tgt := 52) dX9_number_45 (by decide) h.1 ⟨fun c => ?_, fun c => ?_⟩
      · replace h := h.2.1 c
        refine z_iconst dX9_number_52 ?_
        refine z_istore_n (i := 3) (ls2 := [some (zR 153), some (zI x1), some (zI (v1 - 48)), some (zI 0)]) dX9_number_53 rfl (by decide) rfl ?_
        refine z_iload_n (i := 3) dX9_number_54 rfl rfl ?_
        refine zb_if_eq (tgt := 77) dX9_number_55 (by decide) (by decide) ⟨fun _ => ?_, fun q => absurd q (by decide)⟩
        refine z_iload_n (i := 2) dX9_number_77 rfl rfl ?_
        exact zret_i rfl dX9_number_78 h
      · replace h := h.2.2 c
        refine z_iconst dX9_number_48 ?_
        refine z_goto (tgt := 53) dX9_number_49 (by decide) ?_
        refine z_istore_n (i := 3) (ls2 := [some (zR 153), some (zI x1), some (zI (v1 - 48)), some (zI 1)]) dX9_number_53 rfl (by decide) rfl ?_
        refine z_iload_n (i := 3) dX9_number_54 rfl rfl ?_
        refine zb_if_eq (tgt := 77) dX9_number_55 (by decide) (by decide) ⟨fun q => absurd q (by decide), fun _ => ?_⟩
        refine z_bipush dX9_number_58 (by decide +kernel) ?_
        refine z_iload_n (i := 2) dX9_number_60 rfl rfl ?_
        refine z_imul dX9_number_61 ?_
        refine z_aloadR_n (i := 0) dX9_number_62 rfl rfl ?_
        refine z_bipush dX9_number_63 (by decide +kernel) ?_
        refine z_bipush dX9_number_65 (by decide +kernel) ?_
        refine z_callVi (k' := M_X9_sign) (As := [zI 48, zI 57]) (st := [zI (10 * (v1 - 48))]) dX9_number_67 rfl ly153 (by decide) rfl (show 153 < 166 by decide) wm_X9_184 ok_X9_sign okV_X9_sign rfl (zroom_self (by decide) (by decide)) (Nat.le_of_ble_eq_true rfl) (Nat.le_refl _) rfl (Ev_mono h (fun v3 d3 h => ?_))
        refine z_iadd dX9_number_70 ?_
        refine z_bipush dX9_number_71 (by decide +kernel) ?_
        refine z_isub dX9_number_73 ?_
        refine z_goto (tgt := 78) dX9_number_74 (by decide) ?_
        exact zret_i rfl dX9_number_78 h
theorem e_X9_number {g : zGG} {Q : Int → zMem → Prop} {d : zMem} {x1 : Int} (h : Ev g M_X9_sign FUL FUL [zR 153, zI 48, zI 57] d (fun v1 d1 => ((inR (v1 - 48)) ∧ ((v1 - 48) ≤ 0 → Q (v1 - 48) d1) ∧ (0 < (v1 - 48) → Ev g M_X9_isNext FUL FUL [zR 153, zI 48, zI 57] d1 (fun v2 d2 => ((inR v2) ∧ (v2 = 0 → Q (v1 - 48) d2) ∧ (v2 ≠ 0 → (0 ≤ (d2 153 19) ∧ (d2 153 19) < 64) ∧ ((inR (((10 * (v1 - 48)) + (d2 159 (d2 153 19))) - 48) ∧ inR x1) ∧ (x1 < (((10 * (v1 - 48)) + (d2 159 (d2 153 19))) - 48) → Q (v1 - 48) d2) ∧ ((((10 * (v1 - 48)) + (d2 159 (d2 153 19))) - 48) ≤ x1 → Ev g M_X9_sign FUL FUL [zR 153, zI 48, zI 57] d2 (fun v3 d3 => Q (((10 * (v1 - 48)) + v3) - 48) d3)))))))))) : Ev g M_X9_number FUL FUL [zR 153, zI x1] d Q :=
  Ev_of (by decide +kernel) (Nat.le_of_ble_eq_true rfl) (v_X9_number_0  h)
set_option maxRecDepth 20000 in
theorem v_X9_tell_0 {g : zGG} {Q : Int → zMem → Prop} {d : zMem} {x1 : Int}  (h : (Fr g (eM g M_X9_tell FUL FUL Q) M_X9_tell FUL 2 [some (zR 153), some (zI x1), some (zI 0)] [] d)) : Fr g (eM g M_X9_tell FUL FUL Q) M_X9_tell FUL 0 [some (zR 153), some (zI x1), none] [] d := by
  refine z_iconst dX9_tell_0 ?_
  refine z_istore_n (i := 2) (ls2 := [some (zR 153), some (zI x1), some (zI 0)]) dX9_tell_1 rfl (by decide) rfl ?_
  exact h
theorem e_X9_tell {g : zGG} {Q : Int → zMem → Prop} {d : zMem} {x1 : Int} (h : (Fr g (eM g M_X9_tell FUL FUL Q) M_X9_tell FUL 2 [some (zR 153), some (zI x1), some (zI 0)] [] d)) : Ev g M_X9_tell FUL FUL [zR 153, zI x1] d Q :=
  Ev_of (by decide +kernel) (Nat.le_of_ble_eq_true rfl) (v_X9_tell_0  h)
set_option maxRecDepth 20000 in
theorem v_X9_tell_2 {g : zGG} {Q : Int → zMem → Prop} {d : zMem} {x1 : Int} {x2 : Int} (h : ((inR x2 ∧ inR (d 153 22)) ∧ ((d 153 22) ≤ x2 → ((inR (d 153 23)) ∧ ((d 153 23) ≠ 0 → ∀ d1, d1 = mu d 153 23 1 → ∀ d2, d2 = mu d1 153 22 ((d 153 22) + 1) → Q 0 d2) ∧ ((d 153 23) = 0 → ((inR x1) ∧ (x1 ≠ (-6) → ∀ d3, d3 = mu d 153 23 0 → ((inR (d 153 22)) ∧ (150 ≤ (d 153 22) → ∀ d4, d4 = mu d3 153 22 ((d 153 22) + 1) → Q 0 d4) ∧ ((d 153 22) < 150 → (0 ≤ (d 153 22) ∧ (d 153 22) < 150) ∧ ∀ d5, d5 = mu d3 165 (d 153 22) x1 → ∀ d6, d6 = mu d5 153 22 ((d 153 22) + 1) → Q 0 d6))) ∧ (x1 = (-6) → ∀ d7, d7 = mu d 153 23 1 → ∀ d8, d8 = mu d7 153 22 ((d 153 22) + 1) → Q 0 d8))))) ∧ (x2 < (d 153 22) → ((inR x2) ∧ (150 ≤ x2 → ((inR (d 153 23)) ∧ ((d 153 23) ≠ 0 → ∀ d9, d9 = mu d 153 23 1 → ∀ d10, d10 = mu d9 153 22 ((d 153 22) + 1) → Q 0 d10) ∧ ((d 153 23) = 0 → ((inR x1) ∧ (x1 ≠ (-6) → ∀ d11, d11 = mu d 153 23 0 → ((inR (d 153 22)) ∧ (150 ≤ (d 153 22) → ∀ d12, d12 = mu d11 153 22 ((d 153 22) + 1) → Q 0 d12) ∧ ((d 153 22) < 150 → (0 ≤ (d 153 22) ∧ (d 153 22) < 150) ∧ ∀ d13, d13 = mu d11 165 (d 153 22) x1 → ∀ d14, d14 = mu d13 153 22 ((d 153 22) + 1) → Q 0 d14))) ∧ (x1 = (-6) → ∀ d15, d15 = mu d 153 23 1 → ∀ d16, d16 = mu d15 153 22 ((d 153 22) + 1) → Q 0 d16))))) ∧ (x2 < 150 → ((inR (d 153 23)) ∧ ((d 153 23) ≠ 0 → ∀ d17, d17 = mu d 153 23 1 → (Fr g (eM g M_X9_tell FUL FUL Q) M_X9_tell FUL 2 [some (zR 153), some (zI x1), some (zI (x2 + 1))] [] d17)) ∧ ((d 153 23) = 0 → (0 ≤ x2 ∧ x2 < 150) ∧ ((inR (d 165 x2) ∧ inR x1) ∧ ((d 165 x2) ≠ x1 → ∀ d18, d18 = mu d 153 23 0 → (Fr g (eM g M_X9_tell FUL FUL Q) M_X9_tell FUL 2 [some (zR 153), some (zI x1), some (zI (x2 + 1))] [] d18)) ∧ ((d 165 x2) = x1 → ∀ d19, d19 = mu d 153 23 1 → (Fr g (eM g M_X9_tell FUL FUL Q) M_X9_tell FUL 2 [some (zR 153), some (zI x1), some (zI (x2 + 1))] [] d19)))))))))) : Fr g (eM g M_X9_tell FUL FUL Q) M_X9_tell FUL 2 [some (zR 153), some (zI x1), some (zI x2)] [] d := by
  refine z_iload_n (i := 2) dX9_tell_2 rfl rfl ?_
  refine z_aloadR_n (i := 0) dX9_tell_3 rfl rfl ?_
  refine z_getI' 9 22 (idx := 190) (fv := (d 153 22)) ly153 (by decide) (by decide) rfl (show 153 < 166 by decide) wf_X9_190 dX9_tell_4 rfl ?_
  refine zb_icmp_ge (tgt := 49) dX9_tell_7 (by decide) h.1 ⟨fun c => ?_, fun c => ?_⟩
  · replace h := h.2.1 c
    refine z_aloadR_n (i := 0) dX9_tell_49 rfl rfl ?_
    refine z_aloadR_n (i := 0) dX9_tell_50 rfl rfl ?_
    refine z_getI' 9 23 (idx := 193) (fv := (d 153 23)) ly153 (by decide) (by decide) rfl (show 153 < 166 by decide) wf_X9_193 dX9_tell_51 rfl ?_
    refine zb_if_ne (tgt := 63) dX9_tell_54 (by decide) h.1 ⟨fun c => ?_, fun c => ?_⟩
    · replace h := h.2.1 c
      refine z_iconst dX9_tell_63 ?_
      refine z_goto (tgt := 68) dX9_tell_64 (by decide) ?_
      refine z_putI 9 23 (idx := 193) ly153 (by decide) (by decide) rfl (show 153 < 166 by decide) rfl wf_X9_193 dX9_tell_68 (Or.inr ⟨rfl, by decide⟩) ?_
      generalize hd1 : mu d 153 ((23 : Nat) : Int) 1 = d1
      replace hd1 : d1 = mu d 153 23 1 := hd1.symm
      replace h := h d1 hd1
      refine z_aloadR_n (i := 0) dX9_tell_71 rfl rfl ?_
      refine z_getI' 9 23 (idx := 193) (fv := 1) ly153 (by decide) (by decide) rfl (show 153 < 166 by decide) wf_X9_193 dX9_tell_72 (by show d1 153 23 = _; rw [hd1, mu_get]) ?_
      refine zb_if_ne (tgt := 98) dX9_tell_75 (by decide) (by decide) ⟨fun _ => ?_, fun q => absurd q (by decide)⟩
      refine z_aloadR_n (i := 0) dX9_tell_98 rfl rfl ?_
      refine z_dup dX9_tell_99 (Nat.le_of_ble_eq_true rfl) ?_
      refine z_getI' 9 22 (idx := 190) (fv := (d 153 22)) ly153 (by decide) (by decide) rfl (show 153 < 166 by decide) wf_X9_190 dX9_tell_100 (by show d1 153 22 = _; rw [hd1, mu_ni (by decide)]) ?_
      refine z_iconst dX9_tell_103 ?_
      refine z_iadd dX9_tell_104 ?_
      refine z_putI 9 22 (idx := 190) ly153 (by decide) (by decide) rfl (show 153 < 166 by decide) rfl wf_X9_190 dX9_tell_105 (Or.inl rfl) ?_
      generalize hd2 : mu d1 153 ((22 : Nat) : Int) ((d 153 22) + 1) = d2
      replace hd2 : d2 = mu d1 153 22 ((d 153 22) + 1) := hd2.symm
      replace h := h d2 hd2
      exact zret_v rfl dX9_tell_108 h
    · replace h := h.2.2 c
      refine z_iload_n (i := 1) dX9_tell_57 rfl rfl ?_
      refine z_bipush dX9_tell_58 (by decide +kernel) ?_
      refine zb_icmp_ne (tgt := 67) dX9_tell_60 (by decide) ⟨h.1, by decide⟩ ⟨fun c => ?_, fun c => ?_⟩
      · replace h := h.2.1 c
        refine z_iconst dX9_tell_67 ?_
        refine z_putI 9 23 (idx := 193) ly153 (by decide) (by decide) rfl (show 153 < 166 by decide) rfl wf_X9_193 dX9_tell_68 (Or.inr ⟨rfl, by decide⟩) ?_
        generalize hd3 : mu d 153 ((23 : Nat) : Int) 0 = d3
        replace hd3 : d3 = mu d 153 23 0 := hd3.symm
        replace h := h d3 hd3
        refine z_aloadR_n (i := 0) dX9_tell_71 rfl rfl ?_
        refine z_getI' 9 23 (idx := 193) (fv := 0) ly153 (by decide) (by decide) rfl (show 153 < 166 by decide) wf_X9_193 dX9_tell_72 (by show d3 153 23 = _; rw [hd3, mu_get]) ?_
        refine zb_if_ne (tgt := 98) dX9_tell_75 (by decide) (by decide) ⟨fun q => absurd q (by decide), fun _ => ?_⟩
        refine z_aloadR_n (i := 0) dX9_tell_78 rfl rfl ?_
        refine z_getI' 9 22 (idx := 190) (fv := (d 153 22)) ly153 (by decide) (by decide) rfl (show 153 < 166 by decide) wf_X9_190 dX9_tell_79 (by show d3 153 22 = _; rw [hd3, mu_ni (by decide)]) ?_
        refine z_sipush dX9_tell_82 (by decide +kernel) ?_
        refine zb_icmp_ge (tgt := 98) dX9_tell_85 (by decide) ⟨h.1, by decide⟩ ⟨fun c => ?_, fun c => ?_⟩
        · replace h := h.2.1 c
          refine z_aloadR_n (i := 0) dX9_tell_98 rfl rfl ?_
          refine z_dup dX9_tell_99 (Nat.le_of_ble_eq_true rfl) ?_
          refine z_getI' 9 22 (idx := 190) (fv := (d 153 22)) ly153 (by decide) (by decide) rfl (show 153 < 166 by decide) wf_X9_190 dX9_tell_100 (by show d3 153 22 = _; rw [hd3, mu_ni (by decide)]) ?_
          refine z_iconst dX9_tell_103 ?_
          refine z_iadd dX9_tell_104 ?_
          refine z_putI 9 22 (idx := 190) ly153 (by decide) (by decide) rfl (show 153 < 166 by decide) rfl wf_X9_190 dX9_tell_105 (Or.inl rfl) ?_
          generalize hd4 : mu d3 153 ((22 : Nat) : Int) ((d 153 22) + 1) = d4
          replace hd4 : d4 = mu d3 153 22 ((d 153 22) + 1) := hd4.symm
          replace h := h d4 hd4
          exact zret_v rfl dX9_tell_108 h
        · replace h := h.2.2 c
          refine z_aloadR_n (i := 0) dX9_tell_88 rfl rfl ?_
          refine z_getR 9 21 (idx := 44) ly153 (by decide) (by decide) rfl (show 153 < 166 by decide) rfl rt_153_21 wf_X9_44 dX9_tell_89 ?_
          refine z_aloadR_n (i := 0) dX9_tell_92 rfl rfl ?_
          refine z_getI' 9 22 (idx := 190) (fv := (d 153 22)) ly153 (by decide) (by decide) rfl (show 153 < 166 by decide) wf_X9_190 dX9_tell_93 (by show d3 153 22 = _; rw [hd3, mu_ni (by decide)]) ?_
          refine z_iload_n (i := 1) dX9_tell_96 rfl rfl ?_
          refine z_iastore ly165 (show 165 < 166 by decide) (by decide) dX9_tell_97 h.1 ?_
          replace h := h.2
          generalize hd5 : mu d3 165 (d 153 22) x1 = d5
          replace hd5 := hd5.symm
          replace h := h d5 hd5
          refine z_aloadR_n (i := 0) dX9_tell_98 rfl rfl ?_
          refine z_dup dX9_tell_99 (Nat.le_of_ble_eq_true rfl) ?_
          refine z_getI' 9 22 (idx := 190) (fv := (d 153 22)) ly153 (by decide) (by decide) rfl (show 153 < 166 by decide) wf_X9_190 dX9_tell_100 (by show d5 153 22 = _; rw [hd5, mu_na (by omega)]; rw [hd3, mu_ni (by decide)]) ?_
          refine z_iconst dX9_tell_103 ?_
          refine z_iadd dX9_tell_104 ?_
          refine z_putI 9 22 (idx := 190) ly153 (by decide) (by decide) rfl (show 153 < 166 by decide) rfl wf_X9_190 dX9_tell_105 (Or.inl rfl) ?_
          generalize hd6 : mu d5 153 ((22 : Nat) : Int) ((d 153 22) + 1) = d6
          replace hd6 : d6 = mu d5 153 22 ((d 153 22) + 1) := hd6.symm
          replace h := h d6 hd6
          exact zret_v rfl dX9_tell_108 h
      · replace h := h.2.2 c
        refine z_iconst dX9_tell_63 ?_
        refine z_goto (tgt := 68) dX9_tell_64 (by decide) ?_
        refine z_putI 9 23 (idx := 193) ly153 (by decide) (by decide) rfl (show 153 < 166 by decide) rfl wf_X9_193 dX9_tell_68 (Or.inr ⟨rfl, by decide⟩) ?_
        generalize hd7 : mu d 153 ((23 : Nat) : Int) 1 = d7
        replace hd7 : d7 = mu d 153 23 1 := hd7.symm
        replace h := h d7 hd7
        refine z_aloadR_n (i := 0) dX9_tell_71 rfl rfl ?_
        refine z_getI' 9 23 (idx := 193) (fv := 1) ly153 (by decide) (by decide) rfl (show 153 < 166 by decide) wf_X9_193 dX9_tell_72 (by show d7 153 23 = _; rw [hd7, mu_get]) ?_
        refine zb_if_ne (tgt := 98) dX9_tell_75 (by decide) (by decide) ⟨fun _ => ?_, fun q => absurd q (by decide)⟩
        refine z_aloadR_n (i := 0) dX9_tell_98 rfl rfl ?_
        refine z_dup dX9_tell_99 (Nat.le_of_ble_eq_true rfl) ?_
        refine z_getI' 9 22 (idx := 190) (fv := (d 153 22)) ly153 (by decide) (by decide) rfl (show 153 < 166 by decide) wf_X9_190 dX9_tell_100 (by show d7 153 22 = _; rw [hd7, mu_ni (by decide)]) ?_
        refine z_iconst dX9_tell_103 ?_
        refine z_iadd dX9_tell_104 ?_
        refine z_putI 9 22 (idx := 190) ly153 (by decide) (by decide) rfl (show 153 < 166 by decide) rfl wf_X9_190 dX9_tell_105 (Or.inl rfl) ?_
        generalize hd8 : mu d7 153 ((22 : Nat) : Int) ((d 153 22) + 1) = d8
        replace hd8 : d8 = mu d7 153 22 ((d 153 22) + 1) := hd8.symm
        replace h := h d8 hd8
        exact zret_v rfl dX9_tell_108 h
  · replace h := h.2.2 c
    refine z_iload_n (i := 2) dX9_tell_10 rfl rfl ?_
    refine z_sipush dX9_tell_11 (by decide +kernel) ?_
    refine zb_icmp_ge (tgt := 49) dX9_tell_14 (by decide) ⟨h.1, by decide⟩ ⟨fun c => ?_, fun c => ?_⟩
    · replace h := h.2.1 c
      refine z_aloadR_n (i := 0) dX9_tell_49 rfl rfl ?_
      refine z_aloadR_n (i := 0) dX9_tell_50 rfl rfl ?_
      refine z_getI' 9 23 (idx := 193) (fv := (d 153 23)) ly153 (by decide) (by decide) rfl (show 153 < 166 by decide) wf_X9_193 dX9_tell_51 rfl ?_
      refine zb_if_ne (tgt := 63) dX9_tell_54 (by decide) h.1 ⟨fun c => ?_, fun c => ?_⟩
      · replace h := h.2.1 c
        refine z_iconst dX9_tell_63 ?_
        refine z_goto (tgt := 68) dX9_tell_64 (by decide) ?_
        refine z_putI 9 23 (idx := 193) ly153 (by decide) (by decide) rfl (show 153 < 166 by decide) rfl wf_X9_193 dX9_tell_68 (Or.inr ⟨rfl, by decide⟩) ?_
        generalize hd9 : mu d 153 ((23 : Nat) : Int) 1 = d9
        replace hd9 : d9 = mu d 153 23 1 := hd9.symm
        replace h := h d9 hd9
        refine z_aloadR_n (i := 0) dX9_tell_71 rfl rfl ?_
        refine z_getI' 9 23 (idx := 193) (fv := 1) ly153 (by decide) (by decide) rfl (show 153 < 166 by decide) wf_X9_193 dX9_tell_72 (by show d9 153 23 = _; rw [hd9, mu_get]) ?_
        refine zb_if_ne (tgt := 98) dX9_tell_75 (by decide) (by decide) ⟨fun _ => ?_, fun q => absurd q (by decide)⟩
        refine z_aloadR_n (i := 0) dX9_tell_98 rfl rfl ?_
        refine z_dup dX9_tell_99 (Nat.le_of_ble_eq_true rfl) ?_
        refine z_getI' 9 22 (idx := 190) (fv := (d 153 22)) ly153 (by decide) (by decide) rfl (show 153 < 166 by decide) wf_X9_190 dX9_tell_100 (by show d9 153 22 = _; rw [hd9, mu_ni (by decide)]) ?_
        refine z_iconst dX9_tell_103 ?_
        refine z_iadd dX9_tell_104 ?_
        refine z_putI 9 22 (idx := 190) ly153 (by decide) (by decide) rfl (show 153 < 166 by decide) rfl wf_X9_190 dX9_tell_105 (Or.inl rfl) ?_
        generalize hd10 : mu d9 153 ((22 : Nat) : Int) ((d 153 22) + 1) = d10
        replace hd10 : d10 = mu d9 153 22 ((d 153 22) + 1) := hd10.symm
        replace h := h d10 hd10
        exact zret_v rfl dX9_tell_108 h
      · replace h := h.2.2 c
        refine z_iload_n (i := 1) dX9_tell_57 rfl rfl ?_
        refine z_bipush dX9_tell_58 (by decide +kernel) ?_
        refine zb_icmp_ne (tgt := 67) dX9_tell_60 (by decide) ⟨h.1, by decide⟩ ⟨fun c => ?_, fun c => ?_⟩
        · replace h := h.2.1 c
          refine z_iconst dX9_tell_67 ?_
          refine z_putI 9 23 (idx := 193) ly153 (by decide) (by decide) rfl (show 153 < 166 by decide) rfl wf_X9_193 dX9_tell_68 (Or.inr ⟨rfl, by decide⟩) ?_
          generalize hd11 : mu d 153 ((23 : Nat) : Int) 0 = d11
          replace hd11 : d11 = mu d 153 23 0 := hd11.symm
          replace h := h d11 hd11
          refine z_aloadR_n (i := 0) dX9_tell_71 rfl rfl ?_
          refine z_getI' 9 23 (idx := 193) (fv := 0) ly153 (by decide) (by decide) rfl (show 153 < 166 by decide) wf_X9_193 dX9_tell_72 (by show d11 153 23 = _; rw [hd11, mu_get]) ?_
          refine zb_if_ne (tgt := 98) dX9_tell_75 (by decide) (by decide) ⟨fun q => absurd q (by decide), fun _ => ?_⟩
          refine z_aloadR_n (i := 0) dX9_tell_78 rfl rfl ?_
          refine z_getI' 9 22 (idx := 190) (fv := (d 153 22)) ly153 (by decide) (by decide) rfl (show 153 < 166 by decide) wf_X9_190 dX9_tell_79 (by show d11 153 22 = _; rw [hd11, mu_ni (by decide)]) ?_
          refine z_sipush dX9_tell_82 (by decide +kernel) ?_
          refine zb_icmp_ge (tgt := 98) dX9_tell_85 (by decide) ⟨h.1, by decide⟩ ⟨fun c => ?_, fun c => ?_⟩
          · replace h := h.2.1 c
            refine z_aloadR_n (i := 0) dX9_tell_98 rfl rfl ?_
            refine z_dup dX9_tell_99 (Nat.le_of_ble_eq_true rfl) ?_
            refine z_getI' 9 22 (idx := 190) (fv := (d 153 22)) ly153 (by decide) (by decide) rfl (show 153 < 166 by decide) wf_X9_190 dX9_tell_100 (by show d11 153 22 = _; rw [hd11, mu_ni (by decide)]) ?_
            refine z_iconst dX9_tell_103 ?_
            refine z_iadd dX9_tell_104 ?_
            refine z_putI 9 22 (idx := 190) ly153 (by decide) (by decide) rfl (show 153 < 166 by decide) rfl wf_X9_190 dX9_tell_105 (Or.inl rfl) ?_
            generalize hd12 : mu d11 153 ((22 : Nat) : Int) ((d 153 22) + 1) = d12
            replace hd12 : d12 = mu d11 153 22 ((d 153 22) + 1) := hd12.symm
            replace h := h d12 hd12
            exact zret_v rfl dX9_tell_108 h
          · replace h := h.2.2 c
            refine z_aloadR_n (i := 0) dX9_tell_88 rfl rfl ?_
            refine z_getR 9 21 (idx := 44) ly153 (by decide) (by decide) rfl (show 153 < 166 by decide) rfl rt_153_21 wf_X9_44 dX9_tell_89 ?_
            refine z_aloadR_n (i := 0) dX9_tell_92 rfl rfl ?_
            refine z_getI' 9 22 (idx := 190) (fv := (d 153 22)) ly153 (by decide) (by decide) rfl (show 153 < 166 by decide) wf_X9_190 dX9_tell_93 (by show d11 153 22 = _; rw [hd11, mu_ni (by decide)]) ?_
            refine z_iload_n (i := 1) dX9_tell_96 rfl rfl ?_
            refine z_iastore ly165 (show 165 < 166 by decide) (by decide) dX9_tell_97 h.1 ?_
            replace h := h.2
            generalize hd13 : mu d11 165 (d 153 22) x1 = d13
            replace hd13 := hd13.symm
            replace h := h d13 hd13
            refine z_aloadR_n (i := 0) dX9_tell_98 rfl rfl ?_
            refine z_dup dX9_tell_99 (Nat.le_of_ble_eq_true rfl) ?_
            refine z_getI' 9 22 (idx := 190) (fv := (d 153 22)) ly153 (by decide) (by decide) rfl (show 153 < 166 by decide) wf_X9_190 dX9_tell_100 (by show d13 153 22 = _; rw [hd13, mu_na (by omega)]; rw [hd11, mu_ni (by decide)]) ?_
            refine z_iconst dX9_tell_103 ?_
            refine z_iadd dX9_tell_104 ?_
            refine z_putI 9 22 (idx := 190) ly153 (by decide) (by decide) rfl (show 153 < 166 by decide) rfl wf_X9_190 dX9_tell_105 (Or.inl rfl) ?_
            generalize hd14 : mu d13 153 ((22 : Nat) : Int) ((d 153 22) + 1) = d14
            replace hd14 : d14 = mu d13 153 22 ((d 153 22) + 1) := hd14.symm
            replace h := h d14 hd14
            exact zret_v rfl dX9_tell_108 h
        · replace h := h.2.2 c
          refine z_iconst dX9_tell_63 ?_
          refine z_goto (tgt := 68) dX9_tell_64 (by decide) ?_
          refine z_putI 9 23 (idx := 193) ly153 (by decide) (by decide) rfl (show 153 < 166 by decide) rfl wf_X9_193 dX9_tell_68 (Or.inr ⟨rfl, by decide⟩) ?_
          generalize hd15 : mu d 153 ((23 : Nat) : Int) 1 = d15
          replace hd15 : d15 = mu d 153 23 1 := hd15.symm
          replace h := h d15 hd15
          refine z_aloadR_n (i := 0) dX9_tell_71 rfl rfl ?_
          refine z_getI' 9 23 (idx := 193) (fv := 1) ly153 (by decide) (by decide) rfl (show 153 < 166 by decide) wf_X9_193 dX9_tell_72 (by show d15 153 23 = _; rw [hd15, mu_get]) ?_
          refine zb_if_ne (tgt := 98) dX9_tell_75 (by decide) (by decide) ⟨fun _ => ?_, fun q => absurd q (by decide)⟩
          refine z_aloadR_n (i := 0) dX9_tell_98 rfl rfl ?_
          refine z_dup dX9_tell_99 (Nat.le_of_ble_eq_true rfl) ?_
          refine z_getI' 9 22 (idx := 190) (fv := (d 153 22)) ly153 (by decide) (by decide) rfl (show 153 < 166 by decide) wf_X9_190 dX9_tell_100 (by show d15 153 22 = _; rw [hd15, mu_ni (by decide)]) ?_
          refine z_iconst dX9_tell_103 ?_
          refine z_iadd dX9_tell_104 ?_
          refine z_putI 9 22 (idx := 190) ly153 (by decide) (by decide) rfl (show 153 < 166 by decide) rfl wf_X9_190 dX9_tell_105 (Or.inl rfl) ?_
          generalize hd16 : mu d15 153 ((22 : Nat) : Int) ((d 153 22) + 1) = d16
          replace hd16 : d16 = mu d15 153 22 ((d 153 22) + 1) := hd16.symm
          replace h := h d16 hd16
          exact zret_v rfl dX9_tell_108 h
    · replace h := h.2.2 c
      refine z_aloadR_n (i := 0) dX9_tell_17 rfl rfl ?_
      refine z_aloadR_n (i := 0) dX9_tell_18 rfl rfl ?_
      refine z_getI' 9 23 (idx := 193) (fv := (d 153 23)) ly153 (by decide) (by decide) rfl (show 153 < 166 by decide) wf_X9_193 dX9_tell_19 rfl ?_
      refine zb_if_ne (tgt := 35) dX9_tell_22 (by decide) h.1 ⟨fun c => ?_, fun c => ?_⟩
      · replace h := h.2.1 c
        refine z_iconst dX9_tell_35 ?_
        refine z_goto (tgt := 40) dX9_tell_36 (by decide) ?_
        refine z_putI 9 23 (idx := 193) ly153 (by decide) (by decide) rfl (show 153 < 166 by decide) rfl wf_X9_193 dX9_tell_40 (Or.inr ⟨rfl, by decide⟩) ?_
        generalize hd17 : mu d 153 ((23 : Nat) : Int) 1 = d17
        replace hd17 : d17 = mu d 153 23 1 := hd17.symm
        replace h := h d17 hd17
        refine z_iinc (i := 2) (ls2 := [some (zR 153), some (zI x1), some (zI (x2 + 1))]) dX9_tell_43 (by decide) rfl rfl ?_
        refine z_goto (tgt := 2) dX9_tell_46 (by decide) ?_
        exact h
      · replace h := h.2.2 c
        refine z_aloadR_n (i := 0) dX9_tell_25 rfl rfl ?_
        refine z_getR 9 21 (idx := 44) ly153 (by decide) (by decide) rfl (show 153 < 166 by decide) rfl rt_153_21 wf_X9_44 dX9_tell_26 ?_
        refine z_iload_n (i := 2) dX9_tell_29 rfl rfl ?_
        refine z_iaload' (fv := (d 165 x2)) ly165 (show 165 < 166 by decide) (by decide) dX9_tell_30 h.1 rfl ?_
        replace h := h.2
        refine z_iload_n (i := 1) dX9_tell_31 rfl rfl ?_
        refine zb_icmp_ne (tgt := 39) dX9_tell_32 (by decide) h.1 ⟨fun c => ?_, fun c => ?_⟩
        · replace h := h.2.1 c
          refine z_iconst dX9_tell_39 ?_
          refine z_putI 9 23 (idx := 193) ly153 (by decide) (by decide) rfl (show 153 < 166 by decide) rfl wf_X9_193 dX9_tell_40 (Or.inr ⟨rfl, by decide⟩) ?_
          generalize hd18 : mu d 153 ((23 : Nat) : Int) 0 = d18
          replace hd18 : d18 = mu d 153 23 0 := hd18.symm
          replace h := h d18 hd18
          refine z_iinc (i := 2) (ls2 := [some (zR 153), some (zI x1), some (zI (x2 + 1))]) dX9_tell_43 (by decide) rfl rfl ?_
          refine z_goto (tgt := 2) dX9_tell_46 (by decide) ?_
          exact h
        · replace h := h.2.2 c
          refine z_iconst dX9_tell_35 ?_
          refine z_goto (tgt := 40) dX9_tell_36 (by decide) ?_
          refine z_putI 9 23 (idx := 193) ly153 (by decide) (by decide) rfl (show 153 < 166 by decide) rfl wf_X9_193 dX9_tell_40 (Or.inr ⟨rfl, by decide⟩) ?_
          generalize hd19 : mu d 153 ((23 : Nat) : Int) 1 = d19
          replace hd19 : d19 = mu d 153 23 1 := hd19.symm
          replace h := h d19 hd19
          refine z_iinc (i := 2) (ls2 := [some (zR 153), some (zI x1), some (zI (x2 + 1))]) dX9_tell_43 (by decide) rfl rfl ?_
          refine z_goto (tgt := 2) dX9_tell_46 (by decide) ?_
          exact h
set_option maxRecDepth 20000 in
theorem v_X9_readPad_0 {g : zGG} {Q : Int → zMem → Prop} {d : zMem}   (h : ∀ d1, d1 = mu d 153 19 0 → ∀ d2, d2 = mu d1 153 20 0 → ∀ d3, d3 = mu d2 153 22 0 → ∀ d4, d4 = mu d3 153 23 0 → Ev g M_X9_number FUL FUL [zR 153, zI 19] d4 (fun v1 d5 => Ev g M_X9_sign FUL FUL [zR 153, zI 44, zI 44] d5 (fun v2 d6 => Ev g M_X9_number FUL FUL [zR 153, zI 11] d6 (fun v3 d7 => Ev g M_X9_sign FUL FUL [zR 153, zI 58, zI 58] d7 (fun v4 d8 => ((inR (d8 153 20)) ∧ ((d8 153 20) ≠ 0 → (Fr g (eM g M_X9_readPad FUL FUL Q) M_X9_readPad FUL 72 [some (zR 153), some (zI v1), some (zI v4), some (zI v3), some (zI 1), none, none, none, none, none] [] d8)) ∧ ((d8 153 20) = 0 → Ev g M_X9_tell FUL FUL [zR 153, zI ((20 * v3) + v1)] d8 (fun _ d9 => (Fr g (eM g M_X9_readPad FUL FUL Q) M_X9_readPad FUL 72 [some (zR 153), some (zI v1), some (zI v4), some (zI v3), some (zI 1), none, none, none, none, none] [] d9))))))))) : Fr g (eM g M_X9_readPad FUL FUL Q) M_X9_readPad FUL 0 [some (zR 153), none, none, none, none, none, none, none, none, none] [] d := by
  refine z_aloadR_n (i := 0) dX9_readPad_0 rfl rfl ?_
  refine z_iconst dX9_readPad_1 ?_
  refine z_putI 9 19 (idx := 178) ly153 (by decide) (by decide) rfl (show 153 < 166 by decide) rfl wf_X9_178 dX9_readPad_2 (Or.inl rfl) ?_
  generalize hd1 : mu d 153 ((19 : Nat) : Int) 0 = d1
  replace hd1 : d1 = mu d 153 19 0 := hd1.symm
  replace h := h d1 hd1
  refine z_aloadR_n (i := 0) dX9_readPad_5 rfl rfl ?_
  refine z_iconst dX9_readPad_6 ?_
  refine z_putI 9 20 (idx := 181) ly153 (by decide) (by decide) rfl (show 153 < 166 by decide) rfl wf_X9_181 dX9_readPad_7 (Or.inr ⟨rfl, by decide⟩) ?_
  generalize hd2 : mu d1 153 ((20 : Nat) : Int) 0 = d2
  replace hd2 : d2 = mu d1 153 20 0 := hd2.symm
  replace h := h d2 hd2
  refine z_aloadR_n (i := 0) dX9_readPad_10 rfl rfl ?_
  refine z_iconst dX9_readPad_11 ?_
  refine z_putI 9 22 (idx := 190) ly153 (by decide) (by decide) rfl (show 153 < 166 by decide) rfl wf_X9_190 dX9_readPad_12 (Or.inl rfl) ?_
  generalize hd3 : mu d2 153 ((22 : Nat) : Int) 0 = d3
  replace hd3 : d3 = mu d2 153 22 0 := hd3.symm
  replace h := h d3 hd3
  refine z_aloadR_n (i := 0) dX9_readPad_15 rfl rfl ?_
  refine z_iconst dX9_readPad_16 ?_
  refine z_putI 9 23 (idx := 193) ly153 (by decide) (by decide) rfl (show 153 < 166 by decide) rfl wf_X9_193 dX9_readPad_17 (Or.inr ⟨rfl, by decide⟩) ?_
  generalize hd4 : mu d3 153 ((23 : Nat) : Int) 0 = d4
  replace hd4 : d4 = mu d3 153 23 0 := hd4.symm
  replace h := h d4 hd4
  refine z_aloadR_n (i := 0) dX9_readPad_20 rfl rfl ?_
  refine z_bipush dX9_readPad_21 (by decide +kernel) ?_
  refine z_callVi (k' := M_X9_number) (As := [zI 19]) (st := []) dX9_readPad_23 rfl ly153 (by decide) rfl (show 153 < 166 by decide) wm_X9_196 ok_X9_number okV_X9_number rfl (zroom_self (by decide) (by decide)) (Nat.le_of_ble_eq_true rfl) (Nat.le_refl _) rfl (Ev_mono h (fun v1 d5 h => ?_))
  refine z_istore_n (i := 1) (ls2 := [some (zR 153), some (zI v1), none, none, none, none, none, none, none, none]) dX9_readPad_26 rfl (by decide) rfl ?_
  refine z_aloadR_n (i := 0) dX9_readPad_27 rfl rfl ?_
  refine z_bipush dX9_readPad_28 (by decide +kernel) ?_
  refine z_bipush dX9_readPad_30 (by decide +kernel) ?_
  refine z_callVi (k' := M_X9_sign) (As := [zI 44, zI 44]) (st := []) dX9_readPad_32 rfl ly153 (by decide) rfl (show 153 < 166 by decide) wm_X9_184 ok_X9_sign okV_X9_sign rfl (zroom_self (by decide) (by decide)) (Nat.le_of_ble_eq_true rfl) (Nat.le_refl _) rfl (Ev_mono h (fun v2 d6 h => ?_))
  refine z_istore_n (i := 2) (ls2 := [some (zR 153), some (zI v1), some (zI v2), none, none, none, none, none, none, none]) dX9_readPad_35 rfl (by decide) rfl ?_
  refine z_aloadR_n (i := 0) dX9_readPad_36 rfl rfl ?_
  refine z_bipush dX9_readPad_37 (by decide +kernel) ?_
  refine z_callVi (k' := M_X9_number) (As := [zI 11]) (st := []) dX9_readPad_39 rfl ly153 (by decide) rfl (show 153 < 166 by decide) wm_X9_196 ok_X9_number okV_X9_number rfl (zroom_self (by decide) (by decide)) (Nat.le_of_ble_eq_true rfl) (Nat.le_refl _) rfl (Ev_mono h (fun v3 d7 h => ?_))
  refine z_istore_n (i := 3) (ls2 := [some (zR 153), some (zI v1), some (zI v2), some (zI v3), none, none, none, none, none, none]) dX9_readPad_42 rfl (by decide) rfl ?_
  refine z_aloadR_n (i := 0) dX9_readPad_43 rfl rfl ?_
  refine z_bipush dX9_readPad_44 (by decide +kernel) ?_
  refine z_bipush dX9_readPad_46 (by decide +kernel) ?_
  refine z_callVi (k' := M_X9_sign) (As := [zI 58, zI 58]) (st := []) dX9_readPad_48 rfl ly153 (by decide) rfl (show 153 < 166 by decide) wm_X9_184 ok_X9_sign okV_X9_sign rfl (zroom_self (by decide) (by decide)) (Nat.le_of_ble_eq_true rfl) (Nat.le_refl _) rfl (Ev_mono h (fun v4 d8 h => ?_))
  refine z_istore_n (i := 2) (ls2 := [some (zR 153), some (zI v1), some (zI v4), some (zI v3), none, none, none, none, none, none]) dX9_readPad_51 rfl (by decide) rfl ?_
  refine z_aloadR_n (i := 0) dX9_readPad_52 rfl rfl ?_
  refine z_getI' 9 20 (idx := 181) (fv := (d8 153 20)) ly153 (by decide) (by decide) rfl (show 153 < 166 by decide) wf_X9_181 dX9_readPad_53 rfl ?_
  refine zb_if_ne (tgt := 69) dX9_readPad_56 (by decide) h.1 ⟨fun c => ?_, fun c => ?_⟩
  · replace h := h.2.1 c
    refine z_iconst dX9_readPad_69 ?_
    refine z_istore (i := 4) (ls2 := [some (zR 153), some (zI v1), some (zI v4), some (zI v3), some (zI 1), none, none, none, none, none]) dX9_readPad_70 (by decide) rfl ?_
    exact h
  · replace h := h.2.2 c
    refine z_aloadR_n (i := 0) dX9_readPad_59 rfl rfl ?_
    refine z_bipush dX9_readPad_60 (by decide +kernel) ?_
    refine z_iload_n (i := 3) dX9_readPad_62 rfl rfl ?_
    refine z_imul dX9_readPad_63 ?_
    refine z_iload_n (i := 1) dX9_readPad_64 rfl rfl ?_
    refine z_iadd dX9_readPad_65 ?_
    refine z_callVv (k' := M_X9_tell) (As := [zI ((20 * v3) + v1)]) (st := []) dX9_readPad_66 rfl ly153 (by decide) rfl (show 153 < 166 by decide) wm_X9_199 ok_X9_tell okV_X9_tell rfl (zroom_self (by decide) (by decide)) (Nat.le_of_ble_eq_true rfl) (Nat.le_refl _) rfl (Ev_mono h (fun _ d9 h => ?_))
    refine z_iconst dX9_readPad_69 ?_
    refine z_istore (i := 4) (ls2 := [some (zR 153), some (zI v1), some (zI v4), some (zI v3), some (zI 1), none, none, none, none, none]) dX9_readPad_70 (by decide) rfl ?_
    exact h
theorem e_X9_readPad {g : zGG} {Q : Int → zMem → Prop} {d : zMem}  (h : ∀ d1, d1 = mu d 153 19 0 → ∀ d2, d2 = mu d1 153 20 0 → ∀ d3, d3 = mu d2 153 22 0 → ∀ d4, d4 = mu d3 153 23 0 → Ev g M_X9_number FUL FUL [zR 153, zI 19] d4 (fun v1 d5 => Ev g M_X9_sign FUL FUL [zR 153, zI 44, zI 44] d5 (fun v2 d6 => Ev g M_X9_number FUL FUL [zR 153, zI 11] d6 (fun v3 d7 => Ev g M_X9_sign FUL FUL [zR 153, zI 58, zI 58] d7 (fun v4 d8 => ((inR (d8 153 20)) ∧ ((d8 153 20) ≠ 0 → (Fr g (eM g M_X9_readPad FUL FUL Q) M_X9_readPad FUL 72 [some (zR 153), some (zI v1), some (zI v4), some (zI v3), some (zI 1), none, none, none, none, none] [] d8)) ∧ ((d8 153 20) = 0 → Ev g M_X9_tell FUL FUL [zR 153, zI ((20 * v3) + v1)] d8 (fun _ d9 => (Fr g (eM g M_X9_readPad FUL FUL Q) M_X9_readPad FUL 72 [some (zR 153), some (zI v1), some (zI v4), some (zI v3), some (zI 1), none, none, none, none, none] [] d9))))))))) : Ev g M_X9_readPad FUL FUL [zR 153] d Q :=
  Ev_of (by decide +kernel) (Nat.le_of_ble_eq_true rfl) (v_X9_readPad_0  h)
set_option maxRecDepth 20000 in
theorem v_X9_readPad_72 {g : zGG} {Q : Int → zMem → Prop} {d : zMem}  {x1 : Int} {x2 : Int} {x3 : Int} {x4 : Int} (h : ((inR x4) ∧ (x4 = 0 → Q 0 d) ∧ (x4 ≠ 0 → ((inR (d 153 19) ∧ inR (d 153 7)) ∧ ((d 153 7) ≤ (d 153 19) → ((inR (d 153 20)) ∧ ((d 153 20) ≠ 0 → ∀ d1, d1 = mu d 153 20 1 → ∀ d2, d2 = mu d1 153 19 ((d 153 19) + 0) → Ev g M_X9_isNext FUL FUL [zR 153, zI 50, zI 57] d2 (fun v1 d3 => ((inR v1) ∧ (v1 = 0 → (Fr g (eM g M_X9_readPad FUL FUL Q) M_X9_readPad FUL 235 [some (zR 153), some (zI x1), some (zI x2), some (zI x3), some (zI x4), some (zI 0), some (zI 3), some (zI 1), some (zI 0), none] [] d3)) ∧ (v1 ≠ 0 → Ev g M_X9_sign FUL FUL [zR 153, zI 50, zI 57] d3 (fun v2 d4 => (Fr g (eM g M_X9_readPad FUL FUL Q) M_X9_readPad FUL 235 [some (zR 153), some (zI x1), some (zI x2), some (zI x3), some (zI x4), some (zI 0), some (zI 3), some (zI (v2 - 48)), some (zI 0), none] [] d4)))))) ∧ ((d 153 20) = 0 → ∀ d5, d5 = mu d 153 20 1 → ∀ d6, d6 = mu d5 153 19 ((d 153 19) + 0) → Ev g M_X9_isNext FUL FUL [zR 153, zI 50, zI 57] d6 (fun v3 d7 => ((inR v3) ∧ (v3 = 0 → (Fr g (eM g M_X9_readPad FUL FUL Q) M_X9_readPad FUL 235 [some (zR 153), some (zI x1), some (zI x2), some (zI x3), some (zI x4), some (zI 0), some (zI 3), some (zI 1), some (zI 0), none] [] d7)) ∧ (v3 ≠ 0 → Ev g M_X9_sign FUL FUL [zR 153, zI 50, zI 57] d7 (fun v4 d8 => (Fr g (eM g M_X9_readPad FUL FUL Q) M_X9_readPad FUL 235 [some (zR 153), some (zI x1), some (zI x2), some (zI x3), some (zI x4), some (zI 0), some (zI 3), some (zI (v4 - 48)), some (zI 0), none] [] d8)))))))) ∧ ((d 153 19) < (d 153 7) → (0 ≤ (d 153 19) ∧ (d 153 19) < 64) ∧ ((inR (d 153 20)) ∧ ((d 153 20) ≠ 0 → ∀ d9, d9 = mu d 153 20 1 → ∀ d10, d10 = mu d9 153 19 ((d 153 19) + 0) → ((inR (d 159 (d 153 19))) ∧ ((d 159 (d 153 19)) ≠ 114 → ((inR (d 159 (d 153 19))) ∧ ((d 159 (d 153 19)) ≠ 117 → ((inR (d 159 (d 153 19))) ∧ ((d 159 (d 153 19)) ≠ 108 → Ev g M_X9_isNext FUL FUL [zR 153, zI 50, zI 57] d10 (fun v5 d11 => ((inR v5) ∧ (v5 = 0 → (Fr g (eM g M_X9_readPad FUL FUL Q) M_X9_readPad FUL 235 [some (zR 153), some (zI x1), some (zI x2), some (zI x3), some (zI x4), some (zI (d 159 (d 153 19))), some (zI 3), some (zI 1), some (zI 0), none] [] d11)) ∧ (v5 ≠ 0 → Ev g M_X9_sign FUL FUL [zR 153, zI 50, zI 57] d11 (fun v6 d12 => (Fr g (eM g M_X9_readPad FUL FUL Q) M_X9_readPad FUL 235 [some (zR 153), some (zI x1), some (zI x2), some (zI x3), some (zI x4), some (zI (d 159 (d 153 19))), some (zI 3), some (zI (v6 - 48)), some (zI 0), none] [] d12)))))) ∧ ((d 159 (d 153 19)) = 108 → Ev g M_X9_isNext FUL FUL [zR 153, zI 50, zI 57] d10 (fun v7 d13 => ((inR v7) ∧ (v7 = 0 → (Fr g (eM g M_X9_readPad FUL FUL Q) M_X9_readPad FUL 235 [some (zR 153), some (zI x1), some (zI x2), some (zI x3), some (zI x4), some (zI (d 159 (d 153 19))), some (zI 2), some (zI 1), some (zI 0), none] [] d13)) ∧ (v7 ≠ 0 → Ev g M_X9_sign FUL FUL [zR 153, zI 50, zI 57] d13 (fun v8 d14 => (Fr g (eM g M_X9_readPad FUL FUL Q) M_X9_readPad FUL 235 [some (zR 153), some (zI x1), some (zI x2), some (zI x3), some (zI x4), some (zI (d 159 (d 153 19))), some (zI 2), some (zI (v8 - 48)), some (zI 0), none] [] d14)))))))) ∧ ((d 159 (d 153 19)) = 117 → Ev g M_X9_isNext FUL FUL [zR 153, zI 50, zI 57] d10 (fun v9 d15 => ((inR v9) ∧ (v9 = 0 → (Fr g (eM g M_X9_readPad FUL FUL Q) M_X9_readPad FUL 235 [some (zR 153), some (zI x1), some (zI x2), some (zI x3), some (zI x4), some (zI (d 159 (d 153 19))), some (zI 1), some (zI 1), some (zI 0), none] [] d15)) ∧ (v9 ≠ 0 → Ev g M_X9_sign FUL FUL [zR 153, zI 50, zI 57] d15 (fun v10 d16 => (Fr g (eM g M_X9_readPad FUL FUL Q) M_X9_readPad FUL 235 [some (zR 153), some (zI x1), some (zI x2), some (zI x3), some (zI x4), some (zI (d 159 (d 153 19))), some (zI 1), some (zI (v10 - 48)), some (zI 0), none] [] d16)))))))) ∧ ((d 159 (d 153 19)) = 114 → Ev g M_X9_isNext FUL FUL [zR 153, zI 50, zI 57] d10 (fun v11 d17 => ((inR v11) ∧ (v11 = 0 → (Fr g (eM g M_X9_readPad FUL FUL Q) M_X9_readPad FUL 235 [some (zR 153), some (zI x1), some (zI x2), some (zI x3), some (zI x4), some (zI (d 159 (d 153 19))), some (zI 0), some (zI 1), some (zI 0), none] [] d17)) ∧ (v11 ≠ 0 → Ev g M_X9_sign FUL FUL [zR 153, zI 50, zI 57] d17 (fun v12 d18 => (Fr g (eM g M_X9_readPad FUL FUL Q) M_X9_readPad FUL 235 [some (zR 153), some (zI x1), some (zI x2), some (zI x3), some (zI x4), some (zI (d 159 (d 153 19))), some (zI 0), some (zI (v12 - 48)), some (zI 0), none] [] d18)))))))) ∧ ((d 153 20) = 0 → ((inR (d 159 (d 153 19))) ∧ ((d 159 (d 153 19)) = 114 → ∀ d19, d19 = mu d 153 20 0 → ∀ d20, d20 = mu d19 153 19 ((d 153 19) + 1) → ((inR (d 159 (d 153 19))) ∧ ((d 159 (d 153 19)) ≠ 114 → ((inR (d 159 (d 153 19))) ∧ ((d 159 (d 153 19)) ≠ 117 → ((inR (d 159 (d 153 19))) ∧ ((d 159 (d 153 19)) ≠ 108 → Ev g M_X9_isNext FUL FUL [zR 153, zI 50, zI 57] d20 (fun v13 d21 => ((inR v13) ∧ (v13 = 0 → (Fr g (eM g M_X9_readPad FUL FUL Q) M_X9_readPad FUL 235 [some (zR 153), some (zI x1), some (zI x2), some (zI x3), some (zI x4), some (zI (d 159 (d 153 19))), some (zI 3), some (zI 1), some (zI 0), none] [] d21)) ∧ (v13 ≠ 0 → Ev g M_X9_sign FUL FUL [zR 153, zI 50, zI 57] d21 (fun v14 d22 => (Fr g (eM g M_X9_readPad FUL FUL Q) M_X9_readPad FUL 235 [some (zR 153), some (zI x1), some (zI x2), some (zI x3), some (zI x4), some (zI (d 159 (d 153 19))), some (zI 3), some (zI (v14 - 48)), some (zI 0), none] [] d22)))))) ∧ ((d 159 (d 153 19)) = 108 → Ev g M_X9_isNext FUL FUL [zR 153, zI 50, zI 57] d20 (fun v15 d23 => ((inR v15) ∧ (v15 = 0 → (Fr g (eM g M_X9_readPad FUL FUL Q) M_X9_readPad FUL 235 [some (zR 153), some (zI x1), some (zI x2), some (zI x3), some (zI x4), some (zI (d 159 (d 153 19))), some (zI 2), some (zI 1), some (zI 0), none] [] d23)) ∧ (v15 ≠ 0 → Ev g M_X9_sign FUL FUL [zR 153, zI 50, zI 57] d23 (fun v16 d24 => (Fr g (eM g M_X9_readPad FUL FUL Q) M_X9_readPad FUL 235 [some (zR 153), some (zI x1), some (zI x2), some (zI x3), some (zI x4), some (zI (d 159 (d 153 19))), some (zI 2), some (zI (v16 - 48)), some (zI 0), none] [] d24)))))))) ∧ ((d 159 (d 153 19)) = 117 → Ev g M_X9_isNext FUL FUL [zR 153, zI 50, zI 57] d20 (fun v17 d25 => ((inR v17) ∧ (v17 = 0 → (Fr g (eM g M_X9_readPad FUL FUL Q) M_X9_readPad FUL 235 [some (zR 153), some (zI x1), some (zI x2), some (zI x3), some (zI x4), some (zI (d 159 (d 153 19))), some (zI 1), some (zI 1), some (zI 0), none] [] d25)) ∧ (v17 ≠ 0 → Ev g M_X9_sign FUL FUL [zR 153, zI 50, zI 57] d25 (fun v18 d26 => (Fr g (eM g M_X9_readPad FUL FUL Q) M_X9_readPad FUL 235 [some (zR 153), some (zI x1), some (zI x2), some (zI x3), some (zI x4), some (zI (d 159 (d 153 19))), some (zI 1), some (zI (v18 - 48)), some (zI 0), none] [] d26)))))))) ∧ ((d 159 (d 153 19)) = 114 → Ev g M_X9_isNext FUL FUL [zR 153, zI 50, zI 57] d20 (fun v19 d27 => ((inR v19) ∧ (v19 = 0 → (Fr g (eM g M_X9_readPad FUL FUL Q) M_X9_readPad FUL 235 [some (zR 153), some (zI x1), some (zI x2), some (zI x3), some (zI x4), some (zI (d 159 (d 153 19))), some (zI 0), some (zI 1), some (zI 0), none] [] d27)) ∧ (v19 ≠ 0 → Ev g M_X9_sign FUL FUL [zR 153, zI 50, zI 57] d27 (fun v20 d28 => (Fr g (eM g M_X9_readPad FUL FUL Q) M_X9_readPad FUL 235 [some (zR 153), some (zI x1), some (zI x2), some (zI x3), some (zI x4), some (zI (d 159 (d 153 19))), some (zI 0), some (zI (v20 - 48)), some (zI 0), none] [] d28)))))))) ∧ ((d 159 (d 153 19)) ≠ 114 → ((inR (d 159 (d 153 19))) ∧ ((d 159 (d 153 19)) = 117 → ∀ d29, d29 = mu d 153 20 0 → ∀ d30, d30 = mu d29 153 19 ((d 153 19) + 1) → ((inR (d 159 (d 153 19))) ∧ ((d 159 (d 153 19)) ≠ 114 → ((inR (d 159 (d 153 19))) ∧ ((d 159 (d 153 19)) ≠ 117 → ((inR (d 159 (d 153 19))) ∧ ((d 159 (d 153 19)) ≠ 108 → Ev g M_X9_isNext FUL FUL [zR 153, zI 50, zI 57] d30 (fun v21 d31 => ((inR v21) ∧ (v21 = 0 → (Fr g (eM g M_X9_readPad FUL FUL Q) M_X9_readPad FUL 235 [some (zR 153), some (zI x1), some (zI x2), some (zI x3), some (zI x4), some (zI (d 159 (d 153 19))), some (zI 3), some (zI 1), some (zI 0), none] [] d31)) ∧ (v21 ≠ 0 → Ev g M_X9_sign FUL FUL [zR 153, zI 50, zI 57] d31 (fun v22 d32 => (Fr g (eM g M_X9_readPad FUL FUL Q) M_X9_readPad FUL 235 [some (zR 153), some (zI x1), some (zI x2), some (zI x3), some (zI x4), some (zI (d 159 (d 153 19))), some (zI 3), some (zI (v22 - 48)), some (zI 0), none] [] d32)))))) ∧ ((d 159 (d 153 19)) = 108 → Ev g M_X9_isNext FUL FUL [zR 153, zI 50, zI 57] d30 (fun v23 d33 => ((inR v23) ∧ (v23 = 0 → (Fr g (eM g M_X9_readPad FUL FUL Q) M_X9_readPad FUL 235 [some (zR 153), some (zI x1), some (zI x2), some (zI x3), some (zI x4), some (zI (d 159 (d 153 19))), some (zI 2), some (zI 1), some (zI 0), none] [] d33)) ∧ (v23 ≠ 0 → Ev g M_X9_sign FUL FUL [zR 153, zI 50, zI 57] d33 (fun v24 d34 => (Fr g (eM g M_X9_readPad FUL FUL Q) M_X9_readPad FUL 235 [some (zR 153), some (zI x1), some (zI x2), some (zI x3), some (zI x4), some (zI (d 159 (d 153 19))), some (zI 2), some (zI (v24 - 48)), some (zI 0), none] [] d34)))))))) ∧ ((d 159 (d 153 19)) = 117 → Ev g M_X9_isNext FUL FUL [zR 153, zI 50, zI 57] d30 (fun v25 d35 => ((inR v25) ∧ (v25 = 0 → (Fr g (eM g M_X9_readPad FUL FUL Q) M_X9_readPad FUL 235 [some (zR 153), some (zI x1), some (zI x2), some (zI x3), some (zI x4), some (zI (d 159 (d 153 19))), some (zI 1), some (zI 1), some (zI 0), none] [] d35)) ∧ (v25 ≠ 0 → Ev g M_X9_sign FUL FUL [zR 153, zI 50, zI 57] d35 (fun v26 d36 => (Fr g (eM g M_X9_readPad FUL FUL Q) M_X9_readPad FUL 235 [some (zR 153), some (zI x1), some (zI x2), some (zI x3), some (zI x4), some (zI (d 159 (d 153 19))), some (zI 1), some (zI (v26 - 48)), some (zI 0), none] [] d36)))))))) ∧ ((d 159 (d 153 19)) = 114 → Ev g M_X9_isNext FUL FUL [zR 153, zI 50, zI 57] d30 (fun v27 d37 => ((inR v27) ∧ (v27 = 0 → (Fr g (eM g M_X9_readPad FUL FUL Q) M_X9_readPad FUL 235 [some (zR 153), some (zI x1), some (zI x2), some (zI x3), some (zI x4), some (zI (d 159 (d 153 19))), some (zI 0), some (zI 1), some (zI 0), none] [] d37)) ∧ (v27 ≠ 0 → Ev g M_X9_sign FUL FUL [zR 153, zI 50, zI 57] d37 (fun v28 d38 => (Fr g (eM g M_X9_readPad FUL FUL Q) M_X9_readPad FUL 235 [some (zR 153), some (zI x1), some (zI x2), some (zI x3), some (zI x4), some (zI (d 159 (d 153 19))), some (zI 0), some (zI (v28 - 48)), some (zI 0), none] [] d38)))))))) ∧ ((d 159 (d 153 19)) ≠ 117 → ((inR (d 159 (d 153 19))) ∧ ((d 159 (d 153 19)) = 108 → ∀ d39, d39 = mu d 153 20 0 → ∀ d40, d40 = mu d39 153 19 ((d 153 19) + 1) → ((inR (d 159 (d 153 19))) ∧ ((d 159 (d 153 19)) ≠ 114 → ((inR (d 159 (d 153 19))) ∧ ((d 159 (d 153 19)) ≠ 117 → ((inR (d 159 (d 153 19))) ∧ ((d 159 (d 153 19)) ≠ 108 → Ev g M_X9_isNext FUL FUL [zR 153, zI 50, zI 57] d40 (fun v29 d41 => ((inR v29) ∧ (v29 = 0 → (Fr g (eM g M_X9_readPad FUL FUL Q) M_X9_readPad FUL 235 [some (zR 153), some (zI x1), some (zI x2), some (zI x3), some (zI x4), some (zI (d 159 (d 153 19))), some (zI 3), some (zI 1), some (zI 0), none] [] d41)) ∧ (v29 ≠ 0 → Ev g M_X9_sign FUL FUL [zR 153, zI 50, zI 57] d41 (fun v30 d42 => (Fr g (eM g M_X9_readPad FUL FUL Q) M_X9_readPad FUL 235 [some (zR 153), some (zI x1), some (zI x2), some (zI x3), some (zI x4), some (zI (d 159 (d 153 19))), some (zI 3), some (zI (v30 - 48)), some (zI 0), none] [] d42)))))) ∧ ((d 159 (d 153 19)) = 108 → Ev g M_X9_isNext FUL FUL [zR 153, zI 50, zI 57] d40 (fun v31 d43 => ((inR v31) ∧ (v31 = 0 → (Fr g (eM g M_X9_readPad FUL FUL Q) M_X9_readPad FUL 235 [some (zR 153), some (zI x1), some (zI x2), some (zI x3), some (zI x4), some (zI (d 159 (d 153 19))), some (zI 2), some (zI 1), some (zI 0), none] [] d43)) ∧ (v31 ≠ 0 → Ev g M_X9_sign FUL FUL [zR 153, zI 50, zI 57] d43 (fun v32 d44 => (Fr g (eM g M_X9_readPad FUL FUL Q) M_X9_readPad FUL 235 [some (zR 153), some (zI x1), some (zI x2), some (zI x3), some (zI x4), some (zI (d 159 (d 153 19))), some (zI 2), some (zI (v32 - 48)), some (zI 0), none] [] d44)))))))) ∧ ((d 159 (d 153 19)) = 117 → Ev g M_X9_isNext FUL FUL [zR 153, zI 50, zI 57] d40 (fun v33 d45 => ((inR v33) ∧ (v33 = 0 → (Fr g (eM g M_X9_readPad FUL FUL Q) M_X9_readPad FUL 235 [some (zR 153), some (zI x1), some (zI x2), some (zI x3), some (zI x4), some (zI (d 159 (d 153 19))), some (zI 1), some (zI 1), some (zI 0), none] [] d45)) ∧ (v33 ≠ 0 → Ev g M_X9_sign FUL FUL [zR 153, zI 50, zI 57] d45 (fun v34 d46 => (Fr g (eM g M_X9_readPad FUL FUL Q) M_X9_readPad FUL 235 [some (zR 153), some (zI x1), some (zI x2), some (zI x3), some (zI x4), some (zI (d 159 (d 153 19))), some (zI 1), some (zI (v34 - 48)), some (zI 0), none] [] d46)))))))) ∧ ((d 159 (d 153 19)) = 114 → Ev g M_X9_isNext FUL FUL [zR 153, zI 50, zI 57] d40 (fun v35 d47 => ((inR v35) ∧ (v35 = 0 → (Fr g (eM g M_X9_readPad FUL FUL Q) M_X9_readPad FUL 235 [some (zR 153), some (zI x1), some (zI x2), some (zI x3), some (zI x4), some (zI (d 159 (d 153 19))), some (zI 0), some (zI 1), some (zI 0), none] [] d47)) ∧ (v35 ≠ 0 → Ev g M_X9_sign FUL FUL [zR 153, zI 50, zI 57] d47 (fun v36 d48 => (Fr g (eM g M_X9_readPad FUL FUL Q) M_X9_readPad FUL 235 [some (zR 153), some (zI x1), some (zI x2), some (zI x3), some (zI x4), some (zI (d 159 (d 153 19))), some (zI 0), some (zI (v36 - 48)), some (zI 0), none] [] d48)))))))) ∧ ((d 159 (d 153 19)) ≠ 108 → ((inR (d 159 (d 153 19))) ∧ ((d 159 (d 153 19)) = 100 → ∀ d49, d49 = mu d 153 20 0 → ∀ d50, d50 = mu d49 153 19 ((d 153 19) + 1) → ((inR (d 159 (d 153 19))) ∧ ((d 159 (d 153 19)) ≠ 114 → ((inR (d 159 (d 153 19))) ∧ ((d 159 (d 153 19)) ≠ 117 → ((inR (d 159 (d 153 19))) ∧ ((d 159 (d 153 19)) ≠ 108 → Ev g M_X9_isNext FUL FUL [zR 153, zI 50, zI 57] d50 (fun v37 d51 => ((inR v37) ∧ (v37 = 0 → (Fr g (eM g M_X9_readPad FUL FUL Q) M_X9_readPad FUL 235 [some (zR 153), some (zI x1), some (zI x2), some (zI x3), some (zI x4), some (zI (d 159 (d 153 19))), some (zI 3), some (zI 1), some (zI 0), none] [] d51)) ∧ (v37 ≠ 0 → Ev g M_X9_sign FUL FUL [zR 153, zI 50, zI 57] d51 (fun v38 d52 => (Fr g (eM g M_X9_readPad FUL FUL Q) M_X9_readPad FUL 235 [some (zR 153), some (zI x1), some (zI x2), some (zI x3), some (zI x4), some (zI (d 159 (d 153 19))), some (zI 3), some (zI (v38 - 48)), some (zI 0), none] [] d52)))))) ∧ ((d 159 (d 153 19)) = 108 → Ev g M_X9_isNext FUL FUL [zR 153, zI 50, zI 57] d50 (fun v39 d53 => ((inR v39) ∧ (v39 = 0 → (Fr g (eM g M_X9_readPad FUL FUL Q) M_X9_readPad FUL 235 [some (zR 153), some (zI x1), some (zI x2), some (zI x3), some (zI x4), some (zI (d 159 (d 153 19))), some (zI 2), some (zI 1), some (zI 0), none] [] d53)) ∧ (v39 ≠ 0 → Ev g M_X9_sign FUL FUL [zR 153, zI 50, zI 57] d53 (fun v40 d54 => (Fr g (eM g M_X9_readPad FUL FUL Q) M_X9_readPad FUL 235 [some (zR 153), some (zI x1), some (zI x2), some (zI x3), some (zI x4), some (zI (d 159 (d 153 19))), some (zI 2), some (zI (v40 - 48)), some (zI 0), none] [] d54)))))))) ∧ ((d 159 (d 153 19)) = 117 → Ev g M_X9_isNext FUL FUL [zR 153, zI 50, zI 57] d50 (fun v41 d55 => ((inR v41) ∧ (v41 = 0 → (Fr g (eM g M_X9_readPad FUL FUL Q) M_X9_readPad FUL 235 [some (zR 153), some (zI x1), some (zI x2), some (zI x3), some (zI x4), some (zI (d 159 (d 153 19))), some (zI 1), some (zI 1), some (zI 0), none] [] d55)) ∧ (v41 ≠ 0 → Ev g M_X9_sign FUL FUL [zR 153, zI 50, zI 57] d55 (fun v42 d56 => (Fr g (eM g M_X9_readPad FUL FUL Q) M_X9_readPad FUL 235 [some (zR 153), some (zI x1), some (zI x2), some (zI x3), some (zI x4), some (zI (d 159 (d 153 19))), some (zI 1), some (zI (v42 - 48)), some (zI 0), none] [] d56)))))))) ∧ ((d 159 (d 153 19)) = 114 → Ev g M_X9_isNext FUL FUL [zR 153, zI 50, zI 57] d50 (fun v43 d57 => ((inR v43) ∧ (v43 = 0 → (Fr g (eM g M_X9_readPad FUL FUL Q) M_X9_readPad FUL 235 [some (zR 153), some (zI x1), some (zI x2), some (zI x3), some (zI x4), some (zI (d 159 (d 153 19))), some (zI 0), some (zI 1), some (zI 0), none] [] d57)) ∧ (v43 ≠ 0 → Ev g M_X9_sign FUL FUL [zR 153, zI 50, zI 57] d57 (fun v44 d58 => (Fr g (eM g M_X9_readPad FUL FUL Q) M_X9_readPad FUL 235 [some (zR 153), some (zI x1), some (zI x2), some (zI x3), some (zI x4), some (zI (d 159 (d 153 19))), some (zI 0), some (zI (v44 - 48)), some (zI 0), none] [] d58)))))))) ∧ ((d 159 (d 153 19)) ≠ 100 → ∀ d59, d59 = mu d 153 20 1 → ∀ d60, d60 = mu d59 153 19 ((d 153 19) + 0) → ((inR (d 159 (d 153 19))) ∧ ((d 159 (d 153 19)) ≠ 114 → ((inR (d 159 (d 153 19))) ∧ ((d 159 (d 153 19)) ≠ 117 → ((inR (d 159 (d 153 19))) ∧ ((d 159 (d 153 19)) ≠ 108 → Ev g M_X9_isNext FUL FUL [zR 153, zI 50, zI 57] d60 (fun v45 d61 => ((inR v45) ∧ (v45 = 0 → (Fr g (eM g M_X9_readPad FUL FUL Q) M_X9_readPad FUL 235 [some (zR 153), some (zI x1), some (zI x2), some (zI x3), some (zI x4), some (zI (d 159 (d 153 19))), some (zI 3), some (zI 1), some (zI 0), none] [] d61)) ∧ (v45 ≠ 0 → Ev g M_X9_sign FUL FUL [zR 153, zI 50, zI 57] d61 (fun v46 d62 => (Fr g (eM g M_X9_readPad FUL FUL Q) M_X9_readPad FUL 235 [some (zR 153), some (zI x1), some (zI x2), some (zI x3), some (zI x4), some (zI (d 159 (d 153 19))), some (zI 3), some (zI (v46 - 48)), some (zI 0), none] [] d62)))))) ∧ ((d 159 (d 153 19)) = 108 → Ev g M_X9_isNext FUL FUL [zR 153, zI 50, zI 57] d60 (fun v47 d63 => ((inR v47) ∧ (v47 = 0 → (Fr g (eM g M_X9_readPad FUL FUL Q) M_X9_readPad FUL 235 [some (zR 153), some (zI x1), some (zI x2), some (zI x3), some (zI x4), some (zI (d 159 (d 153 19))), some (zI 2), some (zI 1), some (zI 0), none] [] d63)) ∧ (v47 ≠ 0 → Ev g M_X9_sign FUL FUL [zR 153, zI 50, zI 57] d63 (fun v48 d64 => (Fr g (eM g M_X9_readPad FUL FUL Q) M_X9_readPad FUL 235 [some (zR 153), some (zI x1), some (zI x2), some (zI x3), some (zI x4), some (zI (d 159 (d 153 19))), some (zI 2), some (zI (v48 - 48)), some (zI 0), none] [] d64)))))))) ∧ ((d 159 (d 153 19)) = 117 → Ev g M_X9_isNext FUL FUL [zR 153, zI 50, zI 57] d60 (fun v49 d65 => ((inR v49) ∧ (v49 = 0 → (Fr g (eM g M_X9_readPad FUL FUL Q) M_X9_readPad FUL 235 [some (zR 153), some (zI x1), some (zI x2), some (zI x3), some (zI x4), some (zI (d 159 (d 153 19))), some (zI 1), some (zI 1), some (zI 0), none] [] d65)) ∧ (v49 ≠ 0 → Ev g M_X9_sign FUL FUL [zR 153, zI 50, zI 57] d65 (fun v50 d66 => (Fr g (eM g M_X9_readPad FUL FUL Q) M_X9_readPad FUL 235 [some (zR 153), some (zI x1), some (zI x2), some (zI x3), some (zI x4), some (zI (d 159 (d 153 19))), some (zI 1), some (zI (v50 - 48)), some (zI 0), none] [] d66)))))))) ∧ ((d 159 (d 153 19)) = 114 → Ev g M_X9_isNext FUL FUL [zR 153, zI 50, zI 57] d60 (fun v51 d67 => ((inR v51) ∧ (v51 = 0 → (Fr g (eM g M_X9_readPad FUL FUL Q) M_X9_readPad FUL 235 [some (zR 153), some (zI x1), some (zI x2), some (zI x3), some (zI x4), some (zI (d 159 (d 153 19))), some (zI 0), some (zI 1), some (zI 0), none] [] d67)) ∧ (v51 ≠ 0 → Ev g M_X9_sign FUL FUL [zR 153, zI 50, zI 57] d67 (fun v52 d68 => (Fr g (eM g M_X9_readPad FUL FUL Q) M_X9_readPad FUL 235 [some (zR 153), some (zI x1), some (zI x2), some (zI x3), some (zI x4), some (zI (d 159 (d 153 19))), some (zI 0), some (zI (v52 - 48)), some (zI 0), none] [] d68)))))))))))))))))))))) : Fr g (eM g M_X9_readPad FUL FUL Q) M_X9_readPad FUL 72 [some (zR 153), some (zI x1), some (zI x2), some (zI x3), some (zI x4), none, none, none, none, none] [] d := by
  refine z_iload (i := 4) dX9_readPad_72 rfl ?_
  refine zb_if_eq (tgt := 337) dX9_readPad_74 (by decide) h.1 ⟨fun c => ?_, fun c => ?_⟩
  · replace h := h.2.1 c
    exact zret_v rfl dX9_readPad_337 h
  · replace h := h.2.2 c
    refine z_aloadR_n (i := 0) dX9_readPad_77 rfl rfl ?_
    refine z_getI' 9 19 (idx := 178) (fv := (d 153 19)) ly153 (by decide) (by decide) rfl (show 153 < 166 by decide) wf_X9_178 dX9_readPad_78 rfl ?_
    refine z_aloadR_n (i := 0) dX9_readPad_81 rfl rfl ?_
    refine z_getI' 9 7 (idx := 167) (fv := (d 153 7)) ly153 (by decide) (by decide) rfl (show 153 < 166 by decide) wf_X9_167 dX9_readPad_82 rfl ?_
    refine zb_icmp_ge (tgt := 100) dX9_readPad_85 (by decide) h.1 ⟨fun c => ?_, fun c => ?_⟩
    · replace h := h.2.1 c
      refine z_iconst dX9_readPad_100 ?_
      refine z_istore (i := 5) (ls2 := [some (zR 153), some (zI x1), some (zI x2), some (zI x3), some (zI x4), some (zI 0), none, none, none, none]) dX9_readPad_101 (by decide) rfl ?_
      refine z_aloadR_n (i := 0) dX9_readPad_103 rfl rfl ?_
      refine z_aloadR_n (i := 0) dX9_readPad_104 rfl rfl ?_
      refine z_getI' 9 20 (idx := 181) (fv := (d 153 20)) ly153 (by decide) (by decide) rfl (show 153 < 166 by decide) wf_X9_181 dX9_readPad_105 rfl ?_
      refine zb_if_ne (tgt := 139) dX9_readPad_108 (by decide) h.1 ⟨fun c => ?_, fun c => ?_⟩
      · replace h := h.2.1 c
        refine z_iconst dX9_readPad_139 ?_
        refine z_goto (tgt := 144) dX9_readPad_140 (by decide) ?_
        refine z_putI 9 20 (idx := 181) ly153 (by decide) (by decide) rfl (show 153 < 166 by decide) rfl wf_X9_181 dX9_readPad_144 (Or.inr ⟨rfl, by decide⟩) ?_
        generalize hd1 : mu d 153 ((20 : Nat) : Int) 1 = d1
        replace hd1 : d1 = mu d 153 20 1 := hd1.symm
        replace h := h d1 hd1
        refine z_aloadR_n (i := 0) dX9_readPad_147 rfl rfl ?_
        refine z_dup dX9_readPad_148 (Nat.le_of_ble_eq_true rfl) ?_
        refine z_getI' 9 19 (idx := 178) (fv := (d 153 19)) ly153 (by decide) (by decide) rfl (show 153 < 166 by decide) wf_X9_178 dX9_readPad_149 (by show d1 153 19 = _; rw [hd1, mu_ni (by decide)]) ?_
        refine z_aloadR_n (i := 0) dX9_readPad_152 rfl rfl ?_
        refine z_getI' 9 20 (idx := 181) (fv := 1) ly153 (by decide) (by decide) rfl (show 153 < 166 by decide) wf_X9_181 dX9_readPad_153 (by show d1 153 20 = _; rw [hd1, mu_get]) ?_
        refine zb_if_eq (tgt := 163) dX9_readPad_156 (by decide) (by decide) ⟨fun q => absurd q (by decide), fun _ => ?_⟩
        refine z_iconst dX9_readPad_159 ?_
        refine z_goto (tgt := 164) dX9_readPad_160 (by decide) ?_
        refine z_iadd dX9_readPad_164 ?_
        refine z_putI 9 19 (idx := 178) ly153 (by decide) (by decide) rfl (show 153 < 166 by decide) rfl wf_X9_178 dX9_readPad_165 (Or.inl rfl) ?_
        generalize hd2 : mu d1 153 ((19 : Nat) : Int) ((d 153 19) + 0) = d2
        replace hd2 : d2 = mu d1 153 19 ((d 153 19) + 0) := hd2.symm
        replace h := h d2 hd2
        refine z_iload (i := 5) dX9_readPad_168 rfl ?_
        refine z_bipush dX9_readPad_170 (by decide +kernel) ?_
        refine zb_icmp_ne (tgt := 179) dX9_readPad_172 (by decide) ⟨by decide, by decide⟩ ⟨fun _ => ?_, fun q => absurd q (by decide)⟩
        refine z_iload (i := 5) dX9_readPad_179 rfl ?_
        refine z_bipush dX9_readPad_181 (by decide +kernel) ?_
        refine zb_icmp_ne (tgt := 190) dX9_readPad_183 (by decide) ⟨by decide, by decide⟩ ⟨fun _ => ?_, fun q => absurd q (by decide)⟩
        refine z_iload (i := 5) dX9_readPad_190 rfl ?_
        refine z_bipush dX9_readPad_192 (by decide +kernel) ?_
        refine zb_icmp_ne (tgt := 201) dX9_readPad_194 (by decide) ⟨by decide, by decide⟩ ⟨fun _ => ?_, fun q => absurd q (by decide)⟩
        refine z_iconst dX9_readPad_201 ?_
        refine z_istore (i := 6) (ls2 := [some (zR 153), some (zI x1), some (zI x2), some (zI x3), some (zI x4), some (zI 0), some (zI 3), none, none, none]) dX9_readPad_202 (by decide) rfl ?_
        refine z_aloadR_n (i := 0) dX9_readPad_204 rfl rfl ?_
        refine z_bipush dX9_readPad_205 (by decide +kernel) ?_
        refine z_bipush dX9_readPad_207 (by decide +kernel) ?_
        refine z_callVi (k' := M_X9_isNext) (As := [zI 50, zI 57]) (st := []) dX9_readPad_209 rfl ly153 (by decide) rfl (show 153 < 166 by decide) wm_X9_187 ok_X9_isNext okV_X9_isNext rfl (zroom_self (by decide) (by decide)) (Nat.le_of_ble_eq_true rfl) (Nat.le_refl _) rfl (Ev_mono h (fun v1 d3 h => ?_))
        refine zb_if_eq (tgt := 229) dX9_readPad_212 (by decide) h.1 ⟨fun c => ?_, fun c => ?_⟩
        · replace h := h.2.1 c
          refine z_iconst dX9_readPad_229 ?_
          refine z_istore (i := 7) (ls2 := [some (zR 153), some (zI x1), some (zI x2), some (zI x3), some (zI x4), some (zI 0), some (zI 3), some (zI 1), none, none]) dX9_readPad_230 (by decide) rfl ?_
          refine z_iconst dX9_readPad_232 ?_
          refine z_istore (i := 8) (ls2 := [some (zR 153), some (zI x1), some (zI x2), some (zI x3), some (zI x4), some (zI 0), some (zI 3), some (zI 1), some (zI 0), none]) dX9_readPad_233 (by decide) rfl ?_
          exact h
        · replace h := h.2.2 c
          refine z_aloadR_n (i := 0) dX9_readPad_215 rfl rfl ?_
          refine z_bipush dX9_readPad_216 (by decide +kernel) ?_
          refine z_bipush dX9_readPad_218 (by decide +kernel) ?_
          refine z_callVi (k' := M_X9_sign) (As := [zI 50, zI 57]) (st := []) dX9_readPad_220 rfl ly153 (by decide) rfl (show 153 < 166 by decide) wm_X9_184 ok_X9_sign okV_X9_sign rfl (zroom_self (by decide) (by decide)) (Nat.le_of_ble_eq_true rfl) (Nat.le_refl _) rfl (Ev_mono h (fun v2 d4 h => ?_))
          refine z_bipush dX9_readPad_223 (by decide +kernel) ?_
          refine z_isub dX9_readPad_225 ?_
          refine z_goto (tgt := 230) dX9_readPad_226 (by decide) ?_
          refine z_istore (i := 7) (ls2 := [some (zR 153), some (zI x1), some (zI x2), some (zI x3), some (zI x4), some (zI 0), some (zI 3), some (zI (v2 - 48)), none, none]) dX9_readPad_230 (by decide) rfl ?_
          refine z_iconst dX9_readPad_232 ?_
          refine z_istore (i := 8) (ls2 := [some (zR 153), some (zI x1), some (zI x2), some (zI x3), some (zI x4), some (zI 0), some (zI 3), some (zI (v2 - 48)), some (zI 0), none]) dX9_readPad_233 (by decide) rfl ?_
          exact h
      · replace h := h.2.2 c
        refine z_iload (i := 5) dX9_readPad_111 rfl ?_
        refine z_bipush dX9_readPad_113 (by decide +kernel) ?_
        refine zb_icmp_eq (tgt := 143) dX9_readPad_115 (by decide) ⟨by decide, by decide⟩ ⟨fun q => absurd q (by decide), fun _ => ?_⟩
        refine z_iload (i := 5) dX9_readPad_118 rfl ?_
        refine z_bipush dX9_readPad_120 (by decide +kernel) ?_
        refine zb_icmp_eq (tgt := 143) dX9_readPad_122 (by decide) ⟨by decide, by decide⟩ ⟨fun q => absurd q (by decide), fun _ => ?_⟩
        refine z_iload (i := 5) dX9_readPad_125 rfl ?_
        refine z_bipush dX9_readPad_127 (by decide +kernel) ?_
        refine zb_icmp_eq (tgt := 143) dX9_readPad_129 (by decide) ⟨by decide, by decide⟩ ⟨fun q => absurd q (by decide), fun _ => ?_⟩
        refine z_iload (i := 5) dX9_readPad_132 rfl ?_
        refine z_bipush dX9_readPad_134 (by decide +kernel) ?_
        refine zb_icmp_eq (tgt := 143) dX9_readPad_136 (by decide) ⟨by decide, by decide⟩ ⟨fun q => absurd q (by decide), fun _ => ?_⟩
        refine z_iconst dX9_readPad_139 ?_
        refine z_goto (tgt := 144) dX9_readPad_140 (by decide) ?_
        refine z_putI 9 20 (idx := 181) ly153 (by decide) (by decide) rfl (show 153 < 166 by decide) rfl wf_X9_181 dX9_readPad_144 (Or.inr ⟨rfl, by decide⟩) ?_
        generalize hd5 : mu d 153 ((20 : Nat) : Int) 1 = d5
        replace hd5 : d5 = mu d 153 20 1 := hd5.symm
        replace h := h d5 hd5
        refine z_aloadR_n (i := 0) dX9_readPad_147 rfl rfl ?_
        refine z_dup dX9_readPad_148 (Nat.le_of_ble_eq_true rfl) ?_
        refine z_getI' 9 19 (idx := 178) (fv := (d 153 19)) ly153 (by decide) (by decide) rfl (show 153 < 166 by decide) wf_X9_178 dX9_readPad_149 (by show d5 153 19 = _; rw [hd5, mu_ni (by decide)]) ?_
        refine z_aloadR_n (i := 0) dX9_readPad_152 rfl rfl ?_
        refine z_getI' 9 20 (idx := 181) (fv := 1) ly153 (by decide) (by decide) rfl (show 153 < 166 by decide) wf_X9_181 dX9_readPad_153 (by show d5 153 20 = _; rw [hd5, mu_get]) ?_
        refine zb_if_eq (tgt := 163) dX9_readPad_156 (by decide) (by decide) ⟨fun q => absurd q (by decide), fun _ => ?_⟩
        refine z_iconst dX9_readPad_159 ?_
        refine z_goto (tgt := 164) dX9_readPad_160 (by decide) ?_
        refine z_iadd dX9_readPad_164 ?_
        refine z_putI 9 19 (idx := 178) ly153 (by decide) (by decide) rfl (show 153 < 166 by decide) rfl wf_X9_178 dX9_readPad_165 (Or.inl rfl) ?_
        generalize hd6 : mu d5 153 ((19 : Nat) : Int) ((d 153 19) + 0) = d6
        replace hd6 : d6 = mu d5 153 19 ((d 153 19) + 0) := hd6.symm
        replace h := h d6 hd6
        refine z_iload (i := 5) dX9_readPad_168 rfl ?_
        refine z_bipush dX9_readPad_170 (by decide +kernel) ?_
        refine zb_icmp_ne (tgt := 179) dX9_readPad_172 (by decide) ⟨by decide, by decide⟩ ⟨fun _ => ?_, fun q => absurd q (by decide)⟩
        refine z_iload (i := 5) dX9_readPad_179 rfl ?_
        refine z_bipush dX9_readPad_181 (by decide +kernel) ?_
        refine zb_icmp_ne (tgt := 190) dX9_readPad_183 (by decide) ⟨by decide, by decide⟩ ⟨fun _ => ?_, fun q => absurd q (by decide)⟩
        refine z_iload (i := 5) dX9_readPad_190 rfl ?_
        refine z_bipush dX9_readPad_192 (by decide +kernel) ?_
        refine zb_icmp_ne (tgt := 201) dX9_readPad_194 (by decide) ⟨by decide, by decide⟩ ⟨fun _ => ?_, fun q => absurd q (by decide)⟩
        refine z_iconst dX9_readPad_201 ?_
        refine z_istore (i := 6) (ls2 := [some (zR 153), some (zI x1), some (zI x2), some (zI x3), some (zI x4), some (zI 0), some (zI 3), none, none, none]) dX9_readPad_202 (by decide) rfl ?_
        refine z_aloadR_n (i := 0) dX9_readPad_204 rfl rfl ?_
        refine z_bipush dX9_readPad_205 (by decide +kernel) ?_
        refine z_bipush dX9_readPad_207 (by decide +kernel) ?_
        refine z_callVi (k' := M_X9_isNext) (As := [zI 50, zI 57]) (st := []) dX9_readPad_209 rfl ly153 (by decide) rfl (show 153 < 166 by decide) wm_X9_187 ok_X9_isNext okV_X9_isNext rfl (zroom_self (by decide) (by decide)) (Nat.le_of_ble_eq_true rfl) (Nat.le_refl _) rfl (Ev_mono h (fun v3 d7 h => ?_))
        refine zb_if_eq (tgt := 229) dX9_readPad_212 (by decide) h.1 ⟨fun c => ?_, fun c => ?_⟩
        · replace h := h.2.1 c
          refine z_iconst dX9_readPad_229 ?_
          refine z_istore (i := 7) (ls2 := [some (zR 153), some (zI x1), some (zI x2), some (zI x3), some (zI x4), some (zI 0), some (zI 3), some (zI 1), none, none]) dX9_readPad_230 (by decide) rfl ?_
          refine z_iconst dX9_readPad_232 ?_
          refine z_istore (i := 8) (ls2 := [some (zR 153), some (zI x1), some (zI x2), some (zI x3), some (zI x4), some (zI 0), some (zI 3), some (zI 1), some (zI 0), none]) dX9_readPad_233 (by decide) rfl ?_
          exact h
        · replace h := h.2.2 c
          refine z_aloadR_n (i := 0) dX9_readPad_215 rfl rfl ?_
          refine z_bipush dX9_readPad_216 (by decide +kernel) ?_
          refine z_bipush dX9_readPad_218 (by decide +kernel) ?_
          refine z_callVi (k' := M_X9_sign) (As := [zI 50, zI 57]) (st := []) dX9_readPad_220 rfl ly153 (by decide) rfl (show 153 < 166 by decide) wm_X9_184 ok_X9_sign okV_X9_sign rfl (zroom_self (by decide) (by decide)) (Nat.le_of_ble_eq_true rfl) (Nat.le_refl _) rfl (Ev_mono h (fun v4 d8 h => ?_))
          refine z_bipush dX9_readPad_223 (by decide +kernel) ?_
          refine z_isub dX9_readPad_225 ?_
          refine z_goto (tgt := 230) dX9_readPad_226 (by decide) ?_
          refine z_istore (i := 7) (ls2 := [some (zR 153), some (zI x1), some (zI x2), some (zI x3), some (zI x4), some (zI 0), some (zI 3), some (zI (v4 - 48)), none, none]) dX9_readPad_230 (by decide) rfl ?_
          refine z_iconst dX9_readPad_232 ?_
          refine z_istore (i := 8) (ls2 := [some (zR 153), some (zI x1), some (zI x2), some (zI x3), some (zI x4), some (zI 0), some (zI 3), some (zI (v4 - 48)), some (zI 0), none]) dX9_readPad_233 (by decide) rfl ?_
          exact h
    · replace h := h.2.2 c
      refine z_aloadR_n (i := 0) dX9_readPad_88 rfl rfl ?_
      refine z_getR 9 6 (idx := 26) ly153 (by decide) (by decide) rfl (show 153 < 166 by decide) rfl rt_153_6 wf_X9_26 dX9_readPad_89 ?_
      refine z_aloadR_n (i := 0) dX9_readPad_92 rfl rfl ?_
      refine z_getI' 9 19 (idx := 178) (fv := (d 153 19)) ly153 (by decide) (by decide) rfl (show 153 < 166 by decide) wf_X9_178 dX9_readPad_93 rfl ?_
      refine z_iaload' (fv := (d 159 (d 153 19))) ly159 (show 159 < 166 by decide) (by decide) dX9_readPad_96 h.1 rfl ?_
      replace h := h.2
      refine z_goto (tgt := 101) dX9_readPad_97 (by decide) ?_
      refine z_istore (i := 5) (ls2 := [some (zR 153), some (zI x1), some (zI x2), some (zI x3), some (zI x4), some (zI (d 159 (d 153 19))), none, none, none, none]) dX9_readPad_101 (by decide) rfl ?_
      refine z_aloadR_n (i := 0) dX9_readPad_103 rfl rfl ?_
      refine z_aloadR_n (i := 0) dX9_readPad_104 rfl rfl ?_
      refine z_getI' 9 20 (idx := 181) (fv := (d 153 20)) ly153 (by decide) (by decide) rfl (show 153 < 166 by decide) wf_X9_181 dX9_readPad_105 rfl ?_
      refine zb_if_ne (tgt := 139) dX9_readPad_108 (by decide) h.1 ⟨fun c => ?_, fun c => ?_⟩
      · replace h := h.2.1 c
        refine z_iconst dX9_readPad_139 ?_
        refine z_goto (tgt := 144) dX9_readPad_140 (by decide) ?_
        refine z_putI 9 20 (idx := 181) ly153 (by decide) (by decide) rfl (show 153 < 166 by decide) rfl wf_X9_181 dX9_readPad_144 (Or.inr ⟨rfl, by decide⟩) ?_
        generalize hd9 : mu d 153 ((20 : Nat) : Int) 1 = d9
        replace hd9 : d9 = mu d 153 20 1 := hd9.symm
        replace h := h d9 hd9
        refine z_aloadR_n (i := 0) dX9_readPad_147 rfl rfl ?_
        refine z_dup dX9_readPad_148 (Nat.le_of_ble_eq_true rfl) ?_
        refine z_getI' 9 19 (idx := 178) (fv := (d 153 19)) ly153 (by decide) (by decide) rfl (show 153 < 166 by decide) wf_X9_178 dX9_readPad_149 (by show d9 153 19 = _; rw [hd9, mu_ni (by decide)]) ?_
        refine z_aloadR_n (i := 0) dX9_readPad_152 rfl rfl ?_
        refine z_getI' 9 20 (idx := 181) (fv := 1) ly153 (by decide) (by decide) rfl (show 153 < 166 by decide) wf_X9_181 dX9_readPad_153 (by show d9 153 20 = _; rw [hd9, mu_get]) ?_
        refine zb_if_eq (tgt := 163) dX9_readPad_156 (by decide) (by decide) ⟨fun q => absurd q (by decide), fun _ => ?_⟩
        refine z_iconst dX9_readPad_159 ?_
        refine z_goto (tgt := 164) dX9_readPad_160 (by decide) ?_
        refine z_iadd dX9_readPad_164 ?_
        refine z_putI 9 19 (idx := 178) ly153 (by decide) (by decide) rfl (show 153 < 166 by decide) rfl wf_X9_178 dX9_readPad_165 (Or.inl rfl) ?_
        generalize hd10 : mu d9 153 ((19 : Nat) : Int) ((d 153 19) + 0) = d10
        replace hd10 : d10 = mu d9 153 19 ((d 153 19) + 0) := hd10.symm
        replace h := h d10 hd10
        refine z_iload (i := 5) dX9_readPad_168 rfl ?_
        refine z_bipush dX9_readPad_170 (by decide +kernel) ?_
        refine zb_icmp_ne (tgt := 179) dX9_readPad_172 (by decide) ⟨h.1, by decide⟩ ⟨fun c => ?_, fun c => ?_⟩
        · replace h := h.2.1 c
          refine z_iload (i := 5) dX9_readPad_179 rfl ?_
          refine z_bipush dX9_readPad_181 (by decide +kernel) ?_
          refine zb_icmp_ne (tgt := 190) dX9_readPad_183 (by decide) ⟨h.1, by decide⟩ ⟨fun c => ?_, fun c => ?_⟩
          · replace h := h.2.1 c
            refine z_iload (i := 5) dX9_readPad_190 rfl ?_
            refine z_bipush dX9_readPad_192 (by decide +kernel) ?_
            refine zb_icmp_ne (tgt := 201) dX9_readPad_194 (by decide) ⟨h.1, by decide⟩ ⟨fun c => ?_, fun c => ?_⟩
            · replace h := h.2.1 c
              refine z_iconst dX9_readPad_201 ?_
              refine z_istore (i := 6) (ls2 := [some (zR 153), some (zI x1), some (zI x2), some (zI x3), some (zI x4), some (zI (d 159 (d 153 19))), some (zI 3), none, none, none]) dX9_readPad_202 (by decide) rfl ?_
              refine z_aloadR_n (i := 0) dX9_readPad_204 rfl rfl ?_
              refine z_bipush dX9_readPad_205 (by decide +kernel) ?_
              refine z_bipush dX9_readPad_207 (by decide +kernel) ?_
              refine z_callVi (k' := M_X9_isNext) (As := [zI 50, zI 57]) (st := []) dX9_readPad_209 rfl ly153 (by decide) rfl (show 153 < 166 by decide) wm_X9_187 ok_X9_isNext okV_X9_isNext rfl (zroom_self (by decide) (by decide)) (Nat.le_of_ble_eq_true rfl) (Nat.le_refl _) rfl (Ev_mono h (fun v5 d11 h => ?_))
              refine zb_if_eq (tgt := 229) dX9_readPad_212 (by decide) h.1 ⟨fun c => ?_, fun c => ?_⟩
              · replace h := h.2.1 c
                refine z_iconst dX9_readPad_229 ?_
                refine z_istore (i := 7) (ls2 := [some (zR 153), some (zI x1), some (zI x2), some (zI x3), some (zI x4), some (zI (d 159 (d 153 19))), some (zI 3), some (zI 1), none, none]) dX9_readPad_230 (by decide) rfl ?_
                refine z_iconst dX9_readPad_232 ?_
                refine z_istore (i := 8) (ls2 := [some (zR 153), some (zI x1), some (zI x2), some (zI x3), some (zI x4), some (zI (d 159 (d 153 19))), some (zI 3), some (zI 1), some (zI 0), none]) dX9_readPad_233 (by decide) rfl ?_
                exact h
              · replace h := h.2.2 c
                refine z_aloadR_n (i := 0) dX9_readPad_215 rfl rfl ?_
                refine z_bipush dX9_readPad_216 (by decide +kernel) ?_
                refine z_bipush dX9_readPad_218 (by decide +kernel) ?_
                refine z_callVi (k' := M_X9_sign) (As := [zI 50, zI 57]) (st := []) dX9_readPad_220 rfl ly153 (by decide) rfl (show 153 < 166 by decide) wm_X9_184 ok_X9_sign okV_X9_sign rfl (zroom_self (by decide) (by decide)) (Nat.le_of_ble_eq_true rfl) (Nat.le_refl _) rfl (Ev_mono h (fun v6 d12 h => ?_))
                refine z_bipush dX9_readPad_223 (by decide +kernel) ?_
                refine z_isub dX9_readPad_225 ?_
                refine z_goto (tgt := 230) dX9_readPad_226 (by decide) ?_
                refine z_istore (i := 7) (ls2 := [some (zR 153), some (zI x1), some (zI x2), some (zI x3), some (zI x4), some (zI (d 159 (d 153 19))), some (zI 3), some (zI (v6 - 48)), none, none]) dX9_readPad_230 (by decide) rfl ?_
                refine z_iconst dX9_readPad_232 ?_
                refine z_istore (i := 8) (ls2 := [some (zR 153), some (zI x1), some (zI x2), some (zI x3), some (zI x4), some (zI (d 159 (d 153 19))), some (zI 3), some (zI (v6 - 48)), some (zI 0), none]) dX9_readPad_233 (by decide) rfl ?_
                exact h
            · replace h := h.2.2 c
              refine z_iconst dX9_readPad_197 ?_
              refine z_goto (tgt := 202) dX9_readPad_198 (by decide) ?_
              refine z_istore (i := 6) (ls2 := [some (zR 153), some (zI x1), some (zI x2), some (zI x3), some (zI x4), some (zI (d 159 (d 153 19))), some (zI 2), none, none, none]) dX9_readPad_202 (by decide) rfl ?_
              refine z_aloadR_n (i := 0) dX9_readPad_204 rfl rfl ?_
              refine z_bipush dX9_readPad_205 (by decide +kernel) ?_
              refine z_bipush dX9_readPad_207 (by decide +kernel) ?_
              refine z_callVi (k' := M_X9_isNext) (As := [zI 50, zI 57]) (st := []) dX9_readPad_209 rfl ly153 (by decide) rfl (show 153 < 166 by decide) wm_X9_187 ok_X9_isNext okV_X9_isNext rfl (zroom_self (by decide) (by decide)) (Nat.le_of_ble_eq_true rfl) (Nat.le_refl _) rfl (Ev_mono h (fun v7 d13 h => ?_))
              refine zb_if_eq (tgt := 229) dX9_readPad_212 (by decide) h.1 ⟨fun c => ?_, fun c => ?_⟩
              · replace h := h.2.1 c
                refine z_iconst dX9_readPad_229 ?_
                refine z_istore (i := 7) (ls2 := [some (zR 153), some (zI x1), some (zI x2), some (zI x3), some (zI x4), some (zI (d 159 (d 153 19))), some (zI 2), some (zI 1), none, none]) dX9_readPad_230 (by decide) rfl ?_
                refine z_iconst dX9_readPad_232 ?_
                refine z_istore (i := 8) (ls2 := [some (zR 153), some (zI x1), some (zI x2), some (zI x3), some (zI x4), some (zI (d 159 (d 153 19))), some (zI 2), some (zI 1), some (zI 0), none]) dX9_readPad_233 (by decide) rfl ?_
                exact h
              · replace h := h.2.2 c
                refine z_aloadR_n (i := 0) dX9_readPad_215 rfl rfl ?_
                refine z_bipush dX9_readPad_216 (by decide +kernel) ?_
                refine z_bipush dX9_readPad_218 (by decide +kernel) ?_
                refine z_callVi (k' := M_X9_sign) (As := [zI 50, zI 57]) (st := []) dX9_readPad_220 rfl ly153 (by decide) rfl (show 153 < 166 by decide) wm_X9_184 ok_X9_sign okV_X9_sign rfl (zroom_self (by decide) (by decide)) (Nat.le_of_ble_eq_true rfl) (Nat.le_refl _) rfl (Ev_mono h (fun v8 d14 h => ?_))
                refine z_bipush dX9_readPad_223 (by decide +kernel) ?_
                refine z_isub dX9_readPad_225 ?_
                refine z_goto (tgt := 230) dX9_readPad_226 (by decide) ?_
                refine z_istore (i := 7) (ls2 := [some (zR 153), some (zI x1), some (zI x2), some (zI x3), some (zI x4), some (zI (d 159 (d 153 19))), some (zI 2), some (zI (v8 - 48)), none, none]) dX9_readPad_230 (by decide) rfl ?_
                refine z_iconst dX9_readPad_232 ?_
                refine z_istore (i := 8) (ls2 := [some (zR 153), some (zI x1), some (zI x2), some (zI x3), some (zI x4), some (zI (d 159 (d 153 19))), some (zI 2), some (zI (v8 - 48)), some (zI 0), none]) dX9_readPad_233 (by decide) rfl ?_
                exact h
          · replace h := h.2.2 c
            refine z_iconst dX9_readPad_186 ?_
            refine z_goto (tgt := 202) dX9_readPad_187 (by decide) ?_
            refine z_istore (i := 6) (ls2 := [some (zR 153), some (zI x1), some (zI x2), some (zI x3), some (zI x4), some (zI (d 159 (d 153 19))), some (zI 1), none, none, none]) dX9_readPad_202 (by decide) rfl ?_
            refine z_aloadR_n (i := 0) dX9_readPad_204 rfl rfl ?_
            refine z_bipush dX9_readPad_205 (by decide +kernel) ?_
            refine z_bipush dX9_readPad_207 (by decide +kernel) ?_
            refine z_callVi (k' := M_X9_isNext) (As := [zI 50, zI 57]) (st := []) dX9_readPad_209 rfl ly153 (by decide) rfl (show 153 < 166 by decide) wm_X9_187 ok_X9_isNext okV_X9_isNext rfl (zroom_self (by decide) (by decide)) (Nat.le_of_ble_eq_true rfl) (Nat.le_refl _) rfl (Ev_mono h (fun v9 d15 h => ?_))
            refine zb_if_eq (tgt := 229) dX9_readPad_212 (by decide) h.1 ⟨fun c => ?_, fun c => ?_⟩
            · replace h := h.2.1 c
              refine z_iconst dX9_readPad_229 ?_
              refine z_istore (i := 7) (ls2 := [some (zR 153), some (zI x1), some (zI x2), some (zI x3), some (zI x4), some (zI (d 159 (d 153 19))), some (zI 1), some (zI 1), none, none]) dX9_readPad_230 (by decide) rfl ?_
              refine z_iconst dX9_readPad_232 ?_
              refine z_istore (i := 8) (ls2 := [some (zR 153), some (zI x1), some (zI x2), some (zI x3), some (zI x4), some (zI (d 159 (d 153 19))), some (zI 1), some (zI 1), some (zI 0), none]) dX9_readPad_233 (by decide) rfl ?_
              exact h
            · replace h := h.2.2 c
              refine z_aloadR_n (i := 0) dX9_readPad_215 rfl rfl ?_
              refine z_bipush dX9_readPad_216 (by decide +kernel) ?_
              refine z_bipush dX9_readPad_218 (by decide +kernel) ?_
              refine z_callVi (k' := M_X9_sign) (As := [zI 50, zI 57]) (st := []) dX9_readPad_220 rfl ly153 (by decide) rfl (show 153 < 166 by decide) wm_X9_184 ok_X9_sign okV_X9_sign rfl (zroom_self (by decide) (by decide)) (Nat.le_of_ble_eq_true rfl) (Nat.le_refl _) rfl (Ev_mono h (fun v10 d16 h => ?_))
              refine z_bipush dX9_readPad_223 (by decide +kernel) ?_
              refine z_isub dX9_readPad_225 ?_
              refine z_goto (tgt := 230) dX9_readPad_226 (by decide) ?_
              refine z_istore (i := 7) (ls2 := [some (zR 153), some (zI x1), some (zI x2), some (zI x3), some (zI x4), some (zI (d 159 (d 153 19))), some (zI 1), some (zI (v10 - 48)), none, none]) dX9_readPad_230 (by decide) rfl ?_
              refine z_iconst dX9_readPad_232 ?_
              refine z_istore (i := 8) (ls2 := [some (zR 153), some (zI x1), some (zI x2), some (zI x3), some (zI x4), some (zI (d 159 (d 153 19))), some (zI 1), some (zI (v10 - 48)), some (zI 0), none]) dX9_readPad_233 (by decide) rfl ?_
              exact h
        · replace h := h.2.2 c
          refine z_iconst dX9_readPad_175 ?_
          refine z_goto (tgt := 202) dX9_readPad_176 (by decide) ?_
          refine z_istore (i := 6) (ls2 := [some (zR 153), some (zI x1), some (zI x2), some (zI x3), some (zI x4), some (zI (d 159 (d 153 19))), some (zI 0), none, none, none]) dX9_readPad_202 (by decide) rfl ?_
          refine z_aloadR_n (i := 0) dX9_readPad_204 rfl rfl ?_
          refine z_bipush dX9_readPad_205 (by decide +kernel) ?_
          refine z_bipush dX9_readPad_207 (by decide +kernel) ?_
          refine z_callVi (k' := M_X9_isNext) (As := [zI 50, zI 57]) (st := []) dX9_readPad_209 rfl ly153 (by decide) rfl (show 153 < 166 by decide) wm_X9_187 ok_X9_isNext okV_X9_isNext rfl (zroom_self (by decide) (by decide)) (Nat.le_of_ble_eq_true rfl) (Nat.le_refl _) rfl (Ev_mono h (fun v11 d17 h => ?_))
          refine zb_if_eq (tgt := 229) dX9_readPad_212 (by decide) h.1 ⟨fun c => ?_, fun c => ?_⟩
          · replace h := h.2.1 c
            refine z_iconst dX9_readPad_229 ?_
            refine z_istore (i := 7) (ls2 := [some (zR 153), some (zI x1), some (zI x2), some (zI x3), some (zI x4), some (zI (d 159 (d 153 19))), some (zI 0), some (zI 1), none, none]) dX9_readPad_230 (by decide) rfl ?_
            refine z_iconst dX9_readPad_232 ?_
            refine z_istore (i := 8) (ls2 := [some (zR 153), some (zI x1), some (zI x2), some (zI x3), some (zI x4), some (zI (d 159 (d 153 19))), some (zI 0), some (zI 1), some (zI 0), none]) dX9_readPad_233 (by decide) rfl ?_
            exact h
          · replace h := h.2.2 c
            refine z_aloadR_n (i := 0) dX9_readPad_215 rfl rfl ?_
            refine z_bipush dX9_readPad_216 (by decide +kernel) ?_
            refine z_bipush dX9_readPad_218 (by decide +kernel) ?_
            refine z_callVi (k' := M_X9_sign) (As := [zI 50, zI 57]) (st := []) dX9_readPad_220 rfl ly153 (by decide) rfl (show 153 < 166 by decide) wm_X9_184 ok_X9_sign okV_X9_sign rfl (zroom_self (by decide) (by decide)) (Nat.le_of_ble_eq_true rfl) (Nat.le_refl _) rfl (Ev_mono h (fun v12 d18 h => ?_))
            refine z_bipush dX9_readPad_223 (by decide +kernel) ?_
            refine z_isub dX9_readPad_225 ?_
            refine z_goto (tgt := 230) dX9_readPad_226 (by decide) ?_
            refine z_istore (i := 7) (ls2 := [some (zR 153), some (zI x1), some (zI x2), some (zI x3), some (zI x4), some (zI (d 159 (d 153 19))), some (zI 0), some (zI (v12 - 48)), none, none]) dX9_readPad_230 (by decide) rfl ?_
            refine z_iconst dX9_readPad_232 ?_
            refine z_istore (i := 8) (ls2 := [some (zR 153), some (zI x1), some (zI x2), some (zI x3), some (zI x4), some (zI (d 159 (d 153 19))), some (zI 0), some (zI (v12 - 48)), some (zI 0), none]) dX9_readPad_233 (by decide) rfl ?_
            exact h
      · replace h := h.2.2 c
        refine z_iload (i := 5) dX9_readPad_111 rfl ?_
        refine z_bipush dX9_readPad_113 (by decide +kernel) ?_
        refine zb_icmp_eq (tgt := 143) dX9_readPad_115 (by decide) ⟨h.1, by decide⟩ ⟨fun c => ?_, fun c => ?_⟩
        · replace h := h.2.1 c
          refine z_iconst dX9_readPad_143 ?_
          refine z_putI 9 20 (idx := 181) ly153 (by decide) (by decide) rfl (show 153 < 166 by decide) rfl wf_X9_181 dX9_readPad_144 (Or.inr ⟨rfl, by decide⟩) ?_
          generalize hd19 : mu d 153 ((20 : Nat) : Int) 0 = d19
          replace hd19 : d19 = mu d 153 20 0 := hd19.symm
          replace h := h d19 hd19
          refine z_aloadR_n (i := 0) dX9_readPad_147 rfl rfl ?_
          refine z_dup dX9_readPad_148 (Nat.le_of_ble_eq_true rfl) ?_
          refine z_getI' 9 19 (idx := 178) (fv := (d 153 19)) ly153 (by decide) (by decide) rfl (show 153 < 166 by decide) wf_X9_178 dX9_readPad_149 (by show d19 153 19 = _; rw [hd19, mu_ni (by decide)]) ?_
          refine z_aloadR_n (i := 0) dX9_readPad_152 rfl rfl ?_
          refine z_getI' 9 20 (idx := 181) (fv := 0) ly153 (by decide) (by decide) rfl (show 153 < 166 by decide) wf_X9_181 dX9_readPad_153 (by show d19 153 20 = _; rw [hd19, mu_get]) ?_
          refine zb_if_eq (tgt := 163) dX9_readPad_156 (by decide) (by decide) ⟨fun _ => ?_, fun q => absurd q (by decide)⟩
          refine z_iconst dX9_readPad_163 ?_
          refine z_iadd dX9_readPad_164 ?_
          refine z_putI 9 19 (idx := 178) ly153 (by decide) (by decide) rfl (show 153 < 166 by decide) rfl wf_X9_178 dX9_readPad_165 (Or.inl rfl) ?_
          generalize hd20 : mu d19 153 ((19 : Nat) : Int) ((d 153 19) + 1) = d20
          replace hd20 : d20 = mu d19 153 19 ((d 153 19) + 1) := hd20.symm
          replace h := h d20 hd20
          refine z_iload (i := 5) dX9_readPad_168 rfl ?_
          refine z_bipush dX9_readPad_170 (by decide +kernel) ?_
          refine zb_icmp_ne (tgt := 179) dX9_readPad_172 (by decide) ⟨h.1, by decide⟩ ⟨fun c => ?_, fun c => ?_⟩
          · replace h := h.2.1 c
            refine z_iload (i := 5) dX9_readPad_179 rfl ?_
            refine z_bipush dX9_readPad_181 (by decide +kernel) ?_
            refine zb_icmp_ne (tgt := 190) dX9_readPad_183 (by decide) ⟨h.1, by decide⟩ ⟨fun c => ?_, fun c => ?_⟩
            · replace h := h.2.1 c
              refine z_iload (i := 5) dX9_readPad_190 rfl ?_
              refine z_bipush dX9_readPad_192 (by decide +kernel) ?_
              refine zb_icmp_ne (tgt := 201) dX9_readPad_194 (by decide) ⟨h.1, by decide⟩ ⟨fun c => ?_, fun c => ?_⟩
              · replace h := h.2.1 c
                refine z_iconst dX9_readPad_201 ?_
                refine z_istore (i := 6) (ls2 := [some (zR 153), some (zI x1), some (zI x2), some (zI x3), some (zI x4), some (zI (d 159 (d 153 19))), some (zI 3), none, none, none]) dX9_readPad_202 (by decide) rfl ?_
                refine z_aloadR_n (i := 0) dX9_readPad_204 rfl rfl ?_
                refine z_bipush dX9_readPad_205 (by decide +kernel) ?_
                refine z_bipush dX9_readPad_207 (by decide +kernel) ?_
                refine z_callVi (k' := M_X9_isNext) (As := [zI 50, zI 57]) (st := []) dX9_readPad_209 rfl ly153 (by decide) rfl (show 153 < 166 by decide) wm_X9_187 ok_X9_isNext okV_X9_isNext rfl (zroom_self (by decide) (by decide)) (Nat.le_of_ble_eq_true rfl) (Nat.le_refl _) rfl (Ev_mono h (fun v13 d21 h => ?_))
                refine zb_if_eq (tgt := 229) dX9_readPad_212 (by decide) h.1 ⟨fun c => ?_, fun c => ?_⟩
                · replace h := h.2.1 c
                  refine z_iconst dX9_readPad_229 ?_
                  refine z_istore (i := 7) (ls2 := [some (zR 153), some (zI x1), some (zI x2), some (zI x3), some (zI x4), some (zI (d 159 (d 153 19))), some (zI 3), some (zI 1), none, none]) dX9_readPad_230 (by decide) rfl ?_
                  refine z_iconst dX9_readPad_232 ?_
                  refine z_istore (i := 8) (ls2 := [some (zR 153), some (zI x1), some (zI x2), some (zI x3), some (zI x4), some (zI (d 159 (d 153 19))), some (zI 3), some (zI 1), some (zI 0), none]) dX9_readPad_233 (by decide) rfl ?_
                  exact h
                · replace h := h.2.2 c
                  refine z_aloadR_n (i := 0) dX9_readPad_215 rfl rfl ?_
                  refine z_bipush dX9_readPad_216 (by decide +kernel) ?_
                  refine z_bipush dX9_readPad_218 (by decide +kernel) ?_
                  refine z_callVi (k' := M_X9_sign) (As := [zI 50, zI 57]) (st := []) dX9_readPad_220 rfl ly153 (by decide) rfl (show 153 < 166 by decide) wm_X9_184 ok_X9_sign okV_X9_sign rfl (zroom_self (by decide) (by decide)) (Nat.le_of_ble_eq_true rfl) (Nat.le_refl _) rfl (Ev_mono h (fun v14 d22 h => ?_))
                  refine z_bipush dX9_readPad_223 (by decide +kernel) ?_
                  refine z_isub dX9_readPad_225 ?_
                  refine z_goto (tgt := 230) dX9_readPad_226 (by decide) ?_
                  refine z_istore (i := 7) (ls2 := [some (zR 153), some (zI x1), some (zI x2), some (zI x3), some (zI x4), some (zI (d 159 (d 153 19))), some (zI 3), some (zI (v14 - 48)), none, none]) dX9_readPad_230 (by decide) rfl ?_
                  refine z_iconst dX9_readPad_232 ?_
                  refine z_istore (i := 8) (ls2 := [some (zR 153), some (zI x1), some (zI x2), some (zI x3), some (zI x4), some (zI (d 159 (d 153 19))), some (zI 3), some (zI (v14 - 48)), some (zI 0), none]) dX9_readPad_233 (by decide) rfl ?_
                  exact h
              · replace h := h.2.2 c
                refine z_iconst dX9_readPad_197 ?_
                refine z_goto (tgt := 202) dX9_readPad_198 (by decide) ?_
                refine z_istore (i := 6) (ls2 := [some (zR 153), some (zI x1), some (zI x2), some (zI x3), some (zI x4), some (zI (d 159 (d 153 19))), some (zI 2), none, none, none]) dX9_readPad_202 (by decide) rfl ?_
                refine z_aloadR_n (i := 0) dX9_readPad_204 rfl rfl ?_
                refine z_bipush dX9_readPad_205 (by decide +kernel) ?_
                refine z_bipush dX9_readPad_207 (by decide +kernel) ?_
                refine z_callVi (k' := M_X9_isNext) (As := [zI 50, zI 57]) (st := []) dX9_readPad_209 rfl ly153 (by decide) rfl (show 153 < 166 by decide) wm_X9_187 ok_X9_isNext okV_X9_isNext rfl (zroom_self (by decide) (by decide)) (Nat.le_of_ble_eq_true rfl) (Nat.le_refl _) rfl (Ev_mono h (fun v15 d23 h => ?_))
                refine zb_if_eq (tgt := 229) dX9_readPad_212 (by decide) h.1 ⟨fun c => ?_, fun c => ?_⟩
                · replace h := h.2.1 c
                  refine z_iconst dX9_readPad_229 ?_
                  refine z_istore (i := 7) (ls2 := [some (zR 153), some (zI x1), some (zI x2), some (zI x3), some (zI x4), some (zI (d 159 (d 153 19))), some (zI 2), some (zI 1), none, none]) dX9_readPad_230 (by decide) rfl ?_
                  refine z_iconst dX9_readPad_232 ?_
                  refine z_istore (i := 8) (ls2 := [some (zR 153), some (zI x1), some (zI x2), some (zI x3), some (zI x4), some (zI (d 159 (d 153 19))), some (zI 2), some (zI 1), some (zI 0), none]) dX9_readPad_233 (by decide) rfl ?_
                  exact h
                · replace h := h.2.2 c
                  refine z_aloadR_n (i := 0) dX9_readPad_215 rfl rfl ?_
                  refine z_bipush dX9_readPad_216 (by decide +kernel) ?_
                  refine z_bipush dX9_readPad_218 (by decide +kernel) ?_
                  refine z_callVi (k' := M_X9_sign) (As := [zI 50, zI 57]) (st := []) dX9_readPad_220 rfl ly153 (by decide) rfl (show 153 < 166 by decide) wm_X9_184 ok_X9_sign okV_X9_sign rfl (zroom_self (by decide) (by decide)) (Nat.le_of_ble_eq_true rfl) (Nat.le_refl _) rfl (Ev_mono h (fun v16 d24 h => ?_))
                  refine z_bipush dX9_readPad_223 (by decide +kernel) ?_
                  refine z_isub dX9_readPad_225 ?_
                  refine z_goto (tgt := 230) dX9_readPad_226 (by decide) ?_
                  refine z_istore (i := 7) (ls2 := [some (zR 153), some (zI x1), some (zI x2), some (zI x3), some (zI x4), some (zI (d 159 (d 153 19))), some (zI 2), some (zI (v16 - 48)), none, none]) dX9_readPad_230 (by decide) rfl ?_
                  refine z_iconst dX9_readPad_232 ?_
                  refine z_istore (i := 8) (ls2 := [some (zR 153), some (zI x1), some (zI x2), some (zI x3), some (zI x4), some (zI (d 159 (d 153 19))), some (zI 2), some (zI (v16 - 48)), some (zI 0), none]) dX9_readPad_233 (by decide) rfl ?_
                  exact h
            · replace h := h.2.2 c
              refine z_iconst dX9_readPad_186 ?_
              refine z_goto (tgt := 202) dX9_readPad_187 (by decide) ?_
              refine z_istore (i := 6) (ls2 := [some (zR 153), some (zI x1), some (zI x2), some (zI x3), some (zI x4), some (zI (d 159 (d 153 19))), some (zI 1), none, none, none]) dX9_readPad_202 (by decide) rfl ?_
              refine z_aloadR_n (i := 0) dX9_readPad_204 rfl rfl ?_
              refine z_bipush dX9_readPad_205 (by decide +kernel) ?_
              refine z_bipush dX9_readPad_207 (by decide +kernel) ?_
              refine z_callVi (k' := M_X9_isNext) (As := [zI 50, zI 57]) (st := []) dX9_readPad_209 rfl ly153 (by decide) rfl (show 153 < 166 by decide) wm_X9_187 ok_X9_isNext okV_X9_isNext rfl (zroom_self (by decide) (by decide)) (Nat.le_of_ble_eq_true rfl) (Nat.le_refl _) rfl (Ev_mono h (fun v17 d25 h => ?_))
              refine zb_if_eq (tgt := 229) dX9_readPad_212 (by decide) h.1 ⟨fun c => ?_, fun c => ?_⟩
              · replace h := h.2.1 c
                refine z_iconst dX9_readPad_229 ?_
                refine z_istore (i := 7) (ls2 := [some (zR 153), some (zI x1), some (zI x2), some (zI x3), some (zI x4), some (zI (d 159 (d 153 19))), some (zI 1), some (zI 1), none, none]) dX9_readPad_230 (by decide) rfl ?_
                refine z_iconst dX9_readPad_232 ?_
                refine z_istore (i := 8) (ls2 := [some (zR 153), some (zI x1), some (zI x2), some (zI x3), some (zI x4), some (zI (d 159 (d 153 19))), some (zI 1), some (zI 1), some (zI 0), none]) dX9_readPad_233 (by decide) rfl ?_
                exact h
              · replace h := h.2.2 c
                refine z_aloadR_n (i := 0) dX9_readPad_215 rfl rfl ?_
                refine z_bipush dX9_readPad_216 (by decide +kernel) ?_
                refine z_bipush dX9_readPad_218 (by decide +kernel) ?_
                refine z_callVi (k' := M_X9_sign) (As := [zI 50, zI 57]) (st := []) dX9_readPad_220 rfl ly153 (by decide) rfl (show 153 < 166 by decide) wm_X9_184 ok_X9_sign okV_X9_sign rfl (zroom_self (by decide) (by decide)) (Nat.le_of_ble_eq_true rfl) (Nat.le_refl _) rfl (Ev_mono h (fun v18 d26 h => ?_))
                refine z_bipush dX9_readPad_223 (by decide +kernel) ?_
                refine z_isub dX9_readPad_225 ?_
                refine z_goto (tgt := 230) dX9_readPad_226 (by decide) ?_
                refine z_istore (i := 7) (ls2 := [some (zR 153), some (zI x1), some (zI x2), some (zI x3), some (zI x4), some (zI (d 159 (d 153 19))), some (zI 1), some (zI (v18 - 48)), none, none]) dX9_readPad_230 (by decide) rfl ?_
                refine z_iconst dX9_readPad_232 ?_
                refine z_istore (i := 8) (ls2 := [some (zR 153), some (zI x1), some (zI x2), some (zI x3), some (zI x4), some (zI (d 159 (d 153 19))), some (zI 1), some (zI (v18 - 48)), some (zI 0), none]) dX9_readPad_233 (by decide) rfl ?_
                exact h
          · replace h := h.2.2 c
            refine z_iconst dX9_readPad_175 ?_
            refine z_goto (tgt := 202) dX9_readPad_176 (by decide) ?_
            refine z_istore (i := 6) (ls2 := [some (zR 153), some (zI x1), some (zI x2), some (zI x3), some (zI x4), some (zI (d 159 (d 153 19))), some (zI 0), none, none, none]) dX9_readPad_202 (by decide) rfl ?_
            refine z_aloadR_n (i := 0) dX9_readPad_204 rfl rfl ?_
            refine z_bipush dX9_readPad_205 (by decide +kernel) ?_
            refine z_bipush dX9_readPad_207 (by decide +kernel) ?_
            refine z_callVi (k' := M_X9_isNext) (As := [zI 50, zI 57]) (st := []) dX9_readPad_209 rfl ly153 (by decide) rfl (show 153 < 166 by decide) wm_X9_187 ok_X9_isNext okV_X9_isNext rfl (zroom_self (by decide) (by decide)) (Nat.le_of_ble_eq_true rfl) (Nat.le_refl _) rfl (Ev_mono h (fun v19 d27 h => ?_))
            refine zb_if_eq (tgt := 229) dX9_readPad_212 (by decide) h.1 ⟨fun c => ?_, fun c => ?_⟩
            · replace h := h.2.1 c
              refine z_iconst dX9_readPad_229 ?_
              refine z_istore (i := 7) (ls2 := [some (zR 153), some (zI x1), some (zI x2), some (zI x3), some (zI x4), some (zI (d 159 (d 153 19))), some (zI 0), some (zI 1), none, none]) dX9_readPad_230 (by decide) rfl ?_
              refine z_iconst dX9_readPad_232 ?_
              refine z_istore (i := 8) (ls2 := [some (zR 153), some (zI x1), some (zI x2), some (zI x3), some (zI x4), some (zI (d 159 (d 153 19))), some (zI 0), some (zI 1), some (zI 0), none]) dX9_readPad_233 (by decide) rfl ?_
              exact h
            · replace h := h.2.2 c
              refine z_aloadR_n (i := 0) dX9_readPad_215 rfl rfl ?_
              refine z_bipush dX9_readPad_216 (by decide +kernel) ?_
              refine z_bipush dX9_readPad_218 (by decide +kernel) ?_
              refine z_callVi (k' := M_X9_sign) (As := [zI 50, zI 57]) (st := []) dX9_readPad_220 rfl ly153 (by decide) rfl (show 153 < 166 by decide) wm_X9_184 ok_X9_sign okV_X9_sign rfl (zroom_self (by decide) (by decide)) (Nat.le_of_ble_eq_true rfl) (Nat.le_refl _) rfl (Ev_mono h (fun v20 d28 h => ?_))
              refine z_bipush dX9_readPad_223 (by decide +kernel) ?_
              refine z_isub dX9_readPad_225 ?_
              refine z_goto (tgt := 230) dX9_readPad_226 (by decide) ?_
              refine z_istore (i := 7) (ls2 := [some (zR 153), some (zI x1), some (zI x2), some (zI x3), some (zI x4), some (zI (d 159 (d 153 19))), some (zI 0), some (zI (v20 - 48)), none, none]) dX9_readPad_230 (by decide) rfl ?_
              refine z_iconst dX9_readPad_232 ?_
              refine z_istore (i := 8) (ls2 := [some (zR 153), some (zI x1), some (zI x2), some (zI x3), some (zI x4), some (zI (d 159 (d 153 19))), some (zI 0), some (zI (v20 - 48)), some (zI 0), none]) dX9_readPad_233 (by decide) rfl ?_
              exact h
        · replace h := h.2.2 c
          refine z_iload (i := 5) dX9_readPad_118 rfl ?_
          refine z_bipush dX9_readPad_120 (by decide +kernel) ?_
          refine zb_icmp_eq (tgt := 143) dX9_readPad_122 (by decide) ⟨h.1, by decide⟩ ⟨fun c => ?_, fun c => ?_⟩
          · replace h := h.2.1 c
            refine z_iconst dX9_readPad_143 ?_
            refine z_putI 9 20 (idx := 181) ly153 (by decide) (by decide) rfl (show 153 < 166 by decide) rfl wf_X9_181 dX9_readPad_144 (Or.inr ⟨rfl, by decide⟩) ?_
            generalize hd29 : mu d 153 ((20 : Nat) : Int) 0 = d29
            replace hd29 : d29 = mu d 153 20 0 := hd29.symm
            replace h := h d29 hd29
            refine z_aloadR_n (i := 0) dX9_readPad_147 rfl rfl ?_
            refine z_dup dX9_readPad_148 (Nat.le_of_ble_eq_true rfl) ?_
            refine z_getI' 9 19 (idx := 178) (fv := (d 153 19)) ly153 (by decide) (by decide) rfl (show 153 < 166 by decide) wf_X9_178 dX9_readPad_149 (by show d29 153 19 = _; rw [hd29, mu_ni (by decide)]) ?_
            refine z_aloadR_n (i := 0) dX9_readPad_152 rfl rfl ?_
            refine z_getI' 9 20 (idx := 181) (fv := 0) ly153 (by decide) (by decide) rfl (show 153 < 166 by decide) wf_X9_181 dX9_readPad_153 (by show d29 153 20 = _; rw [hd29, mu_get]) ?_
            refine zb_if_eq (tgt := 163) dX9_readPad_156 (by decide) (by decide) ⟨fun _ => ?_, fun q => absurd q (by decide)⟩
            refine z_iconst dX9_readPad_163 ?_
            refine z_iadd dX9_readPad_164 ?_
            refine z_putI 9 19 (idx := 178) ly153 (by decide) (by decide) rfl (show 153 < 166 by decide) rfl wf_X9_178 dX9_readPad_165 (Or.inl rfl) ?_
            generalize hd30 : mu d29 153 ((19 : Nat) : Int) ((d 153 19) + 1) = d30
            replace hd30 : d30 = mu d29 153 19 ((d 153 19) + 1) := hd30.symm
            replace h := h d30 hd30
            refine z_iload (i := 5) dX9_readPad_168 rfl ?_
            refine z_bipush dX9_readPad_170 (by decide +kernel) ?_
            refine zb_icmp_ne (tgt := 179) dX9_readPad_172 (by decide) ⟨h.1, by decide⟩ ⟨fun c => ?_, fun c => ?_⟩
            · replace h := h.2.1 c
              refine z_iload (i := 5) dX9_readPad_179 rfl ?_
              refine z_bipush dX9_readPad_181 (by decide +kernel) ?_
              refine zb_icmp_ne (tgt := 190) dX9_readPad_183 (by decide) ⟨h.1, by decide⟩ ⟨fun c => ?_, fun c => ?_⟩
              · replace h := h.2.1 c
                refine z_iload (i := 5) dX9_readPad_190 rfl ?_
                refine z_bipush dX9_readPad_192 (by decide +kernel) ?_
                refine zb_icmp_ne (tgt := 201) dX9_readPad_194 (by decide) ⟨h.1, by decide⟩ ⟨fun c => ?_, fun c => ?_⟩
                · replace h := h.2.1 c
                  refine z_iconst dX9_readPad_201 ?_
                  refine z_istore (i := 6) (ls2 := [some (zR 153), some (zI x1), some (zI x2), some (zI x3), some (zI x4), some (zI (d 159 (d 153 19))), some (zI 3), none, none, none]) dX9_readPad_202 (by decide) rfl ?_
                  refine z_aloadR_n (i := 0) dX9_readPad_204 rfl rfl ?_
                  refine z_bipush dX9_readPad_205 (by decide +kernel) ?_
                  refine z_bipush dX9_readPad_207 (by decide +kernel) ?_
                  refine z_callVi (k' := M_X9_isNext) (As := [zI 50, zI 57]) (st := []) dX9_readPad_209 rfl ly153 (by decide) rfl (show 153 < 166 by decide) wm_X9_187 ok_X9_isNext okV_X9_isNext rfl (zroom_self (by decide) (by decide)) (Nat.le_of_ble_eq_true rfl) (Nat.le_refl _) rfl (Ev_mono h (fun v21 d31 h => ?_))
                  refine zb_if_eq (tgt := 229) dX9_readPad_212 (by decide) h.1 ⟨fun c => ?_, fun c => ?_⟩
                  · replace h := h.2.1 c
                    refine z_iconst dX9_readPad_229 ?_
                    refine z_istore (i := 7) (ls2 := [some (zR 153), some (zI x1), some (zI x2), some (zI x3), some (zI x4), some (zI (d 159 (d 153 19))), some (zI 3), some (zI 1), none, none]) dX9_readPad_230 (by decide) rfl ?_
                    refine z_iconst dX9_readPad_232 ?_
                    refine z_istore (i := 8) (ls2 := [some (zR 153), some (zI x1), some (zI x2), some (zI x3), some (zI x4), some (zI (d 159 (d 153 19))), some (zI 3), some (zI 1), some (zI 0), none]) dX9_readPad_233 (by decide) rfl ?_
                    exact h
                  · replace h := h.2.2 c
                    refine z_aloadR_n (i := 0) dX9_readPad_215 rfl rfl ?_
                    refine z_bipush dX9_readPad_216 (by decide +kernel) ?_
                    refine z_bipush dX9_readPad_218 (by decide +kernel) ?_
                    refine z_callVi (k' := M_X9_sign) (As := [zI 50, zI 57]) (st := []) dX9_readPad_220 rfl ly153 (by decide) rfl (show 153 < 166 by decide) wm_X9_184 ok_X9_sign okV_X9_sign rfl (zroom_self (by decide) (by decide)) (Nat.le_of_ble_eq_true rfl) (Nat.le_refl _) rfl (Ev_mono h (fun v22 d32 h => ?_))
                    refine z_bipush dX9_readPad_223 (by decide +kernel) ?_
                    refine z_isub dX9_readPad_225 ?_
                    refine z_goto (tgt := 230) dX9_readPad_226 (by decide) ?_
                    refine z_istore (i := 7) (ls2 := [some (zR 153), some (zI x1), some (zI x2), some (zI x3), some (zI x4), some (zI (d 159 (d 153 19))), some (zI 3), some (zI (v22 - 48)), none, none]) dX9_readPad_230 (by decide) rfl ?_
                    refine z_iconst dX9_readPad_232 ?_
                    refine z_istore (i := 8) (ls2 := [some (zR 153), some (zI x1), some (zI x2), some (zI x3), some (zI x4), some (zI (d 159 (d 153 19))), some (zI 3), some (zI (v22 - 48)), some (zI 0), none]) dX9_readPad_233 (by decide) rfl ?_
                    exact h
                · replace h := h.2.2 c
                  refine z_iconst dX9_readPad_197 ?_
                  refine z_goto (tgt := 202) dX9_readPad_198 (by decide) ?_
                  refine z_istore (i := 6) (ls2 := [some (zR 153), some (zI x1), some (zI x2), some (zI x3), some (zI x4), some (zI (d 159 (d 153 19))), some (zI 2), none, none, none]) dX9_readPad_202 (by decide) rfl ?_
                  refine z_aloadR_n (i := 0) dX9_readPad_204 rfl rfl ?_
                  refine z_bipush dX9_readPad_205 (by decide +kernel) ?_
                  refine z_bipush dX9_readPad_207 (by decide +kernel) ?_
                  refine z_callVi (k' := M_X9_isNext) (As := [zI 50, zI 57]) (st := []) dX9_readPad_209 rfl ly153 (by decide) rfl (show 153 < 166 by decide) wm_X9_187 ok_X9_isNext okV_X9_isNext rfl (zroom_self (by decide) (by decide)) (Nat.le_of_ble_eq_true rfl) (Nat.le_refl _) rfl (Ev_mono h (fun v23 d33 h => ?_))
                  refine zb_if_eq (tgt := 229) dX9_readPad_212 (by decide) h.1 ⟨fun c => ?_, fun c => ?_⟩
                  · replace h := h.2.1 c
                    refine z_iconst dX9_readPad_229 ?_
                    refine z_istore (i := 7) (ls2 := [some (zR 153), some (zI x1), some (zI x2), some (zI x3), some (zI x4), some (zI (d 159 (d 153 19))), some (zI 2), some (zI 1), none, none]) dX9_readPad_230 (by decide) rfl ?_
                    refine z_iconst dX9_readPad_232 ?_
                    refine z_istore (i := 8) (ls2 := [some (zR 153), some (zI x1), some (zI x2), some (zI x3), some (zI x4), some (zI (d 159 (d 153 19))), some (zI 2), some (zI 1), some (zI 0), none]) dX9_readPad_233 (by decide) rfl ?_
                    exact h
                  · replace h := h.2.2 c
                    refine z_aloadR_n (i := 0) dX9_readPad_215 rfl rfl ?_
                    refine z_bipush dX9_readPad_216 (by decide +kernel) ?_
                    refine z_bipush dX9_readPad_218 (by decide +kernel) ?_
                    refine z_callVi (k' := M_X9_sign) (As := [zI 50, zI 57]) (st := []) dX9_readPad_220 rfl ly153 (by decide) rfl (show 153 < 166 by decide) wm_X9_184 ok_X9_sign okV_X9_sign rfl (zroom_self (by decide) (by decide)) (Nat.le_of_ble_eq_true rfl) (Nat.le_refl _) rfl (Ev_mono h (fun v24 d34 h => ?_))
                    refine z_bipush dX9_readPad_223 (by decide +kernel) ?_
                    refine z_isub dX9_readPad_225 ?_
                    refine z_goto (tgt := 230) dX9_readPad_226 (by decide) ?_
                    refine z_istore (i := 7) (ls2 := [some (zR 153), some (zI x1), some (zI x2), some (zI x3), some (zI x4), some (zI (d 159 (d 153 19))), some (zI 2), some (zI (v24 - 48)), none, none]) dX9_readPad_230 (by decide) rfl ?_
                    refine z_iconst dX9_readPad_232 ?_
                    refine z_istore (i := 8) (ls2 := [some (zR 153), some (zI x1), some (zI x2), some (zI x3), some (zI x4), some (zI (d 159 (d 153 19))), some (zI 2), some (zI (v24 - 48)), some (zI 0), none]) dX9_readPad_233 (by decide) rfl ?_
                    exact h
              · replace h := h.2.2 c
                refine z_iconst dX9_readPad_186 ?_
                refine z_goto (tgt := 202) dX9_readPad_187 (by decide) ?_
                refine z_istore (i := 6) (ls2 := [some (zR 153), some (zI x1), some (zI x2), some (zI x3), some (zI x4), some (zI (d 159 (d 153 19))), some (zI 1), none, none, none]) dX9_readPad_202 (by decide) rfl ?_
                refine z_aloadR_n (i := 0) dX9_readPad_204 rfl rfl ?_
                refine z_bipush dX9_readPad_205 (by decide +kernel) ?_
                refine z_bipush dX9_readPad_207 (by decide +kernel) ?_
                refine z_callVi (k' := M_X9_isNext) (As := [zI 50, zI 57]) (st := []) dX9_readPad_209 rfl ly153 (by decide) rfl (show 153 < 166 by decide) wm_X9_187 ok_X9_isNext okV_X9_isNext rfl (zroom_self (by decide) (by decide)) (Nat.le_of_ble_eq_true rfl) (Nat.le_refl _) rfl (Ev_mono h (fun v25 d35 h => ?_))
                refine zb_if_eq (tgt := 229) dX9_readPad_212 (by decide) h.1 ⟨fun c => ?_, fun c => ?_⟩
                · replace h := h.2.1 c
                  refine z_iconst dX9_readPad_229 ?_
                  refine z_istore (i := 7) (ls2 := [some (zR 153), some (zI x1), some (zI x2), some (zI x3), some (zI x4), some (zI (d 159 (d 153 19))), some (zI 1), some (zI 1), none, none]) dX9_readPad_230 (by decide) rfl ?_
                  refine z_iconst dX9_readPad_232 ?_
                  refine z_istore (i := 8) (ls2 := [some (zR 153), some (zI x1), some (zI x2), some (zI x3), some (zI x4), some (zI (d 159 (d 153 19))), some (zI 1), some (zI 1), some (zI 0), none]) dX9_readPad_233 (by decide) rfl ?_
                  exact h
                · replace h := h.2.2 c
                  refine z_aloadR_n (i := 0) dX9_readPad_215 rfl rfl ?_
                  refine z_bipush dX9_readPad_216 (by decide +kernel) ?_
                  refine z_bipush dX9_readPad_218 (by decide +kernel) ?_
                  refine z_callVi (k' := M_X9_sign) (As := [zI 50, zI 57]) (st := []) dX9_readPad_220 rfl ly153 (by decide) rfl (show 153 < 166 by decide) wm_X9_184 ok_X9_sign okV_X9_sign rfl (zroom_self (by decide) (by decide)) (Nat.le_of_ble_eq_true rfl) (Nat.le_refl _) rfl (Ev_mono h (fun v26 d36 h => ?_))
                  refine z_bipush dX9_readPad_223 (by decide +kernel) ?_
                  refine z_isub dX9_readPad_225 ?_
                  refine z_goto (tgt := 230) dX9_readPad_226 (by decide) ?_
                  refine z_istore (i := 7) (ls2 := [some (zR 153), some (zI x1), some (zI x2), some (zI x3), some (zI x4), some (zI (d 159 (d 153 19))), some (zI 1), some (zI (v26 - 48)), none, none]) dX9_readPad_230 (by decide) rfl ?_
                  refine z_iconst dX9_readPad_232 ?_
                  refine z_istore (i := 8) (ls2 := [some (zR 153), some (zI x1), some (zI x2), some (zI x3), some (zI x4), some (zI (d 159 (d 153 19))), some (zI 1), some (zI (v26 - 48)), some (zI 0), none]) dX9_readPad_233 (by decide) rfl ?_
                  exact h
            · replace h := h.2.2 c
              refine z_iconst dX9_readPad_175 ?_
              refine z_goto (tgt := 202) dX9_readPad_176 (by decide) ?_
              refine z_istore (i := 6) (ls2 := [some (zR 153), some (zI x1), some (zI x2), some (zI x3), some (zI x4), some (zI (d 159 (d 153 19))), some (zI 0), none, none, none]) dX9_readPad_202 (by decide) rfl ?_
              refine z_aloadR_n (i := 0) dX9_readPad_204 rfl rfl ?_
              refine z_bipush dX9_readPad_205 (by decide +kernel) ?_
              refine z_bipush dX9_readPad_207 (by decide +kernel) ?_
              refine z_callVi (k' := M_X9_isNext) (As := [zI 50, zI 57]) (st := []) dX9_readPad_209 rfl ly153 (by decide) rfl (show 153 < 166 by decide) wm_X9_187 ok_X9_isNext okV_X9_isNext rfl (zroom_self (by decide) (by decide)) (Nat.le_of_ble_eq_true rfl) (Nat.le_refl _) rfl (Ev_mono h (fun v27 d37 h => ?_))
              refine zb_if_eq (tgt := 229) dX9_readPad_212 (by decide) h.1 ⟨fun c => ?_, fun c => ?_⟩
              · replace h := h.2.1 c
                refine z_iconst dX9_readPad_229 ?_
                refine z_istore (i := 7) (ls2 := [some (zR 153), some (zI x1), some (zI x2), some (zI x3), some (zI x4), some (zI (d 159 (d 153 19))), some (zI 0), some (zI 1), none, none]) dX9_readPad_230 (by decide) rfl ?_
                refine z_iconst dX9_readPad_232 ?_
                refine z_istore (i := 8) (ls2 := [some (zR 153), some (zI x1), some (zI x2), some (zI x3), some (zI x4), some (zI (d 159 (d 153 19))), some (zI 0), some (zI 1), some (zI 0), none]) dX9_readPad_233 (by decide) rfl ?_
                exact h
              · replace h := h.2.2 c
                refine z_aloadR_n (i := 0) dX9_readPad_215 rfl rfl ?_
                refine z_bipush dX9_readPad_216 (by decide +kernel) ?_
                refine z_bipush dX9_readPad_218 (by decide +kernel) ?_
                refine z_callVi (k' := M_X9_sign) (As := [zI 50, zI 57]) (st := []) dX9_readPad_220 rfl ly153 (by decide) rfl (show 153 < 166 by decide) wm_X9_184 ok_X9_sign okV_X9_sign rfl (zroom_self (by decide) (by decide)) (Nat.le_of_ble_eq_true rfl) (Nat.le_refl _) rfl (Ev_mono h (fun v28 d38 h => ?_))
                refine z_bipush dX9_readPad_223 (by decide +kernel) ?_
                refine z_isub dX9_readPad_225 ?_
                refine z_goto (tgt := 230) dX9_readPad_226 (by decide) ?_
                refine z_istore (i := 7) (ls2 := [some (zR 153), some (zI x1), some (zI x2), some (zI x3), some (zI x4), some (zI (d 159 (d 153 19))), some (zI 0), some (zI (v28 - 48)), none, none]) dX9_readPad_230 (by decide) rfl ?_
                refine z_iconst dX9_readPad_232 ?_
                refine z_istore (i := 8) (ls2 := [some (zR 153), some (zI x1), some (zI x2), some (zI x3), some (zI x4), some (zI (d 159 (d 153 19))), some (zI 0), some (zI (v28 - 48)), some (zI 0), none]) dX9_readPad_233 (by decide) rfl ?_
                exact h
          · replace h := h.2.2 c
            refine z_iload (i := 5) dX9_readPad_125 rfl ?_
            refine z_bipush dX9_readPad_127 (by decide +kernel) ?_
            refine zb_icmp_eq (tgt := 143) dX9_readPad_129 (by decide) ⟨h.1, by decide⟩ ⟨fun c => ?_, fun c => ?_⟩
            · replace h := h.2.1 c
              refine z_iconst dX9_readPad_143 ?_
              refine z_putI 9 20 (idx := 181) ly153 (by decide) (by decide) rfl (show 153 < 166 by decide) rfl wf_X9_181 dX9_readPad_144 (Or.inr ⟨rfl, by decide⟩) ?_
              generalize hd39 : mu d 153 ((20 : Nat) : Int) 0 = d39
              replace hd39 : d39 = mu d 153 20 0 := hd39.symm
              replace h := h d39 hd39
              refine z_aloadR_n (i := 0) dX9_readPad_147 rfl rfl ?_
              refine z_dup dX9_readPad_148 (Nat.le_of_ble_eq_true rfl) ?_
              refine z_getI' 9 19 (idx := 178) (fv := (d 153 19)) ly153 (by decide) (by decide) rfl (show 153 < 166 by decide) wf_X9_178 dX9_readPad_149 (by show d39 153 19 = _; rw [hd39, mu_ni (by decide)]) ?_
              refine z_aloadR_n (i := 0) dX9_readPad_152 rfl rfl ?_
              refine z_getI' 9 20 (idx := 181) (fv := 0) ly153 (by decide) (by decide) rfl (show 153 < 166 by decide) wf_X9_181 dX9_readPad_153 (by show d39 153 20 = _; rw [hd39, mu_get]) ?_
              refine zb_if_eq (tgt := 163) dX9_readPad_156 (by decide) (by decide) ⟨fun _ => ?_, fun q => absurd q (by decide)⟩
              refine z_iconst dX9_readPad_163 ?_
              refine z_iadd dX9_readPad_164 ?_
              refine z_putI 9 19 (idx := 178) ly153 (by decide) (by decide) rfl (show 153 < 166 by decide) rfl wf_X9_178 dX9_readPad_165 (Or.inl rfl) ?_
              generalize hd40 : mu d39 153 ((19 : Nat) : Int) ((d 153 19) + 1) = d40
              replace hd40 : d40 = mu d39 153 19 ((d 153 19) + 1) := hd40.symm
              replace h := h d40 hd40
              refine z_iload (i := 5) dX9_readPad_168 rfl ?_
              refine z_bipush dX9_readPad_170 (by decide +kernel) ?_
              refine zb_icmp_ne (tgt := 179) dX9_readPad_172 (by decide) ⟨h.1, by decide⟩ ⟨fun c => ?_, fun c => ?_⟩
              · replace h := h.2.1 c
                refine z_iload (i := 5) dX9_readPad_179 rfl ?_
                refine z_bipush dX9_readPad_181 (by decide +kernel) ?_
                refine zb_icmp_ne (tgt := 190) dX9_readPad_183 (by decide) ⟨h.1, by decide⟩ ⟨fun c => ?_, fun c => ?_⟩
                · replace h := h.2.1 c
                  refine z_iload (i := 5) dX9_readPad_190 rfl ?_
                  refine z_bipush dX9_readPad_192 (by decide +kernel) ?_
                  refine zb_icmp_ne (tgt := 201) dX9_readPad_194 (by decide) ⟨h.1, by decide⟩ ⟨fun c => ?_, fun c => ?_⟩
                  · replace h := h.2.1 c
                    refine z_iconst dX9_readPad_201 ?_
                    refine z_istore (i := 6) (ls2 := [some (zR 153), some (zI x1), some (zI x2), some (zI x3), some (zI x4), some (zI (d 159 (d 153 19))), some (zI 3), none, none, none]) dX9_readPad_202 (by decide) rfl ?_
                    refine z_aloadR_n (i := 0) dX9_readPad_204 rfl rfl ?_
                    refine z_bipush dX9_readPad_205 (by decide +kernel) ?_
                    refine z_bipush dX9_readPad_207 (by decide +kernel) ?_
                    refine z_callVi (k' := M_X9_isNext) (As := [zI 50, zI 57]) (st := []) dX9_readPad_209 rfl ly153 (by decide) rfl (show 153 < 166 by decide) wm_X9_187 ok_X9_isNext okV_X9_isNext rfl (zroom_self (by decide) (by decide)) (Nat.le_of_ble_eq_true rfl) (Nat.le_refl _) rfl (Ev_mono h (fun v29 d41 h => ?_))
                    refine zb_if_eq (tgt := 229) dX9_readPad_212 (by decide) h.1 ⟨fun c => ?_, fun c => ?_⟩
                    · replace h := h.2.1 c
                      refine z_iconst dX9_readPad_229 ?_
                      refine z_istore (i := 7) (ls2 := [some (zR 153), some (zI x1), some (zI x2), some (zI x3), some (zI x4), some (zI (d 159 (d 153 19))), some (zI 3), some (zI 1), none, none]) dX9_readPad_230 (by decide) rfl ?_
                      refine z_iconst dX9_readPad_232 ?_
                      refine z_istore (i := 8) (ls2 := [some (zR 153), some (zI x1), some (zI x2), some (zI x3), some (zI x4), some (zI (d 159 (d 153 19))), some (zI 3), some (zI 1), some (zI 0), none]) dX9_readPad_233 (by decide) rfl ?_
                      exact h
                    · replace h := h.2.2 c
                      refine z_aloadR_n (i := 0) dX9_readPad_215 rfl rfl ?_
                      refine z_bipush dX9_readPad_216 (by decide +kernel) ?_
                      refine z_bipush dX9_readPad_218 (by decide +kernel) ?_
                      refine z_callVi (k' := M_X9_sign) (As := [zI 50, zI 57]) (st := []) dX9_readPad_220 rfl ly153 (by decide) rfl (show 153 < 166 by decide) wm_X9_184 ok_X9_sign okV_X9_sign rfl (zroom_self (by decide) (by decide)) (Nat.le_of_ble_eq_true rfl) (Nat.le_refl _) rfl (Ev_mono h (fun v30 d42 h => ?_))
                      refine z_bipush dX9_readPad_223 (by decide +kernel) ?_
                      refine z_isub dX9_readPad_225 ?_
                      refine z_goto (tgt := 230) dX9_readPad_226 (by decide) ?_
                      refine z_istore (i := 7) (ls2 := [some (zR 153), some (zI x1), some (zI x2), some (zI x3), some (zI x4), some (zI (d 159 (d 153 19))), some (zI 3), some (zI (v30 - 48)), none, none]) dX9_readPad_230 (by decide) rfl ?_
                      refine z_iconst dX9_readPad_232 ?_
                      refine z_istore (i := 8) (ls2 := [some (zR 153), some (zI x1), some (zI x2), some (zI x3), some (zI x4), some (zI (d 159 (d 153 19))), some (zI 3), some (zI (v30 - 48)), some (zI 0), none]) dX9_readPad_233 (by decide) rfl ?_
                      exact h
                  · replace h := h.2.2 c
                    refine z_iconst dX9_readPad_197 ?_
                    refine z_goto (tgt := 202) dX9_readPad_198 (by decide) ?_
                    refine z_istore (i := 6) (ls2 := [some (zR 153), some (zI x1), some (zI x2), some (zI x3), some (zI x4), some (zI (d 159 (d 153 19))), some (zI 2), none, none, none]) dX9_readPad_202 (by decide) rfl ?_
                    refine z_aloadR_n (i := 0) dX9_readPad_204 rfl rfl ?_
                    refine z_bipush dX9_readPad_205 (by decide +kernel) ?_
                    refine z_bipush dX9_readPad_207 (by decide +kernel) ?_
                    refine z_callVi (k' := M_X9_isNext) (As := [zI 50, zI 57]) (st := []) dX9_readPad_209 rfl ly153 (by decide) rfl (show 153 < 166 by decide) wm_X9_187 ok_X9_isNext okV_X9_isNext rfl (zroom_self (by decide) (by decide)) (Nat.le_of_ble_eq_true rfl) (Nat.le_refl _) rfl (Ev_mono h (fun v31 d43 h => ?_))
                    refine zb_if_eq (tgt := 229) dX9_readPad_212 (by decide) h.1 ⟨fun c => ?_, fun c => ?_⟩
                    · replace h := h.2.1 c
                      refine z_iconst dX9_readPad_229 ?_
                      refine z_istore (i := 7) (ls2 := [some (zR 153), some (zI x1), some (zI x2), some (zI x3), some (zI x4), some (zI (d 159 (d 153 19))), some (zI 2), some (zI 1), none, none]) dX9_readPad_230 (by decide) rfl ?_
                      refine z_iconst dX9_readPad_232 ?_
                      refine z_istore (i := 8) (ls2 := [some (zR 153), some (zI x1), some (zI x2), some (zI x3), some (zI x4), some (zI (d 159 (d 153 19))), some (zI 2), some (zI 1), some (zI 0), none]) dX9_readPad_233 (by decide) rfl ?_
                      exact h
                    · replace h := h.2.2 c
                      refine z_aloadR_n (i := 0) dX9_readPad_215 rfl rfl ?_
                      refine z_bipush dX9_readPad_216 (by decide +kernel) ?_
                      refine z_bipush dX9_readPad_218 (by decide +kernel) ?_
                      refine z_callVi (k' := M_X9_sign) (As := [zI 50, zI 57]) (st := []) dX9_readPad_220 rfl ly153 (by decide) rfl (show 153 < 166 by decide) wm_X9_184 ok_X9_sign okV_X9_sign rfl (zroom_self (by decide) (by decide)) (Nat.le_of_ble_eq_true rfl) (Nat.le_refl _) rfl (Ev_mono h (fun v32 d44 h => ?_))
                      refine z_bipush dX9_readPad_223 (by decide +kernel) ?_
                      refine z_isub dX9_readPad_225 ?_
                      refine z_goto (tgt := 230) dX9_readPad_226 (by decide) ?_
                      refine z_istore (i := 7) (ls2 := [some (zR 153), some (zI x1), some (zI x2), some (zI x3), some (zI x4), some (zI (d 159 (d 153 19))), some (zI 2), some (zI (v32 - 48)), none, none]) dX9_readPad_230 (by decide) rfl ?_
                      refine z_iconst dX9_readPad_232 ?_
                      refine z_istore (i := 8) (ls2 := [some (zR 153), some (zI x1), some (zI x2), some (zI x3), some (zI x4), some (zI (d 159 (d 153 19))), some (zI 2), some (zI (v32 - 48)), some (zI 0), none]) dX9_readPad_233 (by decide) rfl ?_
                      exact h
                · replace h := h.2.2 c
                  refine z_iconst dX9_readPad_186 ?_
                  refine z_goto (tgt := 202) dX9_readPad_187 (by decide) ?_
                  refine z_istore (i := 6) (ls2 := [some (zR 153), some (zI x1), some (zI x2), some (zI x3), some (zI x4), some (zI (d 159 (d 153 19))), some (zI 1), none, none, none]) dX9_readPad_202 (by decide) rfl ?_
                  refine z_aloadR_n (i := 0) dX9_readPad_204 rfl rfl ?_
                  refine z_bipush dX9_readPad_205 (by decide +kernel) ?_
                  refine z_bipush dX9_readPad_207 (by decide +kernel) ?_
                  refine z_callVi (k' := M_X9_isNext) (As := [zI 50, zI 57]) (st := []) dX9_readPad_209 rfl ly153 (by decide) rfl (show 153 < 166 by decide) wm_X9_187 ok_X9_isNext okV_X9_isNext rfl (zroom_self (by decide) (by decide)) (Nat.le_of_ble_eq_true rfl) (Nat.le_refl _) rfl (Ev_mono h (fun v33 d45 h => ?_))
                  refine zb_if_eq (tgt := 229) dX9_readPad_212 (by decide) h.1 ⟨fun c => ?_, fun c => ?_⟩
                  · replace h := h.2.1 c
                    refine z_iconst dX9_readPad_229 ?_
                    refine z_istore (i := 7) (ls2 := [some (zR 153), some (zI x1), some (zI x2), some (zI x3), some (zI x4), some (zI (d 159 (d 153 19))), some (zI 1), some (zI 1), none, none]) dX9_readPad_230 (by decide) rfl ?_
                    refine z_iconst dX9_readPad_232 ?_
                    refine z_istore (i := 8) (ls2 := [some (zR 153), some (zI x1), some (zI x2), some (zI x3), some (zI x4), some (zI (d 159 (d 153 19))), some (zI 1), some (zI 1), some (zI 0), none]) dX9_readPad_233 (by decide) rfl ?_
                    exact h
                  · replace h := h.2.2 c
                    refine z_aloadR_n (i := 0) dX9_readPad_215 rfl rfl ?_
                    refine z_bipush dX9_readPad_216 (by decide +kernel) ?_
                    refine z_bipush dX9_readPad_218 (by decide +kernel) ?_
                    refine z_callVi (k' := M_X9_sign) (As := [zI 50, zI 57]) (st := []) dX9_readPad_220 rfl ly153 (by decide) rfl (show 153 < 166 by decide) wm_X9_184 ok_X9_sign okV_X9_sign rfl (zroom_self (by decide) (by decide)) (Nat.le_of_ble_eq_true rfl) (Nat.le_refl _) rfl (Ev_mono h (fun v34 d46 h => ?_))
                    refine z_bipush dX9_readPad_223 (by decide +kernel) ?_
                    refine z_isub dX9_readPad_225 ?_
                    refine z_goto (tgt := 230) dX9_readPad_226 (by decide) ?_
                    refine z_istore (i := 7) (ls2 := [some (zR 153), some (zI x1), some (zI x2), some (zI x3), some (zI x4), some (zI (d 159 (d 153 19))), some (zI 1), some (zI (v34 - 48)), none, none]) dX9_readPad_230 (by decide) rfl ?_
                    refine z_iconst dX9_readPad_232 ?_
                    refine z_istore (i := 8) (ls2 := [some (zR 153), some (zI x1), some (zI x2), some (zI x3), some (zI x4), some (zI (d 159 (d 153 19))), some (zI 1), some (zI (v34 - 48)), some (zI 0), none]) dX9_readPad_233 (by decide) rfl ?_
                    exact h
              · replace h := h.2.2 c
                refine z_iconst dX9_readPad_175 ?_
                refine z_goto (tgt := 202) dX9_readPad_176 (by decide) ?_
                refine z_istore (i := 6) (ls2 := [some (zR 153), some (zI x1), some (zI x2), some (zI x3), some (zI x4), some (zI (d 159 (d 153 19))), some (zI 0), none, none, none]) dX9_readPad_202 (by decide) rfl ?_
                refine z_aloadR_n (i := 0) dX9_readPad_204 rfl rfl ?_
                refine z_bipush dX9_readPad_205 (by decide +kernel) ?_
                refine z_bipush dX9_readPad_207 (by decide +kernel) ?_
                refine z_callVi (k' := M_X9_isNext) (As := [zI 50, zI 57]) (st := []) dX9_readPad_209 rfl ly153 (by decide) rfl (show 153 < 166 by decide) wm_X9_187 ok_X9_isNext okV_X9_isNext rfl (zroom_self (by decide) (by decide)) (Nat.le_of_ble_eq_true rfl) (Nat.le_refl _) rfl (Ev_mono h (fun v35 d47 h => ?_))
                refine zb_if_eq (tgt := 229) dX9_readPad_212 (by decide) h.1 ⟨fun c => ?_, fun c => ?_⟩
                · replace h := h.2.1 c
                  refine z_iconst dX9_readPad_229 ?_
                  refine z_istore (i := 7) (ls2 := [some (zR 153), some (zI x1), some (zI x2), some (zI x3), some (zI x4), some (zI (d 159 (d 153 19))), some (zI 0), some (zI 1), none, none]) dX9_readPad_230 (by decide) rfl ?_
                  refine z_iconst dX9_readPad_232 ?_
                  refine z_istore (i := 8) (ls2 := [some (zR 153), some (zI x1), some (zI x2), some (zI x3), some (zI x4), some (zI (d 159 (d 153 19))), some (zI 0), some (zI 1), some (zI 0), none]) dX9_readPad_233 (by decide) rfl ?_
                  exact h
                · replace h := h.2.2 c
                  refine z_aloadR_n (i := 0) dX9_readPad_215 rfl rfl ?_
                  refine z_bipush dX9_readPad_216 (by decide +kernel) ?_
                  refine z_bipush dX9_readPad_218 (by decide +kernel) ?_
                  refine z_callVi (k' := M_X9_sign) (As := [zI 50, zI 57]) (st := []) dX9_readPad_220 rfl ly153 (by decide) rfl (show 153 < 166 by decide) wm_X9_184 ok_X9_sign okV_X9_sign rfl (zroom_self (by decide) (by decide)) (Nat.le_of_ble_eq_true rfl) (Nat.le_refl _) rfl (Ev_mono h (fun v36 d48 h => ?_))
                  refine z_bipush dX9_readPad_223 (by decide +kernel) ?_
                  refine z_isub dX9_readPad_225 ?_
                  refine z_goto (tgt := 230) dX9_readPad_226 (by decide) ?_
                  refine z_istore (i := 7) (ls2 := [some (zR 153), some (zI x1), some (zI x2), some (zI x3), some (zI x4), some (zI (d 159 (d 153 19))), some (zI 0), some (zI (v36 - 48)), none, none]) dX9_readPad_230 (by decide) rfl ?_
                  refine z_iconst dX9_readPad_232 ?_
                  refine z_istore (i := 8) (ls2 := [some (zR 153), some (zI x1), some (zI x2), some (zI x3), some (zI x4), some (zI (d 159 (d 153 19))), some (zI 0), some (zI (v36 - 48)), some (zI 0), none]) dX9_readPad_233 (by decide) rfl ?_
                  exact h
            · replace h := h.2.2 c
              refine z_iload (i := 5) dX9_readPad_132 rfl ?_
              refine z_bipush dX9_readPad_134 (by decide +kernel) ?_
              refine zb_icmp_eq (tgt := 143) dX9_readPad_136 (by decide) ⟨h.1, by decide⟩ ⟨fun c => ?_, fun c => ?_⟩
              · replace h := h.2.1 c
                refine z_iconst dX9_readPad_143 ?_
                refine z_putI 9 20 (idx := 181) ly153 (by decide) (by decide) rfl (show 153 < 166 by decide) rfl wf_X9_181 dX9_readPad_144 (Or.inr ⟨rfl, by decide⟩) ?_
                generalize hd49 : mu d 153 ((20 : Nat) : Int) 0 = d49
                replace hd49 : d49 = mu d 153 20 0 := hd49.symm
                replace h := h d49 hd49
                refine z_aloadR_n (i := 0) dX9_readPad_147 rfl rfl ?_
                refine z_dup dX9_readPad_148 (Nat.le_of_ble_eq_true rfl) ?_
                refine z_getI' 9 19 (idx := 178) (fv := (d 153 19)) ly153 (by decide) (by decide) rfl (show 153 < 166 by decide) wf_X9_178 dX9_readPad_149 (by show d49 153 19 = _; rw [hd49, mu_ni (by decide)]) ?_
                refine z_aloadR_n (i := 0) dX9_readPad_152 rfl rfl ?_
                refine z_getI' 9 20 (idx := 181) (fv := 0) ly153 (by decide) (by decide) rfl (show 153 < 166 by decide) wf_X9_181 dX9_readPad_153 (by show d49 153 20 = _; rw [hd49, mu_get]) ?_
                refine zb_if_eq (tgt := 163) dX9_readPad_156 (by decide) (by decide) ⟨fun _ => ?_, fun q => absurd q (by decide)⟩
                refine z_iconst dX9_readPad_163 ?_
                refine z_iadd dX9_readPad_164 ?_
                refine z_putI 9 19 (idx := 178) ly153 (by decide) (by decide) rfl (show 153 < 166 by decide) rfl wf_X9_178 dX9_readPad_165 (Or.inl rfl) ?_
                generalize hd50 : mu d49 153 ((19 : Nat) : Int) ((d 153 19) + 1) = d50
                replace hd50 : d50 = mu d49 153 19 ((d 153 19) + 1) := hd50.symm
                replace h := h d50 hd50
                refine z_iload (i := 5) dX9_readPad_168 rfl ?_
                refine z_bipush dX9_readPad_170 (by decide +kernel) ?_
                refine zb_icmp_ne (tgt := 179) dX9_readPad_172 (by decide) ⟨h.1, by decide⟩ ⟨fun c => ?_, fun c => ?_⟩
                · replace h := h.2.1 c
                  refine z_iload (i := 5) dX9_readPad_179 rfl ?_
                  refine z_bipush dX9_readPad_181 (by decide +kernel) ?_
                  refine zb_icmp_ne (tgt := 190) dX9_readPad_183 (by decide) ⟨h.1, by decide⟩ ⟨fun c => ?_, fun c => ?_⟩
                  · replace h := h.2.1 c
                    refine z_iload (i := 5) dX9_readPad_190 rfl ?_
                    refine z_bipush dX9_readPad_192 (by decide +kernel) ?_
                    refine zb_icmp_ne (tgt := 201) dX9_readPad_194 (by decide) ⟨h.1, by decide⟩ ⟨fun c => ?_, fun c => ?_⟩
                    · replace h := h.2.1 c
                      refine z_iconst dX9_readPad_201 ?_
                      refine z_istore (i := 6) (ls2 := [some (zR 153), some (zI x1), some (zI x2), some (zI x3), some (zI x4), some (zI (d 159 (d 153 19))), some (zI 3), none, none, none]) dX9_readPad_202 (by decide) rfl ?_
                      refine z_aloadR_n (i := 0) dX9_readPad_204 rfl rfl ?_
                      refine z_bipush dX9_readPad_205 (by decide +kernel) ?_
                      refine z_bipush dX9_readPad_207 (by decide +kernel) ?_
                      refine z_callVi (k' := M_X9_isNext) (As := [zI 50, zI 57]) (st := []) dX9_readPad_209 rfl ly153 (by decide) rfl (show 153 < 166 by decide) wm_X9_187 ok_X9_isNext okV_X9_isNext rfl (zroom_self (by decide) (by decide)) (Nat.le_of_ble_eq_true rfl) (Nat.le_refl _) rfl (Ev_mono h (fun v37 d51 h => ?_))
                      refine zb_if_eq (tgt := 229) dX9_readPad_212 (by decide) h.1 ⟨fun c => ?_, fun c => ?_⟩
                      · replace h := h.2.1 c
                        refine z_iconst dX9_readPad_229 ?_
                        refine z_istore (i := 7) (ls2 := [some (zR 153), some (zI x1), some (zI x2), some (zI x3), some (zI x4), some (zI (d 159 (d 153 19))), some (zI 3), some (zI 1), none, none]) dX9_readPad_230 (by decide) rfl ?_
                        refine z_iconst dX9_readPad_232 ?_
                        refine z_istore (i := 8) (ls2 := [some (zR 153), some (zI x1), some (zI x2), some (zI x3), some (zI x4), some (zI (d 159 (d 153 19))), some (zI 3), some (zI 1), some (zI 0), none]) dX9_readPad_233 (by decide) rfl ?_
                        exact h
                      · replace h := h.2.2 c
                        refine z_aloadR_n (i := 0) dX9_readPad_215 rfl rfl ?_
                        refine z_bipush dX9_readPad_216 (by decide +kernel) ?_
                        refine z_bipush dX9_readPad_218 (by decide +kernel) ?_
                        refine z_callVi (k' := M_X9_sign) (As := [zI 50, zI 57]) (st := []) dX9_readPad_220 rfl ly153 (by decide) rfl (show 153 < 166 by decide) wm_X9_184 ok_X9_sign okV_X9_sign rfl (zroom_self (by decide) (by decide)) (Nat.le_of_ble_eq_true rfl) (Nat.le_refl _) rfl (Ev_mono h (fun v38 d52 h => ?_))
                        refine z_bipush dX9_readPad_223 (by decide +kernel) ?_
                        refine z_isub dX9_readPad_225 ?_
                        refine z_goto (tgt := 230) dX9_readPad_226 (by decide) ?_
                        refine z_istore (i := 7) (ls2 := [some (zR 153), some (zI x1), some (zI x2), some (zI x3), some (zI x4), some (zI (d 159 (d 153 19))), some (zI 3), some (zI (v38 - 48)), none, none]) dX9_readPad_230 (by decide) rfl ?_
                        refine z_iconst dX9_readPad_232 ?_
                        refine z_istore (i := 8) (ls2 := [some (zR 153), some (zI x1), some (zI x2), some (zI x3), some (zI x4), some (zI (d 159 (d 153 19))), some (zI 3), some (zI (v38 - 48)), some (zI 0), none]) dX9_readPad_233 (by decide) rfl ?_
                        exact h
                    · replace h := h.2.2 c
                      refine z_iconst dX9_readPad_197 ?_
                      refine z_goto (tgt := 202) dX9_readPad_198 (by decide) ?_
                      refine z_istore (i := 6) (ls2 := [some (zR 153), some (zI x1), some (zI x2), some (zI x3), some (zI x4), some (zI (d 159 (d 153 19))), some (zI 2), none, none, none]) dX9_readPad_202 (by decide) rfl ?_
                      refine z_aloadR_n (i := 0) dX9_readPad_204 rfl rfl ?_
                      refine z_bipush dX9_readPad_205 (by decide +kernel) ?_
                      refine z_bipush dX9_readPad_207 (by decide +kernel) ?_
                      refine z_callVi (k' := M_X9_isNext) (As := [zI 50, zI 57]) (st := []) dX9_readPad_209 rfl ly153 (by decide) rfl (show 153 < 166 by decide) wm_X9_187 ok_X9_isNext okV_X9_isNext rfl (zroom_self (by decide) (by decide)) (Nat.le_of_ble_eq_true rfl) (Nat.le_refl _) rfl (Ev_mono h (fun v39 d53 h => ?_))
                      refine zb_if_eq (tgt := 229) dX9_readPad_212 (by decide) h.1 ⟨fun c => ?_, fun c => ?_⟩
                      · replace h := h.2.1 c
                        refine z_iconst dX9_readPad_229 ?_
                        refine z_istore (i := 7) (ls2 := [some (zR 153), some (zI x1), some (zI x2), some (zI x3), some (zI x4), some (zI (d 159 (d 153 19))), some (zI 2), some (zI 1), none, none]) dX9_readPad_230 (by decide) rfl ?_
                        refine z_iconst dX9_readPad_232 ?_
                        refine z_istore (i := 8) (ls2 := [some (zR 153), some (zI x1), some (zI x2), some (zI x3), some (zI x4), some (zI (d 159 (d 153 19))), some (zI 2), some (zI 1), some (zI 0), none]) dX9_readPad_233 (by decide) rfl ?_
                        exact h
                      · replace h := h.2.2 c
                        refine z_aloadR_n (i := 0) dX9_readPad_215 rfl rfl ?_
                        refine z_bipush dX9_readPad_216 (by decide +kernel) ?_
                        refine z_bipush dX9_readPad_218 (by decide +kernel) ?_
                        refine z_callVi (k' := M_X9_sign) (As := [zI 50, zI 57]) (st := []) dX9_readPad_220 rfl ly153 (by decide) rfl (show 153 < 166 by decide) wm_X9_184 ok_X9_sign okV_X9_sign rfl (zroom_self (by decide) (by decide)) (Nat.le_of_ble_eq_true rfl) (Nat.le_refl _) rfl (Ev_mono h (fun v40 d54 h => ?_))
                        refine z_bipush dX9_readPad_223 (by decide +kernel) ?_
                        refine z_isub dX9_readPad_225 ?_
                        refine z_goto (tgt := 230) dX9_readPad_226 (by decide) ?_
                        refine z_istore (i := 7) (ls2 := [some (zR 153), some (zI x1), some (zI x2), some (zI x3), some (zI x4), some (zI (d 159 (d 153 19))), some (zI 2), some (zI (v40 - 48)), none, none]) dX9_readPad_230 (by decide) rfl ?_
                        refine z_iconst dX9_readPad_232 ?_
                        refine z_istore (i := 8) (ls2 := [some (zR 153), some (zI x1), some (zI x2), some (zI x3), some (zI x4), some (zI (d 159 (d 153 19))), some (zI 2), some (zI (v40 - 48)), some (zI 0), none]) dX9_readPad_233 (by decide) rfl ?_
                        exact h
                  · replace h := h.2.2 c
                    refine z_iconst dX9_readPad_186 ?_
                    refine z_goto (tgt := 202) dX9_readPad_187 (by decide) ?_
                    refine z_istore (i := 6) (ls2 := [some (zR 153), some (zI x1), some (zI x2), some (zI x3), some (zI x4), some (zI (d 159 (d 153 19))), some (zI 1), none, none, none]) dX9_readPad_202 (by decide) rfl ?_
                    refine z_aloadR_n (i := 0) dX9_readPad_204 rfl rfl ?_
                    refine z_bipush dX9_readPad_205 (by decide +kernel) ?_
                    refine z_bipush dX9_readPad_207 (by decide +kernel) ?_
                    refine z_callVi (k' := M_X9_isNext) (As := [zI 50, zI 57]) (st := []) dX9_readPad_209 rfl ly153 (by decide) rfl (show 153 < 166 by decide) wm_X9_187 ok_X9_isNext okV_X9_isNext rfl (zroom_self (by decide) (by decide)) (Nat.le_of_ble_eq_true rfl) (Nat.le_refl _) rfl (Ev_mono h (fun v41 d55 h => ?_))
                    refine zb_if_eq (tgt := 229) dX9_readPad_212 (by decide) h.1 ⟨fun c => ?_, fun c => ?_⟩
                    · replace h := h.2.1 c
                      refine z_iconst dX9_readPad_229 ?_
                      refine z_istore (i := 7) (ls2 := [some (zR 153), some (zI x1), some (zI x2), some (zI x3), some (zI x4), some (zI (d 159 (d 153 19))), some (zI 1), some (zI 1), none, none]) dX9_readPad_230 (by decide) rfl ?_
                      refine z_iconst dX9_readPad_232 ?_
                      refine z_istore (i := 8) (ls2 := [some (zR 153), some (zI x1), some (zI x2), some (zI x3), some (zI x4), some (zI (d 159 (d 153 19))), some (zI 1), some (zI 1), some (zI 0), none]) dX9_readPad_233 (by decide) rfl ?_
                      exact h
                    · replace h := h.2.2 c
                      refine z_aloadR_n (i := 0) dX9_readPad_215 rfl rfl ?_
                      refine z_bipush dX9_readPad_216 (by decide +kernel) ?_
                      refine z_bipush dX9_readPad_218 (by decide +kernel) ?_
                      refine z_callVi (k' := M_X9_sign) (As := [zI 50, zI 57]) (st := []) dX9_readPad_220 rfl ly153 (by decide) rfl (show 153 < 166 by decide) wm_X9_184 ok_X9_sign okV_X9_sign rfl (zroom_self (by decide) (by decide)) (Nat.le_of_ble_eq_true rfl) (Nat.le_refl _) rfl (Ev_mono h (fun v42 d56 h => ?_))
                      refine z_bipush dX9_readPad_223 (by decide +kernel) ?_
                      refine z_isub dX9_readPad_225 ?_
                      refine z_goto (tgt := 230) dX9_readPad_226 (by decide) ?_
                      refine z_istore (i := 7) (ls2 := [some (zR 153), some (zI x1), some (zI x2), some (zI x3), some (zI x4), some (zI (d 159 (d 153 19))), some (zI 1), some (zI (v42 - 48)), none, none]) dX9_readPad_230 (by decide) rfl ?_
                      refine z_iconst dX9_readPad_232 ?_
                      refine z_istore (i := 8) (ls2 := [some (zR 153), some (zI x1), some (zI x2), some (zI x3), some (zI x4), some (zI (d 159 (d 153 19))), some (zI 1), some (zI (v42 - 48)), some (zI 0), none]) dX9_readPad_233 (by decide) rfl ?_
                      exact h
                · replace h := h.2.2 c
                  refine z_iconst dX9_readPad_175 ?_
                  refine z_goto (tgt := 202) dX9_readPad_176 (by decide) ?_
                  refine z_istore (i := 6) (ls2 := [some (zR 153), some (zI x1), some (zI x2), some (zI x3), some (zI x4), some (zI (d 159 (d 153 19))), some (zI 0), none, none, none]) dX9_readPad_202 (by decide) rfl ?_
                  refine z_aloadR_n (i := 0) dX9_readPad_204 rfl rfl ?_
                  refine z_bipush dX9_readPad_205 (by decide +kernel) ?_
                  refine z_bipush dX9_readPad_207 (by decide +kernel) ?_
                  refine z_callVi (k' := M_X9_isNext) (As := [zI 50, zI 57]) (st := []) dX9_readPad_209 rfl ly153 (by decide) rfl (show 153 < 166 by decide) wm_X9_187 ok_X9_isNext okV_X9_isNext rfl (zroom_self (by decide) (by decide)) (Nat.le_of_ble_eq_true rfl) (Nat.le_refl _) rfl (Ev_mono h (fun v43 d57 h => ?_))
                  refine zb_if_eq (tgt := 229) dX9_readPad_212 (by decide) h.1 ⟨fun c => ?_, fun c => ?_⟩
                  · replace h := h.2.1 c
                    refine z_iconst dX9_readPad_229 ?_
                    refine z_istore (i := 7) (ls2 := [some (zR 153), some (zI x1), some (zI x2), some (zI x3), some (zI x4), some (zI (d 159 (d 153 19))), some (zI 0), some (zI 1), none, none]) dX9_readPad_230 (by decide) rfl ?_
                    refine z_iconst dX9_readPad_232 ?_
                    refine z_istore (i := 8) (ls2 := [some (zR 153), some (zI x1), some (zI x2), some (zI x3), some (zI x4), some (zI (d 159 (d 153 19))), some (zI 0), some (zI 1), some (zI 0), none]) dX9_readPad_233 (by decide) rfl ?_
                    exact h
                  · replace h := h.2.2 c
                    refine z_aloadR_n (i := 0) dX9_readPad_215 rfl rfl ?_
                    refine z_bipush dX9_readPad_216 (by decide +kernel) ?_
                    refine z_bipush dX9_readPad_218 (by decide +kernel) ?_
                    refine z_callVi (k' := M_X9_sign) (As := [zI 50, zI 57]) (st := []) dX9_readPad_220 rfl ly153 (by decide) rfl (show 153 < 166 by decide) wm_X9_184 ok_X9_sign okV_X9_sign rfl (zroom_self (by decide) (by decide)) (Nat.le_of_ble_eq_true rfl) (Nat.le_refl _) rfl (Ev_mono h (fun v44 d58 h => ?_))
                    refine z_bipush dX9_readPad_223 (by decide +kernel) ?_
                    refine z_isub dX9_readPad_225 ?_
                    refine z_goto (tgt := 230) dX9_readPad_226 (by decide) ?_
                    refine z_istore (i := 7) (ls2 := [some (zR 153), some (zI x1), some (zI x2), some (zI x3), some (zI x4), some (zI (d 159 (d 153 19))), some (zI 0), some (zI (v44 - 48)), none, none]) dX9_readPad_230 (by decide) rfl ?_
                    refine z_iconst dX9_readPad_232 ?_
                    refine z_istore (i := 8) (ls2 := [some (zR 153), some (zI x1), some (zI x2), some (zI x3), some (zI x4), some (zI (d 159 (d 153 19))), some (zI 0), some (zI (v44 - 48)), some (zI 0), none]) dX9_readPad_233 (by decide) rfl ?_
                    exact h
              · replace h := h.2.2 c
                refine z_iconst dX9_readPad_139 ?_
                refine z_goto (tgt := 144) dX9_readPad_140 (by decide) ?_
                refine z_putI 9 20 (idx := 181) ly153 (by decide) (by decide) rfl (show 153 < 166 by decide) rfl wf_X9_181 dX9_readPad_144 (Or.inr ⟨rfl, by decide⟩) ?_
                generalize hd59 : mu d 153 ((20 : Nat) : Int) 1 = d59
                replace hd59 : d59 = mu d 153 20 1 := hd59.symm
                replace h := h d59 hd59
                refine z_aloadR_n (i := 0) dX9_readPad_147 rfl rfl ?_
                refine z_dup dX9_readPad_148 (Nat.le_of_ble_eq_true rfl) ?_
                refine z_getI' 9 19 (idx := 178) (fv := (d 153 19)) ly153 (by decide) (by decide) rfl (show 153 < 166 by decide) wf_X9_178 dX9_readPad_149 (by show d59 153 19 = _; rw [hd59, mu_ni (by decide)]) ?_
                refine z_aloadR_n (i := 0) dX9_readPad_152 rfl rfl ?_
                refine z_getI' 9 20 (idx := 181) (fv := 1) ly153 (by decide) (by decide) rfl (show 153 < 166 by decide) wf_X9_181 dX9_readPad_153 (by show d59 153 20 = _; rw [hd59, mu_get]) ?_
                refine zb_if_eq (tgt := 163) dX9_readPad_156 (by decide) (by decide) ⟨fun q => absurd q (by decide), fun _ => ?_⟩
                refine z_iconst dX9_readPad_159 ?_
                refine z_goto (tgt := 164) dX9_readPad_160 (by decide) ?_
                refine z_iadd dX9_readPad_164 ?_
                refine z_putI 9 19 (idx := 178) ly153 (by decide) (by decide) rfl (show 153 < 166 by decide) rfl wf_X9_178 dX9_readPad_165 (Or.inl rfl) ?_
                generalize hd60 : mu d59 153 ((19 : Nat) : Int) ((d 153 19) + 0) = d60
                replace hd60 : d60 = mu d59 153 19 ((d 153 19) + 0) := hd60.symm
                replace h := h d60 hd60
                refine z_iload (i := 5) dX9_readPad_168 rfl ?_
                refine z_bipush dX9_readPad_170 (by decide +kernel) ?_
                refine zb_icmp_ne (tgt := 179) dX9_readPad_172 (by decide) ⟨h.1, by decide⟩ ⟨fun c => ?_, fun c => ?_⟩
                · replace h := h.2.1 c
                  refine z_iload (i := 5) dX9_readPad_179 rfl ?_
                  refine z_bipush dX9_readPad_181 (by decide +kernel) ?_
                  refine zb_icmp_ne (tgt := 190) dX9_readPad_183 (by decide) ⟨h.1, by decide⟩ ⟨fun c => ?_, fun c => ?_⟩
                  · replace h := h.2.1 c
                    refine z_iload (i := 5) dX9_readPad_190 rfl ?_
                    refine z_bipush dX9_readPad_192 (by decide +kernel) ?_
                    refine zb_icmp_ne (tgt := 201) dX9_readPad_194 (by decide) ⟨h.1, by decide⟩ ⟨fun c => ?_, fun c => ?_⟩
                    · replace h := h.2.1 c
                      refine z_iconst dX9_readPad_201 ?_
                      refine z_istore (i := 6) (ls2 := [some (zR 153), some (zI x1), some (zI x2), some (zI x3), some (zI x4), some (zI (d 159 (d 153 19))), some (zI 3), none, none, none]) dX9_readPad_202 (by decide) rfl ?_
                      refine z_aloadR_n (i := 0) dX9_readPad_204 rfl rfl ?_
                      refine z_bipush dX9_readPad_205 (by decide +kernel) ?_
                      refine z_bipush dX9_readPad_207 (by decide +kernel) ?_
                      refine z_callVi (k' := M_X9_isNext) (As := [zI 50, zI 57]) (st := []) dX9_readPad_209 rfl ly153 (by decide) rfl (show 153 < 166 by decide) wm_X9_187 ok_X9_isNext okV_X9_isNext rfl (zroom_self (by decide) (by decide)) (Nat.le_of_ble_eq_true rfl) (Nat.le_refl _) rfl (Ev_mono h (fun v45 d61 h => ?_))
                      refine zb_if_eq (tgt := 229) dX9_readPad_212 (by decide) h.1 ⟨fun c => ?_, fun c => ?_⟩
                      · replace h := h.2.1 c
                        refine z_iconst dX9_readPad_229 ?_
                        refine z_istore (i := 7) (ls2 := [some (zR 153), some (zI x1), some (zI x2), some (zI x3), some (zI x4), some (zI (d 159 (d 153 19))), some (zI 3), some (zI 1), none, none]) dX9_readPad_230 (by decide) rfl ?_
                        refine z_iconst dX9_readPad_232 ?_
                        refine z_istore (i := 8) (ls2 := [some (zR 153), some (zI x1), some (zI x2), some (zI x3), some (zI x4), some (zI (d 159 (d 153 19))), some (zI 3), some (zI 1), some (zI 0), none]) dX9_readPad_233 (by decide) rfl ?_
                        exact h
                      · replace h := h.2.2 c
                        refine z_aloadR_n (i := 0) dX9_readPad_215 rfl rfl ?_
                        refine z_bipush dX9_readPad_216 (by decide +kernel) ?_
                        refine z_bipush dX9_readPad_218 (by decide +kernel) ?_
                        refine z_callVi (k' := M_X9_sign) (As := [zI 50, zI 57]) (st := []) dX9_readPad_220 rfl ly153 (by decide) rfl (show 153 < 166 by decide) wm_X9_184 ok_X9_sign okV_X9_sign rfl (zroom_self (by decide) (by decide)) (Nat.le_of_ble_eq_true rfl) (Nat.le_refl _) rfl (Ev_mono h (fun v46 d62 h => ?_))
                        refine z_bipush dX9_readPad_223 (by decide +kernel) ?_
                        refine z_isub dX9_readPad_225 ?_
                        refine z_goto (tgt := 230) dX9_readPad_226 (by decide) ?_
                        refine z_istore (i := 7) (ls2 := [some (zR 153), some (zI x1), some (zI x2), some (zI x3), some (zI x4), some (zI (d 159 (d 153 19))), some (zI 3), some (zI (v46 - 48)), none, none]) dX9_readPad_230 (by decide) rfl ?_
                        refine z_iconst dX9_readPad_232 ?_
                        refine z_istore (i := 8) (ls2 := [some (zR 153), some (zI x1), some (zI x2), some (zI x3), some (zI x4), some (zI (d 159 (d 153 19))), some (zI 3), some (zI (v46 - 48)), some (zI 0), none]) dX9_readPad_233 (by decide) rfl ?_
                        exact h
                    · replace h := h.2.2 c
                      refine z_iconst dX9_readPad_197 ?_
                      refine z_goto (tgt := 202) dX9_readPad_198 (by decide) ?_
                      refine z_istore (i := 6) (ls2 := [some (zR 153), some (zI x1), some (zI x2), some (zI x3), some (zI x4), some (zI (d 159 (d 153 19))), some (zI 2), none, none, none]) dX9_readPad_202 (by decide) rfl ?_
                      refine z_aloadR_n (i := 0) dX9_readPad_204 rfl rfl ?_
                      refine z_bipush dX9_readPad_205 (by decide +kernel) ?_
                      refine z_bipush dX9_readPad_207 (by decide +kernel) ?_
                      refine z_callVi (k' := M_X9_isNext) (As := [zI 50, zI 57]) (st := []) dX9_readPad_209 rfl ly153 (by decide) rfl (show 153 < 166 by decide) wm_X9_187 ok_X9_isNext okV_X9_isNext rfl (zroom_self (by decide) (by decide)) (Nat.le_of_ble_eq_true rfl) (Nat.le_refl _) rfl (Ev_mono h (fun v47 d63 h => ?_))
                      refine zb_if_eq (tgt := 229) dX9_readPad_212 (by decide) h.1 ⟨fun c => ?_, fun c => ?_⟩
                      · replace h := h.2.1 c
                        refine z_iconst dX9_readPad_229 ?_
                        refine z_istore (i := 7) (ls2 := [some (zR 153), some (zI x1), some (zI x2), some (zI x3), some (zI x4), some (zI (d 159 (d 153 19))), some (zI 2), some (zI 1), none, none]) dX9_readPad_230 (by decide) rfl ?_
                        refine z_iconst dX9_readPad_232 ?_
                        refine z_istore (i := 8) (ls2 := [some (zR 153), some (zI x1), some (zI x2), some (zI x3), some (zI x4), some (zI (d 159 (d 153 19))), some (zI 2), some (zI 1), some (zI 0), none]) dX9_readPad_233 (by decide) rfl ?_
                        exact h
                      · replace h := h.2.2 c
                        refine z_aloadR_n (i := 0) dX9_readPad_215 rfl rfl ?_
                        refine z_bipush dX9_readPad_216 (by decide +kernel) ?_
                        refine z_bipush dX9_readPad_218 (by decide +kernel) ?_
                        refine z_callVi (k' := M_X9_sign) (As := [zI 50, zI 57]) (st := []) dX9_readPad_220 rfl ly153 (by decide) rfl (show 153 < 166 by decide) wm_X9_184 ok_X9_sign okV_X9_sign rfl (zroom_self (by decide) (by decide)) (Nat.le_of_ble_eq_true rfl) (Nat.le_refl _) rfl (Ev_mono h (fun v48 d64 h => ?_))
                        refine z_bipush dX9_readPad_223 (by decide +kernel) ?_
                        refine z_isub dX9_readPad_225 ?_
                        refine z_goto (tgt := 230) dX9_readPad_226 (by decide) ?_
                        refine z_istore (i := 7) (ls2 := [some (zR 153), some (zI x1), some (zI x2), some (zI x3), some (zI x4), some (zI (d 159 (d 153 19))), some (zI 2), some (zI (v48 - 48)), none, none]) dX9_readPad_230 (by decide) rfl ?_
                        refine z_iconst dX9_readPad_232 ?_
                        refine z_istore (i := 8) (ls2 := [some (zR 153), some (zI x1), some (zI x2), some (zI x3), some (zI x4), some (zI (d 159 (d 153 19))), some (zI 2), some (zI (v48 - 48)), some (zI 0), none]) dX9_readPad_233 (by decide) rfl ?_
                        exact h
                  · replace h := h.2.2 c
                    refine z_iconst dX9_readPad_186 ?_
                    refine z_goto (tgt := 202) dX9_readPad_187 (by decide) ?_
                    refine z_istore (i := 6) (ls2 := [some (zR 153), some (zI x1), some (zI x2), some (zI x3), some (zI x4), some (zI (d 159 (d 153 19))), some (zI 1), none, none, none]) dX9_readPad_202 (by decide) rfl ?_
                    refine z_aloadR_n (i := 0) dX9_readPad_204 rfl rfl ?_
                    refine z_bipush dX9_readPad_205 (by decide +kernel) ?_
                    refine z_bipush dX9_readPad_207 (by decide +kernel) ?_
                    refine z_callVi (k' := M_X9_isNext) (As := [zI 50, zI 57]) (st := []) dX9_readPad_209 rfl ly153 (by decide) rfl (show 153 < 166 by decide) wm_X9_187 ok_X9_isNext okV_X9_isNext rfl (zroom_self (by decide) (by decide)) (Nat.le_of_ble_eq_true rfl) (Nat.le_refl _) rfl (Ev_mono h (fun v49 d65 h => ?_))
                    refine zb_if_eq (tgt := 229) dX9_readPad_212 (by decide) h.1 ⟨fun c => ?_, fun c => ?_⟩
                    · replace h := h.2.1 c
                      refine z_iconst dX9_readPad_229 ?_
                      refine z_istore (i := 7) (ls2 := [some (zR 153), some (zI x1), some (zI x2), some (zI x3), some (zI x4), some (zI (d 159 (d 153 19))), some (zI 1), some (zI 1), none, none]) dX9_readPad_230 (by decide) rfl ?_
                      refine z_iconst dX9_readPad_232 ?_
                      refine z_istore (i := 8) (ls2 := [some (zR 153), some (zI x1), some (zI x2), some (zI x3), some (zI x4), some (zI (d 159 (d 153 19))), some (zI 1), some (zI 1), some (zI 0), none]) dX9_readPad_233 (by decide) rfl ?_
                      exact h
                    · replace h := h.2.2 c
                      refine z_aloadR_n (i := 0) dX9_readPad_215 rfl rfl ?_
                      refine z_bipush dX9_readPad_216 (by decide +kernel) ?_
                      refine z_bipush dX9_readPad_218 (by decide +kernel) ?_
                      refine z_callVi (k' := M_X9_sign) (As := [zI 50, zI 57]) (st := []) dX9_readPad_220 rfl ly153 (by decide) rfl (show 153 < 166 by decide) wm_X9_184 ok_X9_sign okV_X9_sign rfl (zroom_self (by decide) (by decide)) (Nat.le_of_ble_eq_true rfl) (Nat.le_refl _) rfl (Ev_mono h (fun v50 d66 h => ?_))
                      refine z_bipush dX9_readPad_223 (by decide +kernel) ?_
                      refine z_isub dX9_readPad_225 ?_
                      refine z_goto (tgt := 230) dX9_readPad_226 (by decide) ?_
                      refine z_istore (i := 7) (ls2 := [some (zR 153), some (zI x1), some (zI x2), some (zI x3), some (zI x4), some (zI (d 159 (d 153 19))), some (zI 1), some (zI (v50 - 48)), none, none]) dX9_readPad_230 (by decide) rfl ?_
                      refine z_iconst dX9_readPad_232 ?_
                      refine z_istore (i := 8) (ls2 := [some (zR 153), some (zI x1), some (zI x2), some (zI x3), some (zI x4), some (zI (d 159 (d 153 19))), some (zI 1), some (zI (v50 - 48)), some (zI 0), none]) dX9_readPad_233 (by decide) rfl ?_
                      exact h
                · replace h := h.2.2 c
                  refine z_iconst dX9_readPad_175 ?_
                  refine z_goto (tgt := 202) dX9_readPad_176 (by decide) ?_
                  refine z_istore (i := 6) (ls2 := [some (zR 153), some (zI x1), some (zI x2), some (zI x3), some (zI x4), some (zI (d 159 (d 153 19))), some (zI 0), none, none, none]) dX9_readPad_202 (by decide) rfl ?_
                  refine z_aloadR_n (i := 0) dX9_readPad_204 rfl rfl ?_
                  refine z_bipush dX9_readPad_205 (by decide +kernel) ?_
                  refine z_bipush dX9_readPad_207 (by decide +kernel) ?_
                  refine z_callVi (k' := M_X9_isNext) (As := [zI 50, zI 57]) (st := []) dX9_readPad_209 rfl ly153 (by decide) rfl (show 153 < 166 by decide) wm_X9_187 ok_X9_isNext okV_X9_isNext rfl (zroom_self (by decide) (by decide)) (Nat.le_of_ble_eq_true rfl) (Nat.le_refl _) rfl (Ev_mono h (fun v51 d67 h => ?_))
                  refine zb_if_eq (tgt := 229) dX9_readPad_212 (by decide) h.1 ⟨fun c => ?_, fun c => ?_⟩
                  · replace h := h.2.1 c
                    refine z_iconst dX9_readPad_229 ?_
                    refine z_istore (i := 7) (ls2 := [some (zR 153), some (zI x1), some (zI x2), some (zI x3), some (zI x4), some (zI (d 159 (d 153 19))), some (zI 0), some (zI 1), none, none]) dX9_readPad_230 (by decide) rfl ?_
                    refine z_iconst dX9_readPad_232 ?_
                    refine z_istore (i := 8) (ls2 := [some (zR 153), some (zI x1), some (zI x2), some (zI x3), some (zI x4), some (zI (d 159 (d 153 19))), some (zI 0), some (zI 1), some (zI 0), none]) dX9_readPad_233 (by decide) rfl ?_
                    exact h
                  · replace h := h.2.2 c
                    refine z_aloadR_n (i := 0) dX9_readPad_215 rfl rfl ?_
                    refine z_bipush dX9_readPad_216 (by decide +kernel) ?_
                    refine z_bipush dX9_readPad_218 (by decide +kernel) ?_
                    refine z_callVi (k' := M_X9_sign) (As := [zI 50, zI 57]) (st := []) dX9_readPad_220 rfl ly153 (by decide) rfl (show 153 < 166 by decide) wm_X9_184 ok_X9_sign okV_X9_sign rfl (zroom_self (by decide) (by decide)) (Nat.le_of_ble_eq_true rfl) (Nat.le_refl _) rfl (Ev_mono h (fun v52 d68 h => ?_))
                    refine z_bipush dX9_readPad_223 (by decide +kernel) ?_
                    refine z_isub dX9_readPad_225 ?_
                    refine z_goto (tgt := 230) dX9_readPad_226 (by decide) ?_
                    refine z_istore (i := 7) (ls2 := [some (zR 153), some (zI x1), some (zI x2), some (zI x3), some (zI x4), some (zI (d 159 (d 153 19))), some (zI 0), some (zI (v52 - 48)), none, none]) dX9_readPad_230 (by decide) rfl ?_
                    refine z_iconst dX9_readPad_232 ?_
                    refine z_istore (i := 8) (ls2 := [some (zR 153), some (zI x1), some (zI x2), some (zI x3), some (zI x4), some (zI (d 159 (d 153 19))), some (zI 0), some (zI (v52 - 48)), some (zI 0), none]) dX9_readPad_233 (by decide) rfl ?_
                    exact h
set_option maxRecDepth 20000 in
theorem v_X9_readPad_235 {g : zGG} {Q : Int → zMem → Prop} {d : zMem}  {x1 : Int} {x2 : Int} {x3 : Int} {x4 : Int} {x5 : Int} {x6 : Int} {x7 : Int} {x8 : Int} (h : ((inR x8 ∧ inR x7) ∧ (x7 ≤ x8 → ((inR (d 153 20)) ∧ ((d 153 20) ≠ 0 → (Fr g (eM g M_X9_readPad FUL FUL Q) M_X9_readPad FUL 72 [some (zR 153), some (zI x1), some (zI x2), some (zI x3), some (zI 0), none, none, none, none, none] [] d)) ∧ ((d 153 20) = 0 → ((inR (d 153 19) ∧ inR (d 153 7)) ∧ ((d 153 7) ≤ (d 153 19) → (Fr g (eM g M_X9_readPad FUL FUL Q) M_X9_readPad FUL 72 [some (zR 153), some (zI x1), some (zI x2), some (zI x3), some (zI 0), none, none, none, none, none] [] d)) ∧ ((d 153 19) < (d 153 7) → (Fr g (eM g M_X9_readPad FUL FUL Q) M_X9_readPad FUL 72 [some (zR 153), some (zI x1), some (zI x2), some (zI x3), some (zI 1), none, none, none, none, none] [] d)))))) ∧ (x8 < x7 → ((inR (d 153 20)) ∧ ((d 153 20) ≠ 0 → ((inR (d 153 20)) ∧ ((d 153 20) ≠ 0 → (Fr g (eM g M_X9_readPad FUL FUL Q) M_X9_readPad FUL 72 [some (zR 153), some (zI x1), some (zI x2), some (zI x3), some (zI 0), none, none, none, none, none] [] d)) ∧ ((d 153 20) = 0 → ((inR (d 153 19) ∧ inR (d 153 7)) ∧ ((d 153 7) ≤ (d 153 19) → (Fr g (eM g M_X9_readPad FUL FUL Q) M_X9_readPad FUL 72 [some (zR 153), some (zI x1), some (zI x2), some (zI x3), some (zI 0), none, none, none, none, none] [] d)) ∧ ((d 153 19) < (d 153 7) → (Fr g (eM g M_X9_readPad FUL FUL Q) M_X9_readPad FUL 72 [some (zR 153), some (zI x1), some (zI x2), some (zI x3), some (zI 1), none, none, none, none, none] [] d)))))) ∧ ((d 153 20) = 0 → ((inR (d 153 23)) ∧ ((d 153 23) ≠ 0 → Ev g M_X9_tell FUL FUL [zR 153, zI (-6)] d (fun _ d1 => (Fr g (eM g M_X9_readPad FUL FUL Q) M_X9_readPad FUL 235 [some (zR 153), some (zI x1), some (zI x2), some (zI x3), some (zI x4), some (zI x5), some (zI x6), some (zI x7), some (zI (x8 + 1)), none] [] d1))) ∧ ((d 153 23) = 0 → ((inR (d 153 22)) ∧ ((d 153 22) ≤ 150 → (0 ≤ ((d 153 22) - 1) ∧ ((d 153 22) - 1) < 150) ∧ Ev g M_X9_stepped FUL FUL [zI (d 165 ((d 153 22) - 1)), zI x6] d (fun v1 d2 => Ev g M_X9_tell FUL FUL [zR 153, zI v1] d2 (fun _ d3 => (Fr g (eM g M_X9_readPad FUL FUL Q) M_X9_readPad FUL 235 [some (zR 153), some (zI x1), some (zI x2), some (zI x3), some (zI x4), some (zI x5), some (zI x6), some (zI x7), some (zI (x8 + 1)), none] [] d3)))) ∧ (150 < (d 153 22) → Ev g M_X9_tell FUL FUL [zR 153, zI (-6)] d (fun _ d4 => (Fr g (eM g M_X9_readPad FUL FUL Q) M_X9_readPad FUL 235 [some (zR 153), some (zI x1), some (zI x2), some (zI x3), some (zI x4), some (zI x5), some (zI x6), some (zI x7), some (zI (x8 + 1)), none] [] d4))))))))))) : Fr g (eM g M_X9_readPad FUL FUL Q) M_X9_readPad FUL 235 [some (zR 153), some (zI x1), some (zI x2), some (zI x3), some (zI x4), some (zI x5), some (zI x6), some (zI x7), some (zI x8), none] [] d := by
  refine z_iload (i := 8) dX9_readPad_235 rfl ?_
  refine z_iload (i := 7) dX9_readPad_237 rfl ?_
  refine zb_icmp_ge (tgt := 309) dX9_readPad_239 (by decide) h.1 ⟨fun c => ?_, fun c => ?_⟩
  · replace h := h.2.1 c
    refine z_aloadR_n (i := 0) dX9_readPad_309 rfl rfl ?_
    refine z_getI' 9 20 (idx := 181) (fv := (d 153 20)) ly153 (by decide) (by decide) rfl (show 153 < 166 by decide) wf_X9_181 dX9_readPad_310 rfl ?_
    refine zb_if_ne (tgt := 331) dX9_readPad_313 (by decide) h.1 ⟨fun c => ?_, fun c => ?_⟩
    · replace h := h.2.1 c
      refine z_iconst dX9_readPad_331 ?_
      refine z_istore (i := 4) (ls2 := [some (zR 153), some (zI x1), some (zI x2), some (zI x3), some (zI 0), some (zI x5), some (zI x6), some (zI x7), some (zI x8), none]) dX9_readPad_332 (by decide) rfl ?_
      refine z_goto (tgt := 72) dX9_readPad_334 (by decide) ?_
      exact Fr_weak (ls2 := [some (zR 153), some (zI x1), some (zI x2), some (zI x3), some (zI 0), none, none, none, none, none]) (by exact ⟨Or.inr rfl, Or.inr rfl, Or.inr rfl, Or.inr rfl, Or.inr rfl, Or.inl rfl, Or.inl rfl, Or.inl rfl, Or.inl rfl, Or.inl rfl, trivial⟩) h
    · replace h := h.2.2 c
      refine z_aloadR_n (i := 0) dX9_readPad_316 rfl rfl ?_
      refine z_getI' 9 19 (idx := 178) (fv := (d 153 19)) ly153 (by decide) (by decide) rfl (show 153 < 166 by decide) wf_X9_178 dX9_readPad_317 rfl ?_
      refine z_aloadR_n (i := 0) dX9_readPad_320 rfl rfl ?_
      refine z_getI' 9 7 (idx := 167) (fv := (d 153 7)) ly153 (by decide) (by decide) rfl (show 153 < 166 by decide) wf_X9_167 dX9_readPad_321 rfl ?_
      refine zb_icmp_ge (tgt := 331) dX9_readPad_324 (by decide) h.1 ⟨fun c => ?_, fun c => ?_⟩
      · replace h := h.2.1 c
        refine z_iconst dX9_readPad_331 ?_
        refine z_istore (i := 4) (ls2 := [some (zR 153), some (zI x1), some (zI x2), some (zI x3), some (zI 0), some (zI x5), some (zI x6), some (zI x7), some (zI x8), none]) dX9_readPad_332 (by decide) rfl ?_
        refine z_goto (tgt := 72) dX9_readPad_334 (by decide) ?_
        exact Fr_weak (ls2 := [some (zR 153), some (zI x1), some (zI x2), some (zI x3), some (zI 0), none, none, none, none, none]) (by exact ⟨Or.inr rfl, Or.inr rfl, Or.inr rfl, Or.inr rfl, Or.inr rfl, Or.inl rfl, Or.inl rfl, Or.inl rfl, Or.inl rfl, Or.inl rfl, trivial⟩) h
      · replace h := h.2.2 c
        refine z_iconst dX9_readPad_327 ?_
        refine z_goto (tgt := 332) dX9_readPad_328 (by decide) ?_
        refine z_istore (i := 4) (ls2 := [some (zR 153), some (zI x1), some (zI x2), some (zI x3), some (zI 1), some (zI x5), some (zI x6), some (zI x7), some (zI x8), none]) dX9_readPad_332 (by decide) rfl ?_
        refine z_goto (tgt := 72) dX9_readPad_334 (by decide) ?_
        exact Fr_weak (ls2 := [some (zR 153), some (zI x1), some (zI x2), some (zI x3), some (zI 1), none, none, none, none, none]) (by exact ⟨Or.inr rfl, Or.inr rfl, Or.inr rfl, Or.inr rfl, Or.inr rfl, Or.inl rfl, Or.inl rfl, Or.inl rfl, Or.inl rfl, Or.inl rfl, trivial⟩) h
  · replace h := h.2.2 c
    refine z_aloadR_n (i := 0) dX9_readPad_242 rfl rfl ?_
    refine z_getI' 9 20 (idx := 181) (fv := (d 153 20)) ly153 (by decide) (by decide) rfl (show 153 < 166 by decide) wf_X9_181 dX9_readPad_243 rfl ?_
    refine zb_if_ne (tgt := 309) dX9_readPad_246 (by decide) h.1 ⟨fun c => ?_, fun c => ?_⟩
    · replace h := h.2.1 c
      refine z_aloadR_n (i := 0) dX9_readPad_309 rfl rfl ?_
      refine z_getI' 9 20 (idx := 181) (fv := (d 153 20)) ly153 (by decide) (by decide) rfl (show 153 < 166 by decide) wf_X9_181 dX9_readPad_310 rfl ?_
      refine zb_if_ne (tgt := 331) dX9_readPad_313 (by decide) h.1 ⟨fun c => ?_, fun c => ?_⟩
      · replace h := h.2.1 c
        refine z_iconst dX9_readPad_331 ?_
        refine z_istore (i := 4) (ls2 := [some (zR 153), some (zI x1), some (zI x2), some (zI x3), some (zI 0), some (zI x5), some (zI x6), some (zI x7), some (zI x8), none]) dX9_readPad_332 (by decide) rfl ?_
        refine z_goto (tgt := 72) dX9_readPad_334 (by decide) ?_
        exact Fr_weak (ls2 := [some (zR 153), some (zI x1), some (zI x2), some (zI x3), some (zI 0), none, none, none, none, none]) (by exact ⟨Or.inr rfl, Or.inr rfl, Or.inr rfl, Or.inr rfl, Or.inr rfl, Or.inl rfl, Or.inl rfl, Or.inl rfl, Or.inl rfl, Or.inl rfl, trivial⟩) h
      · replace h := h.2.2 c
        refine z_aloadR_n (i := 0) dX9_readPad_316 rfl rfl ?_
        refine z_getI' 9 19 (idx := 178) (fv := (d 153 19)) ly153 (by decide) (by decide) rfl (show 153 < 166 by decide) wf_X9_178 dX9_readPad_317 rfl ?_
        refine z_aloadR_n (i := 0) dX9_readPad_320 rfl rfl ?_
        refine z_getI' 9 7 (idx := 167) (fv := (d 153 7)) ly153 (by decide) (by decide) rfl (show 153 < 166 by decide) wf_X9_167 dX9_readPad_321 rfl ?_
        refine zb_icmp_ge (tgt := 331) dX9_readPad_324 (by decide) h.1 ⟨fun c => ?_, fun c => ?_⟩
        · replace h := h.2.1 c
          refine z_iconst dX9_readPad_331 ?_
          refine z_istore (i := 4) (ls2 := [some (zR 153), some (zI x1), some (zI x2), some (zI x3), some (zI 0), some (zI x5), some (zI x6), some (zI x7), some (zI x8), none]) dX9_readPad_332 (by decide) rfl ?_
          refine z_goto (tgt := 72) dX9_readPad_334 (by decide) ?_
          exact Fr_weak (ls2 := [some (zR 153), some (zI x1), some (zI x2), some (zI x3), some (zI 0), none, none, none, none, none]) (by exact ⟨Or.inr rfl, Or.inr rfl, Or.inr rfl, Or.inr rfl, Or.inr rfl, Or.inl rfl, Or.inl rfl, Or.inl rfl, Or.inl rfl, Or.inl rfl, trivial⟩) h
        · replace h := h.2.2 c
          refine z_iconst dX9_readPad_327 ?_
          refine z_goto (tgt := 332) dX9_readPad_328 (by decide) ?_
          refine z_istore (i := 4) (ls2 := [some (zR 153), some (zI x1), some (zI x2), some (zI x3), some (zI 1), some (zI x5), some (zI x6), some (zI x7), some (zI x8), none]) dX9_readPad_332 (by decide) rfl ?_
          refine z_goto (tgt := 72) dX9_readPad_334 (by decide) ?_
          exact Fr_weak (ls2 := [some (zR 153), some (zI x1), some (zI x2), some (zI x3), some (zI 1), none, none, none, none, none]) (by exact ⟨Or.inr rfl, Or.inr rfl, Or.inr rfl, Or.inr rfl, Or.inr rfl, Or.inl rfl, Or.inl rfl, Or.inl rfl, Or.inl rfl, Or.inl rfl, trivial⟩) h
    · replace h := h.2.2 c
      refine z_aloadR_n (i := 0) dX9_readPad_249 rfl rfl ?_
      refine z_getI' 9 23 (idx := 193) (fv := (d 153 23)) ly153 (by decide) (by decide) rfl (show 153 < 166 by decide) wf_X9_193 dX9_readPad_250 rfl ?_
      refine zb_if_ne (tgt := 266) dX9_readPad_253 (by decide) h.1 ⟨fun c => ?_, fun c => ?_⟩
      · replace h := h.2.1 c
        refine z_iconst dX9_readPad_266 ?_
        refine z_goto (tgt := 271) dX9_readPad_267 (by decide) ?_
        refine z_istore (i := 9) (ls2 := [some (zR 153), some (zI x1), some (zI x2), some (zI x3), some (zI x4), some (zI x5), some (zI x6), some (zI x7), some (zI x8), some (zI 1)]) dX9_readPad_271 (by decide) rfl ?_
        refine z_aloadR_n (i := 0) dX9_readPad_273 rfl rfl ?_
        refine z_iload (i := 9) dX9_readPad_274 rfl ?_
        refine zb_if_eq (tgt := 284) dX9_readPad_276 (by decide) (by decide) ⟨fun q => absurd q (by decide), fun _ => ?_⟩
        refine z_bipush dX9_readPad_279 (by decide +kernel) ?_
        refine z_goto (tgt := 300) dX9_readPad_281 (by decide) ?_
        refine z_callVv (k' := M_X9_tell) (As := [zI (-6)]) (st := []) dX9_readPad_300 rfl ly153 (by decide) rfl (show 153 < 166 by decide) wm_X9_199 ok_X9_tell okV_X9_tell rfl (zroom_self (by decide) (by decide)) (Nat.le_of_ble_eq_true rfl) (Nat.le_refl _) rfl (Ev_mono h (fun _ d1 h => ?_))
        refine z_iinc (i := 8) (ls2 := [some (zR 153), some (zI x1), some (zI x2), some (zI x3), some (zI x4), some (zI x5), some (zI x6), some (zI x7), some (zI (x8 + 1)), some (zI 1)]) dX9_readPad_303 (by decide) rfl rfl ?_
        refine z_goto (tgt := 235) dX9_readPad_306 (by decide) ?_
        exact Fr_weak (ls2 := [some (zR 153), some (zI x1), some (zI x2), some (zI x3), some (zI x4), some (zI x5), some (zI x6), some (zI x7), some (zI (x8 + 1)), none]) (by exact ⟨Or.inr rfl, Or.inr rfl, Or.inr rfl, Or.inr rfl, Or.inr rfl, Or.inr rfl, Or.inr rfl, Or.inr rfl, Or.inr rfl, Or.inl rfl, trivial⟩) h
      · replace h := h.2.2 c
        refine z_aloadR_n (i := 0) dX9_readPad_256 rfl rfl ?_
        refine z_getI' 9 22 (idx := 190) (fv := (d 153 22)) ly153 (by decide) (by decide) rfl (show 153 < 166 by decide) wf_X9_190 dX9_readPad_257 rfl ?_
        refine z_sipush dX9_readPad_260 (by decide +kernel) ?_
        refine zb_icmp_le (tgt := 270) dX9_readPad_263 (by decide) ⟨h.1, by decide⟩ ⟨fun c => ?_, fun c => ?_⟩
        · replace h := h.2.1 c
          refine z_iconst dX9_readPad_270 ?_
          refine z_istore (i := 9) (ls2 := [some (zR 153), some (zI x1), some (zI x2), some (zI x3), some (zI x4), some (zI x5), some (zI x6), some (zI x7), some (zI x8), some (zI 0)]) dX9_readPad_271 (by decide) rfl ?_
          refine z_aloadR_n (i := 0) dX9_readPad_273 rfl rfl ?_
          refine z_iload (i := 9) dX9_readPad_274 rfl ?_
          refine zb_if_eq (tgt := 284) dX9_readPad_276 (by decide) (by decide) ⟨fun _ => ?_, fun q => absurd q (by decide)⟩
          refine z_aloadR_n (i := 0) dX9_readPad_284 rfl rfl ?_
          refine z_getR 9 21 (idx := 44) ly153 (by decide) (by decide) rfl (show 153 < 166 by decide) rfl rt_153_21 wf_X9_44 dX9_readPad_285 ?_
          refine z_aloadR_n (i := 0) dX9_readPad_288 rfl rfl ?_
          refine z_getI' 9 22 (idx := 190) (fv := (d 153 22)) ly153 (by decide) (by decide) rfl (show 153 < 166 by decide) wf_X9_190 dX9_readPad_289 rfl ?_
          refine z_iconst dX9_readPad_292 ?_
          refine z_isub dX9_readPad_293 ?_
          refine z_iaload' (fv := (d 165 ((d 153 22) - 1))) ly165 (show 165 < 166 by decide) (by decide) dX9_readPad_294 h.1 rfl ?_
          replace h := h.2
          refine z_iload (i := 6) dX9_readPad_295 rfl ?_
          refine z_callS (k' := M_X9_stepped) (As := [zI (d 165 ((d 153 22) - 1)), zI x6]) (st := [zR 153]) dX9_readPad_297 rfl wm_X9_72 ok_X9_stepped okS_X9_stepped rfl (zroom_self (by decide) (by decide)) (Nat.le_of_ble_eq_true rfl) (Nat.le_refl _) (zEnd_i (Nat.le_refl _) rfl (fun _ _ q => q)) (Ev_mono h (fun v1 d2 h => ?_))
          refine z_callVv (k' := M_X9_tell) (As := [zI v1]) (st := []) dX9_readPad_300 rfl ly153 (by decide) rfl (show 153 < 166 by decide) wm_X9_199 ok_X9_tell okV_X9_tell rfl (zroom_self (by decide) (by decide)) (Nat.le_of_ble_eq_true rfl) (Nat.le_refl _) rfl (Ev_mono h (fun _ d3 h => ?_))
          refine z_iinc (i := 8) (ls2 := [some (zR 153), some (zI x1), some (zI x2), some (zI x3), some (zI x4), some (zI x5), some (zI x6), some (zI x7), some (zI (x8 + 1)), some (zI 0)]) dX9_readPad_303 (by decide) rfl rfl ?_
          refine z_goto (tgt := 235) dX9_readPad_306 (by decide) ?_
          exact Fr_weak (ls2 := [some (zR 153), some (zI x1), some (zI x2), some (zI x3), some (zI x4), some (zI x5), some (zI x6), some (zI x7), some (zI (x8 + 1)), none]) (by exact ⟨Or.inr rfl, Or.inr rfl, Or.inr rfl, Or.inr rfl, Or.inr rfl, Or.inr rfl, Or.inr rfl, Or.inr rfl, Or.inr rfl, Or.inl rfl, trivial⟩) h
        · replace h := h.2.2 c
          refine z_iconst dX9_readPad_266 ?_
          refine z_goto (tgt := 271) dX9_readPad_267 (by decide) ?_
          refine z_istore (i := 9) (ls2 := [some (zR 153), some (zI x1), some (zI x2), some (zI x3), some (zI x4), some (zI x5), some (zI x6), some (zI x7), some (zI x8), some (zI 1)]) dX9_readPad_271 (by decide) rfl ?_
          refine z_aloadR_n (i := 0) dX9_readPad_273 rfl rfl ?_
          refine z_iload (i := 9) dX9_readPad_274 rfl ?_
          refine zb_if_eq (tgt := 284) dX9_readPad_276 (by decide) (by decide) ⟨fun q => absurd q (by decide), fun _ => ?_⟩
          refine z_bipush dX9_readPad_279 (by decide +kernel) ?_
          refine z_goto (tgt := 300) dX9_readPad_281 (by decide) ?_
          refine z_callVv (k' := M_X9_tell) (As := [zI (-6)]) (st := []) dX9_readPad_300 rfl ly153 (by decide) rfl (show 153 < 166 by decide) wm_X9_199 ok_X9_tell okV_X9_tell rfl (zroom_self (by decide) (by decide)) (Nat.le_of_ble_eq_true rfl) (Nat.le_refl _) rfl (Ev_mono h (fun _ d4 h => ?_))
          refine z_iinc (i := 8) (ls2 := [some (zR 153), some (zI x1), some (zI x2), some (zI x3), some (zI x4), some (zI x5), some (zI x6), some (zI x7), some (zI (x8 + 1)), some (zI 1)]) dX9_readPad_303 (by decide) rfl rfl ?_
          refine z_goto (tgt := 235) dX9_readPad_306 (by decide) ?_
          exact Fr_weak (ls2 := [some (zR 153), some (zI x1), some (zI x2), some (zI x3), some (zI x4), some (zI x5), some (zI x6), some (zI x7), some (zI (x8 + 1)), none]) (by exact ⟨Or.inr rfl, Or.inr rfl, Or.inr rfl, Or.inr rfl, Or.inr rfl, Or.inr rfl, Or.inr rfl, Or.inr rfl, Or.inr rfl, Or.inl rfl, trivial⟩) h
set_option maxRecDepth 20000 in
theorem v_X9_fault_0 {g : zGG} {Q : Int → zMem → Prop} {d : zMem}   (h : Ev g M_X9_readPad FUL FUL [zR 153] d (fun _ d1 => ((inR (d1 153 20)) ∧ ((d1 153 20) = 0 → Q (-6) d1) ∧ ((d1 153 20) ≠ 0 → Q (d1 153 19) d1)))) : Fr g (eM g M_X9_fault FUL FUL Q) M_X9_fault FUL 0 [some (zR 153)] [] d := by
  refine z_aloadR_n (i := 0) dX9_fault_0 rfl rfl ?_
  refine z_callVv (k' := M_X9_readPad) (As := []) (st := []) dX9_fault_1 rfl ly153 (by decide) rfl (show 153 < 166 by decide) wm_X9_202 ok_X9_readPad okV_X9_readPad rfl (zroom_self (by decide) (by decide)) (Nat.le_of_ble_eq_true rfl) (Nat.le_refl _) rfl (Ev_mono h (fun _ d1 h => ?_))
  refine z_aloadR_n (i := 0) dX9_fault_4 rfl rfl ?_
  refine z_getI' 9 20 (idx := 181) (fv := (d1 153 20)) ly153 (by decide) (by decide) rfl (show 153 < 166 by decide) wf_X9_181 dX9_fault_5 rfl ?_
  refine zb_if_eq (tgt := 18) dX9_fault_8 (by decide) h.1 ⟨fun c => ?_, fun c => ?_⟩
  · replace h := h.2.1 c
    refine z_bipush dX9_fault_18 (by decide +kernel) ?_
    exact zret_i rfl dX9_fault_20 h
  · replace h := h.2.2 c
    refine z_aloadR_n (i := 0) dX9_fault_11 rfl rfl ?_
    refine z_getI' 9 19 (idx := 178) (fv := (d1 153 19)) ly153 (by decide) (by decide) rfl (show 153 < 166 by decide) wf_X9_178 dX9_fault_12 rfl ?_
    refine z_goto (tgt := 20) dX9_fault_15 (by decide) ?_
    exact zret_i rfl dX9_fault_20 h
theorem e_X9_fault {g : zGG} {Q : Int → zMem → Prop} {d : zMem}  (h : Ev g M_X9_readPad FUL FUL [zR 153] d (fun _ d1 => ((inR (d1 153 20)) ∧ ((d1 153 20) = 0 → Q (-6) d1) ∧ ((d1 153 20) ≠ 0 → Q (d1 153 19) d1)))) : Ev g M_X9_fault FUL FUL [zR 153] d Q :=
  Ev_of (by decide +kernel) (Nat.le_of_ble_eq_true rfl) (v_X9_fault_0  h)
set_option maxRecDepth 20000 in
theorem v_X9_read_0 {g : zGG} {Q : Int → zMem → Prop} {d : zMem}   (h : Ev g M_X9_readPad FUL FUL [zR 153] d (fun _ d1 => ((inR (d1 153 20)) ∧ ((d1 153 20) = 0 → ((inR (d1 153 22)) ∧ ((d1 153 22) ≤ 150 → ((inR (d1 153 23)) ∧ ((d1 153 23) = 0 → Ev g M_X9_know FUL FUL [zR 153] d1 (fun _ d2 => Ev g M_X9_begin FUL FUL [zR 153] d2 (fun _ d3 => ∀ d4, d4 = mu d3 154 4 (d3 153 22) → (Fr g (eM g M_X9_read FUL FUL Q) M_X9_read FUL 57 [some (zR 153), some (zI 0)] [] d4)))) ∧ ((d1 153 23) ≠ 0 → Q (-5) d1))) ∧ (150 < (d1 153 22) → Q (-4) d1))) ∧ ((d1 153 20) ≠ 0 → Q (-3) d1)))) : Fr g (eM g M_X9_read FUL FUL Q) M_X9_read FUL 0 [some (zR 153), none] [] d := by
  refine z_aloadR_n (i := 0) dX9_read_0 rfl rfl ?_
  refine z_callVv (k' := M_X9_readPad) (As := []) (st := []) dX9_read_1 rfl ly153 (by decide) rfl (show 153 < 166 by decide) wm_X9_202 ok_X9_readPad okV_X9_readPad rfl (zroom_self (by decide) (by decide)) (Nat.le_of_ble_eq_true rfl) (Nat.le_refl _) rfl (Ev_mono h (fun _ d1 h => ?_))
  refine z_aloadR_n (i := 0) dX9_read_4 rfl rfl ?_
  refine z_getI' 9 20 (idx := 181) (fv := (d1 153 20)) ly153 (by decide) (by decide) rfl (show 153 < 166 by decide) wf_X9_181 dX9_read_5 rfl ?_
  refine zb_if_eq (tgt := 14) dX9_read_8 (by decide) h.1 ⟨fun c => ?_, fun c => ?_⟩
  · replace h := h.2.1 c
    refine z_aloadR_n (i := 0) dX9_read_14 rfl rfl ?_
    refine z_getI' 9 22 (idx := 190) (fv := (d1 153 22)) ly153 (by decide) (by decide) rfl (show 153 < 166 by decide) wf_X9_190 dX9_read_15 rfl ?_
    refine z_sipush dX9_read_18 (by decide +kernel) ?_
    refine zb_icmp_le (tgt := 27) dX9_read_21 (by decide) ⟨h.1, by decide⟩ ⟨fun c => ?_, fun c => ?_⟩
    · replace h := h.2.1 c
      refine z_aloadR_n (i := 0) dX9_read_27 rfl rfl ?_
      refine z_getI' 9 23 (idx := 193) (fv := (d1 153 23)) ly153 (by decide) (by decide) rfl (show 153 < 166 by decide) wf_X9_193 dX9_read_28 rfl ?_
      refine zb_if_eq (tgt := 37) dX9_read_31 (by decide) h.1 ⟨fun c => ?_, fun c => ?_⟩
      · replace h := h.2.1 c
        refine z_aloadR_n (i := 0) dX9_read_37 rfl rfl ?_
        refine z_callVv (k' := M_X9_know) (As := []) (st := []) dX9_read_38 rfl ly153 (by decide) rfl (show 153 < 166 by decide) wm_X9_139 ok_X9_know okV_X9_know rfl (zroom_self (by decide) (by decide)) (Nat.le_of_ble_eq_true rfl) (Nat.le_refl _) rfl (Ev_mono h (fun _ d2 h => ?_))
        refine z_aloadR_n (i := 0) dX9_read_41 rfl rfl ?_
        refine z_callVv (k' := M_X9_begin) (As := []) (st := []) dX9_read_42 rfl ly153 (by decide) rfl (show 153 < 166 by decide) wm_X9_47 ok_X9_begin okV_X9_begin rfl (zroom_self (by decide) (by decide)) (Nat.le_of_ble_eq_true rfl) (Nat.le_refl _) rfl (Ev_mono h (fun _ d3 h => ?_))
        refine z_aloadR_n (i := 0) dX9_read_45 rfl rfl ?_
        refine z_getR 9 0 (idx := 7) ly153 (by decide) (by decide) rfl (show 153 < 166 by decide) rfl rt_153_0 wf_X9_7 dX9_read_46 ?_
        refine z_iconst dX9_read_49 ?_
        refine z_aloadR_n (i := 0) dX9_read_50 rfl rfl ?_
        refine z_getI' 9 22 (idx := 190) (fv := (d3 153 22)) ly153 (by decide) (by decide) rfl (show 153 < 166 by decide) wf_X9_190 dX9_read_51 rfl ?_
        refine z_iastore ly154 (show 154 < 166 by decide) (by decide) dX9_read_54 (by decide) ?_
        generalize hd4 : mu d3 154 4 (d3 153 22) = d4
        replace hd4 := hd4.symm
        replace h := h d4 hd4
        refine z_iconst dX9_read_55 ?_
        refine z_istore_n (i := 1) (ls2 := [some (zR 153), some (zI 0)]) dX9_read_56 rfl (by decide) rfl ?_
        exact h
      · replace h := h.2.2 c
        refine z_bipush dX9_read_34 (by decide +kernel) ?_
        exact zret_i rfl dX9_read_36 h
    · replace h := h.2.2 c
      refine z_bipush dX9_read_24 (by decide +kernel) ?_
      exact zret_i rfl dX9_read_26 h
  · replace h := h.2.2 c
    refine z_bipush dX9_read_11 (by decide +kernel) ?_
    exact zret_i rfl dX9_read_13 h
theorem e_X9_read {g : zGG} {Q : Int → zMem → Prop} {d : zMem}  (h : Ev g M_X9_readPad FUL FUL [zR 153] d (fun _ d1 => ((inR (d1 153 20)) ∧ ((d1 153 20) = 0 → ((inR (d1 153 22)) ∧ ((d1 153 22) ≤ 150 → ((inR (d1 153 23)) ∧ ((d1 153 23) = 0 → Ev g M_X9_know FUL FUL [zR 153] d1 (fun _ d2 => Ev g M_X9_begin FUL FUL [zR 153] d2 (fun _ d3 => ∀ d4, d4 = mu d3 154 4 (d3 153 22) → (Fr g (eM g M_X9_read FUL FUL Q) M_X9_read FUL 57 [some (zR 153), some (zI 0)] [] d4)))) ∧ ((d1 153 23) ≠ 0 → Q (-5) d1))) ∧ (150 < (d1 153 22) → Q (-4) d1))) ∧ ((d1 153 20) ≠ 0 → Q (-3) d1)))) : Ev g M_X9_read FUL FUL [zR 153] d Q :=
  Ev_of (by decide +kernel) (Nat.le_of_ble_eq_true rfl) (v_X9_read_0  h)
set_option maxRecDepth 20000 in
theorem v_X9_read_57 {g : zGG} {Q : Int → zMem → Prop} {d : zMem}  {x1 : Int} (h : ((inR x1 ∧ inR (d 153 22)) ∧ ((d 153 22) ≤ x1 → ∀ d1, d1 = mu d 153 7 0 → Q (d 153 22) d1) ∧ (x1 < (d 153 22) → (0 ≤ x1 ∧ x1 < 150) ∧ (0 ≤ (5 + x1) ∧ (5 + x1) < 1407) ∧ ∀ d2, d2 = mu d 154 (5 + x1) (d 165 x1) → (Fr g (eM g M_X9_read FUL FUL Q) M_X9_read FUL 57 [some (zR 153), some (zI (x1 + 1))] [] d2)))) : Fr g (eM g M_X9_read FUL FUL Q) M_X9_read FUL 57 [some (zR 153), some (zI x1)] [] d := by
  refine z_iload_n (i := 1) dX9_read_57 rfl rfl ?_
  refine z_aloadR_n (i := 0) dX9_read_58 rfl rfl ?_
  refine z_getI' 9 22 (idx := 190) (fv := (d 153 22)) ly153 (by decide) (by decide) rfl (show 153 < 166 by decide) wf_X9_190 dX9_read_59 rfl ?_
  refine zb_icmp_ge (tgt := 85) dX9_read_62 (by decide) h.1 ⟨fun c => ?_, fun c => ?_⟩
  · replace h := h.2.1 c
    refine z_aloadR_n (i := 0) dX9_read_85 rfl rfl ?_
    refine z_iconst dX9_read_86 ?_
    refine z_putI 9 7 (idx := 167) ly153 (by decide) (by decide) rfl (show 153 < 166 by decide) rfl wf_X9_167 dX9_read_87 (Or.inl rfl) ?_
    generalize hd1 : mu d 153 ((7 : Nat) : Int) 0 = d1
    replace hd1 : d1 = mu d 153 7 0 := hd1.symm
    replace h := h d1 hd1
    refine z_aloadR_n (i := 0) dX9_read_90 rfl rfl ?_
    refine z_getI' 9 22 (idx := 190) (fv := (d 153 22)) ly153 (by decide) (by decide) rfl (show 153 < 166 by decide) wf_X9_190 dX9_read_91 (by show d1 153 22 = _; rw [hd1, mu_ni (by decide)]) ?_
    exact zret_i rfl dX9_read_94 h
  · replace h := h.2.2 c
    refine z_aloadR_n (i := 0) dX9_read_65 rfl rfl ?_
    refine z_getR 9 0 (idx := 7) ly153 (by decide) (by decide) rfl (show 153 < 166 by decide) rfl rt_153_0 wf_X9_7 dX9_read_66 ?_
    refine z_iconst dX9_read_69 ?_
    refine z_iload_n (i := 1) dX9_read_70 rfl rfl ?_
    refine z_iadd dX9_read_71 ?_
    refine z_aloadR_n (i := 0) dX9_read_72 rfl rfl ?_
    refine z_getR 9 21 (idx := 44) ly153 (by decide) (by decide) rfl (show 153 < 166 by decide) rfl rt_153_21 wf_X9_44 dX9_read_73 ?_
    refine z_iload_n (i := 1) dX9_read_76 rfl rfl ?_
    refine z_iaload' (fv := (d 165 x1)) ly165 (show 165 < 166 by decide) (by decide) dX9_read_77 h.1 rfl ?_
    replace h := h.2
    refine z_iastore ly154 (show 154 < 166 by decide) (by decide) dX9_read_78 h.1 ?_
    replace h := h.2
    generalize hd2 : mu d 154 (5 + x1) (d 165 x1) = d2
    replace hd2 := hd2.symm
    replace h := h d2 hd2
    refine z_iinc (i := 1) (ls2 := [some (zR 153), some (zI (x1 + 1))]) dX9_read_79 (by decide) rfl rfl ?_
    refine z_goto (tgt := 57) dX9_read_82 (by decide) ?_
    exact h
set_option maxRecDepth 20000 in
theorem v_X9_undo_0 {g : zGG} {Q : Int → zMem → Prop} {d : zMem}   (h : ((inR (d 153 3)) ∧ ((d 153 3) ≠ 0 → ∀ d1, d1 = mu d 153 3 ((d 153 3) - 1) → (Fr g (eM g M_X9_undo FUL FUL Q) M_X9_undo FUL 22 [some (zR 153), some (zI 0)] [] d1)) ∧ ((d 153 3) = 0 → Q (-5) d))) : Fr g (eM g M_X9_undo FUL FUL Q) M_X9_undo FUL 0 [some (zR 153), none] [] d := by
  refine z_aloadR_n (i := 0) dX9_undo_0 rfl rfl ?_
  refine z_getI' 9 3 (idx := 54) (fv := (d 153 3)) ly153 (by decide) (by decide) rfl (show 153 < 166 by decide) wf_X9_54 dX9_undo_1 rfl ?_
  refine zb_if_ne (tgt := 10) dX9_undo_4 (by decide) h.1 ⟨fun c => ?_, fun c => ?_⟩
  · replace h := h.2.1 c
    refine z_aloadR_n (i := 0) dX9_undo_10 rfl rfl ?_
    refine z_dup dX9_undo_11 (Nat.le_of_ble_eq_true rfl) ?_
    refine z_getI' 9 3 (idx := 54) (fv := (d 153 3)) ly153 (by decide) (by decide) rfl (show 153 < 166 by decide) wf_X9_54 dX9_undo_12 rfl ?_
    refine z_iconst dX9_undo_15 ?_
    refine z_isub dX9_undo_16 ?_
    refine z_putI 9 3 (idx := 54) ly153 (by decide) (by decide) rfl (show 153 < 166 by decide) rfl wf_X9_54 dX9_undo_17 (Or.inl rfl) ?_
    generalize hd1 : mu d 153 ((3 : Nat) : Int) ((d 153 3) - 1) = d1
    replace hd1 : d1 = mu d 153 3 ((d 153 3) - 1) := hd1.symm
    replace h := h d1 hd1
    refine z_iconst dX9_undo_20 ?_
    refine z_istore_n (i := 1) (ls2 := [some (zR 153), some (zI 0)]) dX9_undo_21 rfl (by decide) rfl ?_
    exact h
  · replace h := h.2.2 c
    refine z_bipush dX9_undo_7 (by decide +kernel) ?_
    exact zret_i rfl dX9_undo_9 h
theorem e_X9_undo {g : zGG} {Q : Int → zMem → Prop} {d : zMem}  (h : ((inR (d 153 3)) ∧ ((d 153 3) ≠ 0 → ∀ d1, d1 = mu d 153 3 ((d 153 3) - 1) → (Fr g (eM g M_X9_undo FUL FUL Q) M_X9_undo FUL 22 [some (zR 153), some (zI 0)] [] d1)) ∧ ((d 153 3) = 0 → Q (-5) d))) : Ev g M_X9_undo FUL FUL [zR 153] d Q :=
  Ev_of (by decide +kernel) (Nat.le_of_ble_eq_true rfl) (v_X9_undo_0  h)
set_option maxRecDepth 20000 in
theorem v_X9_undo_22 {g : zGG} {Q : Int → zMem → Prop} {d : zMem}  {x1 : Int} (h : ((inR x1) ∧ (1407 ≤ x1 → Q (d 153 3) d) ∧ (x1 < 1407 → (0 ≤ ((1407 * (d 153 3)) + x1) ∧ ((1407 * (d 153 3)) + x1) < 8442) ∧ (0 ≤ x1 ∧ x1 < 1407) ∧ ∀ d1, d1 = mu d 154 x1 (d 156 ((1407 * (d 153 3)) + x1)) → (Fr g (eM g M_X9_undo FUL FUL Q) M_X9_undo FUL 22 [some (zR 153), some (zI (x1 + 1))] [] d1)))) : Fr g (eM g M_X9_undo FUL FUL Q) M_X9_undo FUL 22 [some (zR 153), some (zI x1)] [] d := by
  refine z_iload_n (i := 1) dX9_undo_22 rfl rfl ?_
  refine z_sipush dX9_undo_23 (by decide +kernel) ?_
  refine zb_icmp_ge (tgt := 56) dX9_undo_26 (by decide) ⟨h.1, by decide⟩ ⟨fun c => ?_, fun c => ?_⟩
  · replace h := h.2.1 c
    refine z_aloadR_n (i := 0) dX9_undo_56 rfl rfl ?_
    refine z_getI' 9 3 (idx := 54) (fv := (d 153 3)) ly153 (by decide) (by decide) rfl (show 153 < 166 by decide) wf_X9_54 dX9_undo_57 rfl ?_
    exact zret_i rfl dX9_undo_60 h
  · replace h := h.2.2 c
    refine z_aloadR_n (i := 0) dX9_undo_29 rfl rfl ?_
    refine z_getR 9 0 (idx := 7) ly153 (by decide) (by decide) rfl (show 153 < 166 by decide) rfl rt_153_0 wf_X9_7 dX9_undo_30 ?_
    refine z_iload_n (i := 1) dX9_undo_33 rfl rfl ?_
    refine z_aloadR_n (i := 0) dX9_undo_34 rfl rfl ?_
    refine z_getR 9 2 (idx := 16) ly153 (by decide) (by decide) rfl (show 153 < 166 by decide) rfl rt_153_2 wf_X9_16 dX9_undo_35 ?_
    refine z_sipush dX9_undo_38 (by decide +kernel) ?_
    refine z_aloadR_n (i := 0) dX9_undo_41 rfl rfl ?_
    refine z_getI' 9 3 (idx := 54) (fv := (d 153 3)) ly153 (by decide) (by decide) rfl (show 153 < 166 by decide) wf_X9_54 dX9_undo_42 rfl ?_
    refine z_imul dX9_undo_45 ?_
    refine z_iload_n (i := 1) dX9_undo_46 rfl rfl ?_
    refine z_iadd dX9_undo_47 ?_
    refine z_iaload' (fv := (d 156 ((1407 * (d 153 3)) + x1))) ly156 (show 156 < 166 by decide) (by decide) dX9_undo_48 h.1 rfl ?_
    replace h := h.2
    refine z_iastore ly154 (show 154 < 166 by decide) (by decide) dX9_undo_49 h.1 ?_
    replace h := h.2
    generalize hd1 : mu d 154 x1 (d 156 ((1407 * (d 153 3)) + x1)) = d1
    replace hd1 := hd1.symm
    replace h := h d1 hd1
    refine z_iinc (i := 1) (ls2 := [some (zR 153), some (zI (x1 + 1))]) dX9_undo_50 (by decide) rfl rfl ?_
    refine z_goto (tgt := 22) dX9_undo_53 (by decide) ?_
    exact h
set_option maxRecDepth 20000 in
theorem v_X9_save_0 {g : zGG} {Q : Int → zMem → Prop} {d : zMem} {x1 : Int}  (h : Ev g M_X9_in FUL FUL [zI x1, zI 0, zI 1] d (fun v1 d1 => ((inR v1) ∧ (v1 ≠ 0 → (Fr g (eM g M_X9_save FUL FUL Q) M_X9_save FUL 14 [some (zR 153), some (zI x1), some (zI 0)] [] d1)) ∧ (v1 = 0 → Q (-2) d1)))) : Fr g (eM g M_X9_save FUL FUL Q) M_X9_save FUL 0 [some (zR 153), some (zI x1), none] [] d := by
  refine z_iload_n (i := 1) dX9_save_0 rfl rfl ?_
  refine z_iconst dX9_save_1 ?_
  refine z_iconst dX9_save_2 ?_
  refine z_callS (k' := M_X9_in) (As := [zI x1, zI 0, zI 1]) (st := []) dX9_save_3 rfl wm_X9_50 ok_X9_in okS_X9_in rfl (zroom_self (by decide) (by decide)) (Nat.le_of_ble_eq_true rfl) (Nat.le_refl _) (zEnd_i (Nat.le_refl _) rfl (fun _ _ q => q)) (Ev_mono h (fun v1 d1 h => ?_))
  refine zb_if_ne (tgt := 12) dX9_save_6 (by decide) h.1 ⟨fun c => ?_, fun c => ?_⟩
  · replace h := h.2.1 c
    refine z_iconst dX9_save_12 ?_
    refine z_istore_n (i := 2) (ls2 := [some (zR 153), some (zI x1), some (zI 0)]) dX9_save_13 rfl (by decide) rfl ?_
    exact h
  · replace h := h.2.2 c
    refine z_bipush dX9_save_9 (by decide +kernel) ?_
    exact zret_i rfl dX9_save_11 h
theorem e_X9_save {g : zGG} {Q : Int → zMem → Prop} {d : zMem} {x1 : Int} (h : Ev g M_X9_in FUL FUL [zI x1, zI 0, zI 1] d (fun v1 d1 => ((inR v1) ∧ (v1 ≠ 0 → (Fr g (eM g M_X9_save FUL FUL Q) M_X9_save FUL 14 [some (zR 153), some (zI x1), some (zI 0)] [] d1)) ∧ (v1 = 0 → Q (-2) d1)))) : Ev g M_X9_save FUL FUL [zR 153, zI x1] d Q :=
  Ev_of (by decide +kernel) (Nat.le_of_ble_eq_true rfl) (v_X9_save_0  h)
set_option maxRecDepth 20000 in
theorem v_X9_save_14 {g : zGG} {Q : Int → zMem → Prop} {d : zMem} {x1 : Int} {x2 : Int} (h : ((inR x2) ∧ (1407 ≤ x2 → (0 ≤ x1 ∧ x1 < 2) ∧ ∀ d1, d1 = mu d 158 x1 1 → Q (d 154 4) d1) ∧ (x2 < 1407 → (0 ≤ x2 ∧ x2 < 1407) ∧ (0 ≤ ((1407 * x1) + x2) ∧ ((1407 * x1) + x2) < 2814) ∧ ∀ d2, d2 = mu d 157 ((1407 * x1) + x2) (d 154 x2) → (Fr g (eM g M_X9_save FUL FUL Q) M_X9_save FUL 14 [some (zR 153), some (zI x1), some (zI (x2 + 1))] [] d2)))) : Fr g (eM g M_X9_save FUL FUL Q) M_X9_save FUL 14 [some (zR 153), some (zI x1), some (zI x2)] [] d := by
  refine z_iload_n (i := 2) dX9_save_14 rfl rfl ?_
  refine z_sipush dX9_save_15 (by decide +kernel) ?_
  refine zb_icmp_ge (tgt := 45) dX9_save_18 (by decide) ⟨h.1, by decide⟩ ⟨fun c => ?_, fun c => ?_⟩
  · replace h := h.2.1 c
    refine z_aloadR_n (i := 0) dX9_save_45 rfl rfl ?_
    refine z_getR 9 5 (idx := 22) ly153 (by decide) (by decide) rfl (show 153 < 166 by decide) rfl rt_153_5 wf_X9_22 dX9_save_46 ?_
    refine z_iload_n (i := 1) dX9_save_49 rfl rfl ?_
    refine z_iconst dX9_save_50 ?_
    refine z_bastore ly158 (show 158 < 166 by decide) (by decide) dX9_save_51 h.1 (by decide) ?_
    replace h := h.2
    generalize hd1 : mu d 158 x1 1 = d1
    replace hd1 := hd1.symm
    replace h := h d1 hd1
    refine z_aloadR_n (i := 0) dX9_save_52 rfl rfl ?_
    refine z_getR 9 0 (idx := 7) ly153 (by decide) (by decide) rfl (show 153 < 166 by decide) rfl rt_153_0 wf_X9_7 dX9_save_53 ?_
    refine z_iconst dX9_save_56 ?_
    refine z_iaload' (fv := (d 154 4)) ly154 (show 154 < 166 by decide) (by decide) dX9_save_57 (by decide) (by rw [hd1, mu_na (by omega)]) ?_
    exact zret_i rfl dX9_save_58 h
  · replace h := h.2.2 c
    refine z_aloadR_n (i := 0) dX9_save_21 rfl rfl ?_
    refine z_getR 9 4 (idx := 19) ly153 (by decide) (by decide) rfl (show 153 < 166 by decide) rfl rt_153_4 wf_X9_19 dX9_save_22 ?_
    refine z_sipush dX9_save_25 (by decide +kernel) ?_
    refine z_iload_n (i := 1) dX9_save_28 rfl rfl ?_
    refine z_imul dX9_save_29 ?_
    refine z_iload_n (i := 2) dX9_save_30 rfl rfl ?_
    refine z_iadd dX9_save_31 ?_
    refine z_aloadR_n (i := 0) dX9_save_32 rfl rfl ?_
    refine z_getR 9 0 (idx := 7) ly153 (by decide) (by decide) rfl (show 153 < 166 by decide) rfl rt_153_0 wf_X9_7 dX9_save_33 ?_
    refine z_iload_n (i := 2) dX9_save_36 rfl rfl ?_
    refine z_iaload' (fv := (d 154 x2)) ly154 (show 154 < 166 by decide) (by decide) dX9_save_37 h.1 rfl ?_
    replace h := h.2
    refine z_iastore ly157 (show 157 < 166 by decide) (by decide) dX9_save_38 h.1 ?_
    replace h := h.2
    generalize hd2 : mu d 157 ((1407 * x1) + x2) (d 154 x2) = d2
    replace hd2 := hd2.symm
    replace h := h d2 hd2
    refine z_iinc (i := 2) (ls2 := [some (zR 153), some (zI x1), some (zI (x2 + 1))]) dX9_save_39 (by decide) rfl rfl ?_
    refine z_goto (tgt := 14) dX9_save_42 (by decide) ?_
    exact h
set_option maxRecDepth 20000 in
theorem v_X9_restore_0 {g : zGG} {Q : Int → zMem → Prop} {d : zMem} {x1 : Int}  (h : Ev g M_X9_in FUL FUL [zI x1, zI 0, zI 1] d (fun v1 d1 => ((inR v1) ∧ (v1 ≠ 0 → (0 ≤ x1 ∧ x1 < 2) ∧ ((inR (d1 158 x1)) ∧ ((d1 158 x1) ≠ 0 → Ev g M_X9_know FUL FUL [zR 153] d1 (fun _ d2 => (Fr g (eM g M_X9_restore FUL FUL Q) M_X9_restore FUL 30 [some (zR 153), some (zI x1), some (zI 0)] [] d2))) ∧ ((d1 158 x1) = 0 → Q (-5) d1))) ∧ (v1 = 0 → Q (-2) d1)))) : Fr g (eM g M_X9_restore FUL FUL Q) M_X9_restore FUL 0 [some (zR 153), some (zI x1), none] [] d := by
  refine z_iload_n (i := 1) dX9_restore_0 rfl rfl ?_
  refine z_iconst dX9_restore_1 ?_
  refine z_iconst dX9_restore_2 ?_
  refine z_callS (k' := M_X9_in) (As := [zI x1, zI 0, zI 1]) (st := []) dX9_restore_3 rfl wm_X9_50 ok_X9_in okS_X9_in rfl (zroom_self (by decide) (by decide)) (Nat.le_of_ble_eq_true rfl) (Nat.le_refl _) (zEnd_i (Nat.le_refl _) rfl (fun _ _ q => q)) (Ev_mono h (fun v1 d1 h => ?_))
  refine zb_if_ne (tgt := 12) dX9_restore_6 (by decide) h.1 ⟨fun c => ?_, fun c => ?_⟩
  · replace h := h.2.1 c
    refine z_aloadR_n (i := 0) dX9_restore_12 rfl rfl ?_
    refine z_getR 9 5 (idx := 22) ly153 (by decide) (by decide) rfl (show 153 < 166 by decide) rfl rt_153_5 wf_X9_22 dX9_restore_13 ?_
    refine z_iload_n (i := 1) dX9_restore_16 rfl rfl ?_
    refine z_baload' (fv := (d1 158 x1)) ly158 (show 158 < 166 by decide) (by decide) dX9_restore_17 h.1 rfl ?_
    replace h := h.2
    refine zb_if_ne (tgt := 24) dX9_restore_18 (by decide) h.1 ⟨fun c => ?_, fun c => ?_⟩
    · replace h := h.2.1 c
      refine z_aloadR_n (i := 0) dX9_restore_24 rfl rfl ?_
      refine z_callVv (k' := M_X9_know) (As := []) (st := []) dX9_restore_25 rfl ly153 (by decide) rfl (show 153 < 166 by decide) wm_X9_139 ok_X9_know okV_X9_know rfl (zroom_self (by decide) (by decide)) (Nat.le_of_ble_eq_true rfl) (Nat.le_refl _) rfl (Ev_mono h (fun _ d2 h => ?_))
      refine z_iconst dX9_restore_28 ?_
      refine z_istore_n (i := 2) (ls2 := [some (zR 153), some (zI x1), some (zI 0)]) dX9_restore_29 rfl (by decide) rfl ?_
      exact h
    · replace h := h.2.2 c
      refine z_bipush dX9_restore_21 (by decide +kernel) ?_
      exact zret_i rfl dX9_restore_23 h
  · replace h := h.2.2 c
    refine z_bipush dX9_restore_9 (by decide +kernel) ?_
    exact zret_i rfl dX9_restore_11 h
theorem e_X9_restore {g : zGG} {Q : Int → zMem → Prop} {d : zMem} {x1 : Int} (h : Ev g M_X9_in FUL FUL [zI x1, zI 0, zI 1] d (fun v1 d1 => ((inR v1) ∧ (v1 ≠ 0 → (0 ≤ x1 ∧ x1 < 2) ∧ ((inR (d1 158 x1)) ∧ ((d1 158 x1) ≠ 0 → Ev g M_X9_know FUL FUL [zR 153] d1 (fun _ d2 => (Fr g (eM g M_X9_restore FUL FUL Q) M_X9_restore FUL 30 [some (zR 153), some (zI x1), some (zI 0)] [] d2))) ∧ ((d1 158 x1) = 0 → Q (-5) d1))) ∧ (v1 = 0 → Q (-2) d1)))) : Ev g M_X9_restore FUL FUL [zR 153, zI x1] d Q :=
  Ev_of (by decide +kernel) (Nat.le_of_ble_eq_true rfl) (v_X9_restore_0  h)
set_option maxRecDepth 20000 in
theorem v_X9_restore_30 {g : zGG} {Q : Int → zMem → Prop} {d : zMem} {x1 : Int} {x2 : Int} (h : ((inR x2) ∧ (1407 ≤ x2 → Q (d 154 4) d) ∧ (x2 < 1407 → (0 ≤ ((1407 * x1) + x2) ∧ ((1407 * x1) + x2) < 2814) ∧ (0 ≤ x2 ∧ x2 < 1407) ∧ ∀ d1, d1 = mu d 154 x2 (d 157 ((1407 * x1) + x2)) → (Fr g (eM g M_X9_restore FUL FUL Q) M_X9_restore FUL 30 [some (zR 153), some (zI x1), some (zI (x2 + 1))] [] d1)))) : Fr g (eM g M_X9_restore FUL FUL Q) M_X9_restore FUL 30 [some (zR 153), some (zI x1), some (zI x2)] [] d := by
  refine z_iload_n (i := 2) dX9_restore_30 rfl rfl ?_
  refine z_sipush dX9_restore_31 (by decide +kernel) ?_
  refine zb_icmp_ge (tgt := 61) dX9_restore_34 (by decide) ⟨h.1, by decide⟩ ⟨fun c => ?_, fun c => ?_⟩
  · replace h := h.2.1 c
    refine z_aloadR_n (i := 0) dX9_restore_61 rfl rfl ?_
    refine z_getR 9 0 (idx := 7) ly153 (by decide) (by decide) rfl (show 153 < 166 by decide) rfl rt_153_0 wf_X9_7 dX9_restore_62 ?_
    refine z_iconst dX9_restore_65 ?_
    refine z_iaload' (fv := (d 154 4)) ly154 (show 154 < 166 by decide) (by decide) dX9_restore_66 (by decide) rfl ?_
    exact zret_i rfl dX9_restore_67 h
  · replace h := h.2.2 c
    refine z_aloadR_n (i := 0) dX9_restore_37 rfl rfl ?_
    refine z_getR 9 0 (idx := 7) ly153 (by decide) (by decide) rfl (show 153 < 166 by decide) rfl rt_153_0 wf_X9_7 dX9_restore_38 ?_
    refine z_iload_n (i := 2) dX9_restore_41 rfl rfl ?_
    refine z_aloadR_n (i := 0) dX9_restore_42 rfl rfl ?_
    refine z_getR 9 4 (idx := 19) ly153 (by decide) (by decide) rfl (show 153 < 166 by decide) rfl rt_153_4 wf_X9_19 dX9_restore_43 ?_
    refine z_sipush dX9_restore_46 (by decide +kernel) ?_
    refine z_iload_n (i := 1) dX9_restore_49 rfl rfl ?_
    refine z_imul dX9_restore_50 ?_
    refine z_iload_n (i := 2) dX9_restore_51 rfl rfl ?_
    refine z_iadd dX9_restore_52 ?_
    refine z_iaload' (fv := (d 157 ((1407 * x1) + x2))) ly157 (show 157 < 166 by decide) (by decide) dX9_restore_53 h.1 rfl ?_
    replace h := h.2
    refine z_iastore ly154 (show 154 < 166 by decide) (by decide) dX9_restore_54 h.1 ?_
    replace h := h.2
    generalize hd1 : mu d 154 x2 (d 157 ((1407 * x1) + x2)) = d1
    replace hd1 := hd1.symm
    replace h := h d1 hd1
    refine z_iinc (i := 2) (ls2 := [some (zR 153), some (zI x1), some (zI (x2 + 1))]) dX9_restore_55 (by decide) rfl rfl ?_
    refine z_goto (tgt := 30) dX9_restore_58 (by decide) ?_
    exact h
