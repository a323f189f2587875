set_option maxRecDepth 20000 in
theorem v_X8_orNone_0 {g : zGG} {Q : Int → zMem → Prop} {d : zMem} {x0 : Int}  (h : ((inR x0) ∧ (x0 ≠ (-1) → Q x0 d) ∧ (x0 = (-1) → Q (-6) d))) : Fr g (eM g M_X8_orNone FUL FUL Q) M_X8_orNone FUL 0 [some (zI x0)] [] d := by
  refine z_iload_n (i := 0) dX8_orNone_0 rfl rfl ?_
  refine z_iconst dX8_orNone_1 ?_
  refine zb_icmp_ne (tgt := 10) dX8_orNone_2 (by decide) ⟨h.1, by decide⟩ ⟨fun c => ?_, fun c => ?_⟩
  · replace h := h.2.1 c
    refine z_iload_n (i := 0) dX8_orNone_10 rfl rfl ?_
    exact zret_i rfl dX8_orNone_11 h
  · replace h := h.2.2 c
    refine z_bipush dX8_orNone_5 (by decide +kernel) ?_
    refine z_goto (tgt := 11) dX8_orNone_7 (by decide) ?_
    exact zret_i rfl dX8_orNone_11 h
theorem e_X8_orNone {g : zGG} {Q : Int → zMem → Prop} {d : zMem} {x0 : Int} (h : ((inR x0) ∧ (x0 ≠ (-1) → Q x0 d) ∧ (x0 = (-1) → Q (-6) d))) : Ev g M_X8_orNone FUL FUL [zI x0] d Q :=
  Ev_of (by decide +kernel) (Nat.le_of_ble_eq_true rfl) (v_X8_orNone_0  h)
set_option maxRecDepth 20000 in
theorem v_X8_asNumber_0 {g : zGG} {Q : Int → zMem → Prop} {d : zMem} {x0 : Int}  (h : ((inR x0) ∧ (x0 = 0 → Q 0 d) ∧ (x0 ≠ 0 → Q 1 d))) : Fr g (eM g M_X8_asNumber FUL FUL Q) M_X8_asNumber FUL 0 [some (zI x0)] [] d := by
  refine z_iload_n (i := 0) dX8_asNumber_0 rfl rfl ?_
  refine zb_if_eq (tgt := 8) dX8_asNumber_1 (by decide) h.1 ⟨fun c => ?_, fun c => ?_⟩
  · replace h := h.2.1 c
    refine z_iconst dX8_asNumber_8 ?_
    exact zret_i rfl dX8_asNumber_9 h
  · replace h := h.2.2 c
    refine z_iconst dX8_asNumber_4 ?_
    refine z_goto (tgt := 9) dX8_asNumber_5 (by decide) ?_
    exact zret_i rfl dX8_asNumber_9 h
theorem e_X8_asNumber {g : zGG} {Q : Int → zMem → Prop} {d : zMem} {x0 : Int} (h : ((inR x0) ∧ (x0 = 0 → Q 0 d) ∧ (x0 ≠ 0 → Q 1 d))) : Ev g M_X8_asNumber FUL FUL [zI x0] d Q :=
  Ev_of (by decide +kernel) (Nat.le_of_ble_eq_true rfl) (v_X8_asNumber_0  h)
set_option maxRecDepth 20000 in
theorem v_X8_cellAt_0 {g : zGG} {φ : zPhi} {Q : Int → zMem → Prop} {d : zMem} {x0 : Int} {x1 : Int}  (h : ((inR x0) ∧ (x0 < 0 → Q (-1) d) ∧ (0 ≤ x0 → ((inR x0) ∧ (20 ≤ x0 → Q (-1) d) ∧ (x0 < 20 → ((inR x1) ∧ (x1 < 0 → Q (-1) d) ∧ (0 ≤ x1 → ((inR x1) ∧ (x1 < 12 → Q ((x1 * 20) + x0) d) ∧ (12 ≤ x1 → Q (-1) d))))))))) : Fr g (eM g M_X8_cellAt φ φ Q) M_X8_cellAt φ 0 [some (zI x0), some (zI x1)] [] d := by
  refine z_iload_n (i := 0) dX8_cellAt_0 rfl rfl ?_
  refine zb_if_lt (tgt := 20) dX8_cellAt_1 (by decide) h.1 ⟨fun c => ?_, fun c => ?_⟩
  · replace h := h.2.1 c
    refine z_iconst dX8_cellAt_20 ?_
    exact zret_i rfl dX8_cellAt_21 h
  · replace h := h.2.2 c
    refine z_iload_n (i := 0) dX8_cellAt_4 rfl rfl ?_
    refine z_bipush dX8_cellAt_5 (by decide +kernel) ?_
    refine zb_icmp_ge (tgt := 20) dX8_cellAt_7 (by decide) ⟨h.1, by decide⟩ ⟨fun c => ?_, fun c => ?_⟩
    · replace h := h.2.1 c
      refine z_iconst dX8_cellAt_20 ?_
      exact zret_i rfl dX8_cellAt_21 h
    · replace h := h.2.2 c
      refine z_iload_n (i := 1) dX8_cellAt_10 rfl rfl ?_
      refine zb_if_lt (tgt := 20) dX8_cellAt_11 (by decide) h.1 ⟨fun c => ?_, fun c => ?_⟩
      · replace h := h.2.1 c
        refine z_iconst dX8_cellAt_20 ?_
        exact zret_i rfl dX8_cellAt_21 h
      · replace h := h.2.2 c
        refine z_iload_n (i := 1) dX8_cellAt_14 rfl rfl ?_
        refine z_bipush dX8_cellAt_15 (by decide +kernel) ?_
        refine zb_icmp_lt (tgt := 22) dX8_cellAt_17 (by decide) ⟨h.1, by decide⟩ ⟨fun c => ?_, fun c => ?_⟩
        · replace h := h.2.1 c
          refine z_iload_n (i := 1) dX8_cellAt_22 rfl rfl ?_
          refine z_bipush dX8_cellAt_23 (by decide +kernel) ?_
          refine z_imul dX8_cellAt_25 ?_
          refine z_iload_n (i := 0) dX8_cellAt_26 rfl rfl ?_
          refine z_iadd dX8_cellAt_27 ?_
          exact zret_i rfl dX8_cellAt_28 h
        · replace h := h.2.2 c
          refine z_iconst dX8_cellAt_20 ?_
          exact zret_i rfl dX8_cellAt_21 h
theorem e_X8_cellAt {g : zGG} {φ : zPhi} {Q : Int → zMem → Prop} {d : zMem} {x0 : Int} {x1 : Int} (h : ((inR x0) ∧ (x0 < 0 → Q (-1) d) ∧ (0 ≤ x0 → ((inR x0) ∧ (20 ≤ x0 → Q (-1) d) ∧ (x0 < 20 → ((inR x1) ∧ (x1 < 0 → Q (-1) d) ∧ (0 ≤ x1 → ((inR x1) ∧ (x1 < 12 → Q ((x1 * 20) + x0) d) ∧ (12 ≤ x1 → Q (-1) d))))))))) : Ev g M_X8_cellAt φ φ [zI x0, zI x1] d Q :=
  Ev_of (by decide +kernel) (Nat.le_of_ble_eq_true rfl) (v_X8_cellAt_0  h)
set_option maxRecDepth 20000 in
theorem v_X8_isOnLand_0 {g : zGG} {φ : zPhi} {Q : Int → zMem → Prop} {d : zMem} {x0 : Int}  (h : ((inR x0) ∧ (x0 < 0 → Q 0 d) ∧ (0 ≤ x0 → ((inR x0) ∧ (240 ≤ x0 → Q 0 d) ∧ (x0 < 240 → Q 1 d))))) : Fr g (eM g M_X8_isOnLand φ φ Q) M_X8_isOnLand φ 0 [some (zI x0)] [] d := by
  refine z_iload_n (i := 0) dX8_isOnLand_0 rfl rfl ?_
  refine zb_if_lt (tgt := 15) dX8_isOnLand_1 (by decide) h.1 ⟨fun c => ?_, fun c => ?_⟩
  · replace h := h.2.1 c
    refine z_iconst dX8_isOnLand_15 ?_
    exact zret_z rfl dX8_isOnLand_16 (by decide) h
  · replace h := h.2.2 c
    refine z_iload_n (i := 0) dX8_isOnLand_4 rfl rfl ?_
    refine z_sipush dX8_isOnLand_5 (by decide +kernel) ?_
    refine zb_icmp_ge (tgt := 15) dX8_isOnLand_8 (by decide) ⟨h.1, by decide⟩ ⟨fun c => ?_, fun c => ?_⟩
    · replace h := h.2.1 c
      refine z_iconst dX8_isOnLand_15 ?_
      exact zret_z rfl dX8_isOnLand_16 (by decide) h
    · replace h := h.2.2 c
      refine z_iconst dX8_isOnLand_11 ?_
      refine z_goto (tgt := 16) dX8_isOnLand_12 (by decide) ?_
      exact zret_z rfl dX8_isOnLand_16 (by decide) h
theorem e_X8_isOnLand {g : zGG} {φ : zPhi} {Q : Int → zMem → Prop} {d : zMem} {x0 : Int} (h : ((inR x0) ∧ (x0 < 0 → Q 0 d) ∧ (0 ≤ x0 → ((inR x0) ∧ (240 ≤ x0 → Q 0 d) ∧ (x0 < 240 → Q 1 d))))) : Ev g M_X8_isOnLand φ φ [zI x0] d Q :=
  Ev_of (by decide +kernel) (Nat.le_of_ble_eq_true rfl) (v_X8_isOnLand_0  h)
set_option maxRecDepth 20000 in
theorem v_X8_beside_0 {g : zGG} {Q : Int → zMem → Prop} {d : zMem} {x0 : Int} {x1 : Int}  (h : ((inR x0) ∧ (x0 < 0 → Q (-1) d) ∧ (0 ≤ x0 → ((inR x0) ∧ (x0 < 240 → ((inR x1) ∧ ((x1 < 0 ∨ 3 < x1) → Q (-1) d) ∧ (x1 = 0 → (0 ≤ x0 ∧ inR x0) ∧ ((inR (x0 % 20)) ∧ (19 ≤ (x0 % 20) → Q (-1) d) ∧ ((x0 % 20) < 19 → Q (x0 + 1) d))) ∧ (x1 = 1 → ((inR (x0 + 20)) ∧ (240 ≤ (x0 + 20) → Q (-1) d) ∧ ((x0 + 20) < 240 → Q (x0 + 20) d))) ∧ (x1 = 2 → (0 ≤ x0 ∧ inR x0) ∧ ((inR (x0 % 20)) ∧ ((x0 % 20) ≤ 0 → Q (-1) d) ∧ (0 < (x0 % 20) → Q (x0 - 1) d))) ∧ (x1 = 3 → ((inR x0) ∧ (x0 < 20 → Q (-1) d) ∧ (20 ≤ x0 → Q (x0 - 20) d))))) ∧ (240 ≤ x0 → Q (-1) d))))) : Fr g (eM g M_X8_beside FUL FUL Q) M_X8_beside FUL 0 [some (zI x0), some (zI x1)] [] d := by
  refine z_iload_n (i := 0) dX8_beside_0 rfl rfl ?_
  refine zb_if_lt (tgt := 11) dX8_beside_1 (by decide) h.1 ⟨fun c => ?_, fun c => ?_⟩
  · replace h := h.2.1 c
    refine z_iconst dX8_beside_11 ?_
    exact zret_i rfl dX8_beside_12 h
  · replace h := h.2.2 c
    refine z_iload_n (i := 0) dX8_beside_4 rfl rfl ?_
    refine z_sipush dX8_beside_5 (by decide +kernel) ?_
    refine zb_icmp_lt (tgt := 13) dX8_beside_8 (by decide) ⟨h.1, by decide⟩ ⟨fun c => ?_, fun c => ?_⟩
    · replace h := h.2.1 c
      refine z_iload_n (i := 1) dX8_beside_13 rfl rfl ?_
      have hr := h.1
      rcases (show (x1 < 0 ∨ 3 < x1) ∨ x1 = 0 ∨ x1 = 1 ∨ x1 = 2 ∨ x1 = 3 by omega) with c | c | c | c | c
      · replace h := h.2.1 c
        refine z_tsOut (tgt := 110) dX8_beside_14 (by decide) hr c ?_
        refine z_iconst dX8_beside_110 ?_
        exact zret_i rfl dX8_beside_111 h
      · replace h := h.2.2.1 c
        refine z_tsCase (0) (off := 30) (tgt := 44) dX8_beside_14 rfl (by decide) (by decide) c ?_
        refine z_iload_n (i := 0) dX8_beside_44 rfl rfl ?_
        refine z_bipush dX8_beside_45 (by decide +kernel) ?_
        refine z_irem dX8_beside_47 ⟨h.1.1, h.1.2, by decide, by decide⟩ ?_
        replace h := h.2
        refine z_bipush dX8_beside_48 (by decide +kernel) ?_
        refine zb_icmp_ge (tgt := 59) dX8_beside_50 (by decide) ⟨h.1, by decide⟩ ⟨fun c => ?_, fun c => ?_⟩
        · replace h := h.2.1 c
          refine z_iconst dX8_beside_59 ?_
          exact zret_i rfl dX8_beside_60 h
        · replace h := h.2.2 c
          refine z_iload_n (i := 0) dX8_beside_53 rfl rfl ?_
          refine z_iconst dX8_beside_54 ?_
          refine z_iadd dX8_beside_55 ?_
          refine z_goto (tgt := 60) dX8_beside_56 (by decide) ?_
          exact zret_i rfl dX8_beside_60 h
      · replace h := h.2.2.2.1 c
        refine z_tsCase (1) (off := 47) (tgt := 61) dX8_beside_14 rfl (by decide) (by decide) c ?_
        refine z_iload_n (i := 0) dX8_beside_61 rfl rfl ?_
        refine z_bipush dX8_beside_62 (by decide +kernel) ?_
        refine z_iadd dX8_beside_64 ?_
        refine z_sipush dX8_beside_65 (by decide +kernel) ?_
        refine zb_icmp_ge (tgt := 78) dX8_beside_68 (by decide) ⟨h.1, by decide⟩ ⟨fun c => ?_, fun c => ?_⟩
        · replace h := h.2.1 c
          refine z_iconst dX8_beside_78 ?_
          exact zret_i rfl dX8_beside_79 h
        · replace h := h.2.2 c
          refine z_iload_n (i := 0) dX8_beside_71 rfl rfl ?_
          refine z_bipush dX8_beside_72 (by decide +kernel) ?_
          refine z_iadd dX8_beside_74 ?_
          refine z_goto (tgt := 79) dX8_beside_75 (by decide) ?_
          exact zret_i rfl dX8_beside_79 h
      · replace h := h.2.2.2.2.1 c
        refine z_tsCase (2) (off := 66) (tgt := 80) dX8_beside_14 rfl (by decide) (by decide) c ?_
        refine z_iload_n (i := 0) dX8_beside_80 rfl rfl ?_
        refine z_bipush dX8_beside_81 (by decide +kernel) ?_
        refine z_irem dX8_beside_83 ⟨h.1.1, h.1.2, by decide, by decide⟩ ?_
        replace h := h.2
        refine zb_if_le (tgt := 93) dX8_beside_84 (by decide) h.1 ⟨fun c => ?_, fun c => ?_⟩
        · replace h := h.2.1 c
          refine z_iconst dX8_beside_93 ?_
          exact zret_i rfl dX8_beside_94 h
        · replace h := h.2.2 c
          refine z_iload_n (i := 0) dX8_beside_87 rfl rfl ?_
          refine z_iconst dX8_beside_88 ?_
          refine z_isub dX8_beside_89 ?_
          refine z_goto (tgt := 94) dX8_beside_90 (by decide) ?_
          exact zret_i rfl dX8_beside_94 h
      · replace h := h.2.2.2.2.2 c
        refine z_tsCase (3) (off := 81) (tgt := 95) dX8_beside_14 rfl (by decide) (by decide) c ?_
        refine z_iload_n (i := 0) dX8_beside_95 rfl rfl ?_
        refine z_bipush dX8_beside_96 (by decide +kernel) ?_
        refine zb_icmp_lt (tgt := 108) dX8_beside_98 (by decide) ⟨h.1, by decide⟩ ⟨fun c => ?_, fun c => ?_⟩
        · replace h := h.2.1 c
          refine z_iconst dX8_beside_108 ?_
          exact zret_i rfl dX8_beside_109 h
        · replace h := h.2.2 c
          refine z_iload_n (i := 0) dX8_beside_101 rfl rfl ?_
          refine z_bipush dX8_beside_102 (by decide +kernel) ?_
          refine z_isub dX8_beside_104 ?_
          refine z_goto (tgt := 109) dX8_beside_105 (by decide) ?_
          exact zret_i rfl dX8_beside_109 h
    · replace h := h.2.2 c
      refine z_iconst dX8_beside_11 ?_
      exact zret_i rfl dX8_beside_12 h
theorem e_X8_beside {g : zGG} {Q : Int → zMem → Prop} {d : zMem} {x0 : Int} {x1 : Int} (h : ((inR x0) ∧ (x0 < 0 → Q (-1) d) ∧ (0 ≤ x0 → ((inR x0) ∧ (x0 < 240 → ((inR x1) ∧ ((x1 < 0 ∨ 3 < x1) → Q (-1) d) ∧ (x1 = 0 → (0 ≤ x0 ∧ inR x0) ∧ ((inR (x0 % 20)) ∧ (19 ≤ (x0 % 20) → Q (-1) d) ∧ ((x0 % 20) < 19 → Q (x0 + 1) d))) ∧ (x1 = 1 → ((inR (x0 + 20)) ∧ (240 ≤ (x0 + 20) → Q (-1) d) ∧ ((x0 + 20) < 240 → Q (x0 + 20) d))) ∧ (x1 = 2 → (0 ≤ x0 ∧ inR x0) ∧ ((inR (x0 % 20)) ∧ ((x0 % 20) ≤ 0 → Q (-1) d) ∧ (0 < (x0 % 20) → Q (x0 - 1) d))) ∧ (x1 = 3 → ((inR x0) ∧ (x0 < 20 → Q (-1) d) ∧ (20 ≤ x0 → Q (x0 - 20) d))))) ∧ (240 ≤ x0 → Q (-1) d))))) : Ev g M_X8_beside FUL FUL [zI x0, zI x1] d Q :=
  Ev_of (by decide +kernel) (Nat.le_of_ble_eq_true rfl) (v_X8_beside_0  h)
set_option maxRecDepth 20000 in
theorem v_X8_areOpposite_0 {g : zGG} {Q : Int → zMem → Prop} {d : zMem} {x0 : Int} {x1 : Int}  (h : (inR (x0 - x1)) ∧ ((inR (if 0 ≤ (x0 - x1) then (x0 - x1) else -(x0 - x1))) ∧ ((if 0 ≤ (x0 - x1) then (x0 - x1) else -(x0 - x1)) ≠ 2 → Q 0 d) ∧ ((if 0 ≤ (x0 - x1) then (x0 - x1) else -(x0 - x1)) = 2 → Q 1 d))) : Fr g (eM g M_X8_areOpposite FUL FUL Q) M_X8_areOpposite FUL 0 [some (zI x0), some (zI x1)] [] d := by
  refine z_iload_n (i := 0) dX8_areOpposite_0 rfl rfl ?_
  refine z_iload_n (i := 1) dX8_areOpposite_1 rfl rfl ?_
  refine z_isub dX8_areOpposite_2 ?_
  refine z_abs h.1 dX8_areOpposite_3 wm_X8_267 wMs_abs wMi wMc_abs ⟨Nat.le_of_ble_eq_true rfl, Nat.le_of_ble_eq_true rfl, Nat.le_refl _, Nat.le_refl _⟩ ?_
  replace h := h.2
  refine z_iconst dX8_areOpposite_6 ?_
  refine zb_icmp_ne (tgt := 14) dX8_areOpposite_7 (by decide) ⟨h.1, by decide⟩ ⟨fun c => ?_, fun c => ?_⟩
  · replace h := h.2.1 c
    refine z_iconst dX8_areOpposite_14 ?_
    exact zret_z rfl dX8_areOpposite_15 (by decide) h
  · replace h := h.2.2 c
    refine z_iconst dX8_areOpposite_10 ?_
    refine z_goto (tgt := 15) dX8_areOpposite_11 (by decide) ?_
    exact zret_z rfl dX8_areOpposite_15 (by decide) h
theorem e_X8_areOpposite {g : zGG} {Q : Int → zMem → Prop} {d : zMem} {x0 : Int} {x1 : Int} (h : (inR (x0 - x1)) ∧ ((inR (if 0 ≤ (x0 - x1) then (x0 - x1) else -(x0 - x1))) ∧ ((if 0 ≤ (x0 - x1) then (x0 - x1) else -(x0 - x1)) ≠ 2 → Q 0 d) ∧ ((if 0 ≤ (x0 - x1) then (x0 - x1) else -(x0 - x1)) = 2 → Q 1 d))) : Ev g M_X8_areOpposite FUL FUL [zI x0, zI x1] d Q :=
  Ev_of (by decide +kernel) (Nat.le_of_ble_eq_true rfl) (v_X8_areOpposite_0  h)
set_option maxRecDepth 20000 in
theorem v_J7_fill_53178_0 {g : zGG} {φ : zPhi} {Q : Int → zMem → Prop} {d : zMem} {q nn : Nat} {x1 : Int} (hL : LAY q = (1, nn)) (hq : q < φ.1) (hn : nn < 2 ^ 31)  (h : (Fr g (eM g M_J7_fill_53178 φ φ Q) M_J7_fill_53178 φ 5 [some (zR q), some (zI x1), some (zI 0), some (zI (nn : Int))] [] d)) : Fr g (eM g M_J7_fill_53178 φ φ Q) M_J7_fill_53178 φ 0 [some (zR q), some (zI x1), none, none] [] d := by
  refine z_iconst dJ7_fill_53178_0 ?_
  refine z_istore_n (i := 2) (ls2 := [some (zR q), some (zI x1), some (zI 0), none]) dJ7_fill_53178_1 rfl (by decide) rfl ?_
  refine z_aloadR_n (i := 0) dJ7_fill_53178_2 rfl rfl ?_
  refine z_alen' (v := (nn : Int)) hL (by decide) hq rfl dJ7_fill_53178_3 ?_
  refine z_istore_n (i := 3) (ls2 := [some (zR q), some (zI x1), some (zI 0), some (zI (nn : Int))]) dJ7_fill_53178_4 rfl (by decide) rfl ?_
  exact h
theorem e_J7_fill_53178 {g : zGG} {φ : zPhi} {Q : Int → zMem → Prop} {d : zMem} {q nn : Nat} {x1 : Int} (hL : LAY q = (1, nn)) (hq : q < φ.1) (hn : nn < 2 ^ 31) (h : (Fr g (eM g M_J7_fill_53178 φ φ Q) M_J7_fill_53178 φ 5 [some (zR q), some (zI x1), some (zI 0), some (zI (nn : Int))] [] d)) : Ev g M_J7_fill_53178 φ φ [zR q, zI x1] d Q :=
  Ev_of (by decide +kernel) (Nat.le_of_ble_eq_true rfl) (v_J7_fill_53178_0 hL hq hn h)
set_option maxRecDepth 20000 in
theorem v_J7_fill_53178_5 {g : zGG} {φ : zPhi} {Q : Int → zMem → Prop} {d : zMem} {q nn : Nat} {x1 : Int} (hL : LAY q = (1, nn)) (hq : q < φ.1) (hn : nn < 2 ^ 31) {x2 : Int} {x3 : Int} (h : ((inR x2 ∧ inR x3) ∧ (x3 ≤ x2 → Q 0 d) ∧ (x2 < x3 → (0 ≤ x2 ∧ x2 < nn) ∧ ∀ d1, d1 = mu d q x2 x1 → (Fr g (eM g M_J7_fill_53178 φ φ Q) M_J7_fill_53178 φ 5 [some (zR q), some (zI x1), some (zI (x2 + 1)), some (zI x3)] [] d1)))) : Fr g (eM g M_J7_fill_53178 φ φ Q) M_J7_fill_53178 φ 5 [some (zR q), some (zI x1), some (zI x2), some (zI x3)] [] d := by
  refine z_iload_n (i := 2) dJ7_fill_53178_5 rfl rfl ?_
  refine z_iload_n (i := 3) dJ7_fill_53178_6 rfl rfl ?_
  refine zb_icmp_ge (tgt := 20) dJ7_fill_53178_7 (by decide) h.1 ⟨fun c => ?_, fun c => ?_⟩
  · replace h := h.2.1 c
    exact zret_v rfl dJ7_fill_53178_20 h
  · replace h := h.2.2 c
    refine z_aloadR_n (i := 0) dJ7_fill_53178_10 rfl rfl ?_
    refine z_iload_n (i := 2) dJ7_fill_53178_11 rfl rfl ?_
    refine z_iload_n (i := 1) dJ7_fill_53178_12 rfl rfl ?_
    refine z_iastore hL hq hn dJ7_fill_53178_13 h.1 ?_
    replace h := h.2
    generalize hd1 : mu d q x2 x1 = d1
    replace hd1 := hd1.symm
    replace h := h d1 hd1
    refine z_iinc (i := 2) (ls2 := [some (zR q), some (zI x1), some (zI (x2 + 1)), some (zI x3)]) dJ7_fill_53178_14 (by decide) rfl rfl ?_
    refine z_goto (tgt := 5) dJ7_fill_53178_17 (by decide) ?_
    exact h
