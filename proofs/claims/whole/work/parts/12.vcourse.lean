set_option maxRecDepth 20000 in
theorem v_X1_clear_0 {g : zGG} {φ : zPhi} {Q : Int → zMem → Prop} {d : zMem} {a : Nat} (ha : isRiv a) (h0 : a + 4 < φ.1) (hw0 : φ.2 (a + 2) 0 = true) (hw1 : φ.2 (a + 2) 1 = true)  (h : ∀ d1, d1 = mu d (a + 2) 2 0 → Ev g M_J7_fill_53178 φ φ [zR (a + 4), zI (-1)] d1 (fun _ d2 => Q 0 d2)) : Fr g (eM g M_X1_clear φ φ Q) M_X1_clear φ 0 [some (zR (a + 2))] [] d := by
  refine z_aloadR_n (i := 0) dX1_clear_0 rfl rfl ?_
  refine z_iconst dX1_clear_1 ?_
  refine z_putI 1 2 (idx := 21) (rl2 ha) (by decide) (by decide) rfl (hlt2 h0) rfl wf_X1_21 dX1_clear_2 (Or.inl rfl) ?_
  generalize hd1 : mu d (a + 2) ((2 : Nat) : Int) 0 = d1
  replace hd1 : d1 = mu d (a + 2) 2 0 := hd1.symm
  replace h := h d1 hd1
  refine z_aloadR_n (i := 0) dX1_clear_5 rfl rfl ?_
  refine z_getR 1 1 (idx := 15) (rl2 ha) (by decide) (by decide) rfl (hlt2 h0) hw1 (rt2_1 ha) wf_X1_15 dX1_clear_6 ?_
  refine z_iconst dX1_clear_9 ?_
  refine z_callS (k' := M_J7_fill_53178) (As := [zR (a + 4), zI (-1)]) (st := []) dX1_clear_10 rfl wm_X1_25 ok_J7_fill_53178 okS_J7_fill_53178 rfl (zroom_self (by decide) (by decide)) (Nat.le_of_ble_eq_true rfl) (Nat.le_refl _) (zEnd_v (Nat.le_refl _) rfl (fun _ _ q => q)) (Ev_mono h (fun _ d2 h => ?_))
  exact zret_v rfl dX1_clear_13 h
theorem e_X1_clear {g : zGG} {φ : zPhi} {Q : Int → zMem → Prop} {d : zMem} {a : Nat} (ha : isRiv a) (h0 : a + 4 < φ.1) (hw0 : φ.2 (a + 2) 0 = true) (hw1 : φ.2 (a + 2) 1 = true) (h : ∀ d1, d1 = mu d (a + 2) 2 0 → Ev g M_J7_fill_53178 φ φ [zR (a + 4), zI (-1)] d1 (fun _ d2 => Q 0 d2)) : Ev g M_X1_clear φ φ [zR (a + 2)] d Q :=
  Ev_of (by decide +kernel) (Nat.le_of_ble_eq_true rfl) (v_X1_clear_0 ha h0 hw0 hw1 h)
set_option maxRecDepth 20000 in
theorem v_X1_copyFrom_0 {g : zGG} {Q : Int → zMem → Prop} {d : zMem} {a : Nat} {b : Nat} (ha : isRiv a) (hb : isRiv b)  (h : ∀ d1, d1 = mrow d (a + 3) (zcp (d (b + 3)) (d (a + 3)) 0 0 150) → ∀ d2, d2 = mrow d1 (a + 4) (zcp (d1 (b + 4)) (d1 (a + 4)) 0 0 240) → ∀ d3, d3 = mu d2 (a + 2) 2 (d2 (b + 2) 2) → Q 0 d3) : Fr g (eM g M_X1_copyFrom FUL FUL Q) M_X1_copyFrom FUL 0 [some (zR (a + 2)), some (zR (b + 2))] [] d := by
  refine z_aloadR_n (i := 1) dX1_copyFrom_0 rfl rfl ?_
  refine z_getR 1 0 (idx := 9) (rl2 hb) (by decide) (by decide) rfl (rlt2 hb) rfl (rt2_0 hb) wf_X1_9 dX1_copyFrom_1 ?_
  refine z_iconst dX1_copyFrom_4 ?_
  refine z_aloadR_n (i := 0) dX1_copyFrom_5 rfl rfl ?_
  refine z_getR 1 0 (idx := 9) (rl2 ha) (by decide) (by decide) rfl (rlt2 ha) rfl (rt2_0 ha) wf_X1_9 dX1_copyFrom_6 ?_
  refine z_iconst dX1_copyFrom_9 ?_
  refine z_sipush dX1_copyFrom_10 (by decide +kernel) ?_
  refine z_copy (rl3 hb) (rl3 ha) (rlt3 hb) (rlt3 ha) (by decide) (by decide) dX1_copyFrom_13 wm_X1_31 wSn wSs wSi ⟨Nat.le_of_ble_eq_true rfl, Nat.le_of_ble_eq_true rfl⟩ ?_
  generalize hd1 : mrow d (a + 3) (zcp (d (b + 3)) (d (a + 3)) 0 0 150) = d1
  replace hd1 := hd1.symm
  replace h := h d1 hd1
  refine z_aloadR_n (i := 1) dX1_copyFrom_16 rfl rfl ?_
  refine z_getR 1 1 (idx := 15) (rl2 hb) (by decide) (by decide) rfl (rlt2 hb) rfl (rt2_1 hb) wf_X1_15 dX1_copyFrom_17 ?_
  refine z_iconst dX1_copyFrom_20 ?_
  refine z_aloadR_n (i := 0) dX1_copyFrom_21 rfl rfl ?_
  refine z_getR 1 1 (idx := 15) (rl2 ha) (by decide) (by decide) rfl (rlt2 ha) rfl (rt2_1 ha) wf_X1_15 dX1_copyFrom_22 ?_
  refine z_iconst dX1_copyFrom_25 ?_
  refine z_sipush dX1_copyFrom_26 (by decide +kernel) ?_
  refine z_copy (rl4 hb) (rl4 ha) (rlt4 hb) (rlt4 ha) (by decide) (by decide) dX1_copyFrom_29 wm_X1_31 wSn wSs wSi ⟨Nat.le_of_ble_eq_true rfl, Nat.le_of_ble_eq_true rfl⟩ ?_
  generalize hd2 : mrow d1 (a + 4) (zcp (d1 (b + 4)) (d1 (a + 4)) 0 0 240) = d2
  replace hd2 := hd2.symm
  replace h := h d2 hd2
  refine z_aloadR_n (i := 0) dX1_copyFrom_32 rfl rfl ?_
  refine z_aloadR_n (i := 1) dX1_copyFrom_33 rfl rfl ?_
  refine z_getI' 1 2 (idx := 21) (fv := (d2 (b + 2) 2)) (rl2 hb) (by decide) (by decide) rfl (rlt2 hb) wf_X1_21 dX1_copyFrom_34 rfl ?_
  refine z_putI 1 2 (idx := 21) (rl2 ha) (by decide) (by decide) rfl (rlt2 ha) rfl wf_X1_21 dX1_copyFrom_37 (Or.inl rfl) ?_
  generalize hd3 : mu d2 (a + 2) ((2 : Nat) : Int) (d2 (b + 2) 2) = d3
  replace hd3 : d3 = mu d2 (a + 2) 2 (d2 (b + 2) 2) := hd3.symm
  replace h := h d3 hd3
  exact zret_v rfl dX1_copyFrom_40 h
theorem e_X1_copyFrom {g : zGG} {Q : Int → zMem → Prop} {d : zMem} {a : Nat} {b : Nat} (ha : isRiv a) (hb : isRiv b) (h : ∀ d1, d1 = mrow d (a + 3) (zcp (d (b + 3)) (d (a + 3)) 0 0 150) → ∀ d2, d2 = mrow d1 (a + 4) (zcp (d1 (b + 4)) (d1 (a + 4)) 0 0 240) → ∀ d3, d3 = mu d2 (a + 2) 2 (d2 (b + 2) 2) → Q 0 d3) : Ev g M_X1_copyFrom FUL FUL [zR (a + 2), zR (b + 2)] d Q :=
  Ev_of (by decide +kernel) (Nat.le_of_ble_eq_true rfl) (v_X1_copyFrom_0 ha hb h)
set_option maxRecDepth 20000 in
theorem v_X1_length_0 {g : zGG} {Q : Int → zMem → Prop} {d : zMem} {a : Nat} (ha : isRiv a)  (h : Q (d (a + 2) 2) d) : Fr g (eM g M_X1_length FUL FUL Q) M_X1_length FUL 0 [some (zR (a + 2))] [] d := by
  refine z_aloadR_n (i := 0) dX1_length_0 rfl rfl ?_
  refine z_getI' 1 2 (idx := 21) (fv := (d (a + 2) 2)) (rl2 ha) (by decide) (by decide) rfl (rlt2 ha) wf_X1_21 dX1_length_1 rfl ?_
  exact zret_i rfl dX1_length_4 h
theorem e_X1_length {g : zGG} {Q : Int → zMem → Prop} {d : zMem} {a : Nat} (ha : isRiv a) (h : Q (d (a + 2) 2) d) : Ev g M_X1_length FUL FUL [zR (a + 2)] d Q :=
  Ev_of (by decide +kernel) (Nat.le_of_ble_eq_true rfl) (v_X1_length_0 ha h)
set_option maxRecDepth 20000 in
theorem v_X1_append_0 {g : zGG} {φ : zPhi} {Q : Int → zMem → Prop} {d : zMem} {a : Nat} {x1 : Int} (ha : isRiv a) (h0 : a + 4 < φ.1) (hw0 : φ.2 (a + 2) 0 = true) (hw1 : φ.2 (a + 2) 1 = true)  (h : Ev g M_X8_isOnLand φ φ [zI x1] d (fun v1 d1 => ((inR v1) ∧ (v1 = 0 → Q 0 d1) ∧ (v1 ≠ 0 → (0 ≤ x1 ∧ x1 < 240) ∧ ((inR (d1 (a + 4) x1)) ∧ ((d1 (a + 4) x1) ≠ (-1) → Q 0 d1) ∧ ((d1 (a + 4) x1) = (-1) → ((inR (d1 (a + 2) 2)) ∧ ((d1 (a + 2) 2) < 0 → Q 0 d1) ∧ (0 ≤ (d1 (a + 2) 2) → ((inR (d1 (a + 2) 2)) ∧ ((d1 (a + 2) 2) < 150 → (0 ≤ (d1 (a + 2) 2) ∧ (d1 (a + 2) 2) < 150) ∧ ∀ d2, d2 = mu d1 (a + 3) (d1 (a + 2) 2) x1 → (0 ≤ x1 ∧ x1 < 240) ∧ ∀ d3, d3 = mu d2 (a + 4) x1 (d1 (a + 2) 2) → ∀ d4, d4 = mu d3 (a + 2) 2 ((d1 (a + 2) 2) + 1) → Q 1 d4) ∧ (150 ≤ (d1 (a + 2) 2) → Q 0 d1)))))))))) : Fr g (eM g M_X1_append φ φ Q) M_X1_append φ 0 [some (zR (a + 2)), some (zI x1)] [] d := by
  refine z_iload_n (i := 1) dX1_append_0 rfl rfl ?_
  refine z_callSN (k' := M_X8_isOnLand) (As := [zI x1]) (st := []) dX1_append_1 rfl wm_X1_37 ok_X8_isOnLand okS_X8_isOnLand rfl (zroom_self (by decide) (by decide)) (Nat.le_of_ble_eq_true rfl) (Nat.le_refl _) (zEnd_i (Nat.le_refl _) rfl (fun _ _ q => q)) (Ev_mono h (fun v1 d1 h => ?_))
  refine zb_if_eq (tgt := 34) dX1_append_4 (by decide) h.1 ⟨fun c => ?_, fun c => ?_⟩
  · replace h := h.2.1 c
    refine z_iconst dX1_append_34 ?_
    exact zret_z rfl dX1_append_35 (by decide) h
  · replace h := h.2.2 c
    refine z_aloadR_n (i := 0) dX1_append_7 rfl rfl ?_
    refine z_getR 1 1 (idx := 15) (rl2 ha) (by decide) (by decide) rfl (hlt2 h0) hw1 (rt2_1 ha) wf_X1_15 dX1_append_8 ?_
    refine z_iload_n (i := 1) dX1_append_11 rfl rfl ?_
    refine z_iaload' (fv := (d1 (a + 4) x1)) (rl4 ha) (hlt4 h0) (by decide) dX1_append_12 h.1 rfl ?_
    replace h := h.2
    refine z_iconst dX1_append_13 ?_
    refine zb_icmp_ne (tgt := 34) dX1_append_14 (by decide) ⟨h.1, by decide⟩ ⟨fun c => ?_, fun c => ?_⟩
    · replace h := h.2.1 c
      refine z_iconst dX1_append_34 ?_
      exact zret_z rfl dX1_append_35 (by decide) h
    · replace h := h.2.2 c
      refine z_aloadR_n (i := 0) dX1_append_17 rfl rfl ?_
      refine z_getI' 1 2 (idx := 21) (fv := (d1 (a + 2) 2)) (rl2 ha) (by decide) (by decide) rfl (hlt2 h0) wf_X1_21 dX1_append_18 rfl ?_
      refine zb_if_lt (tgt := 34) dX1_append_21 (by decide) h.1 ⟨fun c => ?_, fun c => ?_⟩
      · replace h := h.2.1 c
        refine z_iconst dX1_append_34 ?_
        exact zret_z rfl dX1_append_35 (by decide) h
      · replace h := h.2.2 c
        refine z_aloadR_n (i := 0) dX1_append_24 rfl rfl ?_
        refine z_getI' 1 2 (idx := 21) (fv := (d1 (a + 2) 2)) (rl2 ha) (by decide) (by decide) rfl (hlt2 h0) wf_X1_21 dX1_append_25 rfl ?_
        refine z_sipush dX1_append_28 (by decide +kernel) ?_
        refine zb_icmp_lt (tgt := 36) dX1_append_31 (by decide) ⟨h.1, by decide⟩ ⟨fun c => ?_, fun c => ?_⟩
        · replace h := h.2.1 c
          refine z_aloadR_n (i := 0) dX1_append_36 rfl rfl ?_
          refine z_getR 1 0 (idx := 9) (rl2 ha) (by decide) (by decide) rfl (hlt2 h0) hw0 (rt2_0 ha) wf_X1_9 dX1_append_37 ?_
          refine z_aloadR_n (i := 0) dX1_append_40 rfl rfl ?_
          refine z_getI' 1 2 (idx := 21) (fv := (d1 (a + 2) 2)) (rl2 ha) (by decide) (by decide) rfl (hlt2 h0) wf_X1_21 dX1_append_41 rfl ?_
          refine z_iload_n (i := 1) dX1_append_44 rfl rfl ?_
          refine z_iastore (rl3 ha) (hlt3 h0) (by decide) dX1_append_45 h.1 ?_
          replace h := h.2
          generalize hd2 : mu d1 (a + 3) (d1 (a + 2) 2) x1 = d2
          replace hd2 := hd2.symm
          replace h := h d2 hd2
          refine z_aloadR_n (i := 0) dX1_append_46 rfl rfl ?_
          refine z_getR 1 1 (idx := 15) (rl2 ha) (by decide) (by decide) rfl (hlt2 h0) hw1 (rt2_1 ha) wf_X1_15 dX1_append_47 ?_
          refine z_iload_n (i := 1) dX1_append_50 rfl rfl ?_
          refine z_aloadR_n (i := 0) dX1_append_51 rfl rfl ?_
          refine z_getI' 1 2 (idx := 21) (fv := (d1 (a + 2) 2)) (rl2 ha) (by decide) (by decide) rfl (hlt2 h0) wf_X1_21 dX1_append_52 (by show d2 (a + 2) 2 = _; rw [hd2, mu_na (by omega)]) ?_
          refine z_iastore (rl4 ha) (hlt4 h0) (by decide) dX1_append_55 h.1 ?_
          replace h := h.2
          generalize hd3 : mu d2 (a + 4) x1 (d1 (a + 2) 2) = d3
          replace hd3 := hd3.symm
          replace h := h d3 hd3
          refine z_aloadR_n (i := 0) dX1_append_56 rfl rfl ?_
          refine z_dup dX1_append_57 (Nat.le_of_ble_eq_true rfl) ?_
          refine z_getI' 1 2 (idx := 21) (fv := (d1 (a + 2) 2)) (rl2 ha) (by decide) (by decide) rfl (hlt2 h0) wf_X1_21 dX1_append_58 (by show d3 (a + 2) 2 = _; rw [hd3, mu_na (by omega)]; rw [hd2, mu_na (by omega)]) ?_
          refine z_iconst dX1_append_61 ?_
          refine z_iadd dX1_append_62 ?_
          refine z_putI 1 2 (idx := 21) (rl2 ha) (by decide) (by decide) rfl (hlt2 h0) rfl wf_X1_21 dX1_append_63 (Or.inl rfl) ?_
          generalize hd4 : mu d3 (a + 2) ((2 : Nat) : Int) ((d1 (a + 2) 2) + 1) = d4
          replace hd4 : d4 = mu d3 (a + 2) 2 ((d1 (a + 2) 2) + 1) := hd4.symm
          replace h := h d4 hd4
          refine z_iconst dX1_append_66 ?_
          exact zret_z rfl dX1_append_67 (by decide) h
        · replace h := h.2.2 c
          refine z_iconst dX1_append_34 ?_
          exact zret_z rfl dX1_append_35 (by decide) h
theorem e_X1_append {g : zGG} {φ : zPhi} {Q : Int → zMem → Prop} {d : zMem} {a : Nat} {x1 : Int} (ha : isRiv a) (h0 : a + 4 < φ.1) (hw0 : φ.2 (a + 2) 0 = true) (hw1 : φ.2 (a + 2) 1 = true) (h : Ev g M_X8_isOnLand φ φ [zI x1] d (fun v1 d1 => ((inR v1) ∧ (v1 = 0 → Q 0 d1) ∧ (v1 ≠ 0 → (0 ≤ x1 ∧ x1 < 240) ∧ ((inR (d1 (a + 4) x1)) ∧ ((d1 (a + 4) x1) ≠ (-1) → Q 0 d1) ∧ ((d1 (a + 4) x1) = (-1) → ((inR (d1 (a + 2) 2)) ∧ ((d1 (a + 2) 2) < 0 → Q 0 d1) ∧ (0 ≤ (d1 (a + 2) 2) → ((inR (d1 (a + 2) 2)) ∧ ((d1 (a + 2) 2) < 150 → (0 ≤ (d1 (a + 2) 2) ∧ (d1 (a + 2) 2) < 150) ∧ ∀ d2, d2 = mu d1 (a + 3) (d1 (a + 2) 2) x1 → (0 ≤ x1 ∧ x1 < 240) ∧ ∀ d3, d3 = mu d2 (a + 4) x1 (d1 (a + 2) 2) → ∀ d4, d4 = mu d3 (a + 2) 2 ((d1 (a + 2) 2) + 1) → Q 1 d4) ∧ (150 ≤ (d1 (a + 2) 2) → Q 0 d1)))))))))) : Ev g M_X1_append φ φ [zR (a + 2), zI x1] d Q :=
  Ev_of (by decide +kernel) (Nat.le_of_ble_eq_true rfl) (v_X1_append_0 ha h0 hw0 hw1 h)
set_option maxRecDepth 20000 in
theorem v_X1_cellOf_0 {g : zGG} {Q : Int → zMem → Prop} {d : zMem} {a : Nat} {x1 : Int} (ha : isRiv a)  (h : ((inR x1) ∧ (x1 < 0 → Q (-1) d) ∧ (0 ≤ x1 → ((inR x1 ∧ inR (d (a + 2) 2)) ∧ ((d (a + 2) 2) ≤ x1 → Q (-1) d) ∧ (x1 < (d (a + 2) 2) → ((inR x1) ∧ (150 ≤ x1 → Q (-1) d) ∧ (x1 < 150 → (0 ≤ x1 ∧ x1 < 150) ∧ Q (d (a + 3) x1) d))))))) : Fr g (eM g M_X1_cellOf FUL FUL Q) M_X1_cellOf FUL 0 [some (zR (a + 2)), some (zI x1)] [] d := by
  refine z_iload_n (i := 1) dX1_cellOf_0 rfl rfl ?_
  refine zb_if_lt (tgt := 28) dX1_cellOf_1 (by decide) h.1 ⟨fun c => ?_, fun c => ?_⟩
  · replace h := h.2.1 c
    refine z_iconst dX1_cellOf_28 ?_
    exact zret_i rfl dX1_cellOf_29 h
  · replace h := h.2.2 c
    refine z_iload_n (i := 1) dX1_cellOf_4 rfl rfl ?_
    refine z_aloadR_n (i := 0) dX1_cellOf_5 rfl rfl ?_
    refine z_getI' 1 2 (idx := 21) (fv := (d (a + 2) 2)) (rl2 ha) (by decide) (by decide) rfl (rlt2 ha) wf_X1_21 dX1_cellOf_6 rfl ?_
    refine zb_icmp_ge (tgt := 28) dX1_cellOf_9 (by decide) h.1 ⟨fun c => ?_, fun c => ?_⟩
    · replace h := h.2.1 c
      refine z_iconst dX1_cellOf_28 ?_
      exact zret_i rfl dX1_cellOf_29 h
    · replace h := h.2.2 c
      refine z_iload_n (i := 1) dX1_cellOf_12 rfl rfl ?_
      refine z_sipush dX1_cellOf_13 (by decide +kernel) ?_
      refine zb_icmp_ge (tgt := 28) dX1_cellOf_16 (by decide) ⟨h.1, by decide⟩ ⟨fun c => ?_, fun c => ?_⟩
      · replace h := h.2.1 c
        refine z_iconst dX1_cellOf_28 ?_
        exact zret_i rfl dX1_cellOf_29 h
      · replace h := h.2.2 c
        refine z_aloadR_n (i := 0) dX1_cellOf_19 rfl rfl ?_
        refine z_getR 1 0 (idx := 9) (rl2 ha) (by decide) (by decide) rfl (rlt2 ha) rfl (rt2_0 ha) wf_X1_9 dX1_cellOf_20 ?_
        refine z_iload_n (i := 1) dX1_cellOf_23 rfl rfl ?_
        refine z_iaload' (fv := (d (a + 3) x1)) (rl3 ha) (rlt3 ha) (by decide) dX1_cellOf_24 h.1 rfl ?_
        replace h := h.2
        refine z_goto (tgt := 29) dX1_cellOf_25 (by decide) ?_
        exact zret_i rfl dX1_cellOf_29 h
theorem e_X1_cellOf {g : zGG} {Q : Int → zMem → Prop} {d : zMem} {a : Nat} {x1 : Int} (ha : isRiv a) (h : ((inR x1) ∧ (x1 < 0 → Q (-1) d) ∧ (0 ≤ x1 → ((inR x1 ∧ inR (d (a + 2) 2)) ∧ ((d (a + 2) 2) ≤ x1 → Q (-1) d) ∧ (x1 < (d (a + 2) 2) → ((inR x1) ∧ (150 ≤ x1 → Q (-1) d) ∧ (x1 < 150 → (0 ≤ x1 ∧ x1 < 150) ∧ Q (d (a + 3) x1) d))))))) : Ev g M_X1_cellOf FUL FUL [zR (a + 2), zI x1] d Q :=
  Ev_of (by decide +kernel) (Nat.le_of_ble_eq_true rfl) (v_X1_cellOf_0 ha h)
set_option maxRecDepth 20000 in
theorem v_X1_numberOf_0 {g : zGG} {Q : Int → zMem → Prop} {d : zMem} {a : Nat} {x1 : Int} (ha : isRiv a)  (h : Ev g M_X8_isOnLand FUL FUL [zI x1] d (fun v1 d1 => ((inR v1) ∧ (v1 = 0 → Q (-1) d1) ∧ (v1 ≠ 0 → (0 ≤ x1 ∧ x1 < 240) ∧ Q (d1 (a + 4) x1) d1)))) : Fr g (eM g M_X1_numberOf FUL FUL Q) M_X1_numberOf FUL 0 [some (zR (a + 2)), some (zI x1)] [] d := by
  refine z_iload_n (i := 1) dX1_numberOf_0 rfl rfl ?_
  refine z_callSN (k' := M_X8_isOnLand) (As := [zI x1]) (st := []) dX1_numberOf_1 rfl wm_X1_37 ok_X8_isOnLand okS_X8_isOnLand rfl (zroom_self (by decide) (by decide)) (Nat.le_of_ble_eq_true rfl) (Nat.le_refl _) (zEnd_i (Nat.le_refl _) rfl (fun _ _ q => q)) (Ev_mono h (fun v1 d1 h => ?_))
  refine zb_if_eq (tgt := 16) dX1_numberOf_4 (by decide) h.1 ⟨fun c => ?_, fun c => ?_⟩
  · replace h := h.2.1 c
    refine z_iconst dX1_numberOf_16 ?_
    exact zret_i rfl dX1_numberOf_17 h
  · replace h := h.2.2 c
    refine z_aloadR_n (i := 0) dX1_numberOf_7 rfl rfl ?_
    refine z_getR 1 1 (idx := 15) (rl2 ha) (by decide) (by decide) rfl (rlt2 ha) rfl (rt2_1 ha) wf_X1_15 dX1_numberOf_8 ?_
    refine z_iload_n (i := 1) dX1_numberOf_11 rfl rfl ?_
    refine z_iaload' (fv := (d1 (a + 4) x1)) (rl4 ha) (rlt4 ha) (by decide) dX1_numberOf_12 h.1 rfl ?_
    replace h := h.2
    refine z_goto (tgt := 17) dX1_numberOf_13 (by decide) ?_
    exact zret_i rfl dX1_numberOf_17 h
theorem e_X1_numberOf {g : zGG} {Q : Int → zMem → Prop} {d : zMem} {a : Nat} {x1 : Int} (ha : isRiv a) (h : Ev g M_X8_isOnLand FUL FUL [zI x1] d (fun v1 d1 => ((inR v1) ∧ (v1 = 0 → Q (-1) d1) ∧ (v1 ≠ 0 → (0 ≤ x1 ∧ x1 < 240) ∧ Q (d1 (a + 4) x1) d1)))) : Ev g M_X1_numberOf FUL FUL [zR (a + 2), zI x1] d Q :=
  Ev_of (by decide +kernel) (Nat.le_of_ble_eq_true rfl) (v_X1_numberOf_0 ha h)
set_option maxRecDepth 20000 in
theorem v_X1_numberBeside_0 {g : zGG} {Q : Int → zMem → Prop} {d : zMem} {a : Nat} {x1 : Int} {x2 : Int} (ha : isRiv a)  (h : Ev g M_X1_cellOf FUL FUL [zR (a + 2), zI x1] d (fun v1 d1 => Ev g M_X8_beside FUL FUL [zI v1, zI x2] d1 (fun v2 d2 => Ev g M_X1_numberOf FUL FUL [zR (a + 2), zI v2] d2 (fun v3 d3 => Q v3 d3)))) : Fr g (eM g M_X1_numberBeside FUL FUL Q) M_X1_numberBeside FUL 0 [some (zR (a + 2)), some (zI x1), some (zI x2)] [] d := by
  refine z_aloadR_n (i := 0) dX1_numberBeside_0 rfl rfl ?_
  refine z_aloadR_n (i := 0) dX1_numberBeside_1 rfl rfl ?_
  refine z_iload_n (i := 1) dX1_numberBeside_2 rfl rfl ?_
  refine z_callVi (k' := M_X1_cellOf) (As := [zI x1]) (st := [zR (a + 2)]) dX1_numberBeside_3 rfl (rl2 ha) (by decide) rfl (rlt2 ha) wm_X1_41 ok_X1_cellOf okV_X1_cellOf rfl (zroom_self (by decide) (by decide)) (Nat.le_of_ble_eq_true rfl) (Nat.le_refl _) rfl (Ev_mono h (fun v1 d1 h => ?_))
  refine z_iload_n (i := 2) dX1_numberBeside_6 rfl rfl ?_
  refine z_callSN (k' := M_X8_beside) (As := [zI v1, zI x2]) (st := [zR (a + 2)]) dX1_numberBeside_7 rfl wm_X1_45 ok_X8_beside okS_X8_beside rfl (zroom_self (by decide) (by decide)) (Nat.le_of_ble_eq_true rfl) (Nat.le_refl _) (zEnd_i (Nat.le_refl _) rfl (fun _ _ q => q)) (Ev_mono h (fun v2 d2 h => ?_))
  refine z_callVi (k' := M_X1_numberOf) (As := [zI v2]) (st := []) dX1_numberBeside_10 rfl (rl2 ha) (by decide) rfl (rlt2 ha) wm_X1_49 ok_X1_numberOf okV_X1_numberOf rfl (zroom_self (by decide) (by decide)) (Nat.le_of_ble_eq_true rfl) (Nat.le_refl _) rfl (Ev_mono h (fun v3 d3 h => ?_))
  exact zret_i rfl dX1_numberBeside_13 h
theorem e_X1_numberBeside {g : zGG} {Q : Int → zMem → Prop} {d : zMem} {a : Nat} {x1 : Int} {x2 : Int} (ha : isRiv a) (h : Ev g M_X1_cellOf FUL FUL [zR (a + 2), zI x1] d (fun v1 d1 => Ev g M_X8_beside FUL FUL [zI v1, zI x2] d1 (fun v2 d2 => Ev g M_X1_numberOf FUL FUL [zR (a + 2), zI v2] d2 (fun v3 d3 => Q v3 d3)))) : Ev g M_X1_numberBeside FUL FUL [zR (a + 2), zI x1, zI x2] d Q :=
  Ev_of (by decide +kernel) (Nat.le_of_ble_eq_true rfl) (v_X1_numberBeside_0 ha h)
set_option maxRecDepth 20000 in
theorem v_X1_nextBeside_0 {g : zGG} {Q : Int → zMem → Prop} {d : zMem} {a : Nat} {x1 : Int} {x2 : Int} (ha : isRiv a)  (h : (Fr g (eM g M_X1_nextBeside FUL FUL Q) M_X1_nextBeside FUL 5 [some (zR (a + 2)), some (zI x1), some (zI x2), some (zI (-1)), some (zI 0), none] [] d)) : Fr g (eM g M_X1_nextBeside FUL FUL Q) M_X1_nextBeside FUL 0 [some (zR (a + 2)), some (zI x1), some (zI x2), none, none, none] [] d := by
  refine z_iconst dX1_nextBeside_0 ?_
  refine z_istore_n (i := 3) (ls2 := [some (zR (a + 2)), some (zI x1), some (zI x2), some (zI (-1)), none, none]) dX1_nextBeside_1 rfl (by decide) rfl ?_
  refine z_iconst dX1_nextBeside_2 ?_
  refine z_istore (i := 4) (ls2 := [some (zR (a + 2)), some (zI x1), some (zI x2), some (zI (-1)), some (zI 0), none]) dX1_nextBeside_3 (by decide) rfl ?_
  exact h
theorem e_X1_nextBeside {g : zGG} {Q : Int → zMem → Prop} {d : zMem} {a : Nat} {x1 : Int} {x2 : Int} (ha : isRiv a) (h : (Fr g (eM g M_X1_nextBeside FUL FUL Q) M_X1_nextBeside FUL 5 [some (zR (a + 2)), some (zI x1), some (zI x2), some (zI (-1)), some (zI 0), none] [] d)) : Ev g M_X1_nextBeside FUL FUL [zR (a + 2), zI x1, zI x2] d Q :=
  Ev_of (by decide +kernel) (Nat.le_of_ble_eq_true rfl) (v_X1_nextBeside_0 ha h)
set_option maxRecDepth 20000 in
theorem v_X1_nextBeside_5 {g : zGG} {Q : Int → zMem → Prop} {d : zMem} {a : Nat} {x1 : Int} {x2 : Int} (ha : isRiv a) {x3 : Int} {x4 : Int} (h : ((inR x4) ∧ (4 ≤ x4 → Q x3 d) ∧ (x4 < 4 → Ev g M_X1_numberBeside FUL FUL [zR (a + 2), zI x1, zI x4] d (fun v1 d1 => ((inR v1 ∧ inR x2) ∧ (v1 ≤ x2 → (Fr g (eM g M_X1_nextBeside FUL FUL Q) M_X1_nextBeside FUL 5 [some (zR (a + 2)), some (zI x1), some (zI x2), some (zI x3), some (zI (x4 + 1)), none] [] d1)) ∧ (x2 < v1 → ((inR x3) ∧ (x3 = (-1) → (Fr g (eM g M_X1_nextBeside FUL FUL Q) M_X1_nextBeside FUL 5 [some (zR (a + 2)), some (zI x1), some (zI x2), some (zI v1), some (zI (x4 + 1)), none] [] d1)) ∧ (x3 ≠ (-1) → ((inR v1 ∧ inR x3) ∧ (x3 ≤ v1 → (Fr g (eM g M_X1_nextBeside FUL FUL Q) M_X1_nextBeside FUL 5 [some (zR (a + 2)), some (zI x1), some (zI x2), some (zI x3), some (zI (x4 + 1)), none] [] d1)) ∧ (v1 < x3 → (Fr g (eM g M_X1_nextBeside FUL FUL Q) M_X1_nextBeside FUL 5 [some (zR (a + 2)), some (zI x1), some (zI x2), some (zI v1), some (zI (x4 + 1)), none] [] d1))))))))))) : Fr g (eM g M_X1_nextBeside FUL FUL Q) M_X1_nextBeside FUL 5 [some (zR (a + 2)), some (zI x1), some (zI x2), some (zI x3), some (zI x4), none] [] d := by
  refine z_iload (i := 4) dX1_nextBeside_5 rfl ?_
  refine z_iconst dX1_nextBeside_7 ?_
  refine zb_icmp_ge (tgt := 46) dX1_nextBeside_8 (by decide) ⟨h.1, by decide⟩ ⟨fun c => ?_, fun c => ?_⟩
  · replace h := h.2.1 c
    refine z_iload_n (i := 3) dX1_nextBeside_46 rfl rfl ?_
    exact zret_i rfl dX1_nextBeside_47 h
  · replace h := h.2.2 c
    refine z_aloadR_n (i := 0) dX1_nextBeside_11 rfl rfl ?_
    refine z_iload_n (i := 1) dX1_nextBeside_12 rfl rfl ?_
    refine z_iload (i := 4) dX1_nextBeside_13 rfl ?_
    refine z_callVi (k' := M_X1_numberBeside) (As := [zI x1, zI x4]) (st := []) dX1_nextBeside_15 rfl (rl2 ha) (by decide) rfl (rlt2 ha) wm_X1_52 ok_X1_numberBeside okV_X1_numberBeside rfl (zroom_self (by decide) (by decide)) (Nat.le_of_ble_eq_true rfl) (Nat.le_refl _) rfl (Ev_mono h (fun v1 d1 h => ?_))
    refine z_istore (i := 5) (ls2 := [some (zR (a + 2)), some (zI x1), some (zI x2), some (zI x3), some (zI x4), some (zI v1)]) dX1_nextBeside_18 (by decide) rfl ?_
    refine z_iload (i := 5) dX1_nextBeside_20 rfl ?_
    refine z_iload_n (i := 2) dX1_nextBeside_22 rfl rfl ?_
    refine zb_icmp_le (tgt := 40) dX1_nextBeside_23 (by decide) h.1 ⟨fun c => ?_, fun c => ?_⟩
    · replace h := h.2.1 c
      refine z_iinc (i := 4) (ls2 := [some (zR (a + 2)), some (zI x1), some (zI x2), some (zI x3), some (zI (x4 + 1)), some (zI v1)]) dX1_nextBeside_40 (by decide) rfl rfl ?_
      refine z_goto (tgt := 5) dX1_nextBeside_43 (by decide) ?_
      exact Fr_weak (ls2 := [some (zR (a + 2)), some (zI x1), some (zI x2), some (zI x3), some (zI (x4 + 1)), none]) (by exact ⟨Or.inr rfl, Or.inr rfl, Or.inr rfl, Or.inr rfl, Or.inr rfl, Or.inl rfl, trivial⟩) h
    · replace h := h.2.2 c
      refine z_iload_n (i := 3) dX1_nextBeside_26 rfl rfl ?_
      refine z_iconst dX1_nextBeside_27 ?_
      refine zb_icmp_eq (tgt := 37) dX1_nextBeside_28 (by decide) ⟨h.1, by decide⟩ ⟨fun c => ?_, fun c => ?_⟩
      · replace h := h.2.1 c
        refine z_iload (i := 5) dX1_nextBeside_37 rfl ?_
        refine z_istore_n (i := 3) (ls2 := [some (zR (a + 2)), some (zI x1), some (zI x2), some (zI v1), some (zI x4), some (zI v1)]) dX1_nextBeside_39 rfl (by decide) rfl ?_
        refine z_iinc (i := 4) (ls2 := [some (zR (a + 2)), some (zI x1), some (zI x2), some (zI v1), some (zI (x4 + 1)), some (zI v1)]) dX1_nextBeside_40 (by decide) rfl rfl ?_
        refine z_goto (tgt := 5) dX1_nextBeside_43 (by decide) ?_
        exact Fr_weak (ls2 := [some (zR (a + 2)), some (zI x1), some (zI x2), some (zI v1), some (zI (x4 + 1)), none]) (by exact ⟨Or.inr rfl, Or.inr rfl, Or.inr rfl, Or.inr rfl, Or.inr rfl, Or.inl rfl, trivial⟩) h
      · replace h := h.2.2 c
        refine z_iload (i := 5) dX1_nextBeside_31 rfl ?_
        refine z_iload_n (i := 3) dX1_nextBeside_33 rfl rfl ?_
        refine zb_icmp_ge (tgt := 40) dX1_nextBeside_34 (by decide) h.1 ⟨fun c => ?_, fun c => ?_⟩
        · replace h := h.2.1 c
          refine z_iinc (i := 4) (ls2 := [some (zR (a + 2)), some (zI x1), some (zI x2), some (zI x3), some (zI (x4 + 1)), some (zI v1)]) dX1_nextBeside_40 (by decide) rfl rfl ?_
          refine z_goto (tgt := 5) dX1_nextBeside_43 (by decide) ?_
          exact Fr_weak (ls2 := [some (zR (a + 2)), some (zI x1), some (zI x2), some (zI x3), some (zI (x4 + 1)), none]) (by exact ⟨Or.inr rfl, Or.inr rfl, Or.inr rfl, Or.inr rfl, Or.inr rfl, Or.inl rfl, trivial⟩) h
        · replace h := h.2.2 c
          refine z_iload (i := 5) dX1_nextBeside_37 rfl ?_
          refine z_istore_n (i := 3) (ls2 := [some (zR (a + 2)), some (zI x1), some (zI x2), some (zI v1), some (zI x4), some (zI v1)]) dX1_nextBeside_39 rfl (by decide) rfl ?_
          refine z_iinc (i := 4) (ls2 := [some (zR (a + 2)), some (zI x1), some (zI x2), some (zI v1), some (zI (x4 + 1)), some (zI v1)]) dX1_nextBeside_40 (by decide) rfl rfl ?_
          refine z_goto (tgt := 5) dX1_nextBeside_43 (by decide) ?_
          exact Fr_weak (ls2 := [some (zR (a + 2)), some (zI x1), some (zI x2), some (zI v1), some (zI (x4 + 1)), none]) (by exact ⟨Or.inr rfl, Or.inr rfl, Or.inr rfl, Or.inr rfl, Or.inr rfl, Or.inl rfl, trivial⟩) h
set_option maxRecDepth 20000 in
theorem v_X1_wayFrom_0 {g : zGG} {Q : Int → zMem → Prop} {d : zMem} {a : Nat} {x1 : Int} (ha : isRiv a)  (h : Ev g M_X1_cellOf FUL FUL [zR (a + 2), zI x1] d (fun v1 d1 => Ev g M_X1_cellOf FUL FUL [zR (a + 2), zI (x1 + 1)] d1 (fun v2 d2 => ((inR v1) ∧ (v1 = (-1) → Q (-1) d2) ∧ (v1 ≠ (-1) → ((inR v2) ∧ (v2 ≠ (-1) → ((inR (v2 - v1)) ∧ (((v2 - v1) ≠ -1 ∧ (v2 - v1) ≠ 1 ∧ (v2 - v1) ≠ 20) → Q 3 d2) ∧ ((v2 - v1) = -1 → Q 2 d2) ∧ ((v2 - v1) = 1 → Q 0 d2) ∧ ((v2 - v1) = 20 → Q 1 d2))) ∧ (v2 = (-1) → Q (-1) d2))))))) : Fr g (eM g M_X1_wayFrom FUL FUL Q) M_X1_wayFrom FUL 0 [some (zR (a + 2)), some (zI x1), none, none] [] d := by
  refine z_aloadR_n (i := 0) dX1_wayFrom_0 rfl rfl ?_
  refine z_iload_n (i := 1) dX1_wayFrom_1 rfl rfl ?_
  refine z_callVi (k' := M_X1_cellOf) (As := [zI x1]) (st := []) dX1_wayFrom_2 rfl (rl2 ha) (by decide) rfl (rlt2 ha) wm_X1_41 ok_X1_cellOf okV_X1_cellOf rfl (zroom_self (by decide) (by decide)) (Nat.le_of_ble_eq_true rfl) (Nat.le_refl _) rfl (Ev_mono h (fun v1 d1 h => ?_))
  refine z_istore_n (i := 2) (ls2 := [some (zR (a + 2)), some (zI x1), some (zI v1), none]) dX1_wayFrom_5 rfl (by decide) rfl ?_
  refine z_aloadR_n (i := 0) dX1_wayFrom_6 rfl rfl ?_
  refine z_iload_n (i := 1) dX1_wayFrom_7 rfl rfl ?_
  refine z_iconst dX1_wayFrom_8 ?_
  refine z_iadd dX1_wayFrom_9 ?_
  refine z_callVi (k' := M_X1_cellOf) (As := [zI (x1 + 1)]) (st := []) dX1_wayFrom_10 rfl (rl2 ha) (by decide) rfl (rlt2 ha) wm_X1_41 ok_X1_cellOf okV_X1_cellOf rfl (zroom_self (by decide) (by decide)) (Nat.le_of_ble_eq_true rfl) (Nat.le_refl _) rfl (Ev_mono h (fun v2 d2 h => ?_))
  refine z_istore_n (i := 3) (ls2 := [some (zR (a + 2)), some (zI x1), some (zI v1), some (zI v2)]) dX1_wayFrom_13 rfl (by decide) rfl ?_
  refine z_iload_n (i := 2) dX1_wayFrom_14 rfl rfl ?_
  refine z_iconst dX1_wayFrom_15 ?_
  refine zb_icmp_eq (tgt := 24) dX1_wayFrom_16 (by decide) ⟨h.1, by decide⟩ ⟨fun c => ?_, fun c => ?_⟩
  · replace h := h.2.1 c
    refine z_iconst dX1_wayFrom_24 ?_
    exact zret_i rfl dX1_wayFrom_25 h
  · replace h := h.2.2 c
    refine z_iload_n (i := 3) dX1_wayFrom_19 rfl rfl ?_
    refine z_iconst dX1_wayFrom_20 ?_
    refine zb_icmp_ne (tgt := 26) dX1_wayFrom_21 (by decide) ⟨h.1, by decide⟩ ⟨fun c => ?_, fun c => ?_⟩
    · replace h := h.2.1 c
      refine z_iload_n (i := 3) dX1_wayFrom_26 rfl rfl ?_
      refine z_iload_n (i := 2) dX1_wayFrom_27 rfl rfl ?_
      refine z_isub dX1_wayFrom_28 ?_
      have hr := h.1
      rcases (show ((v2 - v1) ≠ -1 ∧ (v2 - v1) ≠ 1 ∧ (v2 - v1) ≠ 20) ∨ (v2 - v1) = -1 ∨ (v2 - v1) = 1 ∨ (v2 - v1) = 20 by omega) with c | c | c | c
      · replace h := h.2.1 c
        refine z_lk (off := 41) (tgt := 70) dX1_wayFrom_29 (by decide +kernel) hr (by rw [Op.lookupswitch.offset_cons, if_neg (by omega), Op.lookupswitch.offset_cons, if_neg (by omega), Op.lookupswitch.offset_cons, if_neg (by omega)] <;> rfl) (by decide) ?_
        refine z_iconst dX1_wayFrom_70 ?_
        exact zret_i rfl dX1_wayFrom_71 h
      · replace h := h.2.2.1 c
        refine z_lk (off := 39) (tgt := 68) dX1_wayFrom_29 (by decide +kernel) hr (by rw [c]; decide +kernel) (by decide) ?_
        refine z_iconst dX1_wayFrom_68 ?_
        exact zret_i rfl dX1_wayFrom_69 h
      · replace h := h.2.2.2.1 c
        refine z_lk (off := 35) (tgt := 64) dX1_wayFrom_29 (by decide +kernel) hr (by rw [c]; decide +kernel) (by decide) ?_
        refine z_iconst dX1_wayFrom_64 ?_
        exact zret_i rfl dX1_wayFrom_65 h
      · replace h := h.2.2.2.2 c
        refine z_lk (off := 37) (tgt := 66) dX1_wayFrom_29 (by decide +kernel) hr (by rw [c]; decide +kernel) (by decide) ?_
        refine z_iconst dX1_wayFrom_66 ?_
        exact zret_i rfl dX1_wayFrom_67 h
    · replace h := h.2.2 c
      refine z_iconst dX1_wayFrom_24 ?_
      exact zret_i rfl dX1_wayFrom_25 h
theorem e_X1_wayFrom {g : zGG} {Q : Int → zMem → Prop} {d : zMem} {a : Nat} {x1 : Int} (ha : isRiv a) (h : Ev g M_X1_cellOf FUL FUL [zR (a + 2), zI x1] d (fun v1 d1 => Ev g M_X1_cellOf FUL FUL [zR (a + 2), zI (x1 + 1)] d1 (fun v2 d2 => ((inR v1) ∧ (v1 = (-1) → Q (-1) d2) ∧ (v1 ≠ (-1) → ((inR v2) ∧ (v2 ≠ (-1) → ((inR (v2 - v1)) ∧ (((v2 - v1) ≠ -1 ∧ (v2 - v1) ≠ 1 ∧ (v2 - v1) ≠ 20) → Q 3 d2) ∧ ((v2 - v1) = -1 → Q 2 d2) ∧ ((v2 - v1) = 1 → Q 0 d2) ∧ ((v2 - v1) = 20 → Q 1 d2))) ∧ (v2 = (-1) → Q (-1) d2))))))) : Ev g M_X1_wayFrom FUL FUL [zR (a + 2), zI x1] d Q :=
  Ev_of (by decide +kernel) (Nat.le_of_ble_eq_true rfl) (v_X1_wayFrom_0 ha h)
set_option maxRecDepth 20000 in
theorem v_X1_winding_0 {g : zGG} {Q : Int → zMem → Prop} {d : zMem} {a : Nat} (ha : isRiv a)  (h : Ev g M_X1_cellOf FUL FUL [zR (a + 2), zI 0] d (fun v1 d1 => Ev g M_X1_cellOf FUL FUL [zR (a + 2), zI ((d1 (a + 2) 2) - 1)] d1 (fun v2 d2 => (0 ≤ v2 ∧ inR v2) ∧ (0 ≤ v1 ∧ inR v1) ∧ (inR ((v2 % 20) - (v1 % 20))) ∧ (0 ≤ v2 ∧ inR v2) ∧ (0 ≤ v1 ∧ inR v1) ∧ (inR ((v2 / 20) - (v1 / 20))) ∧ ((inR ((if 0 ≤ ((v2 % 20) - (v1 % 20)) then ((v2 % 20) - (v1 % 20)) else -((v2 % 20) - (v1 % 20))) + (if 0 ≤ ((v2 / 20) - (v1 / 20)) then ((v2 / 20) - (v1 / 20)) else -((v2 / 20) - (v1 / 20))))) ∧ (((if 0 ≤ ((v2 % 20) - (v1 % 20)) then ((v2 % 20) - (v1 % 20)) else -((v2 % 20) - (v1 % 20))) + (if 0 ≤ ((v2 / 20) - (v1 / 20)) then ((v2 / 20) - (v1 / 20)) else -((v2 / 20) - (v1 / 20)))) ≠ 0 → (0 ≤ (1000 * ((d2 (a + 2) 2) - 1)) ∧ inR (1000 * ((d2 (a + 2) 2) - 1)) ∧ 0 < ((if 0 ≤ ((v2 % 20) - (v1 % 20)) then ((v2 % 20) - (v1 % 20)) else -((v2 % 20) - (v1 % 20))) + (if 0 ≤ ((v2 / 20) - (v1 / 20)) then ((v2 / 20) - (v1 / 20)) else -((v2 / 20) - (v1 / 20)))) ∧ inR ((if 0 ≤ ((v2 % 20) - (v1 % 20)) then ((v2 % 20) - (v1 % 20)) else -((v2 % 20) - (v1 % 20))) + (if 0 ≤ ((v2 / 20) - (v1 / 20)) then ((v2 / 20) - (v1 / 20)) else -((v2 / 20) - (v1 / 20))))) ∧ Q ((1000 * ((d2 (a + 2) 2) - 1)) / ((if 0 ≤ ((v2 % 20) - (v1 % 20)) then ((v2 % 20) - (v1 % 20)) else -((v2 % 20) - (v1 % 20))) + (if 0 ≤ ((v2 / 20) - (v1 / 20)) then ((v2 / 20) - (v1 / 20)) else -((v2 / 20) - (v1 / 20))))) d2) ∧ (((if 0 ≤ ((v2 % 20) - (v1 % 20)) then ((v2 % 20) - (v1 % 20)) else -((v2 % 20) - (v1 % 20))) + (if 0 ≤ ((v2 / 20) - (v1 / 20)) then ((v2 / 20) - (v1 / 20)) else -((v2 / 20) - (v1 / 20)))) = 0 → Q (-6) d2))))) : Fr g (eM g M_X1_winding FUL FUL Q) M_X1_winding FUL 0 [some (zR (a + 2)), none, none, none] [] d := by
  refine z_aloadR_n (i := 0) dX1_winding_0 rfl rfl ?_
  refine z_iconst dX1_winding_1 ?_
  refine z_callVi (k' := M_X1_cellOf) (As := [zI 0]) (st := []) dX1_winding_2 rfl (rl2 ha) (by decide) rfl (rlt2 ha) wm_X1_41 ok_X1_cellOf okV_X1_cellOf rfl (zroom_self (by decide) (by decide)) (Nat.le_of_ble_eq_true rfl) (Nat.le_refl _) rfl (Ev_mono h (fun v1 d1 h => ?_))
  refine z_istore_n (i := 1) (ls2 := [some (zR (a + 2)), some (zI v1), none, none]) dX1_winding_5 rfl (by decide) rfl ?_
  refine z_aloadR_n (i := 0) dX1_winding_6 rfl rfl ?_
  refine z_aloadR_n (i := 0) dX1_winding_7 rfl rfl ?_
  refine z_getI' 1 2 (idx := 21) (fv := (d1 (a + 2) 2)) (rl2 ha) (by decide) (by decide) rfl (rlt2 ha) wf_X1_21 dX1_winding_8 rfl ?_
  refine z_iconst dX1_winding_11 ?_
  refine z_isub dX1_winding_12 ?_
  refine z_callVi (k' := M_X1_cellOf) (As := [zI ((d1 (a + 2) 2) - 1)]) (st := []) dX1_winding_13 rfl (rl2 ha) (by decide) rfl (rlt2 ha) wm_X1_41 ok_X1_cellOf okV_X1_cellOf rfl (zroom_self (by decide) (by decide)) (Nat.le_of_ble_eq_true rfl) (Nat.le_refl _) rfl (Ev_mono h (fun v2 d2 h => ?_))
  refine z_istore_n (i := 2) (ls2 := [some (zR (a + 2)), some (zI v1), some (zI v2), none]) dX1_winding_16 rfl (by decide) rfl ?_
  refine z_iload_n (i := 2) dX1_winding_17 rfl rfl ?_
  refine z_bipush dX1_winding_18 (by decide +kernel) ?_
  refine z_irem dX1_winding_20 ⟨h.1.1, h.1.2, by decide, by decide⟩ ?_
  replace h := h.2
  refine z_iload_n (i := 1) dX1_winding_21 rfl rfl ?_
  refine z_bipush dX1_winding_22 (by decide +kernel) ?_
  refine z_irem dX1_winding_24 ⟨h.1.1, h.1.2, by decide, by decide⟩ ?_
  replace h := h.2
  refine z_isub dX1_winding_25 ?_
  refine z_abs h.1 dX1_winding_26 wm_X1_55 wMs_abs wMi wMc_abs ⟨Nat.le_of_ble_eq_true rfl, Nat.le_of_ble_eq_true rfl, Nat.le_refl _, Nat.le_refl _⟩ ?_
  replace h := h.2
  refine z_iload_n (i := 2) dX1_winding_29 rfl rfl ?_
  refine z_bipush dX1_winding_30 (by decide +kernel) ?_
  refine z_idiv dX1_winding_32 ⟨h.1.1, h.1.2, by decide, by decide⟩ ?_
  replace h := h.2
  refine z_iload_n (i := 1) dX1_winding_33 rfl rfl ?_
  refine z_bipush dX1_winding_34 (by decide +kernel) ?_
  refine z_idiv dX1_winding_36 ⟨h.1.1, h.1.2, by decide, by decide⟩ ?_
  replace h := h.2
  refine z_isub dX1_winding_37 ?_
  refine z_abs h.1 dX1_winding_38 wm_X1_55 wMs_abs wMi wMc_abs ⟨Nat.le_of_ble_eq_true rfl, Nat.le_of_ble_eq_true rfl, Nat.le_refl _, Nat.le_refl _⟩ ?_
  replace h := h.2
  refine z_iadd dX1_winding_41 ?_
  refine z_istore_n (i := 3) (ls2 := [some (zR (a + 2)), some (zI v1), some (zI v2), some (zI ((if 0 ≤ ((v2 % 20) - (v1 % 20)) then ((v2 % 20) - (v1 % 20)) else -((v2 % 20) - (v1 % 20))) + (if 0 ≤ ((v2 / 20) - (v1 / 20)) then ((v2 / 20) - (v1 / 20)) else -((v2 / 20) - (v1 / 20)))))]) dX1_winding_42 rfl (by decide) rfl ?_
  refine z_iload_n (i := 3) dX1_winding_43 rfl rfl ?_
  refine zb_if_ne (tgt := 52) dX1_winding_44 (by decide) h.1 ⟨fun c => ?_, fun c => ?_⟩
  · replace h := h.2.1 c
    refine z_sipush dX1_winding_52 (by decide +kernel) ?_
    refine z_aloadR_n (i := 0) dX1_winding_55 rfl rfl ?_
    refine z_getI' 1 2 (idx := 21) (fv := (d2 (a + 2) 2)) (rl2 ha) (by decide) (by decide) rfl (rlt2 ha) wf_X1_21 dX1_winding_56 rfl ?_
    refine z_iconst dX1_winding_59 ?_
    refine z_isub dX1_winding_60 ?_
    refine z_imul dX1_winding_61 ?_
    refine z_iload_n (i := 3) dX1_winding_62 rfl rfl ?_
    refine z_idiv dX1_winding_63 h.1 ?_
    replace h := h.2
    exact zret_i rfl dX1_winding_64 h
  · replace h := h.2.2 c
    refine z_bipush dX1_winding_47 (by decide +kernel) ?_
    refine z_goto (tgt := 64) dX1_winding_49 (by decide) ?_
    exact zret_i rfl dX1_winding_64 h
theorem e_X1_winding {g : zGG} {Q : Int → zMem → Prop} {d : zMem} {a : Nat} (ha : isRiv a) (h : Ev g M_X1_cellOf FUL FUL [zR (a + 2), zI 0] d (fun v1 d1 => Ev g M_X1_cellOf FUL FUL [zR (a + 2), zI ((d1 (a + 2) 2) - 1)] d1 (fun v2 d2 => (0 ≤ v2 ∧ inR v2) ∧ (0 ≤ v1 ∧ inR v1) ∧ (inR ((v2 % 20) - (v1 % 20))) ∧ (0 ≤ v2 ∧ inR v2) ∧ (0 ≤ v1 ∧ inR v1) ∧ (inR ((v2 / 20) - (v1 / 20))) ∧ ((inR ((if 0 ≤ ((v2 % 20) - (v1 % 20)) then ((v2 % 20) - (v1 % 20)) else -((v2 % 20) - (v1 % 20))) + (if 0 ≤ ((v2 / 20) - (v1 / 20)) then ((v2 / 20) - (v1 / 20)) else -((v2 / 20) - (v1 / 20))))) ∧ (((if 0 ≤ ((v2 % 20) - (v1 % 20)) then ((v2 % 20) - (v1 % 20)) else -((v2 % 20) - (v1 % 20))) + (if 0 ≤ ((v2 / 20) - (v1 / 20)) then ((v2 / 20) - (v1 / 20)) else -((v2 / 20) - (v1 / 20)))) ≠ 0 → (0 ≤ (1000 * ((d2 (a + 2) 2) - 1)) ∧ inR (1000 * ((d2 (a + 2) 2) - 1)) ∧ 0 < ((if 0 ≤ ((v2 % 20) - (v1 % 20)) then ((v2 % 20) - (v1 % 20)) else -((v2 % 20) - (v1 % 20))) + (if 0 ≤ ((v2 / 20) - (v1 / 20)) then ((v2 / 20) - (v1 / 20)) else -((v2 / 20) - (v1 / 20)))) ∧ inR ((if 0 ≤ ((v2 % 20) - (v1 % 20)) then ((v2 % 20) - (v1 % 20)) else -((v2 % 20) - (v1 % 20))) + (if 0 ≤ ((v2 / 20) - (v1 / 20)) then ((v2 / 20) - (v1 / 20)) else -((v2 / 20) - (v1 / 20))))) ∧ Q ((1000 * ((d2 (a + 2) 2) - 1)) / ((if 0 ≤ ((v2 % 20) - (v1 % 20)) then ((v2 % 20) - (v1 % 20)) else -((v2 % 20) - (v1 % 20))) + (if 0 ≤ ((v2 / 20) - (v1 / 20)) then ((v2 / 20) - (v1 / 20)) else -((v2 / 20) - (v1 / 20))))) d2) ∧ (((if 0 ≤ ((v2 % 20) - (v1 % 20)) then ((v2 % 20) - (v1 % 20)) else -((v2 % 20) - (v1 % 20))) + (if 0 ≤ ((v2 / 20) - (v1 / 20)) then ((v2 / 20) - (v1 / 20)) else -((v2 / 20) - (v1 / 20)))) = 0 → Q (-6) d2))))) : Ev g M_X1_winding FUL FUL [zR (a + 2)] d Q :=
  Ev_of (by decide +kernel) (Nat.le_of_ble_eq_true rfl) (v_X1_winding_0 ha h)
set_option maxRecDepth 20000 in
theorem v_X1_bulge_0 {g : zGG} {Q : Int → zMem → Prop} {d : zMem} {a : Nat} {x1 : Int} {x2 : Int} {x3 : Int} (ha : isRiv a)  (h : ((inR x1) ∧ (x1 < 0 → Q 0 d) ∧ (0 ≤ x1 → ((inR x2 ∧ inR x1) ∧ (x2 ≤ x1 → Q 0 d) ∧ (x1 < x2 → ((inR x2 ∧ inR (d (a + 2) 2)) ∧ ((d (a + 2) 2) ≤ x2 → Q 0 d) ∧ (x2 < (d (a + 2) 2) → ((inR ((d (a + 2) 2) + 2)) ∧ (((d (a + 2) 2) + 2) ≤ 150 → Ev g M_X1_leaveBetween FUL FUL [zR (a + 2), zI x1, zI x2] d (fun _ d1 => (Fr g (eM g M_X1_bulge FUL FUL Q) M_X1_bulge FUL 44 [some (zR (a + 2)), some (zI x1), some (zI x2), some (zI x3), some (zI ((d1 (a + 2) 2) - 1))] [] d1))) ∧ (150 < ((d (a + 2) 2) + 2) → Q 0 d))))))))) : Fr g (eM g M_X1_bulge FUL FUL Q) M_X1_bulge FUL 0 [some (zR (a + 2)), some (zI x1), some (zI x2), some (zI x3), none] [] d := by
  refine z_iload_n (i := 1) dX1_bulge_0 rfl rfl ?_
  refine zb_if_lt (tgt := 29) dX1_bulge_1 (by decide) h.1 ⟨fun c => ?_, fun c => ?_⟩
  · replace h := h.2.1 c
    exact zret_v rfl dX1_bulge_29 h
  · replace h := h.2.2 c
    refine z_iload_n (i := 2) dX1_bulge_4 rfl rfl ?_
    refine z_iload_n (i := 1) dX1_bulge_5 rfl rfl ?_
    refine zb_icmp_le (tgt := 29) dX1_bulge_6 (by decide) h.1 ⟨fun c => ?_, fun c => ?_⟩
    · replace h := h.2.1 c
      exact zret_v rfl dX1_bulge_29 h
    · replace h := h.2.2 c
      refine z_iload_n (i := 2) dX1_bulge_9 rfl rfl ?_
      refine z_aloadR_n (i := 0) dX1_bulge_10 rfl rfl ?_
      refine z_getI' 1 2 (idx := 21) (fv := (d (a + 2) 2)) (rl2 ha) (by decide) (by decide) rfl (rlt2 ha) wf_X1_21 dX1_bulge_11 rfl ?_
      refine zb_icmp_ge (tgt := 29) dX1_bulge_14 (by decide) h.1 ⟨fun c => ?_, fun c => ?_⟩
      · replace h := h.2.1 c
        exact zret_v rfl dX1_bulge_29 h
      · replace h := h.2.2 c
        refine z_aloadR_n (i := 0) dX1_bulge_17 rfl rfl ?_
        refine z_getI' 1 2 (idx := 21) (fv := (d (a + 2) 2)) (rl2 ha) (by decide) (by decide) rfl (rlt2 ha) wf_X1_21 dX1_bulge_18 rfl ?_
        refine z_iconst dX1_bulge_21 ?_
        refine z_iadd dX1_bulge_22 ?_
        refine z_sipush dX1_bulge_23 (by decide +kernel) ?_
        refine zb_icmp_le (tgt := 30) dX1_bulge_26 (by decide) ⟨h.1, by decide⟩ ⟨fun c => ?_, fun c => ?_⟩
        · replace h := h.2.1 c
          refine z_aloadR_n (i := 0) dX1_bulge_30 rfl rfl ?_
          refine z_iload_n (i := 1) dX1_bulge_31 rfl rfl ?_
          refine z_iload_n (i := 2) dX1_bulge_32 rfl rfl ?_
          refine z_callVv (k' := M_X1_leaveBetween) (As := [zI x1, zI x2]) (st := []) dX1_bulge_33 rfl (rl2 ha) (by decide) rfl (rlt2 ha) wm_X1_60 ok_X1_leaveBetween okV_X1_leaveBetween rfl (zroom_self (by decide) (by decide)) (Nat.le_of_ble_eq_true rfl) (Nat.le_refl _) rfl (Ev_mono h (fun _ d1 h => ?_))
          refine z_aloadR_n (i := 0) dX1_bulge_36 rfl rfl ?_
          refine z_getI' 1 2 (idx := 21) (fv := (d1 (a + 2) 2)) (rl2 ha) (by decide) (by decide) rfl (rlt2 ha) wf_X1_21 dX1_bulge_37 rfl ?_
          refine z_iconst dX1_bulge_40 ?_
          refine z_isub dX1_bulge_41 ?_
          refine z_istore (i := 4) (ls2 := [some (zR (a + 2)), some (zI x1), some (zI x2), some (zI x3), some (zI ((d1 (a + 2) 2) - 1))]) dX1_bulge_42 (by decide) rfl ?_
          exact h
        · replace h := h.2.2 c
          exact zret_v rfl dX1_bulge_29 h
theorem e_X1_bulge {g : zGG} {Q : Int → zMem → Prop} {d : zMem} {a : Nat} {x1 : Int} {x2 : Int} {x3 : Int} (ha : isRiv a) (h : ((inR x1) ∧ (x1 < 0 → Q 0 d) ∧ (0 ≤ x1 → ((inR x2 ∧ inR x1) ∧ (x2 ≤ x1 → Q 0 d) ∧ (x1 < x2 → ((inR x2 ∧ inR (d (a + 2) 2)) ∧ ((d (a + 2) 2) ≤ x2 → Q 0 d) ∧ (x2 < (d (a + 2) 2) → ((inR ((d (a + 2) 2) + 2)) ∧ (((d (a + 2) 2) + 2) ≤ 150 → Ev g M_X1_leaveBetween FUL FUL [zR (a + 2), zI x1, zI x2] d (fun _ d1 => (Fr g (eM g M_X1_bulge FUL FUL Q) M_X1_bulge FUL 44 [some (zR (a + 2)), some (zI x1), some (zI x2), some (zI x3), some (zI ((d1 (a + 2) 2) - 1))] [] d1))) ∧ (150 < ((d (a + 2) 2) + 2) → Q 0 d))))))))) : Ev g M_X1_bulge FUL FUL [zR (a + 2), zI x1, zI x2, zI x3] d Q :=
  Ev_of (by decide +kernel) (Nat.le_of_ble_eq_true rfl) (v_X1_bulge_0 ha h)
set_option maxRecDepth 20000 in
theorem v_X1_bulge_44 {g : zGG} {Q : Int → zMem → Prop} {d : zMem} {a : Nat} {x1 : Int} {x2 : Int} {x3 : Int} (ha : isRiv a) {x4 : Int} (h : ((inR x4 ∧ inR x2) ∧ (x4 < x2 → (Fr g (eM g M_X1_bulge FUL FUL Q) M_X1_bulge FUL 75 [some (zR (a + 2)), some (zI x1), some (zI x2), some (zI x3), some (zI x2)] [] d)) ∧ (x2 ≤ x4 → (0 ≤ x4 ∧ x4 < 150) ∧ (0 ≤ (x4 + 2) ∧ (x4 + 2) < 150) ∧ ∀ d1, d1 = mu d (a + 3) (x4 + 2) (d (a + 3) x4) → (Fr g (eM g M_X1_bulge FUL FUL Q) M_X1_bulge FUL 44 [some (zR (a + 2)), some (zI x1), some (zI x2), some (zI x3), some (zI (x4 + (-1)))] [] d1)))) : Fr g (eM g M_X1_bulge FUL FUL Q) M_X1_bulge FUL 44 [some (zR (a + 2)), some (zI x1), some (zI x2), some (zI x3), some (zI x4)] [] d := by
  refine z_iload (i := 4) dX1_bulge_44 rfl ?_
  refine z_iload_n (i := 2) dX1_bulge_46 rfl rfl ?_
  refine zb_icmp_lt (tgt := 72) dX1_bulge_47 (by decide) h.1 ⟨fun c => ?_, fun c => ?_⟩
  · replace h := h.2.1 c
    refine z_iload_n (i := 2) dX1_bulge_72 rfl rfl ?_
    refine z_istore (i := 4) (ls2 := [some (zR (a + 2)), some (zI x1), some (zI x2), some (zI x3), some (zI x2)]) dX1_bulge_73 (by decide) rfl ?_
    exact h
  · replace h := h.2.2 c
    refine z_aloadR_n (i := 0) dX1_bulge_50 rfl rfl ?_
    refine z_getR 1 0 (idx := 9) (rl2 ha) (by decide) (by decide) rfl (rlt2 ha) rfl (rt2_0 ha) wf_X1_9 dX1_bulge_51 ?_
    refine z_iload (i := 4) dX1_bulge_54 rfl ?_
    refine z_iconst dX1_bulge_56 ?_
    refine z_iadd dX1_bulge_57 ?_
    refine z_aloadR_n (i := 0) dX1_bulge_58 rfl rfl ?_
    refine z_getR 1 0 (idx := 9) (rl2 ha) (by decide) (by decide) rfl (rlt2 ha) rfl (rt2_0 ha) wf_X1_9 dX1_bulge_59 ?_
    refine z_iload (i := 4) dX1_bulge_62 rfl ?_
    refine z_iaload' (fv := (d (a + 3) x4)) (rl3 ha) (rlt3 ha) (by decide) dX1_bulge_64 h.1 rfl ?_
    replace h := h.2
    refine z_iastore (rl3 ha) (rlt3 ha) (by decide) dX1_bulge_65 h.1 ?_
    replace h := h.2
    generalize hd1 : mu d (a + 3) (x4 + 2) (d (a + 3) x4) = d1
    replace hd1 := hd1.symm
    replace h := h d1 hd1
    refine z_iinc (i := 4) (ls2 := [some (zR (a + 2)), some (zI x1), some (zI x2), some (zI x3), some (zI (x4 + (-1)))]) dX1_bulge_66 (by decide) rfl rfl ?_
    refine z_goto (tgt := 44) dX1_bulge_69 (by decide) ?_
    exact h
set_option maxRecDepth 20000 in
theorem v_X1_bulge_75 {g : zGG} {Q : Int → zMem → Prop} {d : zMem} {a : Nat} {x1 : Int} {x2 : Int} {x3 : Int} (ha : isRiv a) {x4 : Int} (h : ((inR x4 ∧ inR x1) ∧ (x4 < x1 → ∀ d1, d1 = mu d (a + 2) 2 ((d (a + 2) 2) + 2) → Ev g M_X1_numberAgain FUL FUL [zR (a + 2), zI x1] d1 (fun _ d2 => Q 0 d2)) ∧ (x1 ≤ x4 → (0 ≤ x4 ∧ x4 < 150) ∧ Ev g M_X8_beside FUL FUL [zI (d (a + 3) x4), zI x3] d (fun v1 d3 => (0 ≤ (x4 + 1) ∧ (x4 + 1) < 150) ∧ ∀ d4, d4 = mu d3 (a + 3) (x4 + 1) v1 → (Fr g (eM g M_X1_bulge FUL FUL Q) M_X1_bulge FUL 75 [some (zR (a + 2)), some (zI x1), some (zI x2), some (zI x3), some (zI (x4 + (-1)))] [] d4))))) : Fr g (eM g M_X1_bulge FUL FUL Q) M_X1_bulge FUL 75 [some (zR (a + 2)), some (zI x1), some (zI x2), some (zI x3), some (zI x4)] [] d := by
  refine z_iload (i := 4) dX1_bulge_75 rfl ?_
  refine z_iload_n (i := 1) dX1_bulge_77 rfl rfl ?_
  refine zb_icmp_lt (tgt := 107) dX1_bulge_78 (by decide) h.1 ⟨fun c => ?_, fun c => ?_⟩
  · replace h := h.2.1 c
    refine z_aloadR_n (i := 0) dX1_bulge_107 rfl rfl ?_
    refine z_dup dX1_bulge_108 (Nat.le_of_ble_eq_true rfl) ?_
    refine z_getI' 1 2 (idx := 21) (fv := (d (a + 2) 2)) (rl2 ha) (by decide) (by decide) rfl (rlt2 ha) wf_X1_21 dX1_bulge_109 rfl ?_
    refine z_iconst dX1_bulge_112 ?_
    refine z_iadd dX1_bulge_113 ?_
    refine z_putI 1 2 (idx := 21) (rl2 ha) (by decide) (by decide) rfl (rlt2 ha) rfl wf_X1_21 dX1_bulge_114 (Or.inl rfl) ?_
    generalize hd1 : mu d (a + 2) ((2 : Nat) : Int) ((d (a + 2) 2) + 2) = d1
    replace hd1 : d1 = mu d (a + 2) 2 ((d (a + 2) 2) + 2) := hd1.symm
    replace h := h d1 hd1
    refine z_aloadR_n (i := 0) dX1_bulge_117 rfl rfl ?_
    refine z_iload_n (i := 1) dX1_bulge_118 rfl rfl ?_
    refine z_callVv (k' := M_X1_numberAgain) (As := [zI x1]) (st := []) dX1_bulge_119 rfl (rl2 ha) (by decide) rfl (rlt2 ha) wm_X1_64 ok_X1_numberAgain okV_X1_numberAgain rfl (zroom_self (by decide) (by decide)) (Nat.le_of_ble_eq_true rfl) (Nat.le_refl _) rfl (Ev_mono h (fun _ d2 h => ?_))
    exact zret_v rfl dX1_bulge_122 h
  · replace h := h.2.2 c
    refine z_aloadR_n (i := 0) dX1_bulge_81 rfl rfl ?_
    refine z_getR 1 0 (idx := 9) (rl2 ha) (by decide) (by decide) rfl (rlt2 ha) rfl (rt2_0 ha) wf_X1_9 dX1_bulge_82 ?_
    refine z_iload (i := 4) dX1_bulge_85 rfl ?_
    refine z_iconst dX1_bulge_87 ?_
    refine z_iadd dX1_bulge_88 ?_
    refine z_aloadR_n (i := 0) dX1_bulge_89 rfl rfl ?_
    refine z_getR 1 0 (idx := 9) (rl2 ha) (by decide) (by decide) rfl (rlt2 ha) rfl (rt2_0 ha) wf_X1_9 dX1_bulge_90 ?_
    refine z_iload (i := 4) dX1_bulge_93 rfl ?_
    refine z_iaload' (fv := (d (a + 3) x4)) (rl3 ha) (rlt3 ha) (by decide) dX1_bulge_95 h.1 rfl ?_
    replace h := h.2
    refine z_iload_n (i := 3) dX1_bulge_96 rfl rfl ?_
    refine z_callSN (k' := M_X8_beside) (As := [zI (d (a + 3) x4), zI x3]) (st := [zI (x4 + 1), zR (a + 3)]) dX1_bulge_97 rfl wm_X1_45 ok_X8_beside okS_X8_beside rfl (zroom_self (by decide) (by decide)) (Nat.le_of_ble_eq_true rfl) (Nat.le_refl _) (zEnd_i (Nat.le_refl _) rfl (fun _ _ q => q)) (Ev_mono h (fun v1 d3 h => ?_))
    refine z_iastore (rl3 ha) (rlt3 ha) (by decide) dX1_bulge_100 h.1 ?_
    replace h := h.2
    generalize hd4 : mu d3 (a + 3) (x4 + 1) v1 = d4
    replace hd4 := hd4.symm
    replace h := h d4 hd4
    refine z_iinc (i := 4) (ls2 := [some (zR (a + 2)), some (zI x1), some (zI x2), some (zI x3), some (zI (x4 + (-1)))]) dX1_bulge_101 (by decide) rfl rfl ?_
    refine z_goto (tgt := 75) dX1_bulge_104 (by decide) ?_
    exact h
set_option maxRecDepth 20000 in
theorem v_X1_shorten_0 {g : zGG} {Q : Int → zMem → Prop} {d : zMem} {a : Nat} {x1 : Int} {x2 : Int} (ha : isRiv a)  (h : ((inR x1) ∧ (x1 < 0 → Q 0 d) ∧ (0 ≤ x1 → ((inR x2 ∧ inR x1) ∧ (x2 ≤ x1 → Q 0 d) ∧ (x1 < x2 → ((inR x2 ∧ inR (d (a + 2) 2)) ∧ ((d (a + 2) 2) ≤ x2 → Q 0 d) ∧ (x2 < (d (a + 2) 2) → ((inR (d (a + 2) 2)) ∧ ((d (a + 2) 2) ≤ 150 → Ev g M_X1_leaveBetween FUL FUL [zR (a + 2), zI x1, zI x2] d (fun _ d1 => (Fr g (eM g M_X1_shorten FUL FUL Q) M_X1_shorten FUL 43 [some (zR (a + 2)), some (zI x1), some (zI x2), some (zI ((x2 - x1) - 1)), some (zI x2)] [] d1))) ∧ (150 < (d (a + 2) 2) → Q 0 d))))))))) : Fr g (eM g M_X1_shorten FUL FUL Q) M_X1_shorten FUL 0 [some (zR (a + 2)), some (zI x1), some (zI x2), none, none] [] d := by
  refine z_iload_n (i := 1) dX1_shorten_0 rfl rfl ?_
  refine zb_if_lt (tgt := 27) dX1_shorten_1 (by decide) h.1 ⟨fun c => ?_, fun c => ?_⟩
  · replace h := h.2.1 c
    exact zret_v rfl dX1_shorten_27 h
  · replace h := h.2.2 c
    refine z_iload_n (i := 2) dX1_shorten_4 rfl rfl ?_
    refine z_iload_n (i := 1) dX1_shorten_5 rfl rfl ?_
    refine zb_icmp_le (tgt := 27) dX1_shorten_6 (by decide) h.1 ⟨fun c => ?_, fun c => ?_⟩
    · replace h := h.2.1 c
      exact zret_v rfl dX1_shorten_27 h
    · replace h := h.2.2 c
      refine z_iload_n (i := 2) dX1_shorten_9 rfl rfl ?_
      refine z_aloadR_n (i := 0) dX1_shorten_10 rfl rfl ?_
      refine z_getI' 1 2 (idx := 21) (fv := (d (a + 2) 2)) (rl2 ha) (by decide) (by decide) rfl (rlt2 ha) wf_X1_21 dX1_shorten_11 rfl ?_
      refine zb_icmp_ge (tgt := 27) dX1_shorten_14 (by decide) h.1 ⟨fun c => ?_, fun c => ?_⟩
      · replace h := h.2.1 c
        exact zret_v rfl dX1_shorten_27 h
      · replace h := h.2.2 c
        refine z_aloadR_n (i := 0) dX1_shorten_17 rfl rfl ?_
        refine z_getI' 1 2 (idx := 21) (fv := (d (a + 2) 2)) (rl2 ha) (by decide) (by decide) rfl (rlt2 ha) wf_X1_21 dX1_shorten_18 rfl ?_
        refine z_sipush dX1_shorten_21 (by decide +kernel) ?_
        refine zb_icmp_le (tgt := 28) dX1_shorten_24 (by decide) ⟨h.1, by decide⟩ ⟨fun c => ?_, fun c => ?_⟩
        · replace h := h.2.1 c
          refine z_aloadR_n (i := 0) dX1_shorten_28 rfl rfl ?_
          refine z_iload_n (i := 1) dX1_shorten_29 rfl rfl ?_
          refine z_iload_n (i := 2) dX1_shorten_30 rfl rfl ?_
          refine z_callVv (k' := M_X1_leaveBetween) (As := [zI x1, zI x2]) (st := []) dX1_shorten_31 rfl (rl2 ha) (by decide) rfl (rlt2 ha) wm_X1_60 ok_X1_leaveBetween okV_X1_leaveBetween rfl (zroom_self (by decide) (by decide)) (Nat.le_of_ble_eq_true rfl) (Nat.le_refl _) rfl (Ev_mono h (fun _ d1 h => ?_))
          refine z_iload_n (i := 2) dX1_shorten_34 rfl rfl ?_
          refine z_iload_n (i := 1) dX1_shorten_35 rfl rfl ?_
          refine z_isub dX1_shorten_36 ?_
          refine z_iconst dX1_shorten_37 ?_
          refine z_isub dX1_shorten_38 ?_
          refine z_istore_n (i := 3) (ls2 := [some (zR (a + 2)), some (zI x1), some (zI x2), some (zI ((x2 - x1) - 1)), none]) dX1_shorten_39 rfl (by decide) rfl ?_
          refine z_iload_n (i := 2) dX1_shorten_40 rfl rfl ?_
          refine z_istore (i := 4) (ls2 := [some (zR (a + 2)), some (zI x1), some (zI x2), some (zI ((x2 - x1) - 1)), some (zI x2)]) dX1_shorten_41 (by decide) rfl ?_
          exact h
        · replace h := h.2.2 c
          exact zret_v rfl dX1_shorten_27 h
theorem e_X1_shorten {g : zGG} {Q : Int → zMem → Prop} {d : zMem} {a : Nat} {x1 : Int} {x2 : Int} (ha : isRiv a) (h : ((inR x1) ∧ (x1 < 0 → Q 0 d) ∧ (0 ≤ x1 → ((inR x2 ∧ inR x1) ∧ (x2 ≤ x1 → Q 0 d) ∧ (x1 < x2 → ((inR x2 ∧ inR (d (a + 2) 2)) ∧ ((d (a + 2) 2) ≤ x2 → Q 0 d) ∧ (x2 < (d (a + 2) 2) → ((inR (d (a + 2) 2)) ∧ ((d (a + 2) 2) ≤ 150 → Ev g M_X1_leaveBetween FUL FUL [zR (a + 2), zI x1, zI x2] d (fun _ d1 => (Fr g (eM g M_X1_shorten FUL FUL Q) M_X1_shorten FUL 43 [some (zR (a + 2)), some (zI x1), some (zI x2), some (zI ((x2 - x1) - 1)), some (zI x2)] [] d1))) ∧ (150 < (d (a + 2) 2) → Q 0 d))))))))) : Ev g M_X1_shorten FUL FUL [zR (a + 2), zI x1, zI x2] d Q :=
  Ev_of (by decide +kernel) (Nat.le_of_ble_eq_true rfl) (v_X1_shorten_0 ha h)
set_option maxRecDepth 20000 in
theorem v_X1_shorten_43 {g : zGG} {Q : Int → zMem → Prop} {d : zMem} {a : Nat} {x1 : Int} {x2 : Int} (ha : isRiv a) {x3 : Int} {x4 : Int} (h : ((inR x4 ∧ inR (d (a + 2) 2)) ∧ ((d (a + 2) 2) ≤ x4 → ∀ d1, d1 = mu d (a + 2) 2 ((d (a + 2) 2) - x3) → Ev g M_X1_numberAgain FUL FUL [zR (a + 2), zI x1] d1 (fun _ d2 => Q 0 d2)) ∧ (x4 < (d (a + 2) 2) → (0 ≤ x4 ∧ x4 < 150) ∧ (0 ≤ (x4 - x3) ∧ (x4 - x3) < 150) ∧ ∀ d3, d3 = mu d (a + 3) (x4 - x3) (d (a + 3) x4) → (Fr g (eM g M_X1_shorten FUL FUL Q) M_X1_shorten FUL 43 [some (zR (a + 2)), some (zI x1), some (zI x2), some (zI x3), some (zI (x4 + 1))] [] d3)))) : Fr g (eM g M_X1_shorten FUL FUL Q) M_X1_shorten FUL 43 [some (zR (a + 2)), some (zI x1), some (zI x2), some (zI x3), some (zI x4)] [] d := by
  refine z_iload (i := 4) dX1_shorten_43 rfl ?_
  refine z_aloadR_n (i := 0) dX1_shorten_45 rfl rfl ?_
  refine z_getI' 1 2 (idx := 21) (fv := (d (a + 2) 2)) (rl2 ha) (by decide) (by decide) rfl (rlt2 ha) wf_X1_21 dX1_shorten_46 rfl ?_
  refine zb_icmp_ge (tgt := 74) dX1_shorten_49 (by decide) h.1 ⟨fun c => ?_, fun c => ?_⟩
  · replace h := h.2.1 c
    refine z_aloadR_n (i := 0) dX1_shorten_74 rfl rfl ?_
    refine z_dup dX1_shorten_75 (Nat.le_of_ble_eq_true rfl) ?_
    refine z_getI' 1 2 (idx := 21) (fv := (d (a + 2) 2)) (rl2 ha) (by decide) (by decide) rfl (rlt2 ha) wf_X1_21 dX1_shorten_76 rfl ?_
    refine z_iload_n (i := 3) dX1_shorten_79 rfl rfl ?_
    refine z_isub dX1_shorten_80 ?_
    refine z_putI 1 2 (idx := 21) (rl2 ha) (by decide) (by decide) rfl (rlt2 ha) rfl wf_X1_21 dX1_shorten_81 (Or.inl rfl) ?_
    generalize hd1 : mu d (a + 2) ((2 : Nat) : Int) ((d (a + 2) 2) - x3) = d1
    replace hd1 : d1 = mu d (a + 2) 2 ((d (a + 2) 2) - x3) := hd1.symm
    replace h := h d1 hd1
    refine z_aloadR_n (i := 0) dX1_shorten_84 rfl rfl ?_
    refine z_iload_n (i := 1) dX1_shorten_85 rfl rfl ?_
    refine z_callVv (k' := M_X1_numberAgain) (As := [zI x1]) (st := []) dX1_shorten_86 rfl (rl2 ha) (by decide) rfl (rlt2 ha) wm_X1_64 ok_X1_numberAgain okV_X1_numberAgain rfl (zroom_self (by decide) (by decide)) (Nat.le_of_ble_eq_true rfl) (Nat.le_refl _) rfl (Ev_mono h (fun _ d2 h => ?_))
    exact zret_v rfl dX1_shorten_89 h
  · replace h := h.2.2 c
    refine z_aloadR_n (i := 0) dX1_shorten_52 rfl rfl ?_
    refine z_getR 1 0 (idx := 9) (rl2 ha) (by decide) (by decide) rfl (rlt2 ha) rfl (rt2_0 ha) wf_X1_9 dX1_shorten_53 ?_
    refine z_iload (i := 4) dX1_shorten_56 rfl ?_
    refine z_iload_n (i := 3) dX1_shorten_58 rfl rfl ?_
    refine z_isub dX1_shorten_59 ?_
    refine z_aloadR_n (i := 0) dX1_shorten_60 rfl rfl ?_
    refine z_getR 1 0 (idx := 9) (rl2 ha) (by decide) (by decide) rfl (rlt2 ha) rfl (rt2_0 ha) wf_X1_9 dX1_shorten_61 ?_
    refine z_iload (i := 4) dX1_shorten_64 rfl ?_
    refine z_iaload' (fv := (d (a + 3) x4)) (rl3 ha) (rlt3 ha) (by decide) dX1_shorten_66 h.1 rfl ?_
    replace h := h.2
    refine z_iastore (rl3 ha) (rlt3 ha) (by decide) dX1_shorten_67 h.1 ?_
    replace h := h.2
    generalize hd3 : mu d (a + 3) (x4 - x3) (d (a + 3) x4) = d3
    replace hd3 := hd3.symm
    replace h := h d3 hd3
    refine z_iinc (i := 4) (ls2 := [some (zR (a + 2)), some (zI x1), some (zI x2), some (zI x3), some (zI (x4 + 1))]) dX1_shorten_68 (by decide) rfl rfl ?_
    refine z_goto (tgt := 43) dX1_shorten_71 (by decide) ?_
    exact h
set_option maxRecDepth 20000 in
theorem v_X1_leaveBetween_0 {g : zGG} {Q : Int → zMem → Prop} {d : zMem} {a : Nat} {x1 : Int} {x2 : Int} (ha : isRiv a)  (h : (Fr g (eM g M_X1_leaveBetween FUL FUL Q) M_X1_leaveBetween FUL 4 [some (zR (a + 2)), some (zI x1), some (zI x2), some (zI (x1 + 1)), none] [] d)) : Fr g (eM g M_X1_leaveBetween FUL FUL Q) M_X1_leaveBetween FUL 0 [some (zR (a + 2)), some (zI x1), some (zI x2), none, none] [] d := by
  refine z_iload_n (i := 1) dX1_leaveBetween_0 rfl rfl ?_
  refine z_iconst dX1_leaveBetween_1 ?_
  refine z_iadd dX1_leaveBetween_2 ?_
  refine z_istore_n (i := 3) (ls2 := [some (zR (a + 2)), some (zI x1), some (zI x2), some (zI (x1 + 1)), none]) dX1_leaveBetween_3 rfl (by decide) rfl ?_
  exact h
theorem e_X1_leaveBetween {g : zGG} {Q : Int → zMem → Prop} {d : zMem} {a : Nat} {x1 : Int} {x2 : Int} (ha : isRiv a) (h : (Fr g (eM g M_X1_leaveBetween FUL FUL Q) M_X1_leaveBetween FUL 4 [some (zR (a + 2)), some (zI x1), some (zI x2), some (zI (x1 + 1)), none] [] d)) : Ev g M_X1_leaveBetween FUL FUL [zR (a + 2), zI x1, zI x2] d Q :=
  Ev_of (by decide +kernel) (Nat.le_of_ble_eq_true rfl) (v_X1_leaveBetween_0 ha h)
set_option maxRecDepth 20000 in
theorem v_X1_leaveBetween_4 {g : zGG} {Q : Int → zMem → Prop} {d : zMem} {a : Nat} {x1 : Int} {x2 : Int} (ha : isRiv a) {x3 : Int} (h : ((inR x3 ∧ inR x2) ∧ (x2 ≤ x3 → Q 0 d) ∧ (x3 < x2 → Ev g M_X1_cellOf FUL FUL [zR (a + 2), zI x3] d (fun v1 d1 => Ev g M_X8_isOnLand FUL FUL [zI v1] d1 (fun v2 d2 => ((inR v2) ∧ (v2 = 0 → (Fr g (eM g M_X1_leaveBetween FUL FUL Q) M_X1_leaveBetween FUL 4 [some (zR (a + 2)), some (zI x1), some (zI x2), some (zI (x3 + 1)), none] [] d2)) ∧ (v2 ≠ 0 → (0 ≤ v1 ∧ v1 < 240) ∧ ∀ d3, d3 = mu d2 (a + 4) v1 (-1) → (Fr g (eM g M_X1_leaveBetween FUL FUL Q) M_X1_leaveBetween FUL 4 [some (zR (a + 2)), some (zI x1), some (zI x2), some (zI (x3 + 1)), none] [] d3)))))))) : Fr g (eM g M_X1_leaveBetween FUL FUL Q) M_X1_leaveBetween FUL 4 [some (zR (a + 2)), some (zI x1), some (zI x2), some (zI x3), none] [] d := by
  refine z_iload_n (i := 3) dX1_leaveBetween_4 rfl rfl ?_
  refine z_iload_n (i := 2) dX1_leaveBetween_5 rfl rfl ?_
  refine zb_icmp_ge (tgt := 38) dX1_leaveBetween_6 (by decide) h.1 ⟨fun c => ?_, fun c => ?_⟩
  · replace h := h.2.1 c
    exact zret_v rfl dX1_leaveBetween_38 h
  · replace h := h.2.2 c
    refine z_aloadR_n (i := 0) dX1_leaveBetween_9 rfl rfl ?_
    refine z_iload_n (i := 3) dX1_leaveBetween_10 rfl rfl ?_
    refine z_callVi (k' := M_X1_cellOf) (As := [zI x3]) (st := []) dX1_leaveBetween_11 rfl (rl2 ha) (by decide) rfl (rlt2 ha) wm_X1_41 ok_X1_cellOf okV_X1_cellOf rfl (zroom_self (by decide) (by decide)) (Nat.le_of_ble_eq_true rfl) (Nat.le_refl _) rfl (Ev_mono h (fun v1 d1 h => ?_))
    refine z_istore (i := 4) (ls2 := [some (zR (a + 2)), some (zI x1), some (zI x2), some (zI x3), some (zI v1)]) dX1_leaveBetween_14 (by decide) rfl ?_
    refine z_iload (i := 4) dX1_leaveBetween_16 rfl ?_
    refine z_callSN (k' := M_X8_isOnLand) (As := [zI v1]) (st := []) dX1_leaveBetween_18 rfl wm_X1_37 ok_X8_isOnLand okS_X8_isOnLand rfl (zroom_self (by decide) (by decide)) (Nat.le_of_ble_eq_true rfl) (Nat.le_refl _) (zEnd_i (Nat.le_refl _) rfl (fun _ _ q => q)) (Ev_mono h (fun v2 d2 h => ?_))
    refine zb_if_eq (tgt := 32) dX1_leaveBetween_21 (by decide) h.1 ⟨fun c => ?_, fun c => ?_⟩
    · replace h := h.2.1 c
      refine z_iinc (i := 3) (ls2 := [some (zR (a + 2)), some (zI x1), some (zI x2), some (zI (x3 + 1)), some (zI v1)]) dX1_leaveBetween_32 (by decide) rfl rfl ?_
      refine z_goto (tgt := 4) dX1_leaveBetween_35 (by decide) ?_
      exact Fr_weak (ls2 := [some (zR (a + 2)), some (zI x1), some (zI x2), some (zI (x3 + 1)), none]) (by exact ⟨Or.inr rfl, Or.inr rfl, Or.inr rfl, Or.inr rfl, Or.inl rfl, trivial⟩) h
    · replace h := h.2.2 c
      refine z_aloadR_n (i := 0) dX1_leaveBetween_24 rfl rfl ?_
      refine z_getR 1 1 (idx := 15) (rl2 ha) (by decide) (by decide) rfl (rlt2 ha) rfl (rt2_1 ha) wf_X1_15 dX1_leaveBetween_25 ?_
      refine z_iload (i := 4) dX1_leaveBetween_28 rfl ?_
      refine z_iconst dX1_leaveBetween_30 ?_
      refine z_iastore (rl4 ha) (rlt4 ha) (by decide) dX1_leaveBetween_31 h.1 ?_
      replace h := h.2
      generalize hd3 : mu d2 (a + 4) v1 (-1) = d3
      replace hd3 := hd3.symm
      replace h := h d3 hd3
      refine z_iinc (i := 3) (ls2 := [some (zR (a + 2)), some (zI x1), some (zI x2), some (zI (x3 + 1)), some (zI v1)]) dX1_leaveBetween_32 (by decide) rfl rfl ?_
      refine z_goto (tgt := 4) dX1_leaveBetween_35 (by decide) ?_
      exact Fr_weak (ls2 := [some (zR (a + 2)), some (zI x1), some (zI x2), some (zI (x3 + 1)), none]) (by exact ⟨Or.inr rfl, Or.inr rfl, Or.inr rfl, Or.inr rfl, Or.inl rfl, trivial⟩) h
set_option maxRecDepth 20000 in
theorem v_X1_numberAgain_0 {g : zGG} {Q : Int → zMem → Prop} {d : zMem} {a : Nat} {x1 : Int} (ha : isRiv a)  (h : (Fr g (eM g M_X1_numberAgain FUL FUL Q) M_X1_numberAgain FUL 2 [some (zR (a + 2)), some (zI x1), some (zI x1), none] [] d)) : Fr g (eM g M_X1_numberAgain FUL FUL Q) M_X1_numberAgain FUL 0 [some (zR (a + 2)), some (zI x1), none, none] [] d := by
  refine z_iload_n (i := 1) dX1_numberAgain_0 rfl rfl ?_
  refine z_istore_n (i := 2) (ls2 := [some (zR (a + 2)), some (zI x1), some (zI x1), none]) dX1_numberAgain_1 rfl (by decide) rfl ?_
  exact h
theorem e_X1_numberAgain {g : zGG} {Q : Int → zMem → Prop} {d : zMem} {a : Nat} {x1 : Int} (ha : isRiv a) (h : (Fr g (eM g M_X1_numberAgain FUL FUL Q) M_X1_numberAgain FUL 2 [some (zR (a + 2)), some (zI x1), some (zI x1), none] [] d)) : Ev g M_X1_numberAgain FUL FUL [zR (a + 2), zI x1] d Q :=
  Ev_of (by decide +kernel) (Nat.le_of_ble_eq_true rfl) (v_X1_numberAgain_0 ha h)
set_option maxRecDepth 20000 in
theorem v_X1_numberAgain_2 {g : zGG} {Q : Int → zMem → Prop} {d : zMem} {a : Nat} {x1 : Int} (ha : isRiv a) {x2 : Int} (h : ((inR x2 ∧ inR (d (a + 2) 2)) ∧ ((d (a + 2) 2) ≤ x2 → Q 0 d) ∧ (x2 < (d (a + 2) 2) → Ev g M_X1_cellOf FUL FUL [zR (a + 2), zI x2] d (fun v1 d1 => Ev g M_X8_isOnLand FUL FUL [zI v1] d1 (fun v2 d2 => ((inR v2) ∧ (v2 = 0 → (Fr g (eM g M_X1_numberAgain FUL FUL Q) M_X1_numberAgain FUL 2 [some (zR (a + 2)), some (zI x1), some (zI (x2 + 1)), none] [] d2)) ∧ (v2 ≠ 0 → (0 ≤ v1 ∧ v1 < 240) ∧ ∀ d3, d3 = mu d2 (a + 4) v1 x2 → (Fr g (eM g M_X1_numberAgain FUL FUL Q) M_X1_numberAgain FUL 2 [some (zR (a + 2)), some (zI x1), some (zI (x2 + 1)), none] [] d3)))))))) : Fr g (eM g M_X1_numberAgain FUL FUL Q) M_X1_numberAgain FUL 2 [some (zR (a + 2)), some (zI x1), some (zI x2), none] [] d := by
  refine z_iload_n (i := 2) dX1_numberAgain_2 rfl rfl ?_
  refine z_aloadR_n (i := 0) dX1_numberAgain_3 rfl rfl ?_
  refine z_getI' 1 2 (idx := 21) (fv := (d (a + 2) 2)) (rl2 ha) (by decide) (by decide) rfl (rlt2 ha) wf_X1_21 dX1_numberAgain_4 rfl ?_
  refine zb_icmp_ge (tgt := 36) dX1_numberAgain_7 (by decide) h.1 ⟨fun c => ?_, fun c => ?_⟩
  · replace h := h.2.1 c
    exact zret_v rfl dX1_numberAgain_36 h
  · replace h := h.2.2 c
    refine z_aloadR_n (i := 0) dX1_numberAgain_10 rfl rfl ?_
    refine z_iload_n (i := 2) dX1_numberAgain_11 rfl rfl ?_
    refine z_callVi (k' := M_X1_cellOf) (As := [zI x2]) (st := []) dX1_numberAgain_12 rfl (rl2 ha) (by decide) rfl (rlt2 ha) wm_X1_41 ok_X1_cellOf okV_X1_cellOf rfl (zroom_self (by decide) (by decide)) (Nat.le_of_ble_eq_true rfl) (Nat.le_refl _) rfl (Ev_mono h (fun v1 d1 h => ?_))
    refine z_istore_n (i := 3) (ls2 := [some (zR (a + 2)), some (zI x1), some (zI x2), some (zI v1)]) dX1_numberAgain_15 rfl (by decide) rfl ?_
    refine z_iload_n (i := 3) dX1_numberAgain_16 rfl rfl ?_
    refine z_callSN (k' := M_X8_isOnLand) (As := [zI v1]) (st := []) dX1_numberAgain_17 rfl wm_X1_37 ok_X8_isOnLand okS_X8_isOnLand rfl (zroom_self (by decide) (by decide)) (Nat.le_of_ble_eq_true rfl) (Nat.le_refl _) (zEnd_i (Nat.le_refl _) rfl (fun _ _ q => q)) (Ev_mono h (fun v2 d2 h => ?_))
    refine zb_if_eq (tgt := 30) dX1_numberAgain_20 (by decide) h.1 ⟨fun c => ?_, fun c => ?_⟩
    · replace h := h.2.1 c
      refine z_iinc (i := 2) (ls2 := [some (zR (a + 2)), some (zI x1), some (zI (x2 + 1)), some (zI v1)]) dX1_numberAgain_30 (by decide) rfl rfl ?_
      refine z_goto (tgt := 2) dX1_numberAgain_33 (by decide) ?_
      exact Fr_weak (ls2 := [some (zR (a + 2)), some (zI x1), some (zI (x2 + 1)), none]) (by exact ⟨Or.inr rfl, Or.inr rfl, Or.inr rfl, Or.inl rfl, trivial⟩) h
    · replace h := h.2.2 c
      refine z_aloadR_n (i := 0) dX1_numberAgain_23 rfl rfl ?_
      refine z_getR 1 1 (idx := 15) (rl2 ha) (by decide) (by decide) rfl (rlt2 ha) rfl (rt2_1 ha) wf_X1_15 dX1_numberAgain_24 ?_
      refine z_iload_n (i := 3) dX1_numberAgain_27 rfl rfl ?_
      refine z_iload_n (i := 2) dX1_numberAgain_28 rfl rfl ?_
      refine z_iastore (rl4 ha) (rlt4 ha) (by decide) dX1_numberAgain_29 h.1 ?_
      replace h := h.2
      generalize hd3 : mu d2 (a + 4) v1 x2 = d3
      replace hd3 := hd3.symm
      replace h := h d3 hd3
      refine z_iinc (i := 2) (ls2 := [some (zR (a + 2)), some (zI x1), some (zI (x2 + 1)), some (zI v1)]) dX1_numberAgain_30 (by decide) rfl rfl ?_
      refine z_goto (tgt := 2) dX1_numberAgain_33 (by decide) ?_
      exact Fr_weak (ls2 := [some (zR (a + 2)), some (zI x1), some (zI (x2 + 1)), none]) (by exact ⟨Or.inr rfl, Or.inr rfl, Or.inr rfl, Or.inl rfl, trivial⟩) h
