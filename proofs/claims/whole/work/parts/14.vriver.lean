set_option maxRecDepth 20000 in
theorem v_X7_copyFrom_0 {g : zGG} {Q : Int → zMem → Prop} {d : zMem} {a : Nat} {b : Nat} (ha : isRiv a) (hb : isRiv b)  (h : ∀ d1, d1 = mrow d (a + 1) (zcp (d (b + 1)) (d (a + 1)) 0 0 4) → Ev g M_X1_copyFrom FUL FUL [zR (a + 2), zR (b + 2)] d1 (fun _ d2 => Ev g M_X4_copyFrom FUL FUL [zR (a + 5), zR (b + 5)] d2 (fun _ d3 => ∀ d4, d4 = mrow d3 (a + 10) (zcp (d3 (b + 10)) (d3 (a + 10)) 0 0 240) → ∀ d5, d5 = mrow d4 (a + 11) (zcp (d4 (b + 11)) (d4 (a + 11)) 0 0 240) → ∀ d6, d6 = mrow d5 (a + 12) (zcp (d5 (b + 12)) (d5 (a + 12)) 0 0 480) → ∀ d7, d7 = mrow d6 (a + 13) (zcp (d6 (b + 13)) (d6 (a + 13)) 0 0 8) → ∀ d8, d8 = mu d7 a 7 (d7 b 7) → ∀ d9, d9 = mu d8 a 8 (d8 b 8) → ∀ d10, d10 = mu d9 a 9 (d9 b 9) → ∀ d11, d11 = mu d10 a 10 (d10 b 10) → Q 0 d11))) : Fr g (eM g M_X7_copyFrom FUL FUL Q) M_X7_copyFrom FUL 0 [some (zR a), some (zR b)] [] d := by
  refine z_aloadR_n (i := 1) dX7_copyFrom_0 rfl rfl ?_
  refine z_getR 7 0 (idx := 13) (rl0 hb) (by decide) (by decide) rfl (rlt0 hb) rfl (rt0_0 hb) wf_X7_13 dX7_copyFrom_1 ?_
  refine z_iconst dX7_copyFrom_4 ?_
  refine z_aloadR_n (i := 0) dX7_copyFrom_5 rfl rfl ?_
  refine z_getR 7 0 (idx := 13) (rl0 ha) (by decide) (by decide) rfl (rlt0 ha) rfl (rt0_0 ha) wf_X7_13 dX7_copyFrom_6 ?_
  refine z_iconst dX7_copyFrom_9 ?_
  refine z_aloadR_n (i := 0) dX7_copyFrom_10 rfl rfl ?_
  refine z_getR 7 0 (idx := 13) (rl0 ha) (by decide) (by decide) rfl (rlt0 ha) rfl (rt0_0 ha) wf_X7_13 dX7_copyFrom_11 ?_
  refine z_alen' (v := 4) (rl1 ha) (by decide) (rlt1 ha) rfl dX7_copyFrom_14 ?_
  refine z_copy (rl1 hb) (rl1 ha) (rlt1 hb) (rlt1 ha) (by decide) (by decide) dX7_copyFrom_15 wm_X7_44 wSn wSs wSi ⟨Nat.le_of_ble_eq_true rfl, Nat.le_of_ble_eq_true rfl⟩ ?_
  generalize hd1 : mrow d (a + 1) (zcp (d (b + 1)) (d (a + 1)) 0 0 4) = d1
  replace hd1 := hd1.symm
  replace h := h d1 hd1
  refine z_aloadR_n (i := 0) dX7_copyFrom_18 rfl rfl ?_
  refine z_getR 7 1 (idx := 21) (rl0 ha) (by decide) (by decide) rfl (rlt0 ha) rfl (rt0_1 ha) wf_X7_21 dX7_copyFrom_19 ?_
  refine z_aloadR_n (i := 1) dX7_copyFrom_22 rfl rfl ?_
  refine z_getR 7 1 (idx := 21) (rl0 hb) (by decide) (by decide) rfl (rlt0 hb) rfl (rt0_1 hb) wf_X7_21 dX7_copyFrom_23 ?_
  refine z_callVv (k' := M_X1_copyFrom) (As := [zR (b + 2)]) (st := []) dX7_copyFrom_26 rfl (rl2 ha) (by decide) rfl (rlt2 ha) wm_X7_58 ok_X1_copyFrom okV_X1_copyFrom rfl (zroom_self (by decide) (by decide)) (Nat.le_of_ble_eq_true rfl) (Nat.le_refl _) rfl (Ev_mono h (fun _ d2 h => ?_))
  refine z_aloadR_n (i := 0) dX7_copyFrom_29 rfl rfl ?_
  refine z_getR 7 2 (idx := 28) (rl0 ha) (by decide) (by decide) rfl (rlt0 ha) rfl (rt0_2 ha) wf_X7_28 dX7_copyFrom_30 ?_
  refine z_aloadR_n (i := 1) dX7_copyFrom_33 rfl rfl ?_
  refine z_getR 7 2 (idx := 28) (rl0 hb) (by decide) (by decide) rfl (rlt0 hb) rfl (rt0_2 hb) wf_X7_28 dX7_copyFrom_34 ?_
  refine z_callVv (k' := M_X4_copyFrom) (As := [zR (b + 5)]) (st := []) dX7_copyFrom_37 rfl (rl5 ha) (by decide) rfl (rlt5 ha) wm_X7_62 ok_X4_copyFrom okV_X4_copyFrom rfl (zroom_self (by decide) (by decide)) (Nat.le_of_ble_eq_true rfl) (Nat.le_refl _) rfl (Ev_mono h (fun _ d3 h => ?_))
  refine z_aloadR_n (i := 1) dX7_copyFrom_40 rfl rfl ?_
  refine z_getR 7 3 (idx := 32) (rl0 hb) (by decide) (by decide) rfl (rlt0 hb) rfl (rt0_3 hb) wf_X7_32 dX7_copyFrom_41 ?_
  refine z_iconst dX7_copyFrom_44 ?_
  refine z_aloadR_n (i := 0) dX7_copyFrom_45 rfl rfl ?_
  refine z_getR 7 3 (idx := 32) (rl0 ha) (by decide) (by decide) rfl (rlt0 ha) rfl (rt0_3 ha) wf_X7_32 dX7_copyFrom_46 ?_
  refine z_iconst dX7_copyFrom_49 ?_
  refine z_sipush dX7_copyFrom_50 (by decide +kernel) ?_
  refine z_copy (rl10 hb) (rl10 ha) (rlt10 hb) (rlt10 ha) (by decide) (by decide) dX7_copyFrom_53 wm_X7_44 wSn wSs wSi ⟨Nat.le_of_ble_eq_true rfl, Nat.le_of_ble_eq_true rfl⟩ ?_
  generalize hd4 : mrow d3 (a + 10) (zcp (d3 (b + 10)) (d3 (a + 10)) 0 0 240) = d4
  replace hd4 := hd4.symm
  replace h := h d4 hd4
  refine z_aloadR_n (i := 1) dX7_copyFrom_56 rfl rfl ?_
  refine z_getR 7 4 (idx := 35) (rl0 hb) (by decide) (by decide) rfl (rlt0 hb) rfl (rt0_4 hb) wf_X7_35 dX7_copyFrom_57 ?_
  refine z_iconst dX7_copyFrom_60 ?_
  refine z_aloadR_n (i := 0) dX7_copyFrom_61 rfl rfl ?_
  refine z_getR 7 4 (idx := 35) (rl0 ha) (by decide) (by decide) rfl (rlt0 ha) rfl (rt0_4 ha) wf_X7_35 dX7_copyFrom_62 ?_
  refine z_iconst dX7_copyFrom_65 ?_
  refine z_sipush dX7_copyFrom_66 (by decide +kernel) ?_
  refine z_copy (rl11 hb) (rl11 ha) (rlt11 hb) (rlt11 ha) (by decide) (by decide) dX7_copyFrom_69 wm_X7_44 wSn wSs wSi ⟨Nat.le_of_ble_eq_true rfl, Nat.le_of_ble_eq_true rfl⟩ ?_
  generalize hd5 : mrow d4 (a + 11) (zcp (d4 (b + 11)) (d4 (a + 11)) 0 0 240) = d5
  replace hd5 := hd5.symm
  replace h := h d5 hd5
  refine z_aloadR_n (i := 1) dX7_copyFrom_72 rfl rfl ?_
  refine z_getR 7 5 (idx := 38) (rl0 hb) (by decide) (by decide) rfl (rlt0 hb) rfl (rt0_5 hb) wf_X7_38 dX7_copyFrom_73 ?_
  refine z_iconst dX7_copyFrom_76 ?_
  refine z_aloadR_n (i := 0) dX7_copyFrom_77 rfl rfl ?_
  refine z_getR 7 5 (idx := 38) (rl0 ha) (by decide) (by decide) rfl (rlt0 ha) rfl (rt0_5 ha) wf_X7_38 dX7_copyFrom_78 ?_
  refine z_iconst dX7_copyFrom_81 ?_
  refine z_sipush dX7_copyFrom_82 (by decide +kernel) ?_
  refine z_copy (rl12 hb) (rl12 ha) (rlt12 hb) (rlt12 ha) (by decide) (by decide) dX7_copyFrom_85 wm_X7_44 wSn wSs wSi ⟨Nat.le_of_ble_eq_true rfl, Nat.le_of_ble_eq_true rfl⟩ ?_
  generalize hd6 : mrow d5 (a + 12) (zcp (d5 (b + 12)) (d5 (a + 12)) 0 0 480) = d6
  replace hd6 := hd6.symm
  replace h := h d6 hd6
  refine z_aloadR_n (i := 1) dX7_copyFrom_88 rfl rfl ?_
  refine z_getR 7 6 (idx := 41) (rl0 hb) (by decide) (by decide) rfl (rlt0 hb) rfl (rt0_6 hb) wf_X7_41 dX7_copyFrom_89 ?_
  refine z_iconst dX7_copyFrom_92 ?_
  refine z_aloadR_n (i := 0) dX7_copyFrom_93 rfl rfl ?_
  refine z_getR 7 6 (idx := 41) (rl0 ha) (by decide) (by decide) rfl (rlt0 ha) rfl (rt0_6 ha) wf_X7_41 dX7_copyFrom_94 ?_
  refine z_iconst dX7_copyFrom_97 ?_
  refine z_bipush dX7_copyFrom_98 (by decide +kernel) ?_
  refine z_copy (rl13 hb) (rl13 ha) (rlt13 hb) (rlt13 ha) (by decide) (by decide) dX7_copyFrom_100 wm_X7_44 wSn wSs wSi ⟨Nat.le_of_ble_eq_true rfl, Nat.le_of_ble_eq_true rfl⟩ ?_
  generalize hd7 : mrow d6 (a + 13) (zcp (d6 (b + 13)) (d6 (a + 13)) 0 0 8) = d7
  replace hd7 := hd7.symm
  replace h := h d7 hd7
  refine z_aloadR_n (i := 0) dX7_copyFrom_103 rfl rfl ?_
  refine z_aloadR_n (i := 1) dX7_copyFrom_104 rfl rfl ?_
  refine z_getI' 7 7 (idx := 65) (fv := (d7 b 7)) (rl0 hb) (by decide) (by decide) rfl (rlt0 hb) wf_X7_65 dX7_copyFrom_105 rfl ?_
  refine z_putI 7 7 (idx := 65) (rl0 ha) (by decide) (by decide) rfl (rlt0 ha) rfl wf_X7_65 dX7_copyFrom_108 (Or.inl rfl) ?_
  generalize hd8 : mu d7 a ((7 : Nat) : Int) (d7 b 7) = d8
  replace hd8 : d8 = mu d7 a 7 (d7 b 7) := hd8.symm
  replace h := h d8 hd8
  refine z_aloadR_n (i := 0) dX7_copyFrom_111 rfl rfl ?_
  refine z_aloadR_n (i := 1) dX7_copyFrom_112 rfl rfl ?_
  refine z_getI' 7 8 (idx := 69) (fv := (d8 b 8)) (rl0 hb) (by decide) (by decide) rfl (rlt0 hb) wf_X7_69 dX7_copyFrom_113 rfl ?_
  refine z_putI 7 8 (idx := 69) (rl0 ha) (by decide) (by decide) rfl (rlt0 ha) rfl wf_X7_69 dX7_copyFrom_116 (Or.inl rfl) ?_
  generalize hd9 : mu d8 a ((8 : Nat) : Int) (d8 b 8) = d9
  replace hd9 : d9 = mu d8 a 8 (d8 b 8) := hd9.symm
  replace h := h d9 hd9
  refine z_aloadR_n (i := 0) dX7_copyFrom_119 rfl rfl ?_
  refine z_aloadR_n (i := 1) dX7_copyFrom_120 rfl rfl ?_
  refine z_getI' 7 9 (idx := 72) (fv := (d9 b 9)) (rl0 hb) (by decide) (by decide) rfl (rlt0 hb) wf_X7_72 dX7_copyFrom_121 rfl ?_
  refine z_putI 7 9 (idx := 72) (rl0 ha) (by decide) (by decide) rfl (rlt0 ha) rfl wf_X7_72 dX7_copyFrom_124 (Or.inl rfl) ?_
  generalize hd10 : mu d9 a ((9 : Nat) : Int) (d9 b 9) = d10
  replace hd10 : d10 = mu d9 a 9 (d9 b 9) := hd10.symm
  replace h := h d10 hd10
  refine z_aloadR_n (i := 0) dX7_copyFrom_127 rfl rfl ?_
  refine z_aloadR_n (i := 1) dX7_copyFrom_128 rfl rfl ?_
  refine z_getI' 7 10 (idx := 75) (fv := (d10 b 10)) (rl0 hb) (by decide) (by decide) rfl (rlt0 hb) wf_X7_75 dX7_copyFrom_129 rfl ?_
  refine z_putI 7 10 (idx := 75) (rl0 ha) (by decide) (by decide) rfl (rlt0 ha) rfl wf_X7_75 dX7_copyFrom_132 (Or.inl rfl) ?_
  generalize hd11 : mu d10 a ((10 : Nat) : Int) (d10 b 10) = d11
  replace hd11 : d11 = mu d10 a 10 (d10 b 10) := hd11.symm
  replace h := h d11 hd11
  exact zret_v rfl dX7_copyFrom_135 h
theorem e_X7_copyFrom {g : zGG} {Q : Int → zMem → Prop} {d : zMem} {a : Nat} {b : Nat} (ha : isRiv a) (hb : isRiv b) (h : ∀ d1, d1 = mrow d (a + 1) (zcp (d (b + 1)) (d (a + 1)) 0 0 4) → Ev g M_X1_copyFrom FUL FUL [zR (a + 2), zR (b + 2)] d1 (fun _ d2 => Ev g M_X4_copyFrom FUL FUL [zR (a + 5), zR (b + 5)] d2 (fun _ d3 => ∀ d4, d4 = mrow d3 (a + 10) (zcp (d3 (b + 10)) (d3 (a + 10)) 0 0 240) → ∀ d5, d5 = mrow d4 (a + 11) (zcp (d4 (b + 11)) (d4 (a + 11)) 0 0 240) → ∀ d6, d6 = mrow d5 (a + 12) (zcp (d5 (b + 12)) (d5 (a + 12)) 0 0 480) → ∀ d7, d7 = mrow d6 (a + 13) (zcp (d6 (b + 13)) (d6 (a + 13)) 0 0 8) → ∀ d8, d8 = mu d7 a 7 (d7 b 7) → ∀ d9, d9 = mu d8 a 8 (d8 b 8) → ∀ d10, d10 = mu d9 a 9 (d9 b 9) → ∀ d11, d11 = mu d10 a 10 (d10 b 10) → Q 0 d11))) : Ev g M_X7_copyFrom FUL FUL [zR a, zR b] d Q :=
  Ev_of (by decide +kernel) (Nat.le_of_ble_eq_true rfl) (v_X7_copyFrom_0 ha hb h)
set_option maxRecDepth 20000 in
theorem v_X7_clearAllButSettings_0 {g : zGG} {Q : Int → zMem → Prop} {d : zMem} {a : Nat} (ha : isRiv a)  (h : Ev g M_X1_clear FUL FUL [zR (a + 2)] d (fun _ d1 => Ev g M_X4_clear FUL FUL [zR (a + 5)] d1 (fun _ d2 => Ev g M_J7_fill_53178 FUL FUL [zR (a + 10), zI 0] d2 (fun _ d3 => Ev g M_J7_fill_53178 FUL FUL [zR (a + 11), zI 0] d3 (fun _ d4 => Ev g M_J7_fill_53178 FUL FUL [zR (a + 12), zI 0] d4 (fun _ d5 => ∀ d6, d6 = mu d5 a 7 0 → ∀ d7, d7 = mu d6 a 8 0 → ∀ d8, d8 = mu d7 a 9 0 → ∀ d9, d9 = mu d8 a 10 0 → Q 0 d9)))))) : Fr g (eM g M_X7_clearAllButSettings FUL FUL Q) M_X7_clearAllButSettings FUL 0 [some (zR a)] [] d := by
  refine z_aloadR_n (i := 0) dX7_clearAllButSettings_0 rfl rfl ?_
  refine z_getR 7 1 (idx := 21) (rl0 ha) (by decide) (by decide) rfl (rlt0 ha) rfl (rt0_1 ha) wf_X7_21 dX7_clearAllButSettings_1 ?_
  refine z_callVv (k' := M_X1_clear) (As := []) (st := []) dX7_clearAllButSettings_4 rfl (rl2 ha) (by decide) rfl (rlt2 ha) wm_X7_78 ok_X1_clear okV_X1_clear rfl (zroom_self (by decide) (by decide)) (Nat.le_of_ble_eq_true rfl) (Nat.le_refl _) rfl (Ev_mono h (fun _ d1 h => ?_))
  refine z_aloadR_n (i := 0) dX7_clearAllButSettings_7 rfl rfl ?_
  refine z_getR 7 2 (idx := 28) (rl0 ha) (by decide) (by decide) rfl (rlt0 ha) rfl (rt0_2 ha) wf_X7_28 dX7_clearAllButSettings_8 ?_
  refine z_callVv (k' := M_X4_clear) (As := []) (st := []) dX7_clearAllButSettings_11 rfl (rl5 ha) (by decide) rfl (rlt5 ha) wm_X7_81 ok_X4_clear okV_X4_clear rfl (zroom_self (by decide) (by decide)) (Nat.le_of_ble_eq_true rfl) (Nat.le_refl _) rfl (Ev_mono h (fun _ d2 h => ?_))
  refine z_aloadR_n (i := 0) dX7_clearAllButSettings_14 rfl rfl ?_
  refine z_getR 7 3 (idx := 32) (rl0 ha) (by decide) (by decide) rfl (rlt0 ha) rfl (rt0_3 ha) wf_X7_32 dX7_clearAllButSettings_15 ?_
  refine z_iconst dX7_clearAllButSettings_18 ?_
  refine z_callS (k' := M_J7_fill_53178) (As := [zR (a + 10), zI 0]) (st := []) dX7_clearAllButSettings_19 rfl wm_X7_82 ok_J7_fill_53178 okS_J7_fill_53178 rfl (zroom_self (by decide) (by decide)) (Nat.le_of_ble_eq_true rfl) (Nat.le_refl _) (zEnd_v (Nat.le_refl _) rfl (fun _ _ q => q)) (Ev_mono h (fun _ d3 h => ?_))
  refine z_aloadR_n (i := 0) dX7_clearAllButSettings_22 rfl rfl ?_
  refine z_getR 7 4 (idx := 35) (rl0 ha) (by decide) (by decide) rfl (rlt0 ha) rfl (rt0_4 ha) wf_X7_35 dX7_clearAllButSettings_23 ?_
  refine z_iconst dX7_clearAllButSettings_26 ?_
  refine z_callS (k' := M_J7_fill_53178) (As := [zR (a + 11), zI 0]) (st := []) dX7_clearAllButSettings_27 rfl wm_X7_82 ok_J7_fill_53178 okS_J7_fill_53178 rfl (zroom_self (by decide) (by decide)) (Nat.le_of_ble_eq_true rfl) (Nat.le_refl _) (zEnd_v (Nat.le_refl _) rfl (fun _ _ q => q)) (Ev_mono h (fun _ d4 h => ?_))
  refine z_aloadR_n (i := 0) dX7_clearAllButSettings_30 rfl rfl ?_
  refine z_getR 7 5 (idx := 38) (rl0 ha) (by decide) (by decide) rfl (rlt0 ha) rfl (rt0_5 ha) wf_X7_38 dX7_clearAllButSettings_31 ?_
  refine z_iconst dX7_clearAllButSettings_34 ?_
  refine z_callS (k' := M_J7_fill_53178) (As := [zR (a + 12), zI 0]) (st := []) dX7_clearAllButSettings_35 rfl wm_X7_82 ok_J7_fill_53178 okS_J7_fill_53178 rfl (zroom_self (by decide) (by decide)) (Nat.le_of_ble_eq_true rfl) (Nat.le_refl _) (zEnd_v (Nat.le_refl _) rfl (fun _ _ q => q)) (Ev_mono h (fun _ d5 h => ?_))
  refine z_aloadR_n (i := 0) dX7_clearAllButSettings_38 rfl rfl ?_
  refine z_iconst dX7_clearAllButSettings_39 ?_
  refine z_putI 7 7 (idx := 65) (rl0 ha) (by decide) (by decide) rfl (rlt0 ha) rfl wf_X7_65 dX7_clearAllButSettings_40 (Or.inl rfl) ?_
  generalize hd6 : mu d5 a ((7 : Nat) : Int) 0 = d6
  replace hd6 : d6 = mu d5 a 7 0 := hd6.symm
  replace h := h d6 hd6
  refine z_aloadR_n (i := 0) dX7_clearAllButSettings_43 rfl rfl ?_
  refine z_iconst dX7_clearAllButSettings_44 ?_
  refine z_putI 7 8 (idx := 69) (rl0 ha) (by decide) (by decide) rfl (rlt0 ha) rfl wf_X7_69 dX7_clearAllButSettings_45 (Or.inl rfl) ?_
  generalize hd7 : mu d6 a ((8 : Nat) : Int) 0 = d7
  replace hd7 : d7 = mu d6 a 8 0 := hd7.symm
  replace h := h d7 hd7
  refine z_aloadR_n (i := 0) dX7_clearAllButSettings_48 rfl rfl ?_
  refine z_iconst dX7_clearAllButSettings_49 ?_
  refine z_putI 7 9 (idx := 72) (rl0 ha) (by decide) (by decide) rfl (rlt0 ha) rfl wf_X7_72 dX7_clearAllButSettings_50 (Or.inl rfl) ?_
  generalize hd8 : mu d7 a ((9 : Nat) : Int) 0 = d8
  replace hd8 : d8 = mu d7 a 9 0 := hd8.symm
  replace h := h d8 hd8
  refine z_aloadR_n (i := 0) dX7_clearAllButSettings_53 rfl rfl ?_
  refine z_iconst dX7_clearAllButSettings_54 ?_
  refine z_putI 7 10 (idx := 75) (rl0 ha) (by decide) (by decide) rfl (rlt0 ha) rfl wf_X7_75 dX7_clearAllButSettings_55 (Or.inl rfl) ?_
  generalize hd9 : mu d8 a ((10 : Nat) : Int) 0 = d9
  replace hd9 : d9 = mu d8 a 10 0 := hd9.symm
  replace h := h d9 hd9
  exact zret_v rfl dX7_clearAllButSettings_58 h
theorem e_X7_clearAllButSettings {g : zGG} {Q : Int → zMem → Prop} {d : zMem} {a : Nat} (ha : isRiv a) (h : Ev g M_X1_clear FUL FUL [zR (a + 2)] d (fun _ d1 => Ev g M_X4_clear FUL FUL [zR (a + 5)] d1 (fun _ d2 => Ev g M_J7_fill_53178 FUL FUL [zR (a + 10), zI 0] d2 (fun _ d3 => Ev g M_J7_fill_53178 FUL FUL [zR (a + 11), zI 0] d3 (fun _ d4 => Ev g M_J7_fill_53178 FUL FUL [zR (a + 12), zI 0] d4 (fun _ d5 => ∀ d6, d6 = mu d5 a 7 0 → ∀ d7, d7 = mu d6 a 8 0 → ∀ d8, d8 = mu d7 a 9 0 → ∀ d9, d9 = mu d8 a 10 0 → Q 0 d9)))))) : Ev g M_X7_clearAllButSettings FUL FUL [zR a] d Q :=
  Ev_of (by decide +kernel) (Nat.le_of_ble_eq_true rfl) (v_X7_clearAllButSettings_0 ha h)
set_option maxRecDepth 20000 in
theorem v_X7_setting_0 {g : zGG} {Q : Int → zMem → Prop} {d : zMem} {a : Nat} {x1 : Int} (ha : isRiv a)  (h : ((inR x1) ∧ (x1 < 0 → Q 0 d) ∧ (0 ≤ x1 → ((inR x1) ∧ (4 ≤ x1 → Q 0 d) ∧ (x1 < 4 → (0 ≤ x1 ∧ x1 < 4) ∧ Q (d (a + 1) x1) d))))) : Fr g (eM g M_X7_setting FUL FUL Q) M_X7_setting FUL 0 [some (zR a), some (zI x1)] [] d := by
  refine z_iload_n (i := 1) dX7_setting_0 rfl rfl ?_
  refine zb_if_lt (tgt := 22) dX7_setting_1 (by decide) h.1 ⟨fun c => ?_, fun c => ?_⟩
  · replace h := h.2.1 c
    refine z_iconst dX7_setting_22 ?_
    exact zret_i rfl dX7_setting_23 h
  · replace h := h.2.2 c
    refine z_iload_n (i := 1) dX7_setting_4 rfl rfl ?_
    refine z_aloadR_n (i := 0) dX7_setting_5 rfl rfl ?_
    refine z_getR 7 0 (idx := 13) (rl0 ha) (by decide) (by decide) rfl (rlt0 ha) rfl (rt0_0 ha) wf_X7_13 dX7_setting_6 ?_
    refine z_alen' (v := 4) (rl1 ha) (by decide) (rlt1 ha) rfl dX7_setting_9 ?_
    refine zb_icmp_ge (tgt := 22) dX7_setting_10 (by decide) ⟨h.1, by decide⟩ ⟨fun c => ?_, fun c => ?_⟩
    · replace h := h.2.1 c
      refine z_iconst dX7_setting_22 ?_
      exact zret_i rfl dX7_setting_23 h
    · replace h := h.2.2 c
      refine z_aloadR_n (i := 0) dX7_setting_13 rfl rfl ?_
      refine z_getR 7 0 (idx := 13) (rl0 ha) (by decide) (by decide) rfl (rlt0 ha) rfl (rt0_0 ha) wf_X7_13 dX7_setting_14 ?_
      refine z_iload_n (i := 1) dX7_setting_17 rfl rfl ?_
      refine z_iaload' (fv := (d (a + 1) x1)) (rl1 ha) (rlt1 ha) (by decide) dX7_setting_18 h.1 rfl ?_
      replace h := h.2
      refine z_goto (tgt := 23) dX7_setting_19 (by decide) ?_
      exact zret_i rfl dX7_setting_23 h
theorem e_X7_setting {g : zGG} {Q : Int → zMem → Prop} {d : zMem} {a : Nat} {x1 : Int} (ha : isRiv a) (h : ((inR x1) ∧ (x1 < 0 → Q 0 d) ∧ (0 ≤ x1 → ((inR x1) ∧ (4 ≤ x1 → Q 0 d) ∧ (x1 < 4 → (0 ≤ x1 ∧ x1 < 4) ∧ Q (d (a + 1) x1) d))))) : Ev g M_X7_setting FUL FUL [zR a, zI x1] d Q :=
  Ev_of (by decide +kernel) (Nat.le_of_ble_eq_true rfl) (v_X7_setting_0 ha h)
set_option maxRecDepth 20000 in
theorem v_X7_changeSetting_0 {g : zGG} {Q : Int → zMem → Prop} {d : zMem} {a : Nat} {x1 : Int} {x2 : Int} (ha : isRiv a)  (h : ((inR x1) ∧ (x1 < 0 → Q 0 d) ∧ (0 ≤ x1 → ((inR x1) ∧ (4 ≤ x1 → Q 0 d) ∧ (x1 < 4 → (0 ≤ x1 ∧ x1 < 4) ∧ ∀ d1, d1 = mu d (a + 1) x1 x2 → Q 0 d1))))) : Fr g (eM g M_X7_changeSetting FUL FUL Q) M_X7_changeSetting FUL 0 [some (zR a), some (zI x1), some (zI x2)] [] d := by
  refine z_iload_n (i := 1) dX7_changeSetting_0 rfl rfl ?_
  refine zb_if_lt (tgt := 20) dX7_changeSetting_1 (by decide) h.1 ⟨fun c => ?_, fun c => ?_⟩
  · replace h := h.2.1 c
    exact zret_v rfl dX7_changeSetting_20 h
  · replace h := h.2.2 c
    refine z_iload_n (i := 1) dX7_changeSetting_4 rfl rfl ?_
    refine z_aloadR_n (i := 0) dX7_changeSetting_5 rfl rfl ?_
    refine z_getR 7 0 (idx := 13) (rl0 ha) (by decide) (by decide) rfl (rlt0 ha) rfl (rt0_0 ha) wf_X7_13 dX7_changeSetting_6 ?_
    refine z_alen' (v := 4) (rl1 ha) (by decide) (rlt1 ha) rfl dX7_changeSetting_9 ?_
    refine zb_icmp_ge (tgt := 20) dX7_changeSetting_10 (by decide) ⟨h.1, by decide⟩ ⟨fun c => ?_, fun c => ?_⟩
    · replace h := h.2.1 c
      exact zret_v rfl dX7_changeSetting_20 h
    · replace h := h.2.2 c
      refine z_aloadR_n (i := 0) dX7_changeSetting_13 rfl rfl ?_
      refine z_getR 7 0 (idx := 13) (rl0 ha) (by decide) (by decide) rfl (rlt0 ha) rfl (rt0_0 ha) wf_X7_13 dX7_changeSetting_14 ?_
      refine z_iload_n (i := 1) dX7_changeSetting_17 rfl rfl ?_
      refine z_iload_n (i := 2) dX7_changeSetting_18 rfl rfl ?_
      refine z_iastore (rl1 ha) (rlt1 ha) (by decide) dX7_changeSetting_19 h.1 ?_
      replace h := h.2
      generalize hd1 : mu d (a + 1) x1 x2 = d1
      replace hd1 := hd1.symm
      replace h := h d1 hd1
      exact zret_v rfl dX7_changeSetting_20 h
theorem e_X7_changeSetting {g : zGG} {Q : Int → zMem → Prop} {d : zMem} {a : Nat} {x1 : Int} {x2 : Int} (ha : isRiv a) (h : ((inR x1) ∧ (x1 < 0 → Q 0 d) ∧ (0 ≤ x1 → ((inR x1) ∧ (4 ≤ x1 → Q 0 d) ∧ (x1 < 4 → (0 ≤ x1 ∧ x1 < 4) ∧ ∀ d1, d1 = mu d (a + 1) x1 x2 → Q 0 d1))))) : Ev g M_X7_changeSetting FUL FUL [zR a, zI x1, zI x2] d Q :=
  Ev_of (by decide +kernel) (Nat.le_of_ble_eq_true rfl) (v_X7_changeSetting_0 ha h)
set_option maxRecDepth 20000 in
theorem v_X7_isDike_0 {g : zGG} {Q : Int → zMem → Prop} {d : zMem} {a : Nat} {x1 : Int} (ha : isRiv a)  (h : Ev g M_X8_isOnLand FUL FUL [zI x1] d (fun v1 d1 => ((inR v1) ∧ (v1 = 0 → Q 0 d1) ∧ (v1 ≠ 0 → (0 ≤ x1 ∧ x1 < 240) ∧ ((inR (d1 (a + 11) x1)) ∧ ((d1 (a + 11) x1) ≠ 1 → Q 0 d1) ∧ ((d1 (a + 11) x1) = 1 → Q 1 d1)))))) : Fr g (eM g M_X7_isDike FUL FUL Q) M_X7_isDike FUL 0 [some (zR a), some (zI x1)] [] d := by
  refine z_iload_n (i := 1) dX7_isDike_0 rfl rfl ?_
  refine z_callSN (k' := M_X8_isOnLand) (As := [zI x1]) (st := []) dX7_isDike_1 rfl wm_X7_88 ok_X8_isOnLand okS_X8_isOnLand rfl (zroom_self (by decide) (by decide)) (Nat.le_of_ble_eq_true rfl) (Nat.le_refl _) (zEnd_i (Nat.le_refl _) rfl (fun _ _ q => q)) (Ev_mono h (fun v1 d1 h => ?_))
  refine zb_if_eq (tgt := 21) dX7_isDike_4 (by decide) h.1 ⟨fun c => ?_, fun c => ?_⟩
  · replace h := h.2.1 c
    refine z_iconst dX7_isDike_21 ?_
    exact zret_z rfl dX7_isDike_22 (by decide) h
  · replace h := h.2.2 c
    refine z_aloadR_n (i := 0) dX7_isDike_7 rfl rfl ?_
    refine z_getR 7 4 (idx := 35) (rl0 ha) (by decide) (by decide) rfl (rlt0 ha) rfl (rt0_4 ha) wf_X7_35 dX7_isDike_8 ?_
    refine z_iload_n (i := 1) dX7_isDike_11 rfl rfl ?_
    refine z_iaload' (fv := (d1 (a + 11) x1)) (rl11 ha) (rlt11 ha) (by decide) dX7_isDike_12 h.1 rfl ?_
    replace h := h.2
    refine z_iconst dX7_isDike_13 ?_
    refine zb_icmp_ne (tgt := 21) dX7_isDike_14 (by decide) ⟨h.1, by decide⟩ ⟨fun c => ?_, fun c => ?_⟩
    · replace h := h.2.1 c
      refine z_iconst dX7_isDike_21 ?_
      exact zret_z rfl dX7_isDike_22 (by decide) h
    · replace h := h.2.2 c
      refine z_iconst dX7_isDike_17 ?_
      refine z_goto (tgt := 22) dX7_isDike_18 (by decide) ?_
      exact zret_z rfl dX7_isDike_22 (by decide) h
theorem e_X7_isDike {g : zGG} {Q : Int → zMem → Prop} {d : zMem} {a : Nat} {x1 : Int} (ha : isRiv a) (h : Ev g M_X8_isOnLand FUL FUL [zI x1] d (fun v1 d1 => ((inR v1) ∧ (v1 = 0 → Q 0 d1) ∧ (v1 ≠ 0 → (0 ≤ x1 ∧ x1 < 240) ∧ ((inR (d1 (a + 11) x1)) ∧ ((d1 (a + 11) x1) ≠ 1 → Q 0 d1) ∧ ((d1 (a + 11) x1) = 1 → Q 1 d1)))))) : Ev g M_X7_isDike FUL FUL [zR a, zI x1] d Q :=
  Ev_of (by decide +kernel) (Nat.le_of_ble_eq_true rfl) (v_X7_isDike_0 ha h)
set_option maxRecDepth 20000 in
theorem v_X7_changeDike_0 {g : zGG} {Q : Int → zMem → Prop} {d : zMem} {a : Nat} {x1 : Int} {x2 : Int} (ha : isRiv a)  (h : Ev g M_X8_isOnLand FUL FUL [zI x1] d (fun v1 d1 => ((inR v1) ∧ (v1 = 0 → Q 0 d1) ∧ (v1 ≠ 0 → Ev g M_X8_asNumber FUL FUL [zI x2] d1 (fun v2 d2 => (0 ≤ x1 ∧ x1 < 240) ∧ ∀ d3, d3 = mu d2 (a + 11) x1 v2 → Q 0 d3))))) : Fr g (eM g M_X7_changeDike FUL FUL Q) M_X7_changeDike FUL 0 [some (zR a), some (zI x1), some (zI x2)] [] d := by
  refine z_iload_n (i := 1) dX7_changeDike_0 rfl rfl ?_
  refine z_callSN (k' := M_X8_isOnLand) (As := [zI x1]) (st := []) dX7_changeDike_1 rfl wm_X7_88 ok_X8_isOnLand okS_X8_isOnLand rfl (zroom_self (by decide) (by decide)) (Nat.le_of_ble_eq_true rfl) (Nat.le_refl _) (zEnd_i (Nat.le_refl _) rfl (fun _ _ q => q)) (Ev_mono h (fun v1 d1 h => ?_))
  refine zb_if_eq (tgt := 17) dX7_changeDike_4 (by decide) h.1 ⟨fun c => ?_, fun c => ?_⟩
  · replace h := h.2.1 c
    exact zret_v rfl dX7_changeDike_17 h
  · replace h := h.2.2 c
    refine z_aloadR_n (i := 0) dX7_changeDike_7 rfl rfl ?_
    refine z_getR 7 4 (idx := 35) (rl0 ha) (by decide) (by decide) rfl (rlt0 ha) rfl (rt0_4 ha) wf_X7_35 dX7_changeDike_8 ?_
    refine z_iload_n (i := 1) dX7_changeDike_11 rfl rfl ?_
    refine z_iload_n (i := 2) dX7_changeDike_12 rfl rfl ?_
    refine z_callSN (k' := M_X8_asNumber) (As := [zI x2]) (st := [zI x1, zR (a + 11)]) dX7_changeDike_13 rfl wm_X7_91 ok_X8_asNumber okS_X8_asNumber rfl (zroom_self (by decide) (by decide)) (Nat.le_of_ble_eq_true rfl) (Nat.le_refl _) (zEnd_i (Nat.le_refl _) rfl (fun _ _ q => q)) (Ev_mono h (fun v2 d2 h => ?_))
    refine z_iastore (rl11 ha) (rlt11 ha) (by decide) dX7_changeDike_16 h.1 ?_
    replace h := h.2
    generalize hd3 : mu d2 (a + 11) x1 v2 = d3
    replace hd3 := hd3.symm
    replace h := h d3 hd3
    exact zret_v rfl dX7_changeDike_17 h
theorem e_X7_changeDike {g : zGG} {Q : Int → zMem → Prop} {d : zMem} {a : Nat} {x1 : Int} {x2 : Int} (ha : isRiv a) (h : Ev g M_X8_isOnLand FUL FUL [zI x1] d (fun v1 d1 => ((inR v1) ∧ (v1 = 0 → Q 0 d1) ∧ (v1 ≠ 0 → Ev g M_X8_asNumber FUL FUL [zI x2] d1 (fun v2 d2 => (0 ≤ x1 ∧ x1 < 240) ∧ ∀ d3, d3 = mu d2 (a + 11) x1 v2 → Q 0 d3))))) : Ev g M_X7_changeDike FUL FUL [zR a, zI x1, zI x2] d Q :=
  Ev_of (by decide +kernel) (Nat.le_of_ble_eq_true rfl) (v_X7_changeDike_0 ha h)
set_option maxRecDepth 20000 in
theorem v_X7_dikeCount_0 {g : zGG} {Q : Int → zMem → Prop} {d : zMem} {a : Nat} (ha : isRiv a)  (h : (Fr g (eM g M_X7_dikeCount FUL FUL Q) M_X7_dikeCount FUL 4 [some (zR a), some (zI 0), some (zI 0)] [] d)) : Fr g (eM g M_X7_dikeCount FUL FUL Q) M_X7_dikeCount FUL 0 [some (zR a), none, none] [] d := by
  refine z_iconst dX7_dikeCount_0 ?_
  refine z_istore_n (i := 1) (ls2 := [some (zR a), some (zI 0), none]) dX7_dikeCount_1 rfl (by decide) rfl ?_
  refine z_iconst dX7_dikeCount_2 ?_
  refine z_istore_n (i := 2) (ls2 := [some (zR a), some (zI 0), some (zI 0)]) dX7_dikeCount_3 rfl (by decide) rfl ?_
  exact h
theorem e_X7_dikeCount {g : zGG} {Q : Int → zMem → Prop} {d : zMem} {a : Nat} (ha : isRiv a) (h : (Fr g (eM g M_X7_dikeCount FUL FUL Q) M_X7_dikeCount FUL 4 [some (zR a), some (zI 0), some (zI 0)] [] d)) : Ev g M_X7_dikeCount FUL FUL [zR a] d Q :=
  Ev_of (by decide +kernel) (Nat.le_of_ble_eq_true rfl) (v_X7_dikeCount_0 ha h)
set_option maxRecDepth 20000 in
theorem v_X7_dikeCount_4 {g : zGG} {Q : Int → zMem → Prop} {d : zMem} {a : Nat} (ha : isRiv a) {x1 : Int} {x2 : Int} (h : ((inR x2) ∧ (240 ≤ x2 → Q x1 d) ∧ (x2 < 240 → (0 ≤ x2 ∧ x2 < 240) ∧ (Fr g (eM g M_X7_dikeCount FUL FUL Q) M_X7_dikeCount FUL 4 [some (zR a), some (zI (x1 + (d (a + 11) x2))), some (zI (x2 + 1))] [] d)))) : Fr g (eM g M_X7_dikeCount FUL FUL Q) M_X7_dikeCount FUL 4 [some (zR a), some (zI x1), some (zI x2)] [] d := by
  refine z_iload_n (i := 2) dX7_dikeCount_4 rfl rfl ?_
  refine z_sipush dX7_dikeCount_5 (by decide +kernel) ?_
  refine zb_icmp_ge (tgt := 26) dX7_dikeCount_8 (by decide) ⟨h.1, by decide⟩ ⟨fun c => ?_, fun c => ?_⟩
  · replace h := h.2.1 c
    refine z_iload_n (i := 1) dX7_dikeCount_26 rfl rfl ?_
    exact zret_i rfl dX7_dikeCount_27 h
  · replace h := h.2.2 c
    refine z_iload_n (i := 1) dX7_dikeCount_11 rfl rfl ?_
    refine z_aloadR_n (i := 0) dX7_dikeCount_12 rfl rfl ?_
    refine z_getR 7 4 (idx := 35) (rl0 ha) (by decide) (by decide) rfl (rlt0 ha) rfl (rt0_4 ha) wf_X7_35 dX7_dikeCount_13 ?_
    refine z_iload_n (i := 2) dX7_dikeCount_16 rfl rfl ?_
    refine z_iaload' (fv := (d (a + 11) x2)) (rl11 ha) (rlt11 ha) (by decide) dX7_dikeCount_17 h.1 rfl ?_
    replace h := h.2
    refine z_iadd dX7_dikeCount_18 ?_
    refine z_istore_n (i := 1) (ls2 := [some (zR a), some (zI (x1 + (d (a + 11) x2))), some (zI x2)]) dX7_dikeCount_19 rfl (by decide) rfl ?_
    refine z_iinc (i := 2) (ls2 := [some (zR a), some (zI (x1 + (d (a + 11) x2))), some (zI (x2 + 1))]) dX7_dikeCount_20 (by decide) rfl rfl ?_
    refine z_goto (tgt := 4) dX7_dikeCount_23 (by decide) ?_
    exact h
set_option maxRecDepth 20000 in
theorem v_X7_hasFlood_0 {g : zGG} {Q : Int → zMem → Prop} {d : zMem} {a : Nat} {x1 : Int} (ha : isRiv a)  (h : (Fr g (eM g M_X7_hasFlood FUL FUL Q) M_X7_hasFlood FUL 2 [some (zR a), some (zI x1), some (zI 0)] [] d)) : Fr g (eM g M_X7_hasFlood FUL FUL Q) M_X7_hasFlood FUL 0 [some (zR a), some (zI x1), none] [] d := by
  refine z_iconst dX7_hasFlood_0 ?_
  refine z_istore_n (i := 2) (ls2 := [some (zR a), some (zI x1), some (zI 0)]) dX7_hasFlood_1 rfl (by decide) rfl ?_
  exact h
theorem e_X7_hasFlood {g : zGG} {Q : Int → zMem → Prop} {d : zMem} {a : Nat} {x1 : Int} (ha : isRiv a) (h : (Fr g (eM g M_X7_hasFlood FUL FUL Q) M_X7_hasFlood FUL 2 [some (zR a), some (zI x1), some (zI 0)] [] d)) : Ev g M_X7_hasFlood FUL FUL [zR a, zI x1] d Q :=
  Ev_of (by decide +kernel) (Nat.le_of_ble_eq_true rfl) (v_X7_hasFlood_0 ha h)
set_option maxRecDepth 20000 in
theorem v_X7_hasFlood_2 {g : zGG} {Q : Int → zMem → Prop} {d : zMem} {a : Nat} {x1 : Int} (ha : isRiv a) {x2 : Int} (h : ((inR x2 ∧ inR (d a 7)) ∧ ((d a 7) ≤ x2 → Q 0 d) ∧ (x2 < (d a 7) → ((inR x2) ∧ (8 ≤ x2 → Q 0 d) ∧ (x2 < 8 → (0 ≤ x2 ∧ x2 < 8) ∧ ((inR (d (a + 13) x2) ∧ inR x1) ∧ ((d (a + 13) x2) ≠ x1 → (Fr g (eM g M_X7_hasFlood FUL FUL Q) M_X7_hasFlood FUL 2 [some (zR a), some (zI x1), some (zI (x2 + 1))] [] d)) ∧ ((d (a + 13) x2) = x1 → Q 1 d))))))) : Fr g (eM g M_X7_hasFlood FUL FUL Q) M_X7_hasFlood FUL 2 [some (zR a), some (zI x1), some (zI x2)] [] d := by
  refine z_iload_n (i := 2) dX7_hasFlood_2 rfl rfl ?_
  refine z_aloadR_n (i := 0) dX7_hasFlood_3 rfl rfl ?_
  refine z_getI' 7 7 (idx := 65) (fv := (d a 7)) (rl0 ha) (by decide) (by decide) rfl (rlt0 ha) wf_X7_65 dX7_hasFlood_4 rfl ?_
  refine zb_icmp_ge (tgt := 34) dX7_hasFlood_7 (by decide) h.1 ⟨fun c => ?_, fun c => ?_⟩
  · replace h := h.2.1 c
    refine z_iconst dX7_hasFlood_34 ?_
    exact zret_z rfl dX7_hasFlood_35 (by decide) h
  · replace h := h.2.2 c
    refine z_iload_n (i := 2) dX7_hasFlood_10 rfl rfl ?_
    refine z_bipush dX7_hasFlood_11 (by decide +kernel) ?_
    refine zb_icmp_ge (tgt := 34) dX7_hasFlood_13 (by decide) ⟨h.1, by decide⟩ ⟨fun c => ?_, fun c => ?_⟩
    · replace h := h.2.1 c
      refine z_iconst dX7_hasFlood_34 ?_
      exact zret_z rfl dX7_hasFlood_35 (by decide) h
    · replace h := h.2.2 c
      refine z_aloadR_n (i := 0) dX7_hasFlood_16 rfl rfl ?_
      refine z_getR 7 6 (idx := 41) (rl0 ha) (by decide) (by decide) rfl (rlt0 ha) rfl (rt0_6 ha) wf_X7_41 dX7_hasFlood_17 ?_
      refine z_iload_n (i := 2) dX7_hasFlood_20 rfl rfl ?_
      refine z_iaload' (fv := (d (a + 13) x2)) (rl13 ha) (rlt13 ha) (by decide) dX7_hasFlood_21 h.1 rfl ?_
      replace h := h.2
      refine z_iload_n (i := 1) dX7_hasFlood_22 rfl rfl ?_
      refine zb_icmp_ne (tgt := 28) dX7_hasFlood_23 (by decide) h.1 ⟨fun c => ?_, fun c => ?_⟩
      · replace h := h.2.1 c
        refine z_iinc (i := 2) (ls2 := [some (zR a), some (zI x1), some (zI (x2 + 1))]) dX7_hasFlood_28 (by decide) rfl rfl ?_
        refine z_goto (tgt := 2) dX7_hasFlood_31 (by decide) ?_
        exact h
      · replace h := h.2.2 c
        refine z_iconst dX7_hasFlood_26 ?_
        exact zret_z rfl dX7_hasFlood_27 (by decide) h
set_option maxRecDepth 20000 in
theorem v_X7_changeFlood_0 {g : zGG} {Q : Int → zMem → Prop} {d : zMem} {a : Nat} {x1 : Int} {x2 : Int} (ha : isRiv a)  (h : ((inR x2) ∧ (x2 = 0 → Ev g M_X7_removeFlood FUL FUL [zR a, zI x1] d (fun _ d1 => Q 0 d1)) ∧ (x2 ≠ 0 → Ev g M_X7_addFlood FUL FUL [zR a, zI x1] d (fun _ d2 => Q 0 d2)))) : Fr g (eM g M_X7_changeFlood FUL FUL Q) M_X7_changeFlood FUL 0 [some (zR a), some (zI x1), some (zI x2)] [] d := by
  refine z_iload_n (i := 2) dX7_changeFlood_0 rfl rfl ?_
  refine zb_if_eq (tgt := 12) dX7_changeFlood_1 (by decide) h.1 ⟨fun c => ?_, fun c => ?_⟩
  · replace h := h.2.1 c
    refine z_aloadR_n (i := 0) dX7_changeFlood_12 rfl rfl ?_
    refine z_iload_n (i := 1) dX7_changeFlood_13 rfl rfl ?_
    refine z_callVv (k' := M_X7_removeFlood) (As := [zI x1]) (st := []) dX7_changeFlood_14 rfl (rl0 ha) (by decide) rfl (rlt0 ha) wm_X7_99 ok_X7_removeFlood okV_X7_removeFlood rfl (zroom_self (by decide) (by decide)) (Nat.le_of_ble_eq_true rfl) (Nat.le_refl _) rfl (Ev_mono h (fun _ d1 h => ?_))
    exact zret_v rfl dX7_changeFlood_17 h
  · replace h := h.2.2 c
    refine z_aloadR_n (i := 0) dX7_changeFlood_4 rfl rfl ?_
    refine z_iload_n (i := 1) dX7_changeFlood_5 rfl rfl ?_
    refine z_callVv (k' := M_X7_addFlood) (As := [zI x1]) (st := []) dX7_changeFlood_6 rfl (rl0 ha) (by decide) rfl (rlt0 ha) wm_X7_95 ok_X7_addFlood okV_X7_addFlood rfl (zroom_self (by decide) (by decide)) (Nat.le_of_ble_eq_true rfl) (Nat.le_refl _) rfl (Ev_mono h (fun _ d2 h => ?_))
    refine z_goto (tgt := 17) dX7_changeFlood_9 (by decide) ?_
    exact zret_v rfl dX7_changeFlood_17 h
theorem e_X7_changeFlood {g : zGG} {Q : Int → zMem → Prop} {d : zMem} {a : Nat} {x1 : Int} {x2 : Int} (ha : isRiv a) (h : ((inR x2) ∧ (x2 = 0 → Ev g M_X7_removeFlood FUL FUL [zR a, zI x1] d (fun _ d1 => Q 0 d1)) ∧ (x2 ≠ 0 → Ev g M_X7_addFlood FUL FUL [zR a, zI x1] d (fun _ d2 => Q 0 d2)))) : Ev g M_X7_changeFlood FUL FUL [zR a, zI x1, zI x2] d Q :=
  Ev_of (by decide +kernel) (Nat.le_of_ble_eq_true rfl) (v_X7_changeFlood_0 ha h)
set_option maxRecDepth 20000 in
theorem v_X7_addFlood_0 {g : zGG} {Q : Int → zMem → Prop} {d : zMem} {a : Nat} {x1 : Int} (ha : isRiv a)  (h : ((inR (d a 7)) ∧ ((d a 7) < 0 → Q 0 d) ∧ (0 ≤ (d a 7) → ((inR (d a 7)) ∧ (8 ≤ (d a 7) → Q 0 d) ∧ ((d a 7) < 8 → (0 ≤ (d a 7) ∧ (d a 7) < 8) ∧ ∀ d1, d1 = mu d (a + 13) (d a 7) x1 → ∀ d2, d2 = mu d1 a 7 ((d a 7) + 1) → Q 0 d2))))) : Fr g (eM g M_X7_addFlood FUL FUL Q) M_X7_addFlood FUL 0 [some (zR a), some (zI x1)] [] d := by
  refine z_aloadR_n (i := 0) dX7_addFlood_0 rfl rfl ?_
  refine z_getI' 7 7 (idx := 65) (fv := (d a 7)) (rl0 ha) (by decide) (by decide) rfl (rlt0 ha) wf_X7_65 dX7_addFlood_1 rfl ?_
  refine zb_if_lt (tgt := 36) dX7_addFlood_4 (by decide) h.1 ⟨fun c => ?_, fun c => ?_⟩
  · replace h := h.2.1 c
    exact zret_v rfl dX7_addFlood_36 h
  · replace h := h.2.2 c
    refine z_aloadR_n (i := 0) dX7_addFlood_7 rfl rfl ?_
    refine z_getI' 7 7 (idx := 65) (fv := (d a 7)) (rl0 ha) (by decide) (by decide) rfl (rlt0 ha) wf_X7_65 dX7_addFlood_8 rfl ?_
    refine z_bipush dX7_addFlood_11 (by decide +kernel) ?_
    refine zb_icmp_ge (tgt := 36) dX7_addFlood_13 (by decide) ⟨h.1, by decide⟩ ⟨fun c => ?_, fun c => ?_⟩
    · replace h := h.2.1 c
      exact zret_v rfl dX7_addFlood_36 h
    · replace h := h.2.2 c
      refine z_aloadR_n (i := 0) dX7_addFlood_16 rfl rfl ?_
      refine z_getR 7 6 (idx := 41) (rl0 ha) (by decide) (by decide) rfl (rlt0 ha) rfl (rt0_6 ha) wf_X7_41 dX7_addFlood_17 ?_
      refine z_aloadR_n (i := 0) dX7_addFlood_20 rfl rfl ?_
      refine z_getI' 7 7 (idx := 65) (fv := (d a 7)) (rl0 ha) (by decide) (by decide) rfl (rlt0 ha) wf_X7_65 dX7_addFlood_21 rfl ?_
      refine z_iload_n (i := 1) dX7_addFlood_24 rfl rfl ?_
      refine z_iastore (rl13 ha) (rlt13 ha) (by decide) dX7_addFlood_25 h.1 ?_
      replace h := h.2
      generalize hd1 : mu d (a + 13) (d a 7) x1 = d1
      replace hd1 := hd1.symm
      replace h := h d1 hd1
      refine z_aloadR_n (i := 0) dX7_addFlood_26 rfl rfl ?_
      refine z_dup dX7_addFlood_27 (Nat.le_of_ble_eq_true rfl) ?_
      refine z_getI' 7 7 (idx := 65) (fv := (d a 7)) (rl0 ha) (by decide) (by decide) rfl (rlt0 ha) wf_X7_65 dX7_addFlood_28 (by show d1 a 7 = _; rw [hd1, mu_na (by omega)]) ?_
      refine z_iconst dX7_addFlood_31 ?_
      refine z_iadd dX7_addFlood_32 ?_
      refine z_putI 7 7 (idx := 65) (rl0 ha) (by decide) (by decide) rfl (rlt0 ha) rfl wf_X7_65 dX7_addFlood_33 (Or.inl rfl) ?_
      generalize hd2 : mu d1 a ((7 : Nat) : Int) ((d a 7) + 1) = d2
      replace hd2 : d2 = mu d1 a 7 ((d a 7) + 1) := hd2.symm
      replace h := h d2 hd2
      exact zret_v rfl dX7_addFlood_36 h
theorem e_X7_addFlood {g : zGG} {Q : Int → zMem → Prop} {d : zMem} {a : Nat} {x1 : Int} (ha : isRiv a) (h : ((inR (d a 7)) ∧ ((d a 7) < 0 → Q 0 d) ∧ (0 ≤ (d a 7) → ((inR (d a 7)) ∧ (8 ≤ (d a 7) → Q 0 d) ∧ ((d a 7) < 8 → (0 ≤ (d a 7) ∧ (d a 7) < 8) ∧ ∀ d1, d1 = mu d (a + 13) (d a 7) x1 → ∀ d2, d2 = mu d1 a 7 ((d a 7) + 1) → Q 0 d2))))) : Ev g M_X7_addFlood FUL FUL [zR a, zI x1] d Q :=
  Ev_of (by decide +kernel) (Nat.le_of_ble_eq_true rfl) (v_X7_addFlood_0 ha h)
set_option maxRecDepth 20000 in
theorem v_X7_removeFlood_0 {g : zGG} {Q : Int → zMem → Prop} {d : zMem} {a : Nat} {x1 : Int} (ha : isRiv a)  (h : (Fr g (eM g M_X7_removeFlood FUL FUL Q) M_X7_removeFlood FUL 4 [some (zR a), some (zI x1), some (zI 0), some (zI 0)] [] d)) : Fr g (eM g M_X7_removeFlood FUL FUL Q) M_X7_removeFlood FUL 0 [some (zR a), some (zI x1), none, none] [] d := by
  refine z_iconst dX7_removeFlood_0 ?_
  refine z_istore_n (i := 2) (ls2 := [some (zR a), some (zI x1), some (zI 0), none]) dX7_removeFlood_1 rfl (by decide) rfl ?_
  refine z_iconst dX7_removeFlood_2 ?_
  refine z_istore_n (i := 3) (ls2 := [some (zR a), some (zI x1), some (zI 0), some (zI 0)]) dX7_removeFlood_3 rfl (by decide) rfl ?_
  exact h
theorem e_X7_removeFlood {g : zGG} {Q : Int → zMem → Prop} {d : zMem} {a : Nat} {x1 : Int} (ha : isRiv a) (h : (Fr g (eM g M_X7_removeFlood FUL FUL Q) M_X7_removeFlood FUL 4 [some (zR a), some (zI x1), some (zI 0), some (zI 0)] [] d)) : Ev g M_X7_removeFlood FUL FUL [zR a, zI x1] d Q :=
  Ev_of (by decide +kernel) (Nat.le_of_ble_eq_true rfl) (v_X7_removeFlood_0 ha h)
set_option maxRecDepth 20000 in
theorem v_X7_removeFlood_4 {g : zGG} {Q : Int → zMem → Prop} {d : zMem} {a : Nat} {x1 : Int} (ha : isRiv a) {x2 : Int} {x3 : Int} (h : ((inR x3 ∧ inR (d a 7)) ∧ ((d a 7) ≤ x3 → ∀ d1, d1 = mu d a 7 x2 → Q 0 d1) ∧ (x3 < (d a 7) → ((inR x3) ∧ (8 ≤ x3 → ∀ d2, d2 = mu d a 7 x2 → Q 0 d2) ∧ (x3 < 8 → (0 ≤ x3 ∧ x3 < 8) ∧ ((inR (d (a + 13) x3) ∧ inR x1) ∧ ((d (a + 13) x3) = x1 → (Fr g (eM g M_X7_removeFlood FUL FUL Q) M_X7_removeFlood FUL 4 [some (zR a), some (zI x1), some (zI x2), some (zI (x3 + 1))] [] d)) ∧ ((d (a + 13) x3) ≠ x1 → (0 ≤ x3 ∧ x3 < 8) ∧ (0 ≤ x2 ∧ x2 < 8) ∧ ∀ d3, d3 = mu d (a + 13) x2 (d (a + 13) x3) → (Fr g (eM g M_X7_removeFlood FUL FUL Q) M_X7_removeFlood FUL 4 [some (zR a), some (zI x1), some (zI (x2 + 1)), some (zI (x3 + 1))] [] d3)))))))) : Fr g (eM g M_X7_removeFlood FUL FUL Q) M_X7_removeFlood FUL 4 [some (zR a), some (zI x1), some (zI x2), some (zI x3)] [] d := by
  refine z_iload_n (i := 3) dX7_removeFlood_4 rfl rfl ?_
  refine z_aloadR_n (i := 0) dX7_removeFlood_5 rfl rfl ?_
  refine z_getI' 7 7 (idx := 65) (fv := (d a 7)) (rl0 ha) (by decide) (by decide) rfl (rlt0 ha) wf_X7_65 dX7_removeFlood_6 rfl ?_
  refine zb_icmp_ge (tgt := 49) dX7_removeFlood_9 (by decide) h.1 ⟨fun c => ?_, fun c => ?_⟩
  · replace h := h.2.1 c
    refine z_aloadR_n (i := 0) dX7_removeFlood_49 rfl rfl ?_
    refine z_iload_n (i := 2) dX7_removeFlood_50 rfl rfl ?_
    refine z_putI 7 7 (idx := 65) (rl0 ha) (by decide) (by decide) rfl (rlt0 ha) rfl wf_X7_65 dX7_removeFlood_51 (Or.inl rfl) ?_
    generalize hd1 : mu d a ((7 : Nat) : Int) x2 = d1
    replace hd1 : d1 = mu d a 7 x2 := hd1.symm
    replace h := h d1 hd1
    exact zret_v rfl dX7_removeFlood_54 h
  · replace h := h.2.2 c
    refine z_iload_n (i := 3) dX7_removeFlood_12 rfl rfl ?_
    refine z_bipush dX7_removeFlood_13 (by decide +kernel) ?_
    refine zb_icmp_ge (tgt := 49) dX7_removeFlood_15 (by decide) ⟨h.1, by decide⟩ ⟨fun c => ?_, fun c => ?_⟩
    · replace h := h.2.1 c
      refine z_aloadR_n (i := 0) dX7_removeFlood_49 rfl rfl ?_
      refine z_iload_n (i := 2) dX7_removeFlood_50 rfl rfl ?_
      refine z_putI 7 7 (idx := 65) (rl0 ha) (by decide) (by decide) rfl (rlt0 ha) rfl wf_X7_65 dX7_removeFlood_51 (Or.inl rfl) ?_
      generalize hd2 : mu d a ((7 : Nat) : Int) x2 = d2
      replace hd2 : d2 = mu d a 7 x2 := hd2.symm
      replace h := h d2 hd2
      exact zret_v rfl dX7_removeFlood_54 h
    · replace h := h.2.2 c
      refine z_aloadR_n (i := 0) dX7_removeFlood_18 rfl rfl ?_
      refine z_getR 7 6 (idx := 41) (rl0 ha) (by decide) (by decide) rfl (rlt0 ha) rfl (rt0_6 ha) wf_X7_41 dX7_removeFlood_19 ?_
      refine z_iload_n (i := 3) dX7_removeFlood_22 rfl rfl ?_
      refine z_iaload' (fv := (d (a + 13) x3)) (rl13 ha) (rlt13 ha) (by decide) dX7_removeFlood_23 h.1 rfl ?_
      replace h := h.2
      refine z_iload_n (i := 1) dX7_removeFlood_24 rfl rfl ?_
      refine zb_icmp_eq (tgt := 43) dX7_removeFlood_25 (by decide) h.1 ⟨fun c => ?_, fun c => ?_⟩
      · replace h := h.2.1 c
        refine z_iinc (i := 3) (ls2 := [some (zR a), some (zI x1), some (zI x2), some (zI (x3 + 1))]) dX7_removeFlood_43 (by decide) rfl rfl ?_
        refine z_goto (tgt := 4) dX7_removeFlood_46 (by decide) ?_
        exact h
      · replace h := h.2.2 c
        refine z_aloadR_n (i := 0) dX7_removeFlood_28 rfl rfl ?_
        refine z_getR 7 6 (idx := 41) (rl0 ha) (by decide) (by decide) rfl (rlt0 ha) rfl (rt0_6 ha) wf_X7_41 dX7_removeFlood_29 ?_
        refine z_iload_n (i := 2) dX7_removeFlood_32 rfl rfl ?_
        refine z_aloadR_n (i := 0) dX7_removeFlood_33 rfl rfl ?_
        refine z_getR 7 6 (idx := 41) (rl0 ha) (by decide) (by decide) rfl (rlt0 ha) rfl (rt0_6 ha) wf_X7_41 dX7_removeFlood_34 ?_
        refine z_iload_n (i := 3) dX7_removeFlood_37 rfl rfl ?_
        refine z_iaload' (fv := (d (a + 13) x3)) (rl13 ha) (rlt13 ha) (by decide) dX7_removeFlood_38 h.1 rfl ?_
        replace h := h.2
        refine z_iastore (rl13 ha) (rlt13 ha) (by decide) dX7_removeFlood_39 h.1 ?_
        replace h := h.2
        generalize hd3 : mu d (a + 13) x2 (d (a + 13) x3) = d3
        replace hd3 := hd3.symm
        replace h := h d3 hd3
        refine z_iinc (i := 2) (ls2 := [some (zR a), some (zI x1), some (zI (x2 + 1)), some (zI x3)]) dX7_removeFlood_40 (by decide) rfl rfl ?_
        refine z_iinc (i := 3) (ls2 := [some (zR a), some (zI x1), some (zI (x2 + 1)), some (zI (x3 + 1))]) dX7_removeFlood_43 (by decide) rfl rfl ?_
        refine z_goto (tgt := 4) dX7_removeFlood_46 (by decide) ?_
        exact h
set_option maxRecDepth 20000 in
theorem v_X7_wearOf_0 {g : zGG} {Q : Int → zMem → Prop} {d : zMem} {a : Nat} {x1 : Int} (ha : isRiv a)  (h : Ev g M_X8_isOnLand FUL FUL [zI x1] d (fun v1 d1 => ((inR v1) ∧ (v1 = 0 → Q 0 d1) ∧ (v1 ≠ 0 → (0 ≤ x1 ∧ x1 < 240) ∧ Q (d1 (a + 10) x1) d1)))) : Fr g (eM g M_X7_wearOf FUL FUL Q) M_X7_wearOf FUL 0 [some (zR a), some (zI x1)] [] d := by
  refine z_iload_n (i := 1) dX7_wearOf_0 rfl rfl ?_
  refine z_callSN (k' := M_X8_isOnLand) (As := [zI x1]) (st := []) dX7_wearOf_1 rfl wm_X7_88 ok_X8_isOnLand okS_X8_isOnLand rfl (zroom_self (by decide) (by decide)) (Nat.le_of_ble_eq_true rfl) (Nat.le_refl _) (zEnd_i (Nat.le_refl _) rfl (fun _ _ q => q)) (Ev_mono h (fun v1 d1 h => ?_))
  refine zb_if_eq (tgt := 16) dX7_wearOf_4 (by decide) h.1 ⟨fun c => ?_, fun c => ?_⟩
  · replace h := h.2.1 c
    refine z_iconst dX7_wearOf_16 ?_
    exact zret_i rfl dX7_wearOf_17 h
  · replace h := h.2.2 c
    refine z_aloadR_n (i := 0) dX7_wearOf_7 rfl rfl ?_
    refine z_getR 7 3 (idx := 32) (rl0 ha) (by decide) (by decide) rfl (rlt0 ha) rfl (rt0_3 ha) wf_X7_32 dX7_wearOf_8 ?_
    refine z_iload_n (i := 1) dX7_wearOf_11 rfl rfl ?_
    refine z_iaload' (fv := (d1 (a + 10) x1)) (rl10 ha) (rlt10 ha) (by decide) dX7_wearOf_12 h.1 rfl ?_
    replace h := h.2
    refine z_goto (tgt := 17) dX7_wearOf_13 (by decide) ?_
    exact zret_i rfl dX7_wearOf_17 h
theorem e_X7_wearOf {g : zGG} {Q : Int → zMem → Prop} {d : zMem} {a : Nat} {x1 : Int} (ha : isRiv a) (h : Ev g M_X8_isOnLand FUL FUL [zI x1] d (fun v1 d1 => ((inR v1) ∧ (v1 = 0 → Q 0 d1) ∧ (v1 ≠ 0 → (0 ≤ x1 ∧ x1 < 240) ∧ Q (d1 (a + 10) x1) d1)))) : Ev g M_X7_wearOf FUL FUL [zR a, zI x1] d Q :=
  Ev_of (by decide +kernel) (Nat.le_of_ble_eq_true rfl) (v_X7_wearOf_0 ha h)
set_option maxRecDepth 20000 in
theorem v_X7_wearSum_0 {g : zGG} {Q : Int → zMem → Prop} {d : zMem} {a : Nat} (ha : isRiv a)  (h : (Fr g (eM g M_X7_wearSum FUL FUL Q) M_X7_wearSum FUL 4 [some (zR a), some (zI 0), some (zI 0)] [] d)) : Fr g (eM g M_X7_wearSum FUL FUL Q) M_X7_wearSum FUL 0 [some (zR a), none, none] [] d := by
  refine z_iconst dX7_wearSum_0 ?_
  refine z_istore_n (i := 1) (ls2 := [some (zR a), some (zI 0), none]) dX7_wearSum_1 rfl (by decide) rfl ?_
  refine z_iconst dX7_wearSum_2 ?_
  refine z_istore_n (i := 2) (ls2 := [some (zR a), some (zI 0), some (zI 0)]) dX7_wearSum_3 rfl (by decide) rfl ?_
  exact h
theorem e_X7_wearSum {g : zGG} {Q : Int → zMem → Prop} {d : zMem} {a : Nat} (ha : isRiv a) (h : (Fr g (eM g M_X7_wearSum FUL FUL Q) M_X7_wearSum FUL 4 [some (zR a), some (zI 0), some (zI 0)] [] d)) : Ev g M_X7_wearSum FUL FUL [zR a] d Q :=
  Ev_of (by decide +kernel) (Nat.le_of_ble_eq_true rfl) (v_X7_wearSum_0 ha h)
set_option maxRecDepth 20000 in
theorem v_X7_wearSum_4 {g : zGG} {Q : Int → zMem → Prop} {d : zMem} {a : Nat} (ha : isRiv a) {x1 : Int} {x2 : Int} (h : ((inR x2) ∧ (240 ≤ x2 → Q x1 d) ∧ (x2 < 240 → (0 ≤ x2 ∧ x2 < 240) ∧ (Fr g (eM g M_X7_wearSum FUL FUL Q) M_X7_wearSum FUL 4 [some (zR a), some (zI (x1 + (d (a + 10) x2))), some (zI (x2 + 1))] [] d)))) : Fr g (eM g M_X7_wearSum FUL FUL Q) M_X7_wearSum FUL 4 [some (zR a), some (zI x1), some (zI x2)] [] d := by
  refine z_iload_n (i := 2) dX7_wearSum_4 rfl rfl ?_
  refine z_sipush dX7_wearSum_5 (by decide +kernel) ?_
  refine zb_icmp_ge (tgt := 26) dX7_wearSum_8 (by decide) ⟨h.1, by decide⟩ ⟨fun c => ?_, fun c => ?_⟩
  · replace h := h.2.1 c
    refine z_iload_n (i := 1) dX7_wearSum_26 rfl rfl ?_
    exact zret_i rfl dX7_wearSum_27 h
  · replace h := h.2.2 c
    refine z_iload_n (i := 1) dX7_wearSum_11 rfl rfl ?_
    refine z_aloadR_n (i := 0) dX7_wearSum_12 rfl rfl ?_
    refine z_getR 7 3 (idx := 32) (rl0 ha) (by decide) (by decide) rfl (rlt0 ha) rfl (rt0_3 ha) wf_X7_32 dX7_wearSum_13 ?_
    refine z_iload_n (i := 2) dX7_wearSum_16 rfl rfl ?_
    refine z_iaload' (fv := (d (a + 10) x2)) (rl10 ha) (rlt10 ha) (by decide) dX7_wearSum_17 h.1 rfl ?_
    replace h := h.2
    refine z_iadd dX7_wearSum_18 ?_
    refine z_istore_n (i := 1) (ls2 := [some (zR a), some (zI (x1 + (d (a + 10) x2))), some (zI x2)]) dX7_wearSum_19 rfl (by decide) rfl ?_
    refine z_iinc (i := 2) (ls2 := [some (zR a), some (zI (x1 + (d (a + 10) x2))), some (zI (x2 + 1))]) dX7_wearSum_20 (by decide) rfl rfl ?_
    refine z_goto (tgt := 4) dX7_wearSum_23 (by decide) ?_
    exact h
set_option maxRecDepth 20000 in
theorem v_X7_bankCell_0 {g : zGG} {Q : Int → zMem → Prop} {d : zMem} {a : Nat} {bd : Nat} {x2 : Int} (ha : isRiv a) (hbd : isBd bd)  (h : Ev g M_X1_cellOf FUL FUL [zR (a + 2), zI x2] d (fun v1 d1 => Ev g M_X8_beside FUL FUL [zI v1, zI (d1 bd 2)] d1 (fun v2 d2 => Q v2 d2))) : Fr g (eM g M_X7_bankCell FUL FUL Q) M_X7_bankCell FUL 0 [some (zR a), some (zR bd), some (zI x2)] [] d := by
  refine z_aloadR_n (i := 0) dX7_bankCell_0 rfl rfl ?_
  refine z_getR 7 1 (idx := 21) (rl0 ha) (by decide) (by decide) rfl (rlt0 ha) rfl (rt0_1 ha) wf_X7_21 dX7_bankCell_1 ?_
  refine z_iload_n (i := 2) dX7_bankCell_4 rfl rfl ?_
  refine z_callVi (k' := M_X1_cellOf) (As := [zI x2]) (st := []) dX7_bankCell_5 rfl (rl2 ha) (by decide) rfl (rlt2 ha) wm_X7_102 ok_X1_cellOf okV_X1_cellOf rfl (zroom_self (by decide) (by decide)) (Nat.le_of_ble_eq_true rfl) (Nat.le_refl _) rfl (Ev_mono h (fun v1 d1 h => ?_))
  refine z_aloadR_n (i := 1) dX7_bankCell_8 rfl rfl ?_
  refine z_getIN' 0 2 (idx := 106) (fv := (d1 bd 2)) (lbd hbd) (by decide) (by decide) rfl (ltbd hbd) wf_X7_106 dX7_bankCell_9 rfl ?_
  refine z_callSN (k' := M_X8_beside) (As := [zI v1, zI (d1 bd 2)]) (st := []) dX7_bankCell_12 rfl wm_X7_111 ok_X8_beside okS_X8_beside rfl (zroom_self (by decide) (by decide)) (Nat.le_of_ble_eq_true rfl) (Nat.le_refl _) (zEnd_i (Nat.le_refl _) rfl (fun _ _ q => q)) (Ev_mono h (fun v2 d2 h => ?_))
  exact zret_i rfl dX7_bankCell_15 h
theorem e_X7_bankCell {g : zGG} {Q : Int → zMem → Prop} {d : zMem} {a : Nat} {bd : Nat} {x2 : Int} (ha : isRiv a) (hbd : isBd bd) (h : Ev g M_X1_cellOf FUL FUL [zR (a + 2), zI x2] d (fun v1 d1 => Ev g M_X8_beside FUL FUL [zI v1, zI (d1 bd 2)] d1 (fun v2 d2 => Q v2 d2))) : Ev g M_X7_bankCell FUL FUL [zR a, zR bd, zI x2] d Q :=
  Ev_of (by decide +kernel) (Nat.le_of_ble_eq_true rfl) (v_X7_bankCell_0 ha hbd h)
set_option maxRecDepth 20000 in
theorem v_X7_isFirm_0 {g : zGG} {Q : Int → zMem → Prop} {d : zMem} {a : Nat} {bd : Nat} (ha : isRiv a) (hbd : isBd bd)  (h : (Fr g (eM g M_X7_isFirm FUL FUL Q) M_X7_isFirm FUL 5 [some (zR a), some (zR bd), some (zI (d bd 0)), none] [] d)) : Fr g (eM g M_X7_isFirm FUL FUL Q) M_X7_isFirm FUL 0 [some (zR a), some (zR bd), none, none] [] d := by
  refine z_aloadR_n (i := 1) dX7_isFirm_0 rfl rfl ?_
  refine z_getIN' 0 0 (idx := 114) (fv := (d bd 0)) (lbd hbd) (by decide) (by decide) rfl (ltbd hbd) wf_X7_114 dX7_isFirm_1 rfl ?_
  refine z_istore_n (i := 2) (ls2 := [some (zR a), some (zR bd), some (zI (d bd 0)), none]) dX7_isFirm_4 rfl (by decide) rfl ?_
  exact h
theorem e_X7_isFirm {g : zGG} {Q : Int → zMem → Prop} {d : zMem} {a : Nat} {bd : Nat} (ha : isRiv a) (hbd : isBd bd) (h : (Fr g (eM g M_X7_isFirm FUL FUL Q) M_X7_isFirm FUL 5 [some (zR a), some (zR bd), some (zI (d bd 0)), none] [] d)) : Ev g M_X7_isFirm FUL FUL [zR a, zR bd] d Q :=
  Ev_of (by decide +kernel) (Nat.le_of_ble_eq_true rfl) (v_X7_isFirm_0 ha hbd h)
set_option maxRecDepth 20000 in
theorem v_X7_isFirm_5 {g : zGG} {Q : Int → zMem → Prop} {d : zMem} {a : Nat} {bd : Nat} (ha : isRiv a) (hbd : isBd bd) {x2 : Int} (h : ((inR x2 ∧ inR (d bd 1)) ∧ ((d bd 1) < x2 → Q 0 d) ∧ (x2 ≤ (d bd 1) → Ev g M_X7_bankCell FUL FUL [zR a, zR bd, zI x2] d (fun v1 d1 => ((inR v1) ∧ (v1 = (-1) → Q 1 d1) ∧ (v1 ≠ (-1) → Ev g M_X7_isDike FUL FUL [zR a, zI v1] d1 (fun v2 d2 => ((inR v2) ∧ (v2 ≠ 0 → Q 1 d2) ∧ (v2 = 0 → Ev g M_X1_numberOf FUL FUL [zR (a + 2), zI v1] d2 (fun v3 d3 => ((inR v3) ∧ (v3 = (-1) → (Fr g (eM g M_X7_isFirm FUL FUL Q) M_X7_isFirm FUL 5 [some (zR a), some (zR bd), some (zI (x2 + 1)), none] [] d3)) ∧ (v3 ≠ (-1) → Q 1 d3)))))))))))) : Fr g (eM g M_X7_isFirm FUL FUL Q) M_X7_isFirm FUL 5 [some (zR a), some (zR bd), some (zI x2), none] [] d := by
  refine z_iload_n (i := 2) dX7_isFirm_5 rfl rfl ?_
  refine z_aloadR_n (i := 1) dX7_isFirm_6 rfl rfl ?_
  refine z_getIN' 0 1 (idx := 117) (fv := (d bd 1)) (lbd hbd) (by decide) (by decide) rfl (ltbd hbd) wf_X7_117 dX7_isFirm_7 rfl ?_
  refine zb_icmp_gt (tgt := 53) dX7_isFirm_10 (by decide) h.1 ⟨fun c => ?_, fun c => ?_⟩
  · replace h := h.2.1 c
    refine z_iconst dX7_isFirm_53 ?_
    exact zret_z rfl dX7_isFirm_54 (by decide) h
  · replace h := h.2.2 c
    refine z_aloadR_n (i := 0) dX7_isFirm_13 rfl rfl ?_
    refine z_aloadR_n (i := 1) dX7_isFirm_14 rfl rfl ?_
    refine z_iload_n (i := 2) dX7_isFirm_15 rfl rfl ?_
    refine z_callVi (k' := M_X7_bankCell) (As := [zR bd, zI x2]) (st := []) dX7_isFirm_16 rfl (rl0 ha) (by decide) rfl (rlt0 ha) wm_X7_120 ok_X7_bankCell okV_X7_bankCell rfl (zroom_self (by decide) (by decide)) (Nat.le_of_ble_eq_true rfl) (Nat.le_refl _) rfl (Ev_mono h (fun v1 d1 h => ?_))
    refine z_istore_n (i := 3) (ls2 := [some (zR a), some (zR bd), some (zI x2), some (zI v1)]) dX7_isFirm_19 rfl (by decide) rfl ?_
    refine z_iload_n (i := 3) dX7_isFirm_20 rfl rfl ?_
    refine z_iconst dX7_isFirm_21 ?_
    refine zb_icmp_eq (tgt := 45) dX7_isFirm_22 (by decide) ⟨h.1, by decide⟩ ⟨fun c => ?_, fun c => ?_⟩
    · replace h := h.2.1 c
      refine z_iconst dX7_isFirm_45 ?_
      exact zret_z rfl dX7_isFirm_46 (by decide) h
    · replace h := h.2.2 c
      refine z_aloadR_n (i := 0) dX7_isFirm_25 rfl rfl ?_
      refine z_iload_n (i := 3) dX7_isFirm_26 rfl rfl ?_
      refine z_callVi (k' := M_X7_isDike) (As := [zI v1]) (st := []) dX7_isFirm_27 rfl (rl0 ha) (by decide) rfl (rlt0 ha) wm_X7_124 ok_X7_isDike okV_X7_isDike rfl (zroom_self (by decide) (by decide)) (Nat.le_of_ble_eq_true rfl) (Nat.le_refl _) rfl (Ev_mono h (fun v2 d2 h => ?_))
      refine zb_if_ne (tgt := 45) dX7_isFirm_30 (by decide) h.1 ⟨fun c => ?_, fun c => ?_⟩
      · replace h := h.2.1 c
        refine z_iconst dX7_isFirm_45 ?_
        exact zret_z rfl dX7_isFirm_46 (by decide) h
      · replace h := h.2.2 c
        refine z_aloadR_n (i := 0) dX7_isFirm_33 rfl rfl ?_
        refine z_getR 7 1 (idx := 21) (rl0 ha) (by decide) (by decide) rfl (rlt0 ha) rfl (rt0_1 ha) wf_X7_21 dX7_isFirm_34 ?_
        refine z_iload_n (i := 3) dX7_isFirm_37 rfl rfl ?_
        refine z_callVi (k' := M_X1_numberOf) (As := [zI v1]) (st := []) dX7_isFirm_38 rfl (rl2 ha) (by decide) rfl (rlt2 ha) wm_X7_127 ok_X1_numberOf okV_X1_numberOf rfl (zroom_self (by decide) (by decide)) (Nat.le_of_ble_eq_true rfl) (Nat.le_refl _) rfl (Ev_mono h (fun v3 d3 h => ?_))
        refine z_iconst dX7_isFirm_41 ?_
        refine zb_icmp_eq (tgt := 47) dX7_isFirm_42 (by decide) ⟨h.1, by decide⟩ ⟨fun c => ?_, fun c => ?_⟩
        · replace h := h.2.1 c
          refine z_iinc (i := 2) (ls2 := [some (zR a), some (zR bd), some (zI (x2 + 1)), some (zI v1)]) dX7_isFirm_47 (by decide) rfl rfl ?_
          refine z_goto (tgt := 5) dX7_isFirm_50 (by decide) ?_
          exact Fr_weak (ls2 := [some (zR a), some (zR bd), some (zI (x2 + 1)), none]) (by exact ⟨Or.inr rfl, Or.inr rfl, Or.inr rfl, Or.inl rfl, trivial⟩) h
        · replace h := h.2.2 c
          refine z_iconst dX7_isFirm_45 ?_
          exact zret_z rfl dX7_isFirm_46 (by decide) h
set_option maxRecDepth 20000 in
theorem v_X7_leastWear_0 {g : zGG} {Q : Int → zMem → Prop} {d : zMem} {a : Nat} {bd : Nat} (ha : isRiv a) (hbd : isBd bd)  (h : (Fr g (eM g M_X7_leastWear FUL FUL Q) M_X7_leastWear FUL 8 [some (zR a), some (zR bd), some (zI 99), some (zI (d bd 0))] [] d)) : Fr g (eM g M_X7_leastWear FUL FUL Q) M_X7_leastWear FUL 0 [some (zR a), some (zR bd), none, none] [] d := by
  refine z_bipush dX7_leastWear_0 (by decide +kernel) ?_
  refine z_istore_n (i := 2) (ls2 := [some (zR a), some (zR bd), some (zI 99), none]) dX7_leastWear_2 rfl (by decide) rfl ?_
  refine z_aloadR_n (i := 1) dX7_leastWear_3 rfl rfl ?_
  refine z_getIN' 0 0 (idx := 114) (fv := (d bd 0)) (lbd hbd) (by decide) (by decide) rfl (ltbd hbd) wf_X7_114 dX7_leastWear_4 rfl ?_
  refine z_istore_n (i := 3) (ls2 := [some (zR a), some (zR bd), some (zI 99), some (zI (d bd 0))]) dX7_leastWear_7 rfl (by decide) rfl ?_
  exact h
theorem e_X7_leastWear {g : zGG} {Q : Int → zMem → Prop} {d : zMem} {a : Nat} {bd : Nat} (ha : isRiv a) (hbd : isBd bd) (h : (Fr g (eM g M_X7_leastWear FUL FUL Q) M_X7_leastWear FUL 8 [some (zR a), some (zR bd), some (zI 99), some (zI (d bd 0))] [] d)) : Ev g M_X7_leastWear FUL FUL [zR a, zR bd] d Q :=
  Ev_of (by decide +kernel) (Nat.le_of_ble_eq_true rfl) (v_X7_leastWear_0 ha hbd h)
set_option maxRecDepth 20000 in
theorem v_X7_leastWear_8 {g : zGG} {Q : Int → zMem → Prop} {d : zMem} {a : Nat} {bd : Nat} (ha : isRiv a) (hbd : isBd bd) {x2 : Int} {x3 : Int} (h : ((inR x3 ∧ inR (d bd 1)) ∧ ((d bd 1) < x3 → Q x2 d) ∧ (x3 ≤ (d bd 1) → Ev g M_X7_bankCell FUL FUL [zR a, zR bd, zI x3] d (fun v1 d1 => Ev g M_X7_wearOf FUL FUL [zR a, zI v1] d1 (fun v2 d2 => (inR x2 ∧ inR v2) ∧ (Fr g (eM g M_X7_leastWear FUL FUL Q) M_X7_leastWear FUL 8 [some (zR a), some (zR bd), some (zI (min x2 v2)), some (zI (x3 + 1))] [] d2)))))) : Fr g (eM g M_X7_leastWear FUL FUL Q) M_X7_leastWear FUL 8 [some (zR a), some (zR bd), some (zI x2), some (zI x3)] [] d := by
  refine z_iload_n (i := 3) dX7_leastWear_8 rfl rfl ?_
  refine z_aloadR_n (i := 1) dX7_leastWear_9 rfl rfl ?_
  refine z_getIN' 0 1 (idx := 117) (fv := (d bd 1)) (lbd hbd) (by decide) (by decide) rfl (ltbd hbd) wf_X7_117 dX7_leastWear_10 rfl ?_
  refine zb_icmp_gt (tgt := 37) dX7_leastWear_13 (by decide) h.1 ⟨fun c => ?_, fun c => ?_⟩
  · replace h := h.2.1 c
    refine z_iload_n (i := 2) dX7_leastWear_37 rfl rfl ?_
    exact zret_i rfl dX7_leastWear_38 h
  · replace h := h.2.2 c
    refine z_iload_n (i := 2) dX7_leastWear_16 rfl rfl ?_
    refine z_aloadR_n (i := 0) dX7_leastWear_17 rfl rfl ?_
    refine z_aloadR_n (i := 0) dX7_leastWear_18 rfl rfl ?_
    refine z_aloadR_n (i := 1) dX7_leastWear_19 rfl rfl ?_
    refine z_iload_n (i := 3) dX7_leastWear_20 rfl rfl ?_
    refine z_callVi (k' := M_X7_bankCell) (As := [zR bd, zI x3]) (st := [zR a, zI x2]) dX7_leastWear_21 rfl (rl0 ha) (by decide) rfl (rlt0 ha) wm_X7_120 ok_X7_bankCell okV_X7_bankCell rfl (zroom_self (by decide) (by decide)) (Nat.le_of_ble_eq_true rfl) (Nat.le_refl _) rfl (Ev_mono h (fun v1 d1 h => ?_))
    refine z_callVi (k' := M_X7_wearOf) (As := [zI v1]) (st := [zI x2]) dX7_leastWear_24 rfl (rl0 ha) (by decide) rfl (rlt0 ha) wm_X7_130 ok_X7_wearOf okV_X7_wearOf rfl (zroom_self (by decide) (by decide)) (Nat.le_of_ble_eq_true rfl) (Nat.le_refl _) rfl (Ev_mono h (fun v2 d2 h => ?_))
    refine z_min h.1 dX7_leastWear_27 wm_X7_133 wMs_min wMi wMc_min ⟨Nat.le_of_ble_eq_true rfl, Nat.le_of_ble_eq_true rfl, Nat.le_refl _, Nat.le_refl _⟩ ?_
    replace h := h.2
    refine z_istore_n (i := 2) (ls2 := [some (zR a), some (zR bd), some (zI (min x2 v2)), some (zI x3)]) dX7_leastWear_30 rfl (by decide) rfl ?_
    refine z_iinc (i := 3) (ls2 := [some (zR a), some (zR bd), some (zI (min x2 v2)), some (zI (x3 + 1))]) dX7_leastWear_31 (by decide) rfl rfl ?_
    refine z_goto (tgt := 8) dX7_leastWear_34 (by decide) ?_
    exact h
set_option maxRecDepth 20000 in
theorem v_X7_canGrow_0 {g : zGG} {Q : Int → zMem → Prop} {d : zMem} {a : Nat} {bd : Nat} (ha : isRiv a) (hbd : isBd bd)  (h : Ev g M_X1_length FUL FUL [zR (a + 2)] d (fun v1 d1 => ((inR (v1 + 2)) ∧ (150 < (v1 + 2) → Q 0 d1) ∧ ((v1 + 2) ≤ 150 → Ev g M_X7_isFirm FUL FUL [zR a, zR bd] d1 (fun v2 d2 => ((inR v2) ∧ (v2 ≠ 0 → Q 0 d2) ∧ (v2 = 0 → Ev g M_X7_leastWear FUL FUL [zR a, zR bd] d2 (fun v3 d3 => Ev g M_X7_setting FUL FUL [zR a, zI 1] d3 (fun v4 d4 => ((inR v3 ∧ inR v4) ∧ (v3 < v4 → Q 0 d4) ∧ (v4 ≤ v3 → Q 1 d4))))))))))) : Fr g (eM g M_X7_canGrow FUL FUL Q) M_X7_canGrow FUL 0 [some (zR a), some (zR bd)] [] d := by
  refine z_aloadR_n (i := 0) dX7_canGrow_0 rfl rfl ?_
  refine z_getR 7 1 (idx := 21) (rl0 ha) (by decide) (by decide) rfl (rlt0 ha) rfl (rt0_1 ha) wf_X7_21 dX7_canGrow_1 ?_
  refine z_callVi (k' := M_X1_length) (As := []) (st := []) dX7_canGrow_4 rfl (rl2 ha) (by decide) rfl (rlt2 ha) wm_X7_138 ok_X1_length okV_X1_length rfl (zroom_self (by decide) (by decide)) (Nat.le_of_ble_eq_true rfl) (Nat.le_refl _) rfl (Ev_mono h (fun v1 d1 h => ?_))
  refine z_iconst dX7_canGrow_7 ?_
  refine z_iadd dX7_canGrow_8 ?_
  refine z_sipush dX7_canGrow_9 (by decide +kernel) ?_
  refine zb_icmp_gt (tgt := 40) dX7_canGrow_12 (by decide) ⟨h.1, by decide⟩ ⟨fun c => ?_, fun c => ?_⟩
  · replace h := h.2.1 c
    refine z_iconst dX7_canGrow_40 ?_
    exact zret_z rfl dX7_canGrow_41 (by decide) h
  · replace h := h.2.2 c
    refine z_aloadR_n (i := 0) dX7_canGrow_15 rfl rfl ?_
    refine z_aloadR_n (i := 1) dX7_canGrow_16 rfl rfl ?_
    refine z_callVi (k' := M_X7_isFirm) (As := [zR bd]) (st := []) dX7_canGrow_17 rfl (rl0 ha) (by decide) rfl (rlt0 ha) wm_X7_142 ok_X7_isFirm okV_X7_isFirm rfl (zroom_self (by decide) (by decide)) (Nat.le_of_ble_eq_true rfl) (Nat.le_refl _) rfl (Ev_mono h (fun v2 d2 h => ?_))
    refine zb_if_ne (tgt := 40) dX7_canGrow_20 (by decide) h.1 ⟨fun c => ?_, fun c => ?_⟩
    · replace h := h.2.1 c
      refine z_iconst dX7_canGrow_40 ?_
      exact zret_z rfl dX7_canGrow_41 (by decide) h
    · replace h := h.2.2 c
      refine z_aloadR_n (i := 0) dX7_canGrow_23 rfl rfl ?_
      refine z_aloadR_n (i := 1) dX7_canGrow_24 rfl rfl ?_
      refine z_callVi (k' := M_X7_leastWear) (As := [zR bd]) (st := []) dX7_canGrow_25 rfl (rl0 ha) (by decide) rfl (rlt0 ha) wm_X7_146 ok_X7_leastWear okV_X7_leastWear rfl (zroom_self (by decide) (by decide)) (Nat.le_of_ble_eq_true rfl) (Nat.le_refl _) rfl (Ev_mono h (fun v3 d3 h => ?_))
      refine z_aloadR_n (i := 0) dX7_canGrow_28 rfl rfl ?_
      refine z_iconst dX7_canGrow_29 ?_
      refine z_callVi (k' := M_X7_setting) (As := [zI 1]) (st := [zI v3]) dX7_canGrow_30 rfl (rl0 ha) (by decide) rfl (rlt0 ha) wm_X7_150 ok_X7_setting okV_X7_setting rfl (zroom_self (by decide) (by decide)) (Nat.le_of_ble_eq_true rfl) (Nat.le_refl _) rfl (Ev_mono h (fun v4 d4 h => ?_))
      refine zb_icmp_lt (tgt := 40) dX7_canGrow_33 (by decide) h.1 ⟨fun c => ?_, fun c => ?_⟩
      · replace h := h.2.1 c
        refine z_iconst dX7_canGrow_40 ?_
        exact zret_z rfl dX7_canGrow_41 (by decide) h
      · replace h := h.2.2 c
        refine z_iconst dX7_canGrow_36 ?_
        refine z_goto (tgt := 41) dX7_canGrow_37 (by decide) ?_
        exact zret_z rfl dX7_canGrow_41 (by decide) h
theorem e_X7_canGrow {g : zGG} {Q : Int → zMem → Prop} {d : zMem} {a : Nat} {bd : Nat} (ha : isRiv a) (hbd : isBd bd) (h : Ev g M_X1_length FUL FUL [zR (a + 2)] d (fun v1 d1 => ((inR (v1 + 2)) ∧ (150 < (v1 + 2) → Q 0 d1) ∧ ((v1 + 2) ≤ 150 → Ev g M_X7_isFirm FUL FUL [zR a, zR bd] d1 (fun v2 d2 => ((inR v2) ∧ (v2 ≠ 0 → Q 0 d2) ∧ (v2 = 0 → Ev g M_X7_leastWear FUL FUL [zR a, zR bd] d2 (fun v3 d3 => Ev g M_X7_setting FUL FUL [zR a, zI 1] d3 (fun v4 d4 => ((inR v3 ∧ inR v4) ∧ (v3 < v4 → Q 0 d4) ∧ (v4 ≤ v3 → Q 1 d4))))))))))) : Ev g M_X7_canGrow FUL FUL [zR a, zR bd] d Q :=
  Ev_of (by decide +kernel) (Nat.le_of_ble_eq_true rfl) (v_X7_canGrow_0 ha hbd h)
set_option maxRecDepth 20000 in
theorem v_X7_wearBank_0 {g : zGG} {Q : Int → zMem → Prop} {d : zMem} {a : Nat} {bd : Nat} {x2 : Int} (ha : isRiv a) (hbd : isBd bd)  (h : (Fr g (eM g M_X7_wearBank FUL FUL Q) M_X7_wearBank FUL 5 [some (zR a), some (zR bd), some (zI x2), some (zI (d bd 0)), none, none] [] d)) : Fr g (eM g M_X7_wearBank FUL FUL Q) M_X7_wearBank FUL 0 [some (zR a), some (zR bd), some (zI x2), none, none, none] [] d := by
  refine z_aloadR_n (i := 1) dX7_wearBank_0 rfl rfl ?_
  refine z_getIN' 0 0 (idx := 114) (fv := (d bd 0)) (lbd hbd) (by decide) (by decide) rfl (ltbd hbd) wf_X7_114 dX7_wearBank_1 rfl ?_
  refine z_istore_n (i := 3) (ls2 := [some (zR a), some (zR bd), some (zI x2), some (zI (d bd 0)), none, none]) dX7_wearBank_4 rfl (by decide) rfl ?_
  exact h
theorem e_X7_wearBank {g : zGG} {Q : Int → zMem → Prop} {d : zMem} {a : Nat} {bd : Nat} {x2 : Int} (ha : isRiv a) (hbd : isBd bd) (h : (Fr g (eM g M_X7_wearBank FUL FUL Q) M_X7_wearBank FUL 5 [some (zR a), some (zR bd), some (zI x2), some (zI (d bd 0)), none, none] [] d)) : Ev g M_X7_wearBank FUL FUL [zR a, zR bd, zI x2] d Q :=
  Ev_of (by decide +kernel) (Nat.le_of_ble_eq_true rfl) (v_X7_wearBank_0 ha hbd h)
set_option maxRecDepth 20000 in
theorem v_X7_wearBank_5 {g : zGG} {Q : Int → zMem → Prop} {d : zMem} {a : Nat} {bd : Nat} {x2 : Int} (ha : isRiv a) (hbd : isBd bd) {x3 : Int} (h : ((inR x3 ∧ inR (d bd 1)) ∧ ((d bd 1) < x3 → Q 0 d) ∧ (x3 ≤ (d bd 1) → Ev g M_X7_bankCell FUL FUL [zR a, zR bd, zI x3] d (fun v1 d1 => Ev g M_X8_isOnLand FUL FUL [zI v1] d1 (fun v2 d2 => ((inR v2) ∧ (v2 = 0 → (Fr g (eM g M_X7_wearBank FUL FUL Q) M_X7_wearBank FUL 5 [some (zR a), some (zR bd), some (zI x2), some (zI (x3 + 1)), none, none] [] d2)) ∧ (v2 ≠ 0 → Ev g M_X4_ownerOf FUL FUL [zR (a + 5), zI v1] d2 (fun v3 d3 => ((inR v3) ∧ (v3 = (-1) → (0 ≤ v1 ∧ v1 < 240) ∧ (inR ((d3 (a + 10) v1) + x2)) ∧ (0 ≤ v1 ∧ v1 < 240) ∧ ∀ d4, d4 = mu d3 (a + 10) v1 (min ((d3 (a + 10) v1) + x2) 99) → (Fr g (eM g M_X7_wearBank FUL FUL Q) M_X7_wearBank FUL 5 [some (zR a), some (zR bd), some (zI x2), some (zI (x3 + 1)), none, none] [] d4)) ∧ (v3 ≠ (-1) → (0 ≤ v1 ∧ v1 < 240) ∧ ∀ d5, d5 = mu d3 (a + 10) v1 99 → (Fr g (eM g M_X7_wearBank FUL FUL Q) M_X7_wearBank FUL 5 [some (zR a), some (zR bd), some (zI x2), some (zI (x3 + 1)), none, none] [] d5))))))))))) : Fr g (eM g M_X7_wearBank FUL FUL Q) M_X7_wearBank FUL 5 [some (zR a), some (zR bd), some (zI x2), some (zI x3), none, none] [] d := by
  refine z_iload_n (i := 3) dX7_wearBank_5 rfl rfl ?_
  refine z_aloadR_n (i := 1) dX7_wearBank_6 rfl rfl ?_
  refine z_getIN' 0 1 (idx := 117) (fv := (d bd 1)) (lbd hbd) (by decide) (by decide) rfl (ltbd hbd) wf_X7_117 dX7_wearBank_7 rfl ?_
  refine zb_icmp_gt (tgt := 86) dX7_wearBank_10 (by decide) h.1 ⟨fun c => ?_, fun c => ?_⟩
  · replace h := h.2.1 c
    exact zret_v rfl dX7_wearBank_86 h
  · replace h := h.2.2 c
    refine z_aloadR_n (i := 0) dX7_wearBank_13 rfl rfl ?_
    refine z_aloadR_n (i := 1) dX7_wearBank_14 rfl rfl ?_
    refine z_iload_n (i := 3) dX7_wearBank_15 rfl rfl ?_
    refine z_callVi (k' := M_X7_bankCell) (As := [zR bd, zI x3]) (st := []) dX7_wearBank_16 rfl (rl0 ha) (by decide) rfl (rlt0 ha) wm_X7_120 ok_X7_bankCell okV_X7_bankCell rfl (zroom_self (by decide) (by decide)) (Nat.le_of_ble_eq_true rfl) (Nat.le_refl _) rfl (Ev_mono h (fun v1 d1 h => ?_))
    refine z_istore (i := 4) (ls2 := [some (zR a), some (zR bd), some (zI x2), some (zI x3), some (zI v1), none]) dX7_wearBank_19 (by decide) rfl ?_
    refine z_iload (i := 4) dX7_wearBank_21 rfl ?_
    refine z_callSN (k' := M_X8_isOnLand) (As := [zI v1]) (st := []) dX7_wearBank_23 rfl wm_X7_88 ok_X8_isOnLand okS_X8_isOnLand rfl (zroom_self (by decide) (by decide)) (Nat.le_of_ble_eq_true rfl) (Nat.le_refl _) (zEnd_i (Nat.le_refl _) rfl (fun _ _ q => q)) (Ev_mono h (fun v2 d2 h => ?_))
    refine zb_if_eq (tgt := 80) dX7_wearBank_26 (by decide) h.1 ⟨fun c => ?_, fun c => ?_⟩
    · replace h := h.2.1 c
      refine z_iinc (i := 3) (ls2 := [some (zR a), some (zR bd), some (zI x2), some (zI (x3 + 1)), some (zI v1), none]) dX7_wearBank_80 (by decide) rfl rfl ?_
      refine z_goto (tgt := 5) dX7_wearBank_83 (by decide) ?_
      exact Fr_weak (ls2 := [some (zR a), some (zR bd), some (zI x2), some (zI (x3 + 1)), none, none]) (by exact ⟨Or.inr rfl, Or.inr rfl, Or.inr rfl, Or.inr rfl, Or.inl rfl, Or.inl rfl, trivial⟩) h
    · replace h := h.2.2 c
      refine z_aloadR_n (i := 0) dX7_wearBank_29 rfl rfl ?_
      refine z_getR 7 2 (idx := 28) (rl0 ha) (by decide) (by decide) rfl (rlt0 ha) rfl (rt0_2 ha) wf_X7_28 dX7_wearBank_30 ?_
      refine z_iload (i := 4) dX7_wearBank_33 rfl ?_
      refine z_callVi (k' := M_X4_ownerOf) (As := [zI v1]) (st := []) dX7_wearBank_35 rfl (rl5 ha) (by decide) rfl (rlt5 ha) wm_X7_153 ok_X4_ownerOf okV_X4_ownerOf rfl (zroom_self (by decide) (by decide)) (Nat.le_of_ble_eq_true rfl) (Nat.le_refl _) rfl (Ev_mono h (fun v3 d3 h => ?_))
      refine z_iconst dX7_wearBank_38 ?_
      refine zb_icmp_eq (tgt := 46) dX7_wearBank_39 (by decide) ⟨h.1, by decide⟩ ⟨fun c => ?_, fun c => ?_⟩
      · replace h := h.2.1 c
        refine z_iconst dX7_wearBank_46 ?_
        refine z_istore (i := 5) (ls2 := [some (zR a), some (zR bd), some (zI x2), some (zI x3), some (zI v1), some (zI 0)]) dX7_wearBank_47 (by decide) rfl ?_
        refine z_aloadR_n (i := 0) dX7_wearBank_49 rfl rfl ?_
        refine z_getR 7 3 (idx := 32) (rl0 ha) (by decide) (by decide) rfl (rlt0 ha) rfl (rt0_3 ha) wf_X7_32 dX7_wearBank_50 ?_
        refine z_iload (i := 4) dX7_wearBank_53 rfl ?_
        refine z_iload (i := 5) dX7_wearBank_55 rfl ?_
        refine zb_if_eq (tgt := 65) dX7_wearBank_57 (by decide) (by decide) ⟨fun _ => ?_, fun q => absurd q (by decide)⟩
        refine z_aloadR_n (i := 0) dX7_wearBank_65 rfl rfl ?_
        refine z_getR 7 3 (idx := 32) (rl0 ha) (by decide) (by decide) rfl (rlt0 ha) rfl (rt0_3 ha) wf_X7_32 dX7_wearBank_66 ?_
        refine z_iload (i := 4) dX7_wearBank_69 rfl ?_
        refine z_iaload' (fv := (d3 (a + 10) v1)) (rl10 ha) (rlt10 ha) (by decide) dX7_wearBank_71 h.1 rfl ?_
        replace h := h.2
        refine z_iload_n (i := 2) dX7_wearBank_72 rfl rfl ?_
        refine z_iadd dX7_wearBank_73 ?_
        refine z_bipush dX7_wearBank_74 (by decide +kernel) ?_
        refine z_min ⟨h.1, by decide⟩ dX7_wearBank_76 wm_X7_133 wMs_min wMi wMc_min ⟨Nat.le_of_ble_eq_true rfl, Nat.le_of_ble_eq_true rfl, Nat.le_refl _, Nat.le_refl _⟩ ?_
        replace h := h.2
        refine z_iastore (rl10 ha) (rlt10 ha) (by decide) dX7_wearBank_79 h.1 ?_
        replace h := h.2
        generalize hd4 : mu d3 (a + 10) v1 (min ((d3 (a + 10) v1) + x2) 99) = d4
        replace hd4 := hd4.symm
        replace h := h d4 hd4
        refine z_iinc (i := 3) (ls2 := [some (zR a), some (zR bd), some (zI x2), some (zI (x3 + 1)), some (zI v1), some (zI 0)]) dX7_wearBank_80 (by decide) rfl rfl ?_
        refine z_goto (tgt := 5) dX7_wearBank_83 (by decide) ?_
        exact Fr_weak (ls2 := [some (zR a), some (zR bd), some (zI x2), some (zI (x3 + 1)), none, none]) (by exact ⟨Or.inr rfl, Or.inr rfl, Or.inr rfl, Or.inr rfl, Or.inl rfl, Or.inl rfl, trivial⟩) h
      · replace h := h.2.2 c
        refine z_iconst dX7_wearBank_42 ?_
        refine z_goto (tgt := 47) dX7_wearBank_43 (by decide) ?_
        refine z_istore (i := 5) (ls2 := [some (zR a), some (zR bd), some (zI x2), some (zI x3), some (zI v1), some (zI 1)]) dX7_wearBank_47 (by decide) rfl ?_
        refine z_aloadR_n (i := 0) dX7_wearBank_49 rfl rfl ?_
        refine z_getR 7 3 (idx := 32) (rl0 ha) (by decide) (by decide) rfl (rlt0 ha) rfl (rt0_3 ha) wf_X7_32 dX7_wearBank_50 ?_
        refine z_iload (i := 4) dX7_wearBank_53 rfl ?_
        refine z_iload (i := 5) dX7_wearBank_55 rfl ?_
        refine zb_if_eq (tgt := 65) dX7_wearBank_57 (by decide) (by decide) ⟨fun q => absurd q (by decide), fun _ => ?_⟩
        refine z_bipush dX7_wearBank_60 (by decide +kernel) ?_
        refine z_goto (tgt := 79) dX7_wearBank_62 (by decide) ?_
        refine z_iastore (rl10 ha) (rlt10 ha) (by decide) dX7_wearBank_79 h.1 ?_
        replace h := h.2
        generalize hd5 : mu d3 (a + 10) v1 99 = d5
        replace hd5 := hd5.symm
        replace h := h d5 hd5
        refine z_iinc (i := 3) (ls2 := [some (zR a), some (zR bd), some (zI x2), some (zI (x3 + 1)), some (zI v1), some (zI 1)]) dX7_wearBank_80 (by decide) rfl rfl ?_
        refine z_goto (tgt := 5) dX7_wearBank_83 (by decide) ?_
        exact Fr_weak (ls2 := [some (zR a), some (zR bd), some (zI x2), some (zI (x3 + 1)), none, none]) (by exact ⟨Or.inr rfl, Or.inr rfl, Or.inr rfl, Or.inr rfl, Or.inl rfl, Or.inl rfl, trivial⟩) h
set_option maxRecDepth 20000 in
theorem v_X7_growBend_0 {g : zGG} {Q : Int → zMem → Prop} {d : zMem} {a : Nat} {bd : Nat} (ha : isRiv a) (hbd : isBd bd)  (h : (Fr g (eM g M_X7_growBend FUL FUL Q) M_X7_growBend FUL 5 [some (zR a), some (zR bd), some (zI (d bd 0)), none] [] d)) : Fr g (eM g M_X7_growBend FUL FUL Q) M_X7_growBend FUL 0 [some (zR a), some (zR bd), none, none] [] d := by
  refine z_aloadR_n (i := 1) dX7_growBend_0 rfl rfl ?_
  refine z_getIN' 0 0 (idx := 114) (fv := (d bd 0)) (lbd hbd) (by decide) (by decide) rfl (ltbd hbd) wf_X7_114 dX7_growBend_1 rfl ?_
  refine z_istore_n (i := 2) (ls2 := [some (zR a), some (zR bd), some (zI (d bd 0)), none]) dX7_growBend_4 rfl (by decide) rfl ?_
  exact h
theorem e_X7_growBend {g : zGG} {Q : Int → zMem → Prop} {d : zMem} {a : Nat} {bd : Nat} (ha : isRiv a) (hbd : isBd bd) (h : (Fr g (eM g M_X7_growBend FUL FUL Q) M_X7_growBend FUL 5 [some (zR a), some (zR bd), some (zI (d bd 0)), none] [] d)) : Ev g M_X7_growBend FUL FUL [zR a, zR bd] d Q :=
  Ev_of (by decide +kernel) (Nat.le_of_ble_eq_true rfl) (v_X7_growBend_0 ha hbd h)
set_option maxRecDepth 20000 in
theorem v_X7_growBend_5 {g : zGG} {Q : Int → zMem → Prop} {d : zMem} {a : Nat} {bd : Nat} (ha : isRiv a) (hbd : isBd bd) {x2 : Int} (h : ((inR x2 ∧ inR (d bd 1)) ∧ ((d bd 1) < x2 → Ev g M_X1_bulge FUL FUL [zR (a + 2), zI (d bd 0), zI (d bd 1), zI (d bd 2)] d (fun _ d1 => ∀ d2, d2 = mu d1 a 10 ((d1 a 10) + 1) → Q 0 d2)) ∧ (x2 ≤ (d bd 1) → Ev g M_X7_bankCell FUL FUL [zR a, zR bd, zI x2] d (fun v1 d3 => Ev g M_X8_isOnLand FUL FUL [zI v1] d3 (fun v2 d4 => ((inR v2) ∧ (v2 = 0 → (Fr g (eM g M_X7_growBend FUL FUL Q) M_X7_growBend FUL 5 [some (zR a), some (zR bd), some (zI (x2 + 1)), none] [] d4)) ∧ (v2 ≠ 0 → (0 ≤ v1 ∧ v1 < 240) ∧ ∀ d5, d5 = mu d4 (a + 10) v1 0 → Ev g M_X4_ownerOf FUL FUL [zR (a + 5), zI v1] d5 (fun v3 d6 => Ev g M_X4_drop FUL FUL [zR (a + 5), zI v3] d6 (fun _ d7 => (Fr g (eM g M_X7_growBend FUL FUL Q) M_X7_growBend FUL 5 [some (zR a), some (zR bd), some (zI (x2 + 1)), none] [] d7)))))))))) : Fr g (eM g M_X7_growBend FUL FUL Q) M_X7_growBend FUL 5 [some (zR a), some (zR bd), some (zI x2), none] [] d := by
  refine z_iload_n (i := 2) dX7_growBend_5 rfl rfl ?_
  refine z_aloadR_n (i := 1) dX7_growBend_6 rfl rfl ?_
  refine z_getIN' 0 1 (idx := 117) (fv := (d bd 1)) (lbd hbd) (by decide) (by decide) rfl (ltbd hbd) wf_X7_117 dX7_growBend_7 rfl ?_
  refine zb_icmp_gt (tgt := 55) dX7_growBend_10 (by decide) h.1 ⟨fun c => ?_, fun c => ?_⟩
  · replace h := h.2.1 c
    refine z_aloadR_n (i := 0) dX7_growBend_55 rfl rfl ?_
    refine z_getR 7 1 (idx := 21) (rl0 ha) (by decide) (by decide) rfl (rlt0 ha) rfl (rt0_1 ha) wf_X7_21 dX7_growBend_56 ?_
    refine z_aloadR_n (i := 1) dX7_growBend_59 rfl rfl ?_
    refine z_getIN' 0 0 (idx := 114) (fv := (d bd 0)) (lbd hbd) (by decide) (by decide) rfl (ltbd hbd) wf_X7_114 dX7_growBend_60 rfl ?_
    refine z_aloadR_n (i := 1) dX7_growBend_63 rfl rfl ?_
    refine z_getIN' 0 1 (idx := 117) (fv := (d bd 1)) (lbd hbd) (by decide) (by decide) rfl (ltbd hbd) wf_X7_117 dX7_growBend_64 rfl ?_
    refine z_aloadR_n (i := 1) dX7_growBend_67 rfl rfl ?_
    refine z_getIN' 0 2 (idx := 106) (fv := (d bd 2)) (lbd hbd) (by decide) (by decide) rfl (ltbd hbd) wf_X7_106 dX7_growBend_68 rfl ?_
    refine z_callVv (k' := M_X1_bulge) (As := [zI (d bd 0), zI (d bd 1), zI (d bd 2)]) (st := []) dX7_growBend_71 rfl (rl2 ha) (by decide) rfl (rlt2 ha) wm_X7_159 ok_X1_bulge okV_X1_bulge rfl (zroom_self (by decide) (by decide)) (Nat.le_of_ble_eq_true rfl) (Nat.le_refl _) rfl (Ev_mono h (fun _ d1 h => ?_))
    refine z_aloadR_n (i := 0) dX7_growBend_74 rfl rfl ?_
    refine z_dup dX7_growBend_75 (Nat.le_of_ble_eq_true rfl) ?_
    refine z_getI' 7 10 (idx := 75) (fv := (d1 a 10)) (rl0 ha) (by decide) (by decide) rfl (rlt0 ha) wf_X7_75 dX7_growBend_76 rfl ?_
    refine z_iconst dX7_growBend_79 ?_
    refine z_iadd dX7_growBend_80 ?_
    refine z_putI 7 10 (idx := 75) (rl0 ha) (by decide) (by decide) rfl (rlt0 ha) rfl wf_X7_75 dX7_growBend_81 (Or.inl rfl) ?_
    generalize hd2 : mu d1 a ((10 : Nat) : Int) ((d1 a 10) + 1) = d2
    replace hd2 : d2 = mu d1 a 10 ((d1 a 10) + 1) := hd2.symm
    replace h := h d2 hd2
    exact zret_v rfl dX7_growBend_84 h
  · replace h := h.2.2 c
    refine z_aloadR_n (i := 0) dX7_growBend_13 rfl rfl ?_
    refine z_aloadR_n (i := 1) dX7_growBend_14 rfl rfl ?_
    refine z_iload_n (i := 2) dX7_growBend_15 rfl rfl ?_
    refine z_callVi (k' := M_X7_bankCell) (As := [zR bd, zI x2]) (st := []) dX7_growBend_16 rfl (rl0 ha) (by decide) rfl (rlt0 ha) wm_X7_120 ok_X7_bankCell okV_X7_bankCell rfl (zroom_self (by decide) (by decide)) (Nat.le_of_ble_eq_true rfl) (Nat.le_refl _) rfl (Ev_mono h (fun v1 d3 h => ?_))
    refine z_istore_n (i := 3) (ls2 := [some (zR a), some (zR bd), some (zI x2), some (zI v1)]) dX7_growBend_19 rfl (by decide) rfl ?_
    refine z_iload_n (i := 3) dX7_growBend_20 rfl rfl ?_
    refine z_callSN (k' := M_X8_isOnLand) (As := [zI v1]) (st := []) dX7_growBend_21 rfl wm_X7_88 ok_X8_isOnLand okS_X8_isOnLand rfl (zroom_self (by decide) (by decide)) (Nat.le_of_ble_eq_true rfl) (Nat.le_refl _) (zEnd_i (Nat.le_refl _) rfl (fun _ _ q => q)) (Ev_mono h (fun v2 d4 h => ?_))
    refine zb_if_eq (tgt := 49) dX7_growBend_24 (by decide) h.1 ⟨fun c => ?_, fun c => ?_⟩
    · replace h := h.2.1 c
      refine z_iinc (i := 2) (ls2 := [some (zR a), some (zR bd), some (zI (x2 + 1)), some (zI v1)]) dX7_growBend_49 (by decide) rfl rfl ?_
      refine z_goto (tgt := 5) dX7_growBend_52 (by decide) ?_
      exact Fr_weak (ls2 := [some (zR a), some (zR bd), some (zI (x2 + 1)), none]) (by exact ⟨Or.inr rfl, Or.inr rfl, Or.inr rfl, Or.inl rfl, trivial⟩) h
    · replace h := h.2.2 c
      refine z_aloadR_n (i := 0) dX7_growBend_27 rfl rfl ?_
      refine z_getR 7 3 (idx := 32) (rl0 ha) (by decide) (by decide) rfl (rlt0 ha) rfl (rt0_3 ha) wf_X7_32 dX7_growBend_28 ?_
      refine z_iload_n (i := 3) dX7_growBend_31 rfl rfl ?_
      refine z_iconst dX7_growBend_32 ?_
      refine z_iastore (rl10 ha) (rlt10 ha) (by decide) dX7_growBend_33 h.1 ?_
      replace h := h.2
      generalize hd5 : mu d4 (a + 10) v1 0 = d5
      replace hd5 := hd5.symm
      replace h := h d5 hd5
      refine z_aloadR_n (i := 0) dX7_growBend_34 rfl rfl ?_
      refine z_getR 7 2 (idx := 28) (rl0 ha) (by decide) (by decide) rfl (rlt0 ha) rfl (rt0_2 ha) wf_X7_28 dX7_growBend_35 ?_
      refine z_aloadR_n (i := 0) dX7_growBend_38 rfl rfl ?_
      refine z_getR 7 2 (idx := 28) (rl0 ha) (by decide) (by decide) rfl (rlt0 ha) rfl (rt0_2 ha) wf_X7_28 dX7_growBend_39 ?_
      refine z_iload_n (i := 3) dX7_growBend_42 rfl rfl ?_
      refine z_callVi (k' := M_X4_ownerOf) (As := [zI v1]) (st := [zR (a + 5)]) dX7_growBend_43 rfl (rl5 ha) (by decide) rfl (rlt5 ha) wm_X7_153 ok_X4_ownerOf okV_X4_ownerOf rfl (zroom_self (by decide) (by decide)) (Nat.le_of_ble_eq_true rfl) (Nat.le_refl _) rfl (Ev_mono h (fun v3 d6 h => ?_))
      refine z_callVv (k' := M_X4_drop) (As := [zI v3]) (st := []) dX7_growBend_46 rfl (rl5 ha) (by decide) rfl (rlt5 ha) wm_X7_156 ok_X4_drop okV_X4_drop rfl (zroom_self (by decide) (by decide)) (Nat.le_of_ble_eq_true rfl) (Nat.le_refl _) rfl (Ev_mono h (fun _ d7 h => ?_))
      refine z_iinc (i := 2) (ls2 := [some (zR a), some (zR bd), some (zI (x2 + 1)), some (zI v1)]) dX7_growBend_49 (by decide) rfl rfl ?_
      refine z_goto (tgt := 5) dX7_growBend_52 (by decide) ?_
      exact Fr_weak (ls2 := [some (zR a), some (zR bd), some (zI (x2 + 1)), none]) (by exact ⟨Or.inr rfl, Or.inr rfl, Or.inr rfl, Or.inl rfl, trivial⟩) h
set_option maxRecDepth 20000 in
theorem v_X7_ageOf_0 {g : zGG} {Q : Int → zMem → Prop} {d : zMem} {a : Nat} {x1 : Int} {x2 : Int} (ha : isRiv a)  (h : Ev g M_X1_cellOf FUL FUL [zR (a + 2), zI x1] d (fun v1 d1 => Ev g M_X1_cellOf FUL FUL [zR (a + 2), zI x2] d1 (fun v2 d2 => (inR (v1 - v2)) ∧ ((inR (if 0 ≤ (v1 - v2) then (v1 - v2) else -(v1 - v2))) ∧ ((if 0 ≤ (v1 - v2) then (v1 - v2) else -(v1 - v2)) ≠ 20 → (inR v1 ∧ inR v2) ∧ Ev g M_X7_pairOf FUL FUL [zI (min v1 v2), zI 0] d2 (fun v3 d3 => ((inR v3) ∧ (v3 < 0 → Q 0 d3) ∧ (0 ≤ v3 → ((inR v3) ∧ (480 ≤ v3 → Q 0 d3) ∧ (v3 < 480 → (0 ≤ v3 ∧ v3 < 480) ∧ Q (d3 (a + 12) v3) d3)))))) ∧ ((if 0 ≤ (v1 - v2) then (v1 - v2) else -(v1 - v2)) = 20 → (inR v1 ∧ inR v2) ∧ Ev g M_X7_pairOf FUL FUL [zI (min v1 v2), zI 1] d2 (fun v4 d4 => ((inR v4) ∧ (v4 < 0 → Q 0 d4) ∧ (0 ≤ v4 → ((inR v4) ∧ (480 ≤ v4 → Q 0 d4) ∧ (v4 < 480 → (0 ≤ v4 ∧ v4 < 480) ∧ Q (d4 (a + 12) v4) d4)))))))))) : Fr g (eM g M_X7_ageOf FUL FUL Q) M_X7_ageOf FUL 0 [some (zR a), some (zI x1), some (zI x2), none, none, none, none] [] d := by
  refine z_aloadR_n (i := 0) dX7_ageOf_0 rfl rfl ?_
  refine z_getR 7 1 (idx := 21) (rl0 ha) (by decide) (by decide) rfl (rlt0 ha) rfl (rt0_1 ha) wf_X7_21 dX7_ageOf_1 ?_
  refine z_iload_n (i := 1) dX7_ageOf_4 rfl rfl ?_
  refine z_callVi (k' := M_X1_cellOf) (As := [zI x1]) (st := []) dX7_ageOf_5 rfl (rl2 ha) (by decide) rfl (rlt2 ha) wm_X7_102 ok_X1_cellOf okV_X1_cellOf rfl (zroom_self (by decide) (by decide)) (Nat.le_of_ble_eq_true rfl) (Nat.le_refl _) rfl (Ev_mono h (fun v1 d1 h => ?_))
  refine z_istore_n (i := 3) (ls2 := [some (zR a), some (zI x1), some (zI x2), some (zI v1), none, none, none]) dX7_ageOf_8 rfl (by decide) rfl ?_
  refine z_aloadR_n (i := 0) dX7_ageOf_9 rfl rfl ?_
  refine z_getR 7 1 (idx := 21) (rl0 ha) (by decide) (by decide) rfl (rlt0 ha) rfl (rt0_1 ha) wf_X7_21 dX7_ageOf_10 ?_
  refine z_iload_n (i := 2) dX7_ageOf_13 rfl rfl ?_
  refine z_callVi (k' := M_X1_cellOf) (As := [zI x2]) (st := []) dX7_ageOf_14 rfl (rl2 ha) (by decide) rfl (rlt2 ha) wm_X7_102 ok_X1_cellOf okV_X1_cellOf rfl (zroom_self (by decide) (by decide)) (Nat.le_of_ble_eq_true rfl) (Nat.le_refl _) rfl (Ev_mono h (fun v2 d2 h => ?_))
  refine z_istore (i := 4) (ls2 := [some (zR a), some (zI x1), some (zI x2), some (zI v1), some (zI v2), none, none]) dX7_ageOf_17 (by decide) rfl ?_
  refine z_iload_n (i := 3) dX7_ageOf_19 rfl rfl ?_
  refine z_iload (i := 4) dX7_ageOf_20 rfl ?_
  refine z_isub dX7_ageOf_22 ?_
  refine z_abs h.1 dX7_ageOf_23 wm_X7_163 wMs_abs wMi wMc_abs ⟨Nat.le_of_ble_eq_true rfl, Nat.le_of_ble_eq_true rfl, Nat.le_refl _, Nat.le_refl _⟩ ?_
  replace h := h.2
  refine z_bipush dX7_ageOf_26 (by decide +kernel) ?_
  refine zb_icmp_ne (tgt := 35) dX7_ageOf_28 (by decide) ⟨h.1, by decide⟩ ⟨fun c => ?_, fun c => ?_⟩
  · replace h := h.2.1 c
    refine z_iconst dX7_ageOf_35 ?_
    refine z_istore (i := 5) (ls2 := [some (zR a), some (zI x1), some (zI x2), some (zI v1), some (zI v2), some (zI 0), none]) dX7_ageOf_36 (by decide) rfl ?_
    refine z_iload_n (i := 3) dX7_ageOf_38 rfl rfl ?_
    refine z_iload (i := 4) dX7_ageOf_39 rfl ?_
    refine z_min h.1 dX7_ageOf_41 wm_X7_133 wMs_min wMi wMc_min ⟨Nat.le_of_ble_eq_true rfl, Nat.le_of_ble_eq_true rfl, Nat.le_refl _, Nat.le_refl _⟩ ?_
    replace h := h.2
    refine z_iload (i := 5) dX7_ageOf_44 rfl ?_
    refine z_callS (k' := M_X7_pairOf) (As := [zI (min v1 v2), zI 0]) (st := []) dX7_ageOf_46 rfl wm_X7_166 ok_X7_pairOf okS_X7_pairOf rfl (zroom_self (by decide) (by decide)) (Nat.le_of_ble_eq_true rfl) (Nat.le_refl _) (zEnd_i (Nat.le_refl _) rfl (fun _ _ q => q)) (Ev_mono h (fun v3 d3 h => ?_))
    refine z_istore (i := 6) (ls2 := [some (zR a), some (zI x1), some (zI x2), some (zI v1), some (zI v2), some (zI 0), some (zI v3)]) dX7_ageOf_49 (by decide) rfl ?_
    refine z_iload (i := 6) dX7_ageOf_51 rfl ?_
    refine zb_if_lt (tgt := 74) dX7_ageOf_53 (by decide) h.1 ⟨fun c => ?_, fun c => ?_⟩
    · replace h := h.2.1 c
      refine z_iconst dX7_ageOf_74 ?_
      exact zret_i rfl dX7_ageOf_75 h
    · replace h := h.2.2 c
      refine z_iload (i := 6) dX7_ageOf_56 rfl ?_
      refine z_sipush dX7_ageOf_58 (by decide +kernel) ?_
      refine zb_icmp_ge (tgt := 74) dX7_ageOf_61 (by decide) ⟨h.1, by decide⟩ ⟨fun c => ?_, fun c => ?_⟩
      · replace h := h.2.1 c
        refine z_iconst dX7_ageOf_74 ?_
        exact zret_i rfl dX7_ageOf_75 h
      · replace h := h.2.2 c
        refine z_aloadR_n (i := 0) dX7_ageOf_64 rfl rfl ?_
        refine z_getR 7 5 (idx := 38) (rl0 ha) (by decide) (by decide) rfl (rlt0 ha) rfl (rt0_5 ha) wf_X7_38 dX7_ageOf_65 ?_
        refine z_iload (i := 6) dX7_ageOf_68 rfl ?_
        refine z_iaload' (fv := (d3 (a + 12) v3)) (rl12 ha) (rlt12 ha) (by decide) dX7_ageOf_70 h.1 rfl ?_
        replace h := h.2
        refine z_goto (tgt := 75) dX7_ageOf_71 (by decide) ?_
        exact zret_i rfl dX7_ageOf_75 h
  · replace h := h.2.2 c
    refine z_iconst dX7_ageOf_31 ?_
    refine z_goto (tgt := 36) dX7_ageOf_32 (by decide) ?_
    refine z_istore (i := 5) (ls2 := [some (zR a), some (zI x1), some (zI x2), some (zI v1), some (zI v2), some (zI 1), none]) dX7_ageOf_36 (by decide) rfl ?_
    refine z_iload_n (i := 3) dX7_ageOf_38 rfl rfl ?_
    refine z_iload (i := 4) dX7_ageOf_39 rfl ?_
    refine z_min h.1 dX7_ageOf_41 wm_X7_133 wMs_min wMi wMc_min ⟨Nat.le_of_ble_eq_true rfl, Nat.le_of_ble_eq_true rfl, Nat.le_refl _, Nat.le_refl _⟩ ?_
    replace h := h.2
    refine z_iload (i := 5) dX7_ageOf_44 rfl ?_
    refine z_callS (k' := M_X7_pairOf) (As := [zI (min v1 v2), zI 1]) (st := []) dX7_ageOf_46 rfl wm_X7_166 ok_X7_pairOf okS_X7_pairOf rfl (zroom_self (by decide) (by decide)) (Nat.le_of_ble_eq_true rfl) (Nat.le_refl _) (zEnd_i (Nat.le_refl _) rfl (fun _ _ q => q)) (Ev_mono h (fun v4 d4 h => ?_))
    refine z_istore (i := 6) (ls2 := [some (zR a), some (zI x1), some (zI x2), some (zI v1), some (zI v2), some (zI 1), some (zI v4)]) dX7_ageOf_49 (by decide) rfl ?_
    refine z_iload (i := 6) dX7_ageOf_51 rfl ?_
    refine zb_if_lt (tgt := 74) dX7_ageOf_53 (by decide) h.1 ⟨fun c => ?_, fun c => ?_⟩
    · replace h := h.2.1 c
      refine z_iconst dX7_ageOf_74 ?_
      exact zret_i rfl dX7_ageOf_75 h
    · replace h := h.2.2 c
      refine z_iload (i := 6) dX7_ageOf_56 rfl ?_
      refine z_sipush dX7_ageOf_58 (by decide +kernel) ?_
      refine zb_icmp_ge (tgt := 74) dX7_ageOf_61 (by decide) ⟨h.1, by decide⟩ ⟨fun c => ?_, fun c => ?_⟩
      · replace h := h.2.1 c
        refine z_iconst dX7_ageOf_74 ?_
        exact zret_i rfl dX7_ageOf_75 h
      · replace h := h.2.2 c
        refine z_aloadR_n (i := 0) dX7_ageOf_64 rfl rfl ?_
        refine z_getR 7 5 (idx := 38) (rl0 ha) (by decide) (by decide) rfl (rlt0 ha) rfl (rt0_5 ha) wf_X7_38 dX7_ageOf_65 ?_
        refine z_iload (i := 6) dX7_ageOf_68 rfl ?_
        refine z_iaload' (fv := (d4 (a + 12) v4)) (rl12 ha) (rlt12 ha) (by decide) dX7_ageOf_70 h.1 rfl ?_
        replace h := h.2
        refine z_goto (tgt := 75) dX7_ageOf_71 (by decide) ?_
        exact zret_i rfl dX7_ageOf_75 h
theorem e_X7_ageOf {g : zGG} {Q : Int → zMem → Prop} {d : zMem} {a : Nat} {x1 : Int} {x2 : Int} (ha : isRiv a) (h : Ev g M_X1_cellOf FUL FUL [zR (a + 2), zI x1] d (fun v1 d1 => Ev g M_X1_cellOf FUL FUL [zR (a + 2), zI x2] d1 (fun v2 d2 => (inR (v1 - v2)) ∧ ((inR (if 0 ≤ (v1 - v2) then (v1 - v2) else -(v1 - v2))) ∧ ((if 0 ≤ (v1 - v2) then (v1 - v2) else -(v1 - v2)) ≠ 20 → (inR v1 ∧ inR v2) ∧ Ev g M_X7_pairOf FUL FUL [zI (min v1 v2), zI 0] d2 (fun v3 d3 => ((inR v3) ∧ (v3 < 0 → Q 0 d3) ∧ (0 ≤ v3 → ((inR v3) ∧ (480 ≤ v3 → Q 0 d3) ∧ (v3 < 480 → (0 ≤ v3 ∧ v3 < 480) ∧ Q (d3 (a + 12) v3) d3)))))) ∧ ((if 0 ≤ (v1 - v2) then (v1 - v2) else -(v1 - v2)) = 20 → (inR v1 ∧ inR v2) ∧ Ev g M_X7_pairOf FUL FUL [zI (min v1 v2), zI 1] d2 (fun v4 d4 => ((inR v4) ∧ (v4 < 0 → Q 0 d4) ∧ (0 ≤ v4 → ((inR v4) ∧ (480 ≤ v4 → Q 0 d4) ∧ (v4 < 480 → (0 ≤ v4 ∧ v4 < 480) ∧ Q (d4 (a + 12) v4) d4)))))))))) : Ev g M_X7_ageOf FUL FUL [zR a, zI x1, zI x2] d Q :=
  Ev_of (by decide +kernel) (Nat.le_of_ble_eq_true rfl) (v_X7_ageOf_0 ha h)
set_option maxRecDepth 20000 in
theorem v_X7_agePairs_0 {g : zGG} {Q : Int → zMem → Prop} {d : zMem} {a : Nat} (ha : isRiv a)  (h : (Fr g (eM g M_X7_agePairs FUL FUL Q) M_X7_agePairs FUL 2 [some (zR a), some (zI 0)] [] d)) : Fr g (eM g M_X7_agePairs FUL FUL Q) M_X7_agePairs FUL 0 [some (zR a), none] [] d := by
  refine z_iconst dX7_agePairs_0 ?_
  refine z_istore_n (i := 1) (ls2 := [some (zR a), some (zI 0)]) dX7_agePairs_1 rfl (by decide) rfl ?_
  exact h
theorem e_X7_agePairs {g : zGG} {Q : Int → zMem → Prop} {d : zMem} {a : Nat} (ha : isRiv a) (h : (Fr g (eM g M_X7_agePairs FUL FUL Q) M_X7_agePairs FUL 2 [some (zR a), some (zI 0)] [] d)) : Ev g M_X7_agePairs FUL FUL [zR a] d Q :=
  Ev_of (by decide +kernel) (Nat.le_of_ble_eq_true rfl) (v_X7_agePairs_0 ha h)
set_option maxRecDepth 20000 in
theorem v_X7_agePairs_2 {g : zGG} {Q : Int → zMem → Prop} {d : zMem} {a : Nat} (ha : isRiv a) {x1 : Int} (h : ((inR x1) ∧ (240 ≤ x1 → Q 0 d) ∧ (x1 < 240 → Ev g M_X7_agePair FUL FUL [zR a, zI x1, zI 0] d (fun _ d1 => Ev g M_X7_agePair FUL FUL [zR a, zI x1, zI 1] d1 (fun _ d2 => (Fr g (eM g M_X7_agePairs FUL FUL Q) M_X7_agePairs FUL 2 [some (zR a), some (zI (x1 + 1))] [] d2)))))) : Fr g (eM g M_X7_agePairs FUL FUL Q) M_X7_agePairs FUL 2 [some (zR a), some (zI x1)] [] d := by
  refine z_iload_n (i := 1) dX7_agePairs_2 rfl rfl ?_
  refine z_sipush dX7_agePairs_3 (by decide +kernel) ?_
  refine zb_icmp_ge (tgt := 27) dX7_agePairs_6 (by decide) ⟨h.1, by decide⟩ ⟨fun c => ?_, fun c => ?_⟩
  · replace h := h.2.1 c
    exact zret_v rfl dX7_agePairs_27 h
  · replace h := h.2.2 c
    refine z_aloadR_n (i := 0) dX7_agePairs_9 rfl rfl ?_
    refine z_iload_n (i := 1) dX7_agePairs_10 rfl rfl ?_
    refine z_iconst dX7_agePairs_11 ?_
    refine z_callVv (k' := M_X7_agePair) (As := [zI x1, zI 0]) (st := []) dX7_agePairs_12 rfl (rl0 ha) (by decide) rfl (rlt0 ha) wm_X7_169 ok_X7_agePair okV_X7_agePair rfl (zroom_self (by decide) (by decide)) (Nat.le_of_ble_eq_true rfl) (Nat.le_refl _) rfl (Ev_mono h (fun _ d1 h => ?_))
    refine z_aloadR_n (i := 0) dX7_agePairs_15 rfl rfl ?_
    refine z_iload_n (i := 1) dX7_agePairs_16 rfl rfl ?_
    refine z_iconst dX7_agePairs_17 ?_
    refine z_callVv (k' := M_X7_agePair) (As := [zI x1, zI 1]) (st := []) dX7_agePairs_18 rfl (rl0 ha) (by decide) rfl (rlt0 ha) wm_X7_169 ok_X7_agePair okV_X7_agePair rfl (zroom_self (by decide) (by decide)) (Nat.le_of_ble_eq_true rfl) (Nat.le_refl _) rfl (Ev_mono h (fun _ d2 h => ?_))
    refine z_iinc (i := 1) (ls2 := [some (zR a), some (zI (x1 + 1))]) dX7_agePairs_21 (by decide) rfl rfl ?_
    refine z_goto (tgt := 2) dX7_agePairs_24 (by decide) ?_
    exact h
set_option maxRecDepth 20000 in
theorem v_X7_agePair_0 {g : zGG} {Q : Int → zMem → Prop} {d : zMem} {a : Nat} {x1 : Int} {x2 : Int} (ha : isRiv a)  (h : Ev g M_X1_numberOf FUL FUL [zR (a + 2), zI x1] d (fun v1 d1 => Ev g M_X8_beside FUL FUL [zI x1, zI x2] d1 (fun v2 d2 => Ev g M_X1_numberOf FUL FUL [zR (a + 2), zI v2] d2 (fun v3 d3 => ((inR v1) ∧ (v1 = (-1) → Ev g M_X7_pairOf FUL FUL [zI x1, zI x2] d3 (fun v4 d4 => ((inR v4) ∧ (v4 < 0 → Q 0 d4) ∧ (0 ≤ v4 → ((inR v4) ∧ (480 ≤ v4 → Q 0 d4) ∧ (v4 < 480 → (0 ≤ v4 ∧ v4 < 480) ∧ ∀ d5, d5 = mu d4 (a + 12) v4 0 → Q 0 d5)))))) ∧ (v1 ≠ (-1) → ((inR v3) ∧ (v3 = (-1) → Ev g M_X7_pairOf FUL FUL [zI x1, zI x2] d3 (fun v5 d6 => ((inR v5) ∧ (v5 < 0 → Q 0 d6) ∧ (0 ≤ v5 → ((inR v5) ∧ (480 ≤ v5 → Q 0 d6) ∧ (v5 < 480 → (0 ≤ v5 ∧ v5 < 480) ∧ ∀ d7, d7 = mu d6 (a + 12) v5 0 → Q 0 d7)))))) ∧ (v3 ≠ (-1) → (inR (v1 - v3)) ∧ ((inR (if 0 ≤ (v1 - v3) then (v1 - v3) else -(v1 - v3))) ∧ ((if 0 ≤ (v1 - v3) then (v1 - v3) else -(v1 - v3)) < 3 → Ev g M_X7_pairOf FUL FUL [zI x1, zI x2] d3 (fun v6 d8 => ((inR v6) ∧ (v6 < 0 → Q 0 d8) ∧ (0 ≤ v6 → ((inR v6) ∧ (480 ≤ v6 → Q 0 d8) ∧ (v6 < 480 → (0 ≤ v6 ∧ v6 < 480) ∧ ∀ d9, d9 = mu d8 (a + 12) v6 0 → Q 0 d9)))))) ∧ (3 ≤ (if 0 ≤ (v1 - v3) then (v1 - v3) else -(v1 - v3)) → Ev g M_X7_pairOf FUL FUL [zI x1, zI x2] d3 (fun v7 d10 => ((inR v7) ∧ (v7 < 0 → Q 0 d10) ∧ (0 ≤ v7 → ((inR v7) ∧ (480 ≤ v7 → Q 0 d10) ∧ (v7 < 480 → (0 ≤ v7 ∧ v7 < 480) ∧ (0 ≤ v7 ∧ v7 < 480) ∧ ∀ d11, d11 = mu d10 (a + 12) v7 ((d10 (a + 12) v7) + 1) → Q 0 d11))))))))))))))) : Fr g (eM g M_X7_agePair FUL FUL Q) M_X7_agePair FUL 0 [some (zR a), some (zI x1), some (zI x2), none, none, none, none] [] d := by
  refine z_aloadR_n (i := 0) dX7_agePair_0 rfl rfl ?_
  refine z_getR 7 1 (idx := 21) (rl0 ha) (by decide) (by decide) rfl (rlt0 ha) rfl (rt0_1 ha) wf_X7_21 dX7_agePair_1 ?_
  refine z_iload_n (i := 1) dX7_agePair_4 rfl rfl ?_
  refine z_callVi (k' := M_X1_numberOf) (As := [zI x1]) (st := []) dX7_agePair_5 rfl (rl2 ha) (by decide) rfl (rlt2 ha) wm_X7_127 ok_X1_numberOf okV_X1_numberOf rfl (zroom_self (by decide) (by decide)) (Nat.le_of_ble_eq_true rfl) (Nat.le_refl _) rfl (Ev_mono h (fun v1 d1 h => ?_))
  refine z_istore_n (i := 3) (ls2 := [some (zR a), some (zI x1), some (zI x2), some (zI v1), none, none, none]) dX7_agePair_8 rfl (by decide) rfl ?_
  refine z_aloadR_n (i := 0) dX7_agePair_9 rfl rfl ?_
  refine z_getR 7 1 (idx := 21) (rl0 ha) (by decide) (by decide) rfl (rlt0 ha) rfl (rt0_1 ha) wf_X7_21 dX7_agePair_10 ?_
  refine z_iload_n (i := 1) dX7_agePair_13 rfl rfl ?_
  refine z_iload_n (i := 2) dX7_agePair_14 rfl rfl ?_
  refine z_callSN (k' := M_X8_beside) (As := [zI x1, zI x2]) (st := [zR (a + 2)]) dX7_agePair_15 rfl wm_X7_111 ok_X8_beside okS_X8_beside rfl (zroom_self (by decide) (by decide)) (Nat.le_of_ble_eq_true rfl) (Nat.le_refl _) (zEnd_i (Nat.le_refl _) rfl (fun _ _ q => q)) (Ev_mono h (fun v2 d2 h => ?_))
  refine z_callVi (k' := M_X1_numberOf) (As := [zI v2]) (st := []) dX7_agePair_18 rfl (rl2 ha) (by decide) rfl (rlt2 ha) wm_X7_127 ok_X1_numberOf okV_X1_numberOf rfl (zroom_self (by decide) (by decide)) (Nat.le_of_ble_eq_true rfl) (Nat.le_refl _) rfl (Ev_mono h (fun v3 d3 h => ?_))
  refine z_istore (i := 4) (ls2 := [some (zR a), some (zI x1), some (zI x2), some (zI v1), some (zI v3), none, none]) dX7_agePair_21 (by decide) rfl ?_
  refine z_iload_n (i := 3) dX7_agePair_23 rfl rfl ?_
  refine z_iconst dX7_agePair_24 ?_
  refine zb_icmp_eq (tgt := 49) dX7_agePair_25 (by decide) ⟨h.1, by decide⟩ ⟨fun c => ?_, fun c => ?_⟩
  · replace h := h.2.1 c
    refine z_iconst dX7_agePair_49 ?_
    refine z_istore (i := 5) (ls2 := [some (zR a), some (zI x1), some (zI x2), some (zI v1), some (zI v3), some (zI 0), none]) dX7_agePair_50 (by decide) rfl ?_
    refine z_iload_n (i := 1) dX7_agePair_52 rfl rfl ?_
    refine z_iload_n (i := 2) dX7_agePair_53 rfl rfl ?_
    refine z_callS (k' := M_X7_pairOf) (As := [zI x1, zI x2]) (st := []) dX7_agePair_54 rfl wm_X7_166 ok_X7_pairOf okS_X7_pairOf rfl (zroom_self (by decide) (by decide)) (Nat.le_of_ble_eq_true rfl) (Nat.le_refl _) (zEnd_i (Nat.le_refl _) rfl (fun _ _ q => q)) (Ev_mono h (fun v4 d4 h => ?_))
    refine z_istore (i := 6) (ls2 := [some (zR a), some (zI x1), some (zI x2), some (zI v1), some (zI v3), some (zI 0), some (zI v4)]) dX7_agePair_57 (by decide) rfl ?_
    refine z_iload (i := 6) dX7_agePair_59 rfl ?_
    refine zb_if_lt (tgt := 97) dX7_agePair_61 (by decide) h.1 ⟨fun c => ?_, fun c => ?_⟩
    · replace h := h.2.1 c
      exact zret_v rfl dX7_agePair_97 h
    · replace h := h.2.2 c
      refine z_iload (i := 6) dX7_agePair_64 rfl ?_
      refine z_sipush dX7_agePair_66 (by decide +kernel) ?_
      refine zb_icmp_ge (tgt := 97) dX7_agePair_69 (by decide) ⟨h.1, by decide⟩ ⟨fun c => ?_, fun c => ?_⟩
      · replace h := h.2.1 c
        exact zret_v rfl dX7_agePair_97 h
      · replace h := h.2.2 c
        refine z_aloadR_n (i := 0) dX7_agePair_72 rfl rfl ?_
        refine z_getR 7 5 (idx := 38) (rl0 ha) (by decide) (by decide) rfl (rlt0 ha) rfl (rt0_5 ha) wf_X7_38 dX7_agePair_73 ?_
        refine z_iload (i := 6) dX7_agePair_76 rfl ?_
        refine z_iload (i := 5) dX7_agePair_78 rfl ?_
        refine zb_if_eq (tgt := 95) dX7_agePair_80 (by decide) (by decide) ⟨fun _ => ?_, fun q => absurd q (by decide)⟩
        refine z_iconst dX7_agePair_95 ?_
        refine z_iastore (rl12 ha) (rlt12 ha) (by decide) dX7_agePair_96 h.1 ?_
        replace h := h.2
        generalize hd5 : mu d4 (a + 12) v4 0 = d5
        replace hd5 := hd5.symm
        replace h := h d5 hd5
        exact zret_v rfl dX7_agePair_97 h
  · replace h := h.2.2 c
    refine z_iload (i := 4) dX7_agePair_28 rfl ?_
    refine z_iconst dX7_agePair_30 ?_
    refine zb_icmp_eq (tgt := 49) dX7_agePair_31 (by decide) ⟨h.1, by decide⟩ ⟨fun c => ?_, fun c => ?_⟩
    · replace h := h.2.1 c
      refine z_iconst dX7_agePair_49 ?_
      refine z_istore (i := 5) (ls2 := [some (zR a), some (zI x1), some (zI x2), some (zI v1), some (zI v3), some (zI 0), none]) dX7_agePair_50 (by decide) rfl ?_
      refine z_iload_n (i := 1) dX7_agePair_52 rfl rfl ?_
      refine z_iload_n (i := 2) dX7_agePair_53 rfl rfl ?_
      refine z_callS (k' := M_X7_pairOf) (As := [zI x1, zI x2]) (st := []) dX7_agePair_54 rfl wm_X7_166 ok_X7_pairOf okS_X7_pairOf rfl (zroom_self (by decide) (by decide)) (Nat.le_of_ble_eq_true rfl) (Nat.le_refl _) (zEnd_i (Nat.le_refl _) rfl (fun _ _ q => q)) (Ev_mono h (fun v5 d6 h => ?_))
      refine z_istore (i := 6) (ls2 := [some (zR a), some (zI x1), some (zI x2), some (zI v1), some (zI v3), some (zI 0), some (zI v5)]) dX7_agePair_57 (by decide) rfl ?_
      refine z_iload (i := 6) dX7_agePair_59 rfl ?_
      refine zb_if_lt (tgt := 97) dX7_agePair_61 (by decide) h.1 ⟨fun c => ?_, fun c => ?_⟩
      · replace h := h.2.1 c
        exact zret_v rfl dX7_agePair_97 h
      · replace h := h.2.2 c
        refine z_iload (i := 6) dX7_agePair_64 rfl ?_
        refine z_sipush dX7_agePair_66 (by decide +kernel) ?_
        refine zb_icmp_ge (tgt := 97) dX7_agePair_69 (by decide) ⟨h.1, by decide⟩ ⟨fun c => ?_, fun c => ?_⟩
        · replace h := h.2.1 c
          exact zret_v rfl dX7_agePair_97 h
        · replace h := h.2.2 c
          refine z_aloadR_n (i := 0) dX7_agePair_72 rfl rfl ?_
          refine z_getR 7 5 (idx := 38) (rl0 ha) (by decide) (by decide) rfl (rlt0 ha) rfl (rt0_5 ha) wf_X7_38 dX7_agePair_73 ?_
          refine z_iload (i := 6) dX7_agePair_76 rfl ?_
          refine z_iload (i := 5) dX7_agePair_78 rfl ?_
          refine zb_if_eq (tgt := 95) dX7_agePair_80 (by decide) (by decide) ⟨fun _ => ?_, fun q => absurd q (by decide)⟩
          refine z_iconst dX7_agePair_95 ?_
          refine z_iastore (rl12 ha) (rlt12 ha) (by decide) dX7_agePair_96 h.1 ?_
          replace h := h.2
          generalize hd7 : mu d6 (a + 12) v5 0 = d7
          replace hd7 := hd7.symm
          replace h := h d7 hd7
          exact zret_v rfl dX7_agePair_97 h
    · replace h := h.2.2 c
      refine z_iload_n (i := 3) dX7_agePair_34 rfl rfl ?_
      refine z_iload (i := 4) dX7_agePair_35 rfl ?_
      refine z_isub dX7_agePair_37 ?_
      refine z_abs h.1 dX7_agePair_38 wm_X7_163 wMs_abs wMi wMc_abs ⟨Nat.le_of_ble_eq_true rfl, Nat.le_of_ble_eq_true rfl, Nat.le_refl _, Nat.le_refl _⟩ ?_
      replace h := h.2
      refine z_iconst dX7_agePair_41 ?_
      refine zb_icmp_lt (tgt := 49) dX7_agePair_42 (by decide) ⟨h.1, by decide⟩ ⟨fun c => ?_, fun c => ?_⟩
      · replace h := h.2.1 c
        refine z_iconst dX7_agePair_49 ?_
        refine z_istore (i := 5) (ls2 := [some (zR a), some (zI x1), some (zI x2), some (zI v1), some (zI v3), some (zI 0), none]) dX7_agePair_50 (by decide) rfl ?_
        refine z_iload_n (i := 1) dX7_agePair_52 rfl rfl ?_
        refine z_iload_n (i := 2) dX7_agePair_53 rfl rfl ?_
        refine z_callS (k' := M_X7_pairOf) (As := [zI x1, zI x2]) (st := []) dX7_agePair_54 rfl wm_X7_166 ok_X7_pairOf okS_X7_pairOf rfl (zroom_self (by decide) (by decide)) (Nat.le_of_ble_eq_true rfl) (Nat.le_refl _) (zEnd_i (Nat.le_refl _) rfl (fun _ _ q => q)) (Ev_mono h (fun v6 d8 h => ?_))
        refine z_istore (i := 6) (ls2 := [some (zR a), some (zI x1), some (zI x2), some (zI v1), some (zI v3), some (zI 0), some (zI v6)]) dX7_agePair_57 (by decide) rfl ?_
        refine z_iload (i := 6) dX7_agePair_59 rfl ?_
        refine zb_if_lt (tgt := 97) dX7_agePair_61 (by decide) h.1 ⟨fun c => ?_, fun c => ?_⟩
        · replace h := h.2.1 c
          exact zret_v rfl dX7_agePair_97 h
        · replace h := h.2.2 c
          refine z_iload (i := 6) dX7_agePair_64 rfl ?_
          refine z_sipush dX7_agePair_66 (by decide +kernel) ?_
          refine zb_icmp_ge (tgt := 97) dX7_agePair_69 (by decide) ⟨h.1, by decide⟩ ⟨fun c => ?_, fun c => ?_⟩
          · replace h := h.2.1 c
            exact zret_v rfl dX7_agePair_97 h
          · replace h := h.2.2 c
            refine z_aloadR_n (i := 0) dX7_agePair_72 rfl rfl ?_
            refine z_getR 7 5 (idx := 38) (rl0 ha) (by decide) (by decide) rfl (rlt0 ha) rfl (rt0_5 ha) wf_X7_38 dX7_agePair_73 ?_
            refine z_iload (i := 6) dX7_agePair_76 rfl ?_
            refine z_iload (i := 5) dX7_agePair_78 rfl ?_
            refine zb_if_eq (tgt := 95) dX7_agePair_80 (by decide) (by decide) ⟨fun _ => ?_, fun q => absurd q (by decide)⟩
            refine z_iconst dX7_agePair_95 ?_
            refine z_iastore (rl12 ha) (rlt12 ha) (by decide) dX7_agePair_96 h.1 ?_
            replace h := h.2
            generalize hd9 : mu d8 (a + 12) v6 0 = d9
            replace hd9 := hd9.symm
            replace h := h d9 hd9
            exact zret_v rfl dX7_agePair_97 h
      · replace h := h.2.2 c
        refine z_iconst dX7_agePair_45 ?_
        refine z_goto (tgt := 50) dX7_agePair_46 (by decide) ?_
        refine z_istore (i := 5) (ls2 := [some (zR a), some (zI x1), some (zI x2), some (zI v1), some (zI v3), some (zI 1), none]) dX7_agePair_50 (by decide) rfl ?_
        refine z_iload_n (i := 1) dX7_agePair_52 rfl rfl ?_
        refine z_iload_n (i := 2) dX7_agePair_53 rfl rfl ?_
        refine z_callS (k' := M_X7_pairOf) (As := [zI x1, zI x2]) (st := []) dX7_agePair_54 rfl wm_X7_166 ok_X7_pairOf okS_X7_pairOf rfl (zroom_self (by decide) (by decide)) (Nat.le_of_ble_eq_true rfl) (Nat.le_refl _) (zEnd_i (Nat.le_refl _) rfl (fun _ _ q => q)) (Ev_mono h (fun v7 d10 h => ?_))
        refine z_istore (i := 6) (ls2 := [some (zR a), some (zI x1), some (zI x2), some (zI v1), some (zI v3), some (zI 1), some (zI v7)]) dX7_agePair_57 (by decide) rfl ?_
        refine z_iload (i := 6) dX7_agePair_59 rfl ?_
        refine zb_if_lt (tgt := 97) dX7_agePair_61 (by decide) h.1 ⟨fun c => ?_, fun c => ?_⟩
        · replace h := h.2.1 c
          exact zret_v rfl dX7_agePair_97 h
        · replace h := h.2.2 c
          refine z_iload (i := 6) dX7_agePair_64 rfl ?_
          refine z_sipush dX7_agePair_66 (by decide +kernel) ?_
          refine zb_icmp_ge (tgt := 97) dX7_agePair_69 (by decide) ⟨h.1, by decide⟩ ⟨fun c => ?_, fun c => ?_⟩
          · replace h := h.2.1 c
            exact zret_v rfl dX7_agePair_97 h
          · replace h := h.2.2 c
            refine z_aloadR_n (i := 0) dX7_agePair_72 rfl rfl ?_
            refine z_getR 7 5 (idx := 38) (rl0 ha) (by decide) (by decide) rfl (rlt0 ha) rfl (rt0_5 ha) wf_X7_38 dX7_agePair_73 ?_
            refine z_iload (i := 6) dX7_agePair_76 rfl ?_
            refine z_iload (i := 5) dX7_agePair_78 rfl ?_
            refine zb_if_eq (tgt := 95) dX7_agePair_80 (by decide) (by decide) ⟨fun q => absurd q (by decide), fun _ => ?_⟩
            refine z_aloadR_n (i := 0) dX7_agePair_83 rfl rfl ?_
            refine z_getR 7 5 (idx := 38) (rl0 ha) (by decide) (by decide) rfl (rlt0 ha) rfl (rt0_5 ha) wf_X7_38 dX7_agePair_84 ?_
            refine z_iload (i := 6) dX7_agePair_87 rfl ?_
            refine z_iaload' (fv := (d10 (a + 12) v7)) (rl12 ha) (rlt12 ha) (by decide) dX7_agePair_89 h.1 rfl ?_
            replace h := h.2
            refine z_iconst dX7_agePair_90 ?_
            refine z_iadd dX7_agePair_91 ?_
            refine z_goto (tgt := 96) dX7_agePair_92 (by decide) ?_
            refine z_iastore (rl12 ha) (rlt12 ha) (by decide) dX7_agePair_96 h.1 ?_
            replace h := h.2
            generalize hd11 : mu d10 (a + 12) v7 ((d10 (a + 12) v7) + 1) = d11
            replace hd11 := hd11.symm
            replace h := h d11 hd11
            exact zret_v rfl dX7_agePair_97 h
theorem e_X7_agePair {g : zGG} {Q : Int → zMem → Prop} {d : zMem} {a : Nat} {x1 : Int} {x2 : Int} (ha : isRiv a) (h : Ev g M_X1_numberOf FUL FUL [zR (a + 2), zI x1] d (fun v1 d1 => Ev g M_X8_beside FUL FUL [zI x1, zI x2] d1 (fun v2 d2 => Ev g M_X1_numberOf FUL FUL [zR (a + 2), zI v2] d2 (fun v3 d3 => ((inR v1) ∧ (v1 = (-1) → Ev g M_X7_pairOf FUL FUL [zI x1, zI x2] d3 (fun v4 d4 => ((inR v4) ∧ (v4 < 0 → Q 0 d4) ∧ (0 ≤ v4 → ((inR v4) ∧ (480 ≤ v4 → Q 0 d4) ∧ (v4 < 480 → (0 ≤ v4 ∧ v4 < 480) ∧ ∀ d5, d5 = mu d4 (a + 12) v4 0 → Q 0 d5)))))) ∧ (v1 ≠ (-1) → ((inR v3) ∧ (v3 = (-1) → Ev g M_X7_pairOf FUL FUL [zI x1, zI x2] d3 (fun v5 d6 => ((inR v5) ∧ (v5 < 0 → Q 0 d6) ∧ (0 ≤ v5 → ((inR v5) ∧ (480 ≤ v5 → Q 0 d6) ∧ (v5 < 480 → (0 ≤ v5 ∧ v5 < 480) ∧ ∀ d7, d7 = mu d6 (a + 12) v5 0 → Q 0 d7)))))) ∧ (v3 ≠ (-1) → (inR (v1 - v3)) ∧ ((inR (if 0 ≤ (v1 - v3) then (v1 - v3) else -(v1 - v3))) ∧ ((if 0 ≤ (v1 - v3) then (v1 - v3) else -(v1 - v3)) < 3 → Ev g M_X7_pairOf FUL FUL [zI x1, zI x2] d3 (fun v6 d8 => ((inR v6) ∧ (v6 < 0 → Q 0 d8) ∧ (0 ≤ v6 → ((inR v6) ∧ (480 ≤ v6 → Q 0 d8) ∧ (v6 < 480 → (0 ≤ v6 ∧ v6 < 480) ∧ ∀ d9, d9 = mu d8 (a + 12) v6 0 → Q 0 d9)))))) ∧ (3 ≤ (if 0 ≤ (v1 - v3) then (v1 - v3) else -(v1 - v3)) → Ev g M_X7_pairOf FUL FUL [zI x1, zI x2] d3 (fun v7 d10 => ((inR v7) ∧ (v7 < 0 → Q 0 d10) ∧ (0 ≤ v7 → ((inR v7) ∧ (480 ≤ v7 → Q 0 d10) ∧ (v7 < 480 → (0 ≤ v7 ∧ v7 < 480) ∧ (0 ≤ v7 ∧ v7 < 480) ∧ ∀ d11, d11 = mu d10 (a + 12) v7 ((d10 (a + 12) v7) + 1) → Q 0 d11))))))))))))))) : Ev g M_X7_agePair FUL FUL [zR a, zI x1, zI x2] d Q :=
  Ev_of (by decide +kernel) (Nat.le_of_ble_eq_true rfl) (v_X7_agePair_0 ha h)
set_option maxRecDepth 20000 in
theorem v_X7_pairOf_0 {g : zGG} {Q : Int → zMem → Prop} {d : zMem} {x0 : Int} {x1 : Int}  (h : Q ((2 * x0) + x1) d) : Fr g (eM g M_X7_pairOf FUL FUL Q) M_X7_pairOf FUL 0 [some (zI x0), some (zI x1)] [] d := by
  refine z_iconst dX7_pairOf_0 ?_
  refine z_iload_n (i := 0) dX7_pairOf_1 rfl rfl ?_
  refine z_imul dX7_pairOf_2 ?_
  refine z_iload_n (i := 1) dX7_pairOf_3 rfl rfl ?_
  refine z_iadd dX7_pairOf_4 ?_
  exact zret_i rfl dX7_pairOf_5 h
theorem e_X7_pairOf {g : zGG} {Q : Int → zMem → Prop} {d : zMem} {x0 : Int} {x1 : Int} (h : Q ((2 * x0) + x1) d) : Ev g M_X7_pairOf FUL FUL [zI x0, zI x1] d Q :=
  Ev_of (by decide +kernel) (Nat.le_of_ble_eq_true rfl) (v_X7_pairOf_0  h)
set_option maxRecDepth 20000 in
theorem v_X7_cutBetween_0 {g : zGG} {Q : Int → zMem → Prop} {d : zMem} {a : Nat} {x1 : Int} {x2 : Int} (ha : isRiv a)  (h : Ev g M_X4_take FUL FUL [zR (a + 5), zR (a + 2), zI x1, zI x2] d (fun _ d1 => Ev g M_X1_shorten FUL FUL [zR (a + 2), zI x1, zI x2] d1 (fun _ d2 => ∀ d3, d3 = mu d2 a 9 ((d2 a 9) + 1) → Q 0 d3))) : Fr g (eM g M_X7_cutBetween FUL FUL Q) M_X7_cutBetween FUL 0 [some (zR a), some (zI x1), some (zI x2)] [] d := by
  refine z_aloadR_n (i := 0) dX7_cutBetween_0 rfl rfl ?_
  refine z_getR 7 2 (idx := 28) (rl0 ha) (by decide) (by decide) rfl (rlt0 ha) rfl (rt0_2 ha) wf_X7_28 dX7_cutBetween_1 ?_
  refine z_aloadR_n (i := 0) dX7_cutBetween_4 rfl rfl ?_
  refine z_getR 7 1 (idx := 21) (rl0 ha) (by decide) (by decide) rfl (rlt0 ha) rfl (rt0_1 ha) wf_X7_21 dX7_cutBetween_5 ?_
  refine z_iload_n (i := 1) dX7_cutBetween_8 rfl rfl ?_
  refine z_iload_n (i := 2) dX7_cutBetween_9 rfl rfl ?_
  refine z_callVv (k' := M_X4_take) (As := [zR (a + 2), zI x1, zI x2]) (st := []) dX7_cutBetween_10 rfl (rl5 ha) (by decide) rfl (rlt5 ha) wm_X7_173 ok_X4_take okV_X4_take rfl (zroom_self (by decide) (by decide)) (Nat.le_of_ble_eq_true rfl) (Nat.le_refl _) rfl (Ev_mono h (fun _ d1 h => ?_))
  refine z_aloadR_n (i := 0) dX7_cutBetween_13 rfl rfl ?_
  refine z_getR 7 1 (idx := 21) (rl0 ha) (by decide) (by decide) rfl (rlt0 ha) rfl (rt0_1 ha) wf_X7_21 dX7_cutBetween_14 ?_
  refine z_iload_n (i := 1) dX7_cutBetween_17 rfl rfl ?_
  refine z_iload_n (i := 2) dX7_cutBetween_18 rfl rfl ?_
  refine z_callVv (k' := M_X1_shorten) (As := [zI x1, zI x2]) (st := []) dX7_cutBetween_19 rfl (rl2 ha) (by decide) rfl (rlt2 ha) wm_X7_177 ok_X1_shorten okV_X1_shorten rfl (zroom_self (by decide) (by decide)) (Nat.le_of_ble_eq_true rfl) (Nat.le_refl _) rfl (Ev_mono h (fun _ d2 h => ?_))
  refine z_aloadR_n (i := 0) dX7_cutBetween_22 rfl rfl ?_
  refine z_dup dX7_cutBetween_23 (Nat.le_of_ble_eq_true rfl) ?_
  refine z_getI' 7 9 (idx := 72) (fv := (d2 a 9)) (rl0 ha) (by decide) (by decide) rfl (rlt0 ha) wf_X7_72 dX7_cutBetween_24 rfl ?_
  refine z_iconst dX7_cutBetween_27 ?_
  refine z_iadd dX7_cutBetween_28 ?_
  refine z_putI 7 9 (idx := 72) (rl0 ha) (by decide) (by decide) rfl (rlt0 ha) rfl wf_X7_72 dX7_cutBetween_29 (Or.inl rfl) ?_
  generalize hd3 : mu d2 a ((9 : Nat) : Int) ((d2 a 9) + 1) = d3
  replace hd3 : d3 = mu d2 a 9 ((d2 a 9) + 1) := hd3.symm
  replace h := h d3 hd3
  exact zret_v rfl dX7_cutBetween_32 h
theorem e_X7_cutBetween {g : zGG} {Q : Int → zMem → Prop} {d : zMem} {a : Nat} {x1 : Int} {x2 : Int} (ha : isRiv a) (h : Ev g M_X4_take FUL FUL [zR (a + 5), zR (a + 2), zI x1, zI x2] d (fun _ d1 => Ev g M_X1_shorten FUL FUL [zR (a + 2), zI x1, zI x2] d1 (fun _ d2 => ∀ d3, d3 = mu d2 a 9 ((d2 a 9) + 1) → Q 0 d3))) : Ev g M_X7_cutBetween FUL FUL [zR a, zI x1, zI x2] d Q :=
  Ev_of (by decide +kernel) (Nat.le_of_ble_eq_true rfl) (v_X7_cutBetween_0 ha h)
