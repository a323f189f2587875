set_option maxRecDepth 20000 in
theorem kX0 {g : zGG} {Q : Int → zMem → Prop} {d : zMem} {φ : zPhi} {c : Nat} (hQ : Q 0 d) : Ev g M_X0_init φ φ [zR c] d Q := by
  refine Ev_of (by decide +kernel) (Nat.le_of_ble_eq_true rfl) (show Fr g (eM g M_X0_init φ φ Q) M_X0_init φ 0 [some (zR c)] [] d from ?_)
  refine z_aloadR_n (i := 0) dX0_init_0 rfl rfl ?_
  refine z_objInit dX0_init_1 wm_X0_3 wOi wOc ⟨Nat.le_of_ble_eq_true rfl, Nat.le_of_ble_eq_true rfl⟩ ?_
  exact zret_v rfl dX0_init_4 hQ
set_option maxRecDepth 20000 in
theorem kX3 {g : zGG} {Q : Int → zMem → Prop} {d : zMem} {φ : zPhi} {c : Nat} (hQ : Q 0 d) : Ev g M_X3_init φ φ [zR c] d Q := by
  refine Ev_of (by decide +kernel) (Nat.le_of_ble_eq_true rfl) (show Fr g (eM g M_X3_init φ φ Q) M_X3_init φ 0 [some (zR c)] [] d from ?_)
  refine z_aloadR_n (i := 0) dX3_init_0 rfl rfl ?_
  refine z_objInit dX3_init_1 wm_X3_3 wOi wOc ⟨Nat.le_of_ble_eq_true rfl, Nat.le_of_ble_eq_true rfl⟩ ?_
  exact zret_v rfl dX3_init_4 hQ
def pX1 (c : Nat) (φ : zPhi) : zPhi := (zw (znx (zw (znx φ) c 0)) c 1)
theorem Zr_X1 {a : Nat} {φ : zPhi} (hz0 : Zr φ (a + 3)) : Zr (pX1 (a + 2) φ) (a + 5) := by
  have hz1 := Zr_nx hz0
  have hz2 := Zr_zw (c := (a + 2)) (k := 0) hz1 (by omega)
  have hz3 := Zr_nx hz2
  have hz4 := Zr_zw (c := (a + 2)) (k := 1) hz3 (by omega)
  exact hz4
theorem pX1_up {c q i : Nat} {φ : zPhi} (h : φ.2 q i = true) : (pX1 c φ).2 q i = true := (zw_up (znx_up (zw_up (znx_up h))))
theorem pX1_w0 {c : Nat} {φ : zPhi} : (pX1 c φ).2 c 0 = true := (zw_up (znx_up zw_at))
theorem pX1_w1 {c : Nat} {φ : zPhi} : (pX1 c φ).2 c 1 = true := zw_at
set_option maxRecDepth 20000 in
theorem kX1 {g : zGG} {Q : Int → zMem → Prop} {d : zMem} {φ : zPhi} {a : Nat} (ha : isRiv a) (hz0 : Zr φ (a + 3)) (hQ : ∀ d', (∀ q, (q < a + 2 ∨ a + 5 ≤ q) → d' q = d q) → d' (a + 2) 2 = 0 → (∀ c, 0 ≤ c → c < 240 → d' (a + 4) c = -1) → Q 0 d') : Ev g M_X1_init φ (pX1 (a + 2) φ) [zR (a + 2)] d Q := by
  have hN : (pX1 (a + 2) φ).1 = a + 5 := (Zr_X1 hz0).1
  refine Ev_of (by decide +kernel) (Nat.le_of_ble_eq_true rfl) (show Fr g (eM g M_X1_init φ (pX1 (a + 2) φ) Q) M_X1_init φ 0 [some (zR (a + 2))] [] d from ?_)
  refine z_aloadR_n (i := 0) dX1_init_0 rfl rfl ?_
  refine z_objInit dX1_init_1 wm_X1_3 wOi wOc ⟨Nat.le_of_ble_eq_true rfl, Nat.le_of_ble_eq_true rfl⟩ ?_
  refine z_aloadR_n (i := 0) dX1_init_4 rfl rfl ?_
  refine z_sipush dX1_init_5 (by decide +kernel) ?_
  refine z_newI' (n := (a + 3)) (m := 150) rfl rfl hz0 (rl3 ha) (by decide) dX1_init_8 wIa (zrm_eM (by rw [hN]; omega)) ?_
  generalize hm1 : mrow d (a + 3) (fun _ => 0) = d1
  have hz1 := Zr_nx hz0
  refine z_putR 1 0 (idx := 9) (b := (a + 3)) (rl2 ha) (by decide) (by decide) rfl (by rw [hz1.1]; omega) rfl rfl rfl (rt2_0 ha) wf_X1_9 dX1_init_10 ?_
  have hz2 := Zr_zw (c := (a + 2)) (k := 0) hz1 (by omega)
  refine z_aloadR_n (i := 0) dX1_init_13 rfl rfl ?_
  refine z_sipush dX1_init_14 (by decide +kernel) ?_
  refine z_newI' (n := (a + 4)) (m := 240) rfl rfl hz2 (rl4 ha) (by decide) dX1_init_17 wIa (zrm_eM (by rw [hN]; omega)) ?_
  generalize hm2 : mrow d1 (a + 4) (fun _ => 0) = d2
  have hz3 := Zr_nx hz2
  refine z_putR 1 1 (idx := 15) (b := (a + 4)) (rl2 ha) (by decide) (by decide) rfl (by rw [hz3.1]; omega) rfl rfl rfl (rt2_1 ha) wf_X1_15 dX1_init_19 ?_
  have hz4 := Zr_zw (c := (a + 2)) (k := 1) hz3 (by omega)
  refine z_aloadR_n (i := 0) dX1_init_22 rfl rfl ?_
  refine z_callVv (k' := M_X1_clear) (φ' := (zw (znx (zw (znx φ) (a + 2) 0)) (a + 2) 1)) (As := []) (st := []) dX1_init_23 rfl (rl2 ha) (by decide) rfl (by rw [hz4.1]; omega) wm_X1_18 ok_X1_clear okV_X1_clear rfl (zroom_eM (by decide) (by decide) (by rw [hN, hz4.1]; omega)) (Nat.le_of_ble_eq_true rfl) (Nat.le_refl _) rfl ?_
  refine s_clear1 (φ := (zw (znx (zw (znx φ) (a + 2) 0)) (a + 2) 1)) ha (by rw [hz4.1]; omega) (zw_up (znx_up zw_at)) zw_at ?_
  intro dd bb xx yy
  exact zret_v rfl dX1_init_26 (hQ dd (fun q hq => by rw [bb q (by omega) (by omega), ← hm2, mrw_ne (by omega), ← hm1, mrw_ne (by omega)]) xx yy)
def pX4 (c : Nat) (φ : zPhi) : zPhi := (zw (znx (zw (znx (zw (znx (zw (znx φ) c 0)) c 1)) c 2)) c 3)
theorem Zr_X4 {a : Nat} {φ : zPhi} (hz0 : Zr φ (a + 6)) : Zr (pX4 (a + 5) φ) (a + 10) := by
  have hz1 := Zr_nx hz0
  have hz2 := Zr_zw (c := (a + 5)) (k := 0) hz1 (by omega)
  have hz3 := Zr_nx hz2
  have hz4 := Zr_zw (c := (a + 5)) (k := 1) hz3 (by omega)
  have hz5 := Zr_nx hz4
  have hz6 := Zr_zw (c := (a + 5)) (k := 2) hz5 (by omega)
  have hz7 := Zr_nx hz6
  have hz8 := Zr_zw (c := (a + 5)) (k := 3) hz7 (by omega)
  exact hz8
theorem pX4_up {c q i : Nat} {φ : zPhi} (h : φ.2 q i = true) : (pX4 c φ).2 q i = true := (zw_up (znx_up (zw_up (znx_up (zw_up (znx_up (zw_up (znx_up h))))))))
theorem pX4_w0 {c : Nat} {φ : zPhi} : (pX4 c φ).2 c 0 = true := (zw_up (znx_up (zw_up (znx_up (zw_up (znx_up zw_at))))))
set_option maxRecDepth 20000 in
theorem kX4 {g : zGG} {Q : Int → zMem → Prop} {d : zMem} {φ : zPhi} {a : Nat} (ha : isRiv a) (hz0 : Zr φ (a + 6)) (hQ : ∀ d', (∀ q, (q < a + 5 ∨ a + 10 ≤ q) → d' q = d q) → d' (a + 5) 4 = 0 → (∀ c, 0 ≤ c → c < 240 → d' (a + 6) c = -1) → Q 0 d') : Ev g M_X4_init φ (pX4 (a + 5) φ) [zR (a + 5)] d Q := by
  have hN : (pX4 (a + 5) φ).1 = a + 10 := (Zr_X4 hz0).1
  refine Ev_of (by decide +kernel) (Nat.le_of_ble_eq_true rfl) (show Fr g (eM g M_X4_init φ (pX4 (a + 5) φ) Q) M_X4_init φ 0 [some (zR (a + 5))] [] d from ?_)
  refine z_aloadR_n (i := 0) dX4_init_0 rfl rfl ?_
  refine z_objInit dX4_init_1 wm_X4_3 wOi wOc ⟨Nat.le_of_ble_eq_true rfl, Nat.le_of_ble_eq_true rfl⟩ ?_
  refine z_aloadR_n (i := 0) dX4_init_4 rfl rfl ?_
  refine z_sipush dX4_init_5 (by decide +kernel) ?_
  refine z_newI' (n := (a + 6)) (m := 240) rfl rfl hz0 (rl6 ha) (by decide) dX4_init_8 wIa (zrm_eM (by rw [hN]; omega)) ?_
  generalize hm1 : mrow d (a + 6) (fun _ => 0) = d1
  have hz1 := Zr_nx hz0
  refine z_putR 4 0 (idx := 9) (b := (a + 6)) (rl5 ha) (by decide) (by decide) rfl (by rw [hz1.1]; omega) rfl rfl rfl (rt5_0 ha) wf_X4_9 dX4_init_10 ?_
  have hz2 := Zr_zw (c := (a + 5)) (k := 0) hz1 (by omega)
  refine z_aloadR_n (i := 0) dX4_init_13 rfl rfl ?_
  refine z_bipush dX4_init_14 (by decide +kernel) ?_
  refine z_newI' (n := (a + 7)) (m := 12) rfl rfl hz2 (rl7 ha) (by decide) dX4_init_16 wIa (zrm_eM (by rw [hN]; omega)) ?_
  generalize hm2 : mrow d1 (a + 7) (fun _ => 0) = d2
  have hz3 := Zr_nx hz2
  refine z_putR 4 1 (idx := 15) (b := (a + 7)) (rl5 ha) (by decide) (by decide) rfl (by rw [hz3.1]; omega) rfl rfl rfl (rt5_1 ha) wf_X4_15 dX4_init_18 ?_
  have hz4 := Zr_zw (c := (a + 5)) (k := 1) hz3 (by omega)
  refine z_aloadR_n (i := 0) dX4_init_21 rfl rfl ?_
  refine z_bipush dX4_init_22 (by decide +kernel) ?_
  refine z_newI' (n := (a + 8)) (m := 12) rfl rfl hz4 (rl8 ha) (by decide) dX4_init_24 wIa (zrm_eM (by rw [hN]; omega)) ?_
  generalize hm3 : mrow d2 (a + 8) (fun _ => 0) = d3
  have hz5 := Zr_nx hz4
  refine z_putR 4 2 (idx := 18) (b := (a + 8)) (rl5 ha) (by decide) (by decide) rfl (by rw [hz5.1]; omega) rfl rfl rfl (rt5_2 ha) wf_X4_18 dX4_init_26 ?_
  have hz6 := Zr_zw (c := (a + 5)) (k := 2) hz5 (by omega)
  refine z_aloadR_n (i := 0) dX4_init_29 rfl rfl ?_
  refine z_bipush dX4_init_30 (by decide +kernel) ?_
  refine z_newI' (n := (a + 9)) (m := 12) rfl rfl hz6 (rl9 ha) (by decide) dX4_init_32 wIa (zrm_eM (by rw [hN]; omega)) ?_
  generalize hm4 : mrow d3 (a + 9) (fun _ => 0) = d4
  have hz7 := Zr_nx hz6
  refine z_putR 4 3 (idx := 21) (b := (a + 9)) (rl5 ha) (by decide) (by decide) rfl (by rw [hz7.1]; omega) rfl rfl rfl (rt5_3 ha) wf_X4_21 dX4_init_34 ?_
  have hz8 := Zr_zw (c := (a + 5)) (k := 3) hz7 (by omega)
  refine z_aloadR_n (i := 0) dX4_init_37 rfl rfl ?_
  refine z_callVv (k' := M_X4_clear) (φ' := (zw (znx (zw (znx (zw (znx (zw (znx φ) (a + 5) 0)) (a + 5) 1)) (a + 5) 2)) (a + 5) 3)) (As := []) (st := []) dX4_init_38 rfl (rl5 ha) (by decide) rfl (by rw [hz8.1]; omega) wm_X4_24 ok_X4_clear okV_X4_clear rfl (zroom_eM (by decide) (by decide) (by rw [hN, hz8.1]; omega)) (Nat.le_of_ble_eq_true rfl) (Nat.le_refl _) rfl ?_
  refine s_clear4 (φ := (zw (znx (zw (znx (zw (znx (zw (znx φ) (a + 5) 0)) (a + 5) 1)) (a + 5) 2)) (a + 5) 3)) ha (by rw [hz8.1]; omega) (zw_up (znx_up (zw_up (znx_up (zw_up (znx_up zw_at)))))) ?_
  intro dd bb xx yy
  exact zret_v rfl dX4_init_41 (hQ dd (fun q hq => by rw [bb q (by omega) (by omega), ← hm4, mrw_ne (by omega), ← hm3, mrw_ne (by omega), ← hm2, mrw_ne (by omega), ← hm1, mrw_ne (by omega)]) xx yy)
def pX5 (φ : zPhi) : zPhi := (zw (znx (zw (znx φ) 117 0)) 117 1)
theorem Zr_X5 {φ : zPhi} (hz0 : Zr φ 118) : Zr (pX5 φ) 120 := by
  have hz1 := Zr_nx hz0
  have hz2 := Zr_zw (c := 117) (k := 0) hz1 (by omega)
  have hz3 := Zr_nx hz2
  have hz4 := Zr_zw (c := 117) (k := 1) hz3 (by omega)
  exact hz4
theorem pX5_up {q i : Nat} {φ : zPhi} (h : φ.2 q i = true) : (pX5 φ).2 q i = true := (zw_up (znx_up (zw_up (znx_up h))))
set_option maxRecDepth 20000 in
theorem kX5 {g : zGG} {Q : Int → zMem → Prop} {d : zMem} {φ : zPhi} (hz0 : Zr φ 118) (hQ : ∀ d', (∀ q, (q < 118 ∨ 120 ≤ q) → d' q = d q) → Q 0 d') : Ev g M_X5_init φ (pX5 φ) [zR 117] d Q := by
  have hN : (pX5 φ).1 = 120 := (Zr_X5 hz0).1
  refine Ev_of (by decide +kernel) (Nat.le_of_ble_eq_true rfl) (show Fr g (eM g M_X5_init φ (pX5 φ) Q) M_X5_init φ 0 [some (zR 117)] [] d from ?_)
  refine z_aloadR_n (i := 0) dX5_init_0 rfl rfl ?_
  refine z_objInit dX5_init_1 wm_X5_3 wOi wOc ⟨Nat.le_of_ble_eq_true rfl, Nat.le_of_ble_eq_true rfl⟩ ?_
  refine z_aloadR_n (i := 0) dX5_init_4 rfl rfl ?_
  refine z_bipush dX5_init_5 (by decide +kernel) ?_
  refine z_newI' (n := 118) (m := 64) rfl rfl hz0 ly_118 (by decide) dX5_init_7 wIa (zrm_eM (by rw [hN]; omega)) ?_
  generalize hm1 : mrow d 118 (fun _ => 0) = d1
  have hz1 := Zr_nx hz0
  refine z_putR 5 0 (idx := 11) (b := 118) ly_117 (by decide) (by decide) rfl (by rw [hz1.1]; omega) rfl rfl rfl (by decide +kernel) wf_X5_11 dX5_init_9 ?_
  have hz2 := Zr_zw (c := 117) (k := 0) hz1 (by omega)
  refine z_aloadR_n (i := 0) dX5_init_12 rfl rfl ?_
  refine z_sipush dX5_init_13 (by decide +kernel) ?_
  refine z_newI' (n := 119) (m := 150) rfl rfl hz2 ly_119 (by decide) dX5_init_16 wIa (zrm_eM (by rw [hN]; omega)) ?_
  generalize hm2 : mrow d1 119 (fun _ => 0) = d2
  have hz3 := Zr_nx hz2
  refine z_putR 5 1 (idx := 15) (b := 119) ly_117 (by decide) (by decide) rfl (by rw [hz3.1]; omega) rfl rfl rfl (by decide +kernel) wf_X5_15 dX5_init_18 ?_
  have hz4 := Zr_zw (c := 117) (k := 1) hz3 (by omega)
  exact zret_v rfl dX5_init_21 (hQ d2 (fun q hq => by rw [← hm2, mrw_ne (by omega), ← hm1, mrw_ne (by omega)]))
def pX6 (φ : zPhi) : zPhi := (zw (znx (zw (znx φ) 120 0)) 120 1)
theorem Zr_X6 {φ : zPhi} (hz0 : Zr φ 121) : Zr (pX6 φ) 123 := by
  have hz1 := Zr_nx hz0
  have hz2 := Zr_zw (c := 120) (k := 0) hz1 (by omega)
  have hz3 := Zr_nx hz2
  have hz4 := Zr_zw (c := 120) (k := 1) hz3 (by omega)
  exact hz4
theorem pX6_up {q i : Nat} {φ : zPhi} (h : φ.2 q i = true) : (pX6 φ).2 q i = true := (zw_up (znx_up (zw_up (znx_up h))))
set_option maxRecDepth 20000 in
theorem kX6 {g : zGG} {Q : Int → zMem → Prop} {d : zMem} {φ : zPhi} (hz0 : Zr φ 121) (hQ : ∀ d', (∀ q, (q < 120 ∨ 123 ≤ q) → d' q = d q) → d' 120 2 = -1 → Q 0 d') : Ev g M_X6_init φ (pX6 φ) [zR 120] d Q := by
  have hN : (pX6 φ).1 = 123 := (Zr_X6 hz0).1
  refine Ev_of (by decide +kernel) (Nat.le_of_ble_eq_true rfl) (show Fr g (eM g M_X6_init φ (pX6 φ) Q) M_X6_init φ 0 [some (zR 120)] [] d from ?_)
  refine z_aloadR_n (i := 0) dX6_init_0 rfl rfl ?_
  refine z_objInit dX6_init_1 wm_X6_3 wOi wOc ⟨Nat.le_of_ble_eq_true rfl, Nat.le_of_ble_eq_true rfl⟩ ?_
  refine z_aloadR_n (i := 0) dX6_init_4 rfl rfl ?_
  refine z_new' 0 (n := 121) hz0 ly_121 (by decide) dX6_init_5 wc_X6_9 wI_0 wi_0 (zrm_eM (by rw [hN]; omega)) ?_
  generalize hm1 : mrow d 121 (fun _ => 0) = d1
  have hz1 := Zr_nx hz0
  refine z_dup dX6_init_8 (Nat.le_of_ble_eq_true rfl) ?_
  refine z_callIN (k' := M_X0_init) (φ' := (znx φ)) (As := []) (st := [zR 121, zR 120]) dX6_init_9 rfl rfl rfl wm_X6_11 ok_X0_init okI_X0_init rfl (zroom_eM (by decide) (by decide) (by rw [hN, hz1.1]; omega)) (Nat.le_of_ble_eq_true rfl) (Nat.le_refl _) ?_
  apply kX0
  refine z_putR 6 0 (idx := 12) (b := 121) ly_120 (by decide) (by decide) rfl (by rw [hz1.1]; omega) rfl rfl rfl (by decide +kernel) wf_X6_12 dX6_init_12 ?_
  have hz2 := Zr_zw (c := 120) (k := 0) hz1 (by omega)
  refine z_aloadR_n (i := 0) dX6_init_15 rfl rfl ?_
  refine z_new' 3 (n := 122) hz2 ly_122 (by decide) dX6_init_16 wc_X6_18 wI_3 wi_3 (zrm_eM (by rw [hN]; omega)) ?_
  generalize hm2 : mrow d1 122 (fun _ => 0) = d2
  have hz3 := Zr_nx hz2
  refine z_dup dX6_init_19 (Nat.le_of_ble_eq_true rfl) ?_
  refine z_callIN (k' := M_X3_init) (φ' := (znx (zw (znx φ) 120 0))) (As := []) (st := [zR 122, zR 120]) dX6_init_20 rfl rfl rfl wm_X6_20 ok_X3_init okI_X3_init rfl (zroom_eM (by decide) (by decide) (by rw [hN, hz3.1]; omega)) (Nat.le_of_ble_eq_true rfl) (Nat.le_refl _) ?_
  apply kX3
  refine z_putR 6 1 (idx := 21) (b := 122) ly_120 (by decide) (by decide) rfl (by rw [hz3.1]; omega) rfl rfl rfl (by decide +kernel) wf_X6_21 dX6_init_23 ?_
  have hz4 := Zr_zw (c := 120) (k := 1) hz3 (by omega)
  refine z_aloadR_n (i := 0) dX6_init_26 rfl rfl ?_
  refine z_iconst dX6_init_27 ?_
  refine z_putI 6 2 (idx := 25) ly_120 (by decide) (by decide) rfl (by rw [hz4.1]; omega) rfl wf_X6_25 dX6_init_28 (Or.inl rfl) ?_
  generalize hm3 : mu d2 120 ((2 : Nat) : Int) (-1) = d3
  exact zret_v rfl dX6_init_31 (hQ d3 (fun q hq => by rw [← hm3, mu_ne (by omega), ← hm2, mrw_ne (by omega), ← hm1, mrw_ne (by omega)]) (by rw [← hm3]; exact mu_get))
def pX7 (c : Nat) (φ : zPhi) : zPhi := (zw (znx (zw (znx (zw (znx (zw (znx (zw (pX4 (c + 5) (znx (zw (pX1 (c + 2) (znx (zw (znx φ) c 0))) c 1))) c 2)) c 3)) c 4)) c 5)) c 6)
theorem Zr_X7 {a : Nat} {φ : zPhi} (hz0 : Zr φ (a + 1)) : Zr (pX7 a φ) (a + 14) := by
  have hz1 := Zr_nx hz0
  have hz2 := Zr_zw (c := a) (k := 0) hz1 (by omega)
  have hz3 := Zr_nx hz2
  have hz4 := Zr_X1 (a := a) hz3
  have hz5 := Zr_zw (c := a) (k := 1) hz4 (by omega)
  have hz6 := Zr_nx hz5
  have hz7 := Zr_X4 (a := a) hz6
  have hz8 := Zr_zw (c := a) (k := 2) hz7 (by omega)
  have hz9 := Zr_nx hz8
  have hz10 := Zr_zw (c := a) (k := 3) hz9 (by omega)
  have hz11 := Zr_nx hz10
  have hz12 := Zr_zw (c := a) (k := 4) hz11 (by omega)
  have hz13 := Zr_nx hz12
  have hz14 := Zr_zw (c := a) (k := 5) hz13 (by omega)
  have hz15 := Zr_nx hz14
  have hz16 := Zr_zw (c := a) (k := 6) hz15 (by omega)
  exact hz16
theorem pX7_up {c q i : Nat} {φ : zPhi} (h : φ.2 q i = true) : (pX7 c φ).2 q i = true := (zw_up (znx_up (zw_up (znx_up (zw_up (znx_up (zw_up (znx_up (zw_up (pX4_up (znx_up (zw_up (pX1_up (znx_up (zw_up (znx_up h))))))))))))))))
set_option maxRecDepth 20000 in
theorem lX7 {g : zGG} {Q : Int → zMem → Prop} {d0 : zMem} {φ φ0 : zPhi} {a : Nat} (hz : Zr φ (a + 14)) (ha : isRiv a) (w1 : φ.2 a 1 = true) (w20 : φ.2 (a + 2) 0 = true) (w21 : φ.2 (a + 2) 1 = true) (hQ : ∀ d', but3 d0 d' a → LI d' a 120 (fun _ => 0) 20 → Q 0 d') :
    ∀ (n m : Nat) (d : zMem), 20 - m = n → m ≤ 20 → but3 d0 d a → LI d a 120 (fun _ => 0) m → Fr g (eM g M_X7_init φ0 φ Q) M_X7_init φ 90 [some (zR a), some (zI (m : Int))] [] d := by
  intro n
  induction n with
  | zero =>
    intro m d hn hm hd hL
    have e : m = 20 := by omega
    subst e
    refine z_iload_n (i := 1) dX7_init_90 rfl rfl ?_
    refine z_bipush dX7_init_91 (by decide +kernel) ?_
    refine zb_icmp_ge (tgt := 116) dX7_init_93 (by decide) ⟨by decide, by decide⟩ ⟨fun _ => ?_, fun q => absurd q (by decide)⟩
    exact zret_v rfl dX7_init_116 (hQ d hd hL)
  | succ n ih =>
    intro m d hn hm hd hL
    have hm20 : m < 20 := by omega
    have ec := cel_row m hm20
    refine z_iload_n (i := 1) dX7_init_90 rfl rfl ?_
    refine z_bipush dX7_init_91 (by decide +kernel) ?_
    refine zb_icmp_ge (tgt := 116) dX7_init_93 (by decide) ⟨⟨by omega, by omega⟩, by decide⟩ ⟨fun q => by omega, fun _ => ?_⟩
    refine z_aloadR_n (i := 0) dX7_init_96 rfl rfl ?_
    refine z_getR 7 1 (idx := 21) (b := a + 2) (rl0 ha) (by decide) (by decide) rfl (by rw [hz.1]; omega) w1 (rt0_1 ha) wf_X7_21 dX7_init_97 ?_
    refine z_iload_n (i := 1) dX7_init_100 rfl rfl ?_
    refine z_bipush dX7_init_101 (by decide +kernel) ?_
    refine z_callSN (k' := M_X8_cellAt) (φ' := φ) (As := [zI (m : Int), zI 6]) (st := [zR (a + 2)]) dX7_init_103 rfl wm_X7_50 ok_X8_cellAt okS_X8_cellAt rfl (zroom_eM (by decide) (by decide) (Nat.le_refl _)) (Nat.le_of_ble_eq_true rfl) (Nat.le_refl _) (zEnd_i (Nat.le_refl _) rfl (fun _ _ q => q)) ?_
    apply s_cellAt ⟨by omega, by omega⟩ (by decide)
    rw [if_pos ⟨by omega, by omega, by decide, by decide⟩]
    refine z_callVi (k' := M_X1_append) (φ' := φ) (As := [zI (6 * 20 + (m : Int))]) (st := []) dX7_init_106 rfl (rl2 ha) (by decide) rfl (by rw [hz.1]; omega) wm_X7_54 ok_X1_append okV_X1_append rfl (zroom_eM (by decide) (by decide) (Nat.le_refl _)) (Nat.le_of_ble_eq_true rfl) (Nat.le_refl _) rfl ?_
    have hx : (6 : Int) * 20 + m = cel 120 (fun _ => 0) m := by rw [ec]; rfl
    have hne : ∀ k : Nat, k < m → cel 120 (fun _ => 0) k ≠ cel 120 (fun _ => 0) m := fun k hk e => by
      rw [ec, cel_row k (by omega)] at e
      omega
    apply s_append ha (by rw [hz.1]; omega) w20 w21 ⟨by omega, by omega⟩ hL.1 ⟨by omega, by omega⟩ (fun q0 q1 => by have := LI_range (by omega) hL _ q0 q1; constructor <;> omega)
    · intro q1 q2 q3
      refine z_pop dX7_init_109 (Nat.le_of_ble_eq_true rfl) ?_
      refine z_iinc (i := 1) (ls2 := [some (zR a), some (zI ((m + 1 : Nat) : Int))]) dX7_init_110 (by decide) rfl (by rw [show ((m + 1 : Nat) : Int) = (m : Int) + 1 by omega]; rfl) ?_
      refine z_goto (tgt := 90) dX7_init_113 (by decide) ?_
      exact ih (m + 1) _ (by omega) (by omega) (fun q z2 z3 z4 => by rw [mu_ne z2, mu_ne z4, mu_ne z3, hd q z2 z3 z4]) (LI_step hL hx hne)
    · intro hno
      refine absurd ⟨⟨by omega, by omega⟩, ?_, by omega⟩ hno
      rw [hx]
      exact (LI_free (by omega) hL (by rw [ec]; omega) (by rw [ec]; omega)).mpr hne
set_option maxRecDepth 20000 in
theorem kX7 {g : zGG} {Q : Int → zMem → Prop} {d : zMem} {φ : zPhi} {a : Nat} (ha : isRiv a) (hz0 : Zr φ (a + 1)) (hd0 : ∀ j, d a j = 0) (hQ : ∀ d', (∀ q, (q < a ∨ a + 14 ≤ q) → d' q = d q) → River d' a row0 → Q 0 d') : Ev g M_X7_init φ (pX7 a φ) [zR a] d Q := by
  have hN : (pX7 a φ).1 = a + 14 := (Zr_X7 hz0).1
  refine Ev_of (by decide +kernel) (Nat.le_of_ble_eq_true rfl) (show Fr g (eM g M_X7_init φ (pX7 a φ) Q) M_X7_init φ 0 [some (zR a), none] [] d from ?_)
  refine z_aloadR_n (i := 0) dX7_init_0 rfl rfl ?_
  refine z_objInit dX7_init_1 wm_X7_3 wOi wOc ⟨Nat.le_of_ble_eq_true rfl, Nat.le_of_ble_eq_true rfl⟩ ?_
  refine z_aloadR_n (i := 0) dX7_init_4 rfl rfl ?_
  refine z_gets1 dX7_init_5 wg_X7_9 ?_
  refine z_len1 dX7_init_8 ?_
  refine z_newI' (n := (a + 1)) (m := 4) rfl rfl hz0 (rl1 ha) (by decide) dX7_init_9 wIa (zrm_eM (by rw [hN]; omega)) ?_
  generalize hm1 : mrow d (a + 1) (fun _ => 0) = d1
  have hz1 := Zr_nx hz0
  refine z_putR 7 0 (idx := 13) (b := (a + 1)) (rl0 ha) (by decide) (by decide) rfl (by rw [hz1.1]; omega) rfl rfl rfl (rt0_0 ha) wf_X7_13 dX7_init_11 ?_
  have hz2 := Zr_zw (c := a) (k := 0) hz1 (by omega)
  refine z_aloadR_n (i := 0) dX7_init_14 rfl rfl ?_
  refine z_new' 1 (n := (a + 2)) hz2 (rl2 ha) (by decide) dX7_init_15 wc_X7_18 wI_1 wi_1 (zrm_eM (by rw [hN]; omega)) ?_
  generalize hm2 : mrow d1 (a + 2) (fun _ => 0) = d2
  have hz3 := Zr_nx hz2
  refine z_dup dX7_init_18 (Nat.le_of_ble_eq_true rfl) ?_
  have hz4 := Zr_X1 (a := a) hz3
  refine z_callI (k' := M_X1_init) (φ' := (pX1 (a + 2) (znx (zw (znx φ) a 0)))) (As := []) (Q := fun _ _ => True) (st := [zR (a + 2), zR a]) dX7_init_19 rfl rfl rfl wm_X7_20 ok_X1_init okI_X1_init rfl (zroom_eM (by decide) (by decide) (by rw [hN, hz4.1]; omega)) (Nat.le_of_ble_eq_true rfl) (by rw [hz4.1, hz3.1]; omega) ?_
  apply kX1 ha hz3
  intro d3 b3 x3 y3
  refine z_putR 7 1 (idx := 21) (b := (a + 2)) (rl0 ha) (by decide) (by decide) rfl (by rw [hz4.1]; omega) rfl rfl rfl (rt0_1 ha) wf_X7_21 dX7_init_22 ?_
  have hz5 := Zr_zw (c := a) (k := 1) hz4 (by omega)
  refine z_aloadR_n (i := 0) dX7_init_25 rfl rfl ?_
  refine z_new' 4 (n := (a + 5)) hz5 (rl5 ha) (by decide) dX7_init_26 wc_X7_25 wI_4 wi_4 (zrm_eM (by rw [hN]; omega)) ?_
  generalize hm4 : mrow d3 (a + 5) (fun _ => 0) = d4
  have hz6 := Zr_nx hz5
  refine z_dup dX7_init_29 (Nat.le_of_ble_eq_true rfl) ?_
  have hz7 := Zr_X4 (a := a) hz6
  refine z_callI (k' := M_X4_init) (φ' := (pX4 (a + 5) (znx (zw (pX1 (a + 2) (znx (zw (znx φ) a 0))) a 1)))) (As := []) (Q := fun _ _ => True) (st := [zR (a + 5), zR a]) dX7_init_30 rfl rfl rfl wm_X7_27 ok_X4_init okI_X4_init rfl (zroom_eM (by decide) (by decide) (by rw [hN, hz7.1]; omega)) (Nat.le_of_ble_eq_true rfl) (by rw [hz7.1, hz6.1]; omega) ?_
  apply kX4 ha hz6
  intro d5 b5 x5 y5
  refine z_putR 7 2 (idx := 28) (b := (a + 5)) (rl0 ha) (by decide) (by decide) rfl (by rw [hz7.1]; omega) rfl rfl rfl (rt0_2 ha) wf_X7_28 dX7_init_33 ?_
  have hz8 := Zr_zw (c := a) (k := 2) hz7 (by omega)
  refine z_aloadR_n (i := 0) dX7_init_36 rfl rfl ?_
  refine z_sipush dX7_init_37 (by decide +kernel) ?_
  refine z_newI' (n := (a + 10)) (m := 240) rfl rfl hz8 (rl10 ha) (by decide) dX7_init_40 wIa (zrm_eM (by rw [hN]; omega)) ?_
  generalize hm6 : mrow d5 (a + 10) (fun _ => 0) = d6
  have hz9 := Zr_nx hz8
  refine z_putR 7 3 (idx := 32) (b := (a + 10)) (rl0 ha) (by decide) (by decide) rfl (by rw [hz9.1]; omega) rfl rfl rfl (rt0_3 ha) wf_X7_32 dX7_init_42 ?_
  have hz10 := Zr_zw (c := a) (k := 3) hz9 (by omega)
  refine z_aloadR_n (i := 0) dX7_init_45 rfl rfl ?_
  refine z_sipush dX7_init_46 (by decide +kernel) ?_
  refine z_newI' (n := (a + 11)) (m := 240) rfl rfl hz10 (rl11 ha) (by decide) dX7_init_49 wIa (zrm_eM (by rw [hN]; omega)) ?_
  generalize hm7 : mrow d6 (a + 11) (fun _ => 0) = d7
  have hz11 := Zr_nx hz10
  refine z_putR 7 4 (idx := 35) (b := (a + 11)) (rl0 ha) (by decide) (by decide) rfl (by rw [hz11.1]; omega) rfl rfl rfl (rt0_4 ha) wf_X7_35 dX7_init_51 ?_
  have hz12 := Zr_zw (c := a) (k := 4) hz11 (by omega)
  refine z_aloadR_n (i := 0) dX7_init_54 rfl rfl ?_
  refine z_sipush dX7_init_55 (by decide +kernel) ?_
  refine z_newI' (n := (a + 12)) (m := 480) rfl rfl hz12 (rl12 ha) (by decide) dX7_init_58 wIa (zrm_eM (by rw [hN]; omega)) ?_
  generalize hm8 : mrow d7 (a + 12) (fun _ => 0) = d8
  have hz13 := Zr_nx hz12
  refine z_putR 7 5 (idx := 38) (b := (a + 12)) (rl0 ha) (by decide) (by decide) rfl (by rw [hz13.1]; omega) rfl rfl rfl (rt0_5 ha) wf_X7_38 dX7_init_60 ?_
  have hz14 := Zr_zw (c := a) (k := 5) hz13 (by omega)
  refine z_aloadR_n (i := 0) dX7_init_63 rfl rfl ?_
  refine z_bipush dX7_init_64 (by decide +kernel) ?_
  refine z_newI' (n := (a + 13)) (m := 8) rfl rfl hz14 (rl13 ha) (by decide) dX7_init_66 wIa (zrm_eM (by rw [hN]; omega)) ?_
  generalize hm9 : mrow d8 (a + 13) (fun _ => 0) = d9
  have hz15 := Zr_nx hz14
  refine z_putR 7 6 (idx := 41) (b := (a + 13)) (rl0 ha) (by decide) (by decide) rfl (by rw [hz15.1]; omega) rfl rfl rfl (rt0_6 ha) wf_X7_41 dX7_init_68 ?_
  have hz16 := Zr_zw (c := a) (k := 6) hz15 (by omega)
  refine z_gets1 dX7_init_71 wg_X7_9 ?_
  refine z_iconst dX7_init_74 ?_
  refine z_aloadR_n (i := 0) dX7_init_75 rfl rfl ?_
  refine z_getR 7 0 (idx := 13) (b := (a + 1)) (rl0 ha) (by decide) (by decide) rfl (by rw [hz16.1]; omega) (zw_up (znx_up (zw_up (znx_up (zw_up (znx_up (zw_up (znx_up (zw_up (pX4_up (znx_up (zw_up (pX1_up (znx_up zw_at)))))))))))))) (rt0_0 ha) wf_X7_13 dX7_init_76 ?_
  refine z_iconst dX7_init_79 ?_
  refine z_aloadR_n (i := 0) dX7_init_80 rfl rfl ?_
  refine z_getR 7 0 (idx := 13) (b := (a + 1)) (rl0 ha) (by decide) (by decide) rfl (by rw [hz16.1]; omega) (zw_up (znx_up (zw_up (znx_up (zw_up (znx_up (zw_up (znx_up (zw_up (pX4_up (znx_up (zw_up (pX1_up (znx_up zw_at)))))))))))))) (rt0_0 ha) wf_X7_13 dX7_init_81 ?_
  refine z_alen' (v := 4) (rl1 ha) (by decide) (by rw [hz16.1]; omega) rfl dX7_init_84 ?_
  refine z_copyS (rl1 ha) (by rw [hz16.1]; omega) (by decide) (by decide) dX7_init_85 wm_X7_44 wSn wSs wSi ⟨Nat.le_of_ble_eq_true rfl, Nat.le_of_ble_eq_true rfl⟩ ?_
  generalize hm10 : mrow d9 (a + 1) (zcp (fun i => f1 i.toNat) (d9 (a + 1)) 0 0 4) = d10
  refine z_iconst dX7_init_88 ?_
  refine z_istore_n (i := 1) (ls2 := [some (zR a), some (zI 0)]) dX7_init_89 rfl (by decide) rfl ?_
  have k2 : d10 (a + 2) = d3 (a + 2) := by rw [← hm10, mrw_ne (by omega), ← hm9, mrw_ne (by omega), ← hm8, mrw_ne (by omega), ← hm7, mrw_ne (by omega), ← hm6, mrw_ne (by omega), b5 _ (by omega), ← hm4, mrw_ne (by omega)]
  have k4 : d10 (a + 4) = d3 (a + 4) := by rw [← hm10, mrw_ne (by omega), ← hm9, mrw_ne (by omega), ← hm8, mrw_ne (by omega), ← hm7, mrw_ne (by omega), ← hm6, mrw_ne (by omega), b5 _ (by omega), ← hm4, mrw_ne (by omega)]
  have k5 : d10 (a + 5) = d5 (a + 5) := by rw [← hm10, mrw_ne (by omega), ← hm9, mrw_ne (by omega), ← hm8, mrw_ne (by omega), ← hm7, mrw_ne (by omega), ← hm6, mrw_ne (by omega)]
  have k6 : d10 (a + 6) = d5 (a + 6) := by rw [← hm10, mrw_ne (by omega), ← hm9, mrw_ne (by omega), ← hm8, mrw_ne (by omega), ← hm7, mrw_ne (by omega), ← hm6, mrw_ne (by omega)]
  have k0 : d10 a = d a := by rw [← hm10, mrw_ne (by omega), ← hm9, mrw_ne (by omega), ← hm8, mrw_ne (by omega), ← hm7, mrw_ne (by omega), ← hm6, mrw_ne (by omega), b5 _ (by omega), ← hm4, mrw_ne (by omega), b3 _ (by omega), ← hm2, mrw_ne (by omega), ← hm1, mrw_ne (by omega)]
  have k10 : ∀ k, d10 (a + 10) k = 0 := fun k => by rw [← hm10, mrw_ne (by omega), ← hm9, mrw_ne (by omega), ← hm8, mrw_ne (by omega), ← hm7, mrw_ne (by omega), ← hm6, mrow_app, if_pos rfl]
  have k11 : ∀ k, d10 (a + 11) k = 0 := fun k => by rw [← hm10, mrw_ne (by omega), ← hm9, mrw_ne (by omega), ← hm8, mrw_ne (by omega), ← hm7, mrow_app, if_pos rfl]
  have k12 : ∀ k, d10 (a + 12) k = 0 := fun k => by rw [← hm10, mrw_ne (by omega), ← hm9, mrw_ne (by omega), ← hm8, mrow_app, if_pos rfl]
  have hclr : clr d10 a := ⟨by rw [k2]; exact x3, by rw [k4]; exact y3, by rw [k5]; exact x5, by rw [k6]; exact y5, fun c _ _ => ⟨k10 c, k11 c⟩, fun k _ _ => k12 k, by rw [k0]; exact hd0 7, by rw [k0]; exact hd0 8, by rw [k0]; exact hd0 9, by rw [k0]; exact hd0 10⟩
  have hset : RS d10 a row1 := fun k q0 q1 => by rw [← hm10, mrow_app, if_pos rfl, zcp_at q0 q1]; rfl
  have hL0 : LI d10 a 120 (fun _ => 0) 0 := ⟨by rw [k2]; exact x3, fun k hk => by omega, fun c q0 q1 _ => by rw [k4]; exact y3 c q0 q1⟩
  refine lX7 (d0 := d10) (φ := (zw (znx (zw (znx (zw (znx (zw (znx (zw (pX4 (a + 5) (znx (zw (pX1 (a + 2) (znx (zw (znx φ) a 0))) a 1))) a 2)) a 3)) a 4)) a 5)) a 6)) hz16 ha (zw_up (znx_up (zw_up (znx_up (zw_up (znx_up (zw_up (znx_up (zw_up (pX4_up (znx_up zw_at))))))))))) (zw_up (znx_up (zw_up (znx_up (zw_up (znx_up (zw_up (znx_up (zw_up (pX4_up (znx_up (zw_up pX1_w0)))))))))))) (zw_up (znx_up (zw_up (znx_up (zw_up (znx_up (zw_up (znx_up (zw_up (pX4_up (znx_up (zw_up pX1_w1)))))))))))) (fun dd bb LL => ?_) 20 0 d10 rfl (by omega) (fun _ _ _ _ => rfl) hL0
  refine hQ dd (fun q hq => by rw [bb q (by omega) (by omega) (by omega), ← hm10, mrw_ne (by omega), ← hm9, mrw_ne (by omega), ← hm8, mrw_ne (by omega), ← hm7, mrw_ne (by omega), ← hm6, mrw_ne (by omega), b5 _ (by omega), ← hm4, mrw_ne (by omega), b3 _ (by omega), ← hm2, mrw_ne (by omega), ← hm1, mrw_ne (by omega)]) ⟨read_Rel (by decide) row0_crs hset hclr bb LL, row0_Inv, by decide +kernel⟩
