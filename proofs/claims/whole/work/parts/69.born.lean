def pX2 (φ : zPhi) : zPhi := (zw (pX7 103 (znx (zw (pX7 89 (znx (zw (pX7 75 (znx (zw (pX7 61 (znx (zw (pX7 47 (znx (zw (pX7 33 (znx (zw (znx φ) 31 0))) 32 0))) 32 1))) 32 2))) 32 3))) 32 4))) 32 5)
theorem Zr_X2 {φ : zPhi} (hz0 : Zr φ 32) : Zr (pX2 φ) 117 := by
  have hz1 := Zr_nx hz0
  have hz2 := Zr_zw (c := 31) (k := 0) hz1 (by omega)
  have hz3 := Zr_nx hz2
  have hz4 := Zr_X7 (a := 33) hz3
  have hz5 := Zr_zw (c := 32) (k := 0) hz4 (by omega)
  have hz6 := Zr_nx hz5
  have hz7 := Zr_X7 (a := 47) hz6
  have hz8 := Zr_zw (c := 32) (k := 1) hz7 (by omega)
  have hz9 := Zr_nx hz8
  have hz10 := Zr_X7 (a := 61) hz9
  have hz11 := Zr_zw (c := 32) (k := 2) hz10 (by omega)
  have hz12 := Zr_nx hz11
  have hz13 := Zr_X7 (a := 75) hz12
  have hz14 := Zr_zw (c := 32) (k := 3) hz13 (by omega)
  have hz15 := Zr_nx hz14
  have hz16 := Zr_X7 (a := 89) hz15
  have hz17 := Zr_zw (c := 32) (k := 4) hz16 (by omega)
  have hz18 := Zr_nx hz17
  have hz19 := Zr_X7 (a := 103) hz18
  have hz20 := Zr_zw (c := 32) (k := 5) hz19 (by omega)
  exact hz20
theorem pX2_up {q i : Nat} {φ : zPhi} (h : φ.2 q i = true) : (pX2 φ).2 q i = true := (zw_up (pX7_up (znx_up (zw_up (pX7_up (znx_up (zw_up (pX7_up (znx_up (zw_up (pX7_up (znx_up (zw_up (pX7_up (znx_up (zw_up (pX7_up (znx_up (zw_up (znx_up h))))))))))))))))))))
set_option maxRecDepth 20000 in
theorem kX2 {g : zGG} {Q : Int → zMem → Prop} {d : zMem} {φ : zPhi} (hz0 : Zr φ 32) (hQ : ∀ d', (∀ q, (q < 32 ∨ 117 ≤ q) → d' q = d q) → Q 0 d') : Ev g M_X2_init φ (pX2 φ) [zR 31] d Q := by
  have hN : (pX2 φ).1 = 117 := (Zr_X2 hz0).1
  refine Ev_of (by decide +kernel) (Nat.le_of_ble_eq_true rfl) (show Fr g (eM g M_X2_init φ (pX2 φ) Q) M_X2_init φ 0 [some (zR 31), none] [] d from ?_)
  refine z_aloadR_n (i := 0) dX2_init_0 rfl rfl ?_
  refine z_objInit dX2_init_1 wm_X2_3 wOi wOc ⟨Nat.le_of_ble_eq_true rfl, Nat.le_of_ble_eq_true rfl⟩ ?_
  refine z_aloadR_n (i := 0) dX2_init_4 rfl rfl ?_
  refine z_bipush dX2_init_5 (by decide +kernel) ?_
  refine z_newR' (n := 32) (m := 6) rfl hz0 ly_32 (by decide) dX2_init_7 wc_X2_9 (zrm_eM (by rw [hN]; omega)) ?_
  generalize hm1 : mrow d 32 (fun _ => 0) = d1
  have hz1 := Zr_nx hz0
  refine z_putR 2 0 (idx := 11) (b := 32) ly_31 (by decide) (by decide) rfl (by rw [hz1.1]; omega) rfl rfl rfl (by decide +kernel) wf_X2_11 dX2_init_10 ?_
  have hz2 := Zr_zw (c := 31) (k := 0) hz1 (by omega)
  refine z_iconst dX2_init_13 ?_
  refine z_istore_n (i := 1) (ls2 := [some (zR 31), some (zI 0)]) dX2_init_14 rfl (by decide) rfl ?_
  refine z_iload_n (i := 1) dX2_init_15 rfl rfl ?_
  refine z_aloadR_n (i := 0) dX2_init_16 rfl rfl ?_
  refine z_getR 2 0 (idx := 11) (b := 32) ly_31 (by decide) (by decide) rfl (by rw [hz2.1]; omega) zw_at (by decide +kernel) wf_X2_11 dX2_init_17 ?_
  refine z_alen' (v := 6) ly_32 (by decide) (by rw [hz2.1]; omega) rfl dX2_init_20 ?_
  refine zb_icmp_ge (tgt := 43) dX2_init_21 (by decide) ⟨by decide, by decide⟩ ⟨fun q => absurd q (by decide), fun _ => ?_⟩
  refine z_aloadR_n (i := 0) dX2_init_24 rfl rfl ?_
  refine z_getR 2 0 (idx := 11) (b := 32) ly_31 (by decide) (by decide) rfl (by rw [hz2.1]; omega) zw_at (by decide +kernel) wf_X2_11 dX2_init_25 ?_
  refine z_iload_n (i := 1) dX2_init_28 rfl rfl ?_
  refine z_new' 7 (n := 33) hz2 ly_33 (by decide) dX2_init_29 wc_X2_9 wI_7 wi_7 (zrm_eM (by rw [hN]; omega)) ?_
  generalize hm2 : mrow d1 33 (fun _ => 0) = d2
  have hz3 := Zr_nx hz2
  refine z_dup dX2_init_32 (Nat.le_of_ble_eq_true rfl) ?_
  have hz4 := Zr_X7 (a := 33) hz3
  refine z_callI (k' := M_X7_init) (φ' := (pX7 33 (znx (zw (znx φ) 31 0)))) (As := []) (Q := fun _ _ => True) (st := [zR 33, zI 0, zR 32]) dX2_init_33 rfl rfl rfl wm_X2_17 ok_X7_init okI_X7_init rfl (zroom_eM (by decide) (by decide) (by rw [hN, hz4.1]; omega)) (Nat.le_of_ble_eq_true rfl) (by rw [hz4.1, hz3.1]; omega) ?_
  apply kX7 (a := 33) riv33 hz3 (fun j => by rw [← hm2, mrow_app, if_pos rfl])
  intro d3 b3 x3
  refine z_aastore' (b := 33) (j := 0) ly_32 (by rw [hz4.1]; omega) (by decide) (by rw [hz4.1]; omega) ly_33 dX2_init_36 (by decide) rfl (by decide +kernel) ?_
  have hz5 := Zr_zw (c := 32) (k := 0) hz4 (by omega)
  refine z_iinc (i := 1) (ls2 := [some (zR 31), some (zI 1)]) dX2_init_37 (by decide) rfl rfl ?_
  refine z_goto (tgt := 15) dX2_init_40 (by decide) ?_
  refine z_iload_n (i := 1) dX2_init_15 rfl rfl ?_
  refine z_aloadR_n (i := 0) dX2_init_16 rfl rfl ?_
  refine z_getR 2 0 (idx := 11) (b := 32) ly_31 (by decide) (by decide) rfl (by rw [hz5.1]; omega) (zw_up (pX7_up (znx_up zw_at))) (by decide +kernel) wf_X2_11 dX2_init_17 ?_
  refine z_alen' (v := 6) ly_32 (by decide) (by rw [hz5.1]; omega) rfl dX2_init_20 ?_
  refine zb_icmp_ge (tgt := 43) dX2_init_21 (by decide) ⟨by decide, by decide⟩ ⟨fun q => absurd q (by decide), fun _ => ?_⟩
  refine z_aloadR_n (i := 0) dX2_init_24 rfl rfl ?_
  refine z_getR 2 0 (idx := 11) (b := 32) ly_31 (by decide) (by decide) rfl (by rw [hz5.1]; omega) (zw_up (pX7_up (znx_up zw_at))) (by decide +kernel) wf_X2_11 dX2_init_25 ?_
  refine z_iload_n (i := 1) dX2_init_28 rfl rfl ?_
  refine z_new' 7 (n := 47) hz5 ly_47 (by decide) dX2_init_29 wc_X2_9 wI_7 wi_7 (zrm_eM (by rw [hN]; omega)) ?_
  generalize hm4 : mrow d3 47 (fun _ => 0) = d4
  have hz6 := Zr_nx hz5
  refine z_dup dX2_init_32 (Nat.le_of_ble_eq_true rfl) ?_
  have hz7 := Zr_X7 (a := 47) hz6
  refine z_callI (k' := M_X7_init) (φ' := (pX7 47 (znx (zw (pX7 33 (znx (zw (znx φ) 31 0))) 32 0)))) (As := []) (Q := fun _ _ => True) (st := [zR 47, zI 1, zR 32]) dX2_init_33 rfl rfl rfl wm_X2_17 ok_X7_init okI_X7_init rfl (zroom_eM (by decide) (by decide) (by rw [hN, hz7.1]; omega)) (Nat.le_of_ble_eq_true rfl) (by rw [hz7.1, hz6.1]; omega) ?_
  apply kX7 (a := 47) riv47 hz6 (fun j => by rw [← hm4, mrow_app, if_pos rfl])
  intro d5 b5 x5
  refine z_aastore' (b := 47) (j := 1) ly_32 (by rw [hz7.1]; omega) (by decide) (by rw [hz7.1]; omega) ly_47 dX2_init_36 (by decide) rfl (by decide +kernel) ?_
  have hz8 := Zr_zw (c := 32) (k := 1) hz7 (by omega)
  refine z_iinc (i := 1) (ls2 := [some (zR 31), some (zI 2)]) dX2_init_37 (by decide) rfl rfl ?_
  refine z_goto (tgt := 15) dX2_init_40 (by decide) ?_
  refine z_iload_n (i := 1) dX2_init_15 rfl rfl ?_
  refine z_aloadR_n (i := 0) dX2_init_16 rfl rfl ?_
  refine z_getR 2 0 (idx := 11) (b := 32) ly_31 (by decide) (by decide) rfl (by rw [hz8.1]; omega) (zw_up (pX7_up (znx_up (zw_up (pX7_up (znx_up zw_at)))))) (by decide +kernel) wf_X2_11 dX2_init_17 ?_
  refine z_alen' (v := 6) ly_32 (by decide) (by rw [hz8.1]; omega) rfl dX2_init_20 ?_
  refine zb_icmp_ge (tgt := 43) dX2_init_21 (by decide) ⟨by decide, by decide⟩ ⟨fun q => absurd q (by decide), fun _ => ?_⟩
  refine z_aloadR_n (i := 0) dX2_init_24 rfl rfl ?_
  refine z_getR 2 0 (idx := 11) (b := 32) ly_31 (by decide) (by decide) rfl (by rw [hz8.1]; omega) (zw_up (pX7_up (znx_up (zw_up (pX7_up (znx_up zw_at)))))) (by decide +kernel) wf_X2_11 dX2_init_25 ?_
  refine z_iload_n (i := 1) dX2_init_28 rfl rfl ?_
  refine z_new' 7 (n := 61) hz8 ly_61 (by decide) dX2_init_29 wc_X2_9 wI_7 wi_7 (zrm_eM (by rw [hN]; omega)) ?_
  generalize hm6 : mrow d5 61 (fun _ => 0) = d6
  have hz9 := Zr_nx hz8
  refine z_dup dX2_init_32 (Nat.le_of_ble_eq_true rfl) ?_
  have hz10 := Zr_X7 (a := 61) hz9
  refine z_callI (k' := M_X7_init) (φ' := (pX7 61 (znx (zw (pX7 47 (znx (zw (pX7 33 (znx (zw (znx φ) 31 0))) 32 0))) 32 1)))) (As := []) (Q := fun _ _ => True) (st := [zR 61, zI 2, zR 32]) dX2_init_33 rfl rfl rfl wm_X2_17 ok_X7_init okI_X7_init rfl (zroom_eM (by decide) (by decide) (by rw [hN, hz10.1]; omega)) (Nat.le_of_ble_eq_true rfl) (by rw [hz10.1, hz9.1]; omega) ?_
  apply kX7 (a := 61) riv61 hz9 (fun j => by rw [← hm6, mrow_app, if_pos rfl])
  intro d7 b7 x7
  refine z_aastore' (b := 61) (j := 2) ly_32 (by rw [hz10.1]; omega) (by decide) (by rw [hz10.1]; omega) ly_61 dX2_init_36 (by decide) rfl (by decide +kernel) ?_
  have hz11 := Zr_zw (c := 32) (k := 2) hz10 (by omega)
  refine z_iinc (i := 1) (ls2 := [some (zR 31), some (zI 3)]) dX2_init_37 (by decide) rfl rfl ?_
  refine z_goto (tgt := 15) dX2_init_40 (by decide) ?_
  refine z_iload_n (i := 1) dX2_init_15 rfl rfl ?_
  refine z_aloadR_n (i := 0) dX2_init_16 rfl rfl ?_
  refine z_getR 2 0 (idx := 11) (b := 32) ly_31 (by decide) (by decide) rfl (by rw [hz11.1]; omega) (zw_up (pX7_up (znx_up (zw_up (pX7_up (znx_up (zw_up (pX7_up (znx_up zw_at))))))))) (by decide +kernel) wf_X2_11 dX2_init_17 ?_
  refine z_alen' (v := 6) ly_32 (by decide) (by rw [hz11.1]; omega) rfl dX2_init_20 ?_
  refine zb_icmp_ge (tgt := 43) dX2_init_21 (by decide) ⟨by decide, by decide⟩ ⟨fun q => absurd q (by decide), fun _ => ?_⟩
  refine z_aloadR_n (i := 0) dX2_init_24 rfl rfl ?_
  refine z_getR 2 0 (idx := 11) (b := 32) ly_31 (by decide) (by decide) rfl (by rw [hz11.1]; omega) (zw_up (pX7_up (znx_up (zw_up (pX7_up (znx_up (zw_up (pX7_up (znx_up zw_at))))))))) (by decide +kernel) wf_X2_11 dX2_init_25 ?_
  refine z_iload_n (i := 1) dX2_init_28 rfl rfl ?_
  refine z_new' 7 (n := 75) hz11 ly_75 (by decide) dX2_init_29 wc_X2_9 wI_7 wi_7 (zrm_eM (by rw [hN]; omega)) ?_
  generalize hm8 : mrow d7 75 (fun _ => 0) = d8
  have hz12 := Zr_nx hz11
  refine z_dup dX2_init_32 (Nat.le_of_ble_eq_true rfl) ?_
  have hz13 := Zr_X7 (a := 75) hz12
  refine z_callI (k' := M_X7_init) (φ' := (pX7 75 (znx (zw (pX7 61 (znx (zw (pX7 47 (znx (zw (pX7 33 (znx (zw (znx φ) 31 0))) 32 0))) 32 1))) 32 2)))) (As := []) (Q := fun _ _ => True) (st := [zR 75, zI 3, zR 32]) dX2_init_33 rfl rfl rfl wm_X2_17 ok_X7_init okI_X7_init rfl (zroom_eM (by decide) (by decide) (by rw [hN, hz13.1]; omega)) (Nat.le_of_ble_eq_true rfl) (by rw [hz13.1, hz12.1]; omega) ?_
  apply kX7 (a := 75) riv75 hz12 (fun j => by rw [← hm8, mrow_app, if_pos rfl])
  intro d9 b9 x9
  refine z_aastore' (b := 75) (j := 3) ly_32 (by rw [hz13.1]; omega) (by decide) (by rw [hz13.1]; omega) ly_75 dX2_init_36 (by decide) rfl (by decide +kernel) ?_
  have hz14 := Zr_zw (c := 32) (k := 3) hz13 (by omega)
  refine z_iinc (i := 1) (ls2 := [some (zR 31), some (zI 4)]) dX2_init_37 (by decide) rfl rfl ?_
  refine z_goto (tgt := 15) dX2_init_40 (by decide) ?_
  refine z_iload_n (i := 1) dX2_init_15 rfl rfl ?_
  refine z_aloadR_n (i := 0) dX2_init_16 rfl rfl ?_
  refine z_getR 2 0 (idx := 11) (b := 32) ly_31 (by decide) (by decide) rfl (by rw [hz14.1]; omega) (zw_up (pX7_up (znx_up (zw_up (pX7_up (znx_up (zw_up (pX7_up (znx_up (zw_up (pX7_up (znx_up zw_at)))))))))))) (by decide +kernel) wf_X2_11 dX2_init_17 ?_
  refine z_alen' (v := 6) ly_32 (by decide) (by rw [hz14.1]; omega) rfl dX2_init_20 ?_
  refine zb_icmp_ge (tgt := 43) dX2_init_21 (by decide) ⟨by decide, by decide⟩ ⟨fun q => absurd q (by decide), fun _ => ?_⟩
  refine z_aloadR_n (i := 0) dX2_init_24 rfl rfl ?_
  refine z_getR 2 0 (idx := 11) (b := 32) ly_31 (by decide) (by decide) rfl (by rw [hz14.1]; omega) (zw_up (pX7_up (znx_up (zw_up (pX7_up (znx_up (zw_up (pX7_up (znx_up (zw_up (pX7_up (znx_up zw_at)))))))))))) (by decide +kernel) wf_X2_11 dX2_init_25 ?_
  refine z_iload_n (i := 1) dX2_init_28 rfl rfl ?_
  refine z_new' 7 (n := 89) hz14 ly_89 (by decide) dX2_init_29 wc_X2_9 wI_7 wi_7 (zrm_eM (by rw [hN]; omega)) ?_
  generalize hm10 : mrow d9 89 (fun _ => 0) = d10
  have hz15 := Zr_nx hz14
  refine z_dup dX2_init_32 (Nat.le_of_ble_eq_true rfl) ?_
  have hz16 := Zr_X7 (a := 89) hz15
  refine z_callI (k' := M_X7_init) (φ' := (pX7 89 (znx (zw (pX7 75 (znx (zw (pX7 61 (znx (zw (pX7 47 (znx (zw (pX7 33 (znx (zw (znx φ) 31 0))) 32 0))) 32 1))) 32 2))) 32 3)))) (As := []) (Q := fun _ _ => True) (st := [zR 89, zI 4, zR 32]) dX2_init_33 rfl rfl rfl wm_X2_17 ok_X7_init okI_X7_init rfl (zroom_eM (by decide) (by decide) (by rw [hN, hz16.1]; omega)) (Nat.le_of_ble_eq_true rfl) (by rw [hz16.1, hz15.1]; omega) ?_
  apply kX7 (a := 89) riv89 hz15 (fun j => by rw [← hm10, mrow_app, if_pos rfl])
  intro d11 b11 x11
  refine z_aastore' (b := 89) (j := 4) ly_32 (by rw [hz16.1]; omega) (by decide) (by rw [hz16.1]; omega) ly_89 dX2_init_36 (by decide) rfl (by decide +kernel) ?_
  have hz17 := Zr_zw (c := 32) (k := 4) hz16 (by omega)
  refine z_iinc (i := 1) (ls2 := [some (zR 31), some (zI 5)]) dX2_init_37 (by decide) rfl rfl ?_
  refine z_goto (tgt := 15) dX2_init_40 (by decide) ?_
  refine z_iload_n (i := 1) dX2_init_15 rfl rfl ?_
  refine z_aloadR_n (i := 0) dX2_init_16 rfl rfl ?_
  refine z_getR 2 0 (idx := 11) (b := 32) ly_31 (by decide) (by decide) rfl (by rw [hz17.1]; omega) (zw_up (pX7_up (znx_up (zw_up (pX7_up (znx_up (zw_up (pX7_up (znx_up (zw_up (pX7_up (znx_up (zw_up (pX7_up (znx_up zw_at))))))))))))))) (by decide +kernel) wf_X2_11 dX2_init_17 ?_
  refine z_alen' (v := 6) ly_32 (by decide) (by rw [hz17.1]; omega) rfl dX2_init_20 ?_
  refine zb_icmp_ge (tgt := 43) dX2_init_21 (by decide) ⟨by decide, by decide⟩ ⟨fun q => absurd q (by decide), fun _ => ?_⟩
  refine z_aloadR_n (i := 0) dX2_init_24 rfl rfl ?_
  refine z_getR 2 0 (idx := 11) (b := 32) ly_31 (by decide) (by decide) rfl (by rw [hz17.1]; omega) (zw_up (pX7_up (znx_up (zw_up (pX7_up (znx_up (zw_up (pX7_up (znx_up (zw_up (pX7_up (znx_up (zw_up (pX7_up (znx_up zw_at))))))))))))))) (by decide +kernel) wf_X2_11 dX2_init_25 ?_
  refine z_iload_n (i := 1) dX2_init_28 rfl rfl ?_
  refine z_new' 7 (n := 103) hz17 ly_103 (by decide) dX2_init_29 wc_X2_9 wI_7 wi_7 (zrm_eM (by rw [hN]; omega)) ?_
  generalize hm12 : mrow d11 103 (fun _ => 0) = d12
  have hz18 := Zr_nx hz17
  refine z_dup dX2_init_32 (Nat.le_of_ble_eq_true rfl) ?_
  have hz19 := Zr_X7 (a := 103) hz18
  refine z_callI (k' := M_X7_init) (φ' := (pX7 103 (znx (zw (pX7 89 (znx (zw (pX7 75 (znx (zw (pX7 61 (znx (zw (pX7 47 (znx (zw (pX7 33 (znx (zw (znx φ) 31 0))) 32 0))) 32 1))) 32 2))) 32 3))) 32 4)))) (As := []) (Q := fun _ _ => True) (st := [zR 103, zI 5, zR 32]) dX2_init_33 rfl rfl rfl wm_X2_17 ok_X7_init okI_X7_init rfl (zroom_eM (by decide) (by decide) (by rw [hN, hz19.1]; omega)) (Nat.le_of_ble_eq_true rfl) (by rw [hz19.1, hz18.1]; omega) ?_
  apply kX7 (a := 103) riv103 hz18 (fun j => by rw [← hm12, mrow_app, if_pos rfl])
  intro d13 b13 x13
  refine z_aastore' (b := 103) (j := 5) ly_32 (by rw [hz19.1]; omega) (by decide) (by rw [hz19.1]; omega) ly_103 dX2_init_36 (by decide) rfl (by decide +kernel) ?_
  have hz20 := Zr_zw (c := 32) (k := 5) hz19 (by omega)
  refine z_iinc (i := 1) (ls2 := [some (zR 31), some (zI 6)]) dX2_init_37 (by decide) rfl rfl ?_
  refine z_goto (tgt := 15) dX2_init_40 (by decide) ?_
  refine z_iload_n (i := 1) dX2_init_15 rfl rfl ?_
  refine z_aloadR_n (i := 0) dX2_init_16 rfl rfl ?_
  refine z_getR 2 0 (idx := 11) (b := 32) ly_31 (by decide) (by decide) rfl (by rw [hz20.1]; omega) (zw_up (pX7_up (znx_up (zw_up (pX7_up (znx_up (zw_up (pX7_up (znx_up (zw_up (pX7_up (znx_up (zw_up (pX7_up (znx_up (zw_up (pX7_up (znx_up zw_at)))))))))))))))))) (by decide +kernel) wf_X2_11 dX2_init_17 ?_
  refine z_alen' (v := 6) ly_32 (by decide) (by rw [hz20.1]; omega) rfl dX2_init_20 ?_
  refine zb_icmp_ge (tgt := 43) dX2_init_21 (by decide) ⟨by decide, by decide⟩ ⟨fun _ => ?_, fun q => absurd q (by decide)⟩
  exact zret_v rfl dX2_init_43 (hQ d13 (fun q hq => by rw [b13 _ (by omega), ← hm12, mrw_ne (by omega), b11 _ (by omega), ← hm10, mrw_ne (by omega), b9 _ (by omega), ← hm8, mrw_ne (by omega), b7 _ (by omega), ← hm6, mrw_ne (by omega), b5 _ (by omega), ← hm4, mrw_ne (by omega), b3 _ (by omega), ← hm2, mrw_ne (by omega), ← hm1, mrw_ne (by omega)]))
def pX8 (φ : zPhi) : zPhi := (zw (pX7 139 (znx (zw (pX7 125 (znx (zw (znx (zw (znx (zw (pX6 (znx (zw (pX5 (znx (zw (pX2 (znx (zw (znx (zw (znx (zw (pX7 15 (znx (zw (pX7 1 (znx φ)) 0 0))) 0 1)) 0 2)) 0 3))) 0 4))) 0 5))) 0 6)) 0 7)) 0 8))) 29 0))) 29 1)
theorem Zr_X8 {φ : zPhi} (hz0 : Zr φ 1) : Zr (pX8 φ) 153 := by
  have hz1 := Zr_nx hz0
  have hz2 := Zr_X7 (a := 1) hz1
  have hz3 := Zr_zw (c := 0) (k := 0) hz2 (by omega)
  have hz4 := Zr_nx hz3
  have hz5 := Zr_X7 (a := 15) hz4
  have hz6 := Zr_zw (c := 0) (k := 1) hz5 (by omega)
  have hz7 := Zr_nx hz6
  have hz8 := Zr_zw (c := 0) (k := 2) hz7 (by omega)
  have hz9 := Zr_nx hz8
  have hz10 := Zr_zw (c := 0) (k := 3) hz9 (by omega)
  have hz11 := Zr_nx hz10
  have hz12 := Zr_X2 hz11
  have hz13 := Zr_zw (c := 0) (k := 4) hz12 (by omega)
  have hz14 := Zr_nx hz13
  have hz15 := Zr_X5 hz14
  have hz16 := Zr_zw (c := 0) (k := 5) hz15 (by omega)
  have hz17 := Zr_nx hz16
  have hz18 := Zr_X6 hz17
  have hz19 := Zr_zw (c := 0) (k := 6) hz18 (by omega)
  have hz20 := Zr_nx hz19
  have hz21 := Zr_zw (c := 0) (k := 7) hz20 (by omega)
  have hz22 := Zr_nx hz21
  have hz23 := Zr_zw (c := 0) (k := 8) hz22 (by omega)
  have hz24 := Zr_nx hz23
  have hz25 := Zr_X7 (a := 125) hz24
  have hz26 := Zr_zw (c := 29) (k := 0) hz25 (by omega)
  have hz27 := Zr_nx hz26
  have hz28 := Zr_X7 (a := 139) hz27
  have hz29 := Zr_zw (c := 29) (k := 1) hz28 (by omega)
  exact hz29
theorem pX8_up {q i : Nat} {φ : zPhi} (h : φ.2 q i = true) : (pX8 φ).2 q i = true := (zw_up (pX7_up (znx_up (zw_up (pX7_up (znx_up (zw_up (znx_up (zw_up (znx_up (zw_up (pX6_up (znx_up (zw_up (pX5_up (znx_up (zw_up (pX2_up (znx_up (zw_up (znx_up (zw_up (znx_up (zw_up (pX7_up (znx_up (zw_up (pX7_up (znx_up h)))))))))))))))))))))))))))))
set_option maxRecDepth 20000 in
theorem kX8 {g : zGG} {Q : Int → zMem → Prop} {d : zMem} {φ : zPhi} (hz0 : Zr φ 1) (hQ : ∀ d', River d' 1 row0 → d' 31 1 = 0 → d' 31 2 = 0 → (∀ z, d' 30 z = 0) → d' 117 2 = 0 → d' 120 2 = -1 → Q 0 d') : Ev g M_X8_init φ (pX8 φ) [zR 0] d Q := by
  have hN : (pX8 φ).1 = 153 := (Zr_X8 hz0).1
  refine Ev_of (by decide +kernel) (Nat.le_of_ble_eq_true rfl) (show Fr g (eM g M_X8_init φ (pX8 φ) Q) M_X8_init φ 0 [some (zR 0), none] [] d from ?_)
  refine z_aloadR_n (i := 0) dX8_init_0 rfl rfl ?_
  refine z_objInit dX8_init_1 wm_X8_3 wOi wOc ⟨Nat.le_of_ble_eq_true rfl, Nat.le_of_ble_eq_true rfl⟩ ?_
  refine z_aloadR_n (i := 0) dX8_init_4 rfl rfl ?_
  refine z_new' 7 (n := 1) hz0 ly_1 (by decide) dX8_init_5 wc_X8_9 wI_7 wi_7 (zrm_eM (by rw [hN]; omega)) ?_
  generalize hm1 : mrow d 1 (fun _ => 0) = d1
  have hz1 := Zr_nx hz0
  refine z_dup dX8_init_8 (Nat.le_of_ble_eq_true rfl) ?_
  have hz2 := Zr_X7 (a := 1) hz1
  refine z_callI (k' := M_X7_init) (φ' := (pX7 1 (znx φ))) (As := []) (Q := fun _ _ => True) (st := [zR 1, zR 0]) dX8_init_9 rfl rfl rfl wm_X8_11 ok_X7_init okI_X7_init rfl (zroom_eM (by decide) (by decide) (by rw [hN, hz2.1]; omega)) (Nat.le_of_ble_eq_true rfl) (by rw [hz2.1, hz1.1]; omega) ?_
  apply kX7 (a := 1) riv1 hz1 (fun j => by rw [← hm1, mrow_app, if_pos rfl])
  intro d2 b2 x2
  refine z_putR 8 0 (idx := 12) (b := 1) ly_0 (by decide) (by decide) rfl (by rw [hz2.1]; omega) rfl rfl rfl (by decide +kernel) wf_X8_12 dX8_init_12 ?_
  have hz3 := Zr_zw (c := 0) (k := 0) hz2 (by omega)
  refine z_aloadR_n (i := 0) dX8_init_15 rfl rfl ?_
  refine z_new' 7 (n := 15) hz3 ly_15 (by decide) dX8_init_16 wc_X8_9 wI_7 wi_7 (zrm_eM (by rw [hN]; omega)) ?_
  generalize hm3 : mrow d2 15 (fun _ => 0) = d3
  have hz4 := Zr_nx hz3
  refine z_dup dX8_init_19 (Nat.le_of_ble_eq_true rfl) ?_
  have hz5 := Zr_X7 (a := 15) hz4
  refine z_callI (k' := M_X7_init) (φ' := (pX7 15 (znx (zw (pX7 1 (znx φ)) 0 0)))) (As := []) (Q := fun _ _ => True) (st := [zR 15, zR 0]) dX8_init_20 rfl rfl rfl wm_X8_11 ok_X7_init okI_X7_init rfl (zroom_eM (by decide) (by decide) (by rw [hN, hz5.1]; omega)) (Nat.le_of_ble_eq_true rfl) (by rw [hz5.1, hz4.1]; omega) ?_
  apply kX7 (a := 15) riv15 hz4 (fun j => by rw [← hm3, mrow_app, if_pos rfl])
  intro d4 b4 x4
  refine z_putR 8 1 (idx := 16) (b := 15) ly_0 (by decide) (by decide) rfl (by rw [hz5.1]; omega) rfl rfl rfl (by decide +kernel) wf_X8_16 dX8_init_23 ?_
  have hz6 := Zr_zw (c := 0) (k := 1) hz5 (by omega)
  refine z_aloadR_n (i := 0) dX8_init_26 rfl rfl ?_
  refine z_iconst dX8_init_27 ?_
  refine z_newR' (n := 29) (m := 2) rfl hz6 ly_29 (by decide) dX8_init_28 wc_X8_9 (zrm_eM (by rw [hN]; omega)) ?_
  generalize hm5 : mrow d4 29 (fun _ => 0) = d5
  have hz7 := Zr_nx hz6
  refine z_putR 8 2 (idx := 19) (b := 29) ly_0 (by decide) (by decide) rfl (by rw [hz7.1]; omega) rfl rfl rfl (by decide +kernel) wf_X8_19 dX8_init_31 ?_
  have hz8 := Zr_zw (c := 0) (k := 2) hz7 (by omega)
  refine z_aloadR_n (i := 0) dX8_init_34 rfl rfl ?_
  refine z_iconst dX8_init_35 ?_
  refine z_newZ' (n := 30) (m := 2) rfl rfl hz8 ly_30 (by decide) dX8_init_36 wZa (zrm_eM (by rw [hN]; omega)) ?_
  generalize hm6 : mrow d5 30 (fun _ => 0) = d6
  have hz9 := Zr_nx hz8
  refine z_putR 8 3 (idx := 23) (b := 30) ly_0 (by decide) (by decide) rfl (by rw [hz9.1]; omega) rfl rfl rfl (by decide +kernel) wf_X8_23 dX8_init_38 ?_
  have hz10 := Zr_zw (c := 0) (k := 3) hz9 (by omega)
  refine z_aloadR_n (i := 0) dX8_init_41 rfl rfl ?_
  refine z_new' 2 (n := 31) hz10 ly_31 (by decide) dX8_init_42 wc_X8_27 wI_2 wi_2 (zrm_eM (by rw [hN]; omega)) ?_
  generalize hm7 : mrow d6 31 (fun _ => 0) = d7
  have hz11 := Zr_nx hz10
  refine z_dup dX8_init_45 (Nat.le_of_ble_eq_true rfl) ?_
  have hz12 := Zr_X2 hz11
  refine z_callI (k' := M_X2_init) (φ' := (pX2 (znx (zw (znx (zw (znx (zw (pX7 15 (znx (zw (pX7 1 (znx φ)) 0 0))) 0 1)) 0 2)) 0 3)))) (As := []) (Q := fun _ _ => True) (st := [zR 31, zR 0]) dX8_init_46 rfl rfl rfl wm_X8_29 ok_X2_init okI_X2_init rfl (zroom_eM (by decide) (by decide) (by rw [hN, hz12.1]; omega)) (Nat.le_of_ble_eq_true rfl) (by rw [hz12.1, hz11.1]; omega) ?_
  apply kX2 hz11
  intro d8 b8
  refine z_putR 8 4 (idx := 30) (b := 31) ly_0 (by decide) (by decide) rfl (by rw [hz12.1]; omega) rfl rfl rfl (by decide +kernel) wf_X8_30 dX8_init_49 ?_
  have hz13 := Zr_zw (c := 0) (k := 4) hz12 (by omega)
  refine z_aloadR_n (i := 0) dX8_init_52 rfl rfl ?_
  refine z_new' 5 (n := 117) hz13 ly_117 (by decide) dX8_init_53 wc_X8_34 wI_5 wi_5 (zrm_eM (by rw [hN]; omega)) ?_
  generalize hm9 : mrow d8 117 (fun _ => 0) = d9
  have hz14 := Zr_nx hz13
  refine z_dup dX8_init_56 (Nat.le_of_ble_eq_true rfl) ?_
  have hz15 := Zr_X5 hz14
  refine z_callIN (k' := M_X5_init) (φ' := (pX5 (znx (zw (pX2 (znx (zw (znx (zw (znx (zw (pX7 15 (znx (zw (pX7 1 (znx φ)) 0 0))) 0 1)) 0 2)) 0 3))) 0 4)))) (As := []) (st := [zR 117, zR 0]) dX8_init_57 rfl rfl rfl wm_X8_36 ok_X5_init okI_X5_init rfl (zroom_eM (by decide) (by decide) (by rw [hN, hz15.1]; omega)) (Nat.le_of_ble_eq_true rfl) (by rw [hz15.1, hz14.1]; omega) ?_
  apply kX5 hz14
  intro d10 b10
  refine z_putR 8 5 (idx := 37) (b := 117) ly_0 (by decide) (by decide) rfl (by rw [hz15.1]; omega) rfl rfl rfl (by decide +kernel) wf_X8_37 dX8_init_60 ?_
  have hz16 := Zr_zw (c := 0) (k := 5) hz15 (by omega)
  refine z_aloadR_n (i := 0) dX8_init_63 rfl rfl ?_
  refine z_new' 6 (n := 120) hz16 ly_120 (by decide) dX8_init_64 wc_X8_41 wI_6 wi_6 (zrm_eM (by rw [hN]; omega)) ?_
  generalize hm11 : mrow d10 120 (fun _ => 0) = d11
  have hz17 := Zr_nx hz16
  refine z_dup dX8_init_67 (Nat.le_of_ble_eq_true rfl) ?_
  have hz18 := Zr_X6 hz17
  refine z_callIN (k' := M_X6_init) (φ' := (pX6 (znx (zw (pX5 (znx (zw (pX2 (znx (zw (znx (zw (znx (zw (pX7 15 (znx (zw (pX7 1 (znx φ)) 0 0))) 0 1)) 0 2)) 0 3))) 0 4))) 0 5)))) (As := []) (st := [zR 120, zR 0]) dX8_init_68 rfl rfl rfl wm_X8_43 ok_X6_init okI_X6_init rfl (zroom_eM (by decide) (by decide) (by rw [hN, hz18.1]; omega)) (Nat.le_of_ble_eq_true rfl) (by rw [hz18.1, hz17.1]; omega) ?_
  apply kX6 hz17
  intro d12 b12 x12
  refine z_putR 8 6 (idx := 44) (b := 120) ly_0 (by decide) (by decide) rfl (by rw [hz18.1]; omega) rfl rfl rfl (by decide +kernel) wf_X8_44 dX8_init_71 ?_
  have hz19 := Zr_zw (c := 0) (k := 6) hz18 (by omega)
  refine z_aloadR_n (i := 0) dX8_init_74 rfl rfl ?_
  refine z_new' 0 (n := 123) hz19 ly_123 (by decide) dX8_init_75 wc_X8_48 wI_0 wi_0 (zrm_eM (by rw [hN]; omega)) ?_
  generalize hm13 : mrow d12 123 (fun _ => 0) = d13
  have hz20 := Zr_nx hz19
  refine z_dup dX8_init_78 (Nat.le_of_ble_eq_true rfl) ?_
  refine z_callIN (k' := M_X0_init) (φ' := (znx (zw (pX6 (znx (zw (pX5 (znx (zw (pX2 (znx (zw (znx (zw (znx (zw (pX7 15 (znx (zw (pX7 1 (znx φ)) 0 0))) 0 1)) 0 2)) 0 3))) 0 4))) 0 5))) 0 6))) (As := []) (st := [zR 123, zR 0]) dX8_init_79 rfl rfl rfl wm_X8_50 ok_X0_init okI_X0_init rfl (zroom_eM (by decide) (by decide) (by rw [hN, hz20.1]; omega)) (Nat.le_of_ble_eq_true rfl) (Nat.le_refl _) ?_
  apply kX0
  refine z_putR 8 7 (idx := 51) (b := 123) ly_0 (by decide) (by decide) rfl (by rw [hz20.1]; omega) rfl rfl rfl (by decide +kernel) wf_X8_51 dX8_init_82 ?_
  have hz21 := Zr_zw (c := 0) (k := 7) hz20 (by omega)
  refine z_aloadR_n (i := 0) dX8_init_85 rfl rfl ?_
  refine z_new' 3 (n := 124) hz21 ly_124 (by decide) dX8_init_86 wc_X8_55 wI_3 wi_3 (zrm_eM (by rw [hN]; omega)) ?_
  generalize hm14 : mrow d13 124 (fun _ => 0) = d14
  have hz22 := Zr_nx hz21
  refine z_dup dX8_init_89 (Nat.le_of_ble_eq_true rfl) ?_
  refine z_callIN (k' := M_X3_init) (φ' := (znx (zw (znx (zw (pX6 (znx (zw (pX5 (znx (zw (pX2 (znx (zw (znx (zw (znx (zw (pX7 15 (znx (zw (pX7 1 (znx φ)) 0 0))) 0 1)) 0 2)) 0 3))) 0 4))) 0 5))) 0 6)) 0 7))) (As := []) (st := [zR 124, zR 0]) dX8_init_90 rfl rfl rfl wm_X8_57 ok_X3_init okI_X3_init rfl (zroom_eM (by decide) (by decide) (by rw [hN, hz22.1]; omega)) (Nat.le_of_ble_eq_true rfl) (Nat.le_refl _) ?_
  apply kX3
  refine z_putR 8 8 (idx := 58) (b := 124) ly_0 (by decide) (by decide) rfl (by rw [hz22.1]; omega) rfl rfl rfl (by decide +kernel) wf_X8_58 dX8_init_93 ?_
  have hz23 := Zr_zw (c := 0) (k := 8) hz22 (by omega)
  refine z_iconst dX8_init_96 ?_
  refine z_istore_n (i := 1) (ls2 := [some (zR 0), some (zI 0)]) dX8_init_97 rfl (by decide) rfl ?_
  refine z_iload_n (i := 1) dX8_init_98 rfl rfl ?_
  refine z_aloadR_n (i := 0) dX8_init_99 rfl rfl ?_
  refine z_getR 8 2 (idx := 19) (b := 29) ly_0 (by decide) (by decide) rfl (by rw [hz23.1]; omega) (zw_up (znx_up (zw_up (znx_up (zw_up (pX6_up (znx_up (zw_up (pX5_up (znx_up (zw_up (pX2_up (znx_up (zw_up (znx_up zw_at))))))))))))))) (by decide +kernel) wf_X8_19 dX8_init_100 ?_
  refine z_alen' (v := 2) ly_29 (by decide) (by rw [hz23.1]; omega) rfl dX8_init_103 ?_
  refine zb_icmp_ge (tgt := 126) dX8_init_104 (by decide) ⟨by decide, by decide⟩ ⟨fun q => absurd q (by decide), fun _ => ?_⟩
  refine z_aloadR_n (i := 0) dX8_init_107 rfl rfl ?_
  refine z_getR 8 2 (idx := 19) (b := 29) ly_0 (by decide) (by decide) rfl (by rw [hz23.1]; omega) (zw_up (znx_up (zw_up (znx_up (zw_up (pX6_up (znx_up (zw_up (pX5_up (znx_up (zw_up (pX2_up (znx_up (zw_up (znx_up zw_at))))))))))))))) (by decide +kernel) wf_X8_19 dX8_init_108 ?_
  refine z_iload_n (i := 1) dX8_init_111 rfl rfl ?_
  refine z_new' 7 (n := 125) hz23 ly_125 (by decide) dX8_init_112 wc_X8_9 wI_7 wi_7 (zrm_eM (by rw [hN]; omega)) ?_
  generalize hm15 : mrow d14 125 (fun _ => 0) = d15
  have hz24 := Zr_nx hz23
  refine z_dup dX8_init_115 (Nat.le_of_ble_eq_true rfl) ?_
  have hz25 := Zr_X7 (a := 125) hz24
  refine z_callI (k' := M_X7_init) (φ' := (pX7 125 (znx (zw (znx (zw (znx (zw (pX6 (znx (zw (pX5 (znx (zw (pX2 (znx (zw (znx (zw (znx (zw (pX7 15 (znx (zw (pX7 1 (znx φ)) 0 0))) 0 1)) 0 2)) 0 3))) 0 4))) 0 5))) 0 6)) 0 7)) 0 8)))) (As := []) (Q := fun _ _ => True) (st := [zR 125, zI 0, zR 29]) dX8_init_116 rfl rfl rfl wm_X8_11 ok_X7_init okI_X7_init rfl (zroom_eM (by decide) (by decide) (by rw [hN, hz25.1]; omega)) (Nat.le_of_ble_eq_true rfl) (by rw [hz25.1, hz24.1]; omega) ?_
  apply kX7 (a := 125) riv125 hz24 (fun j => by rw [← hm15, mrow_app, if_pos rfl])
  intro d16 b16 x16
  refine z_aastore' (b := 125) (j := 0) ly_29 (by rw [hz25.1]; omega) (by decide) (by rw [hz25.1]; omega) ly_125 dX8_init_119 (by decide) rfl (by decide +kernel) ?_
  have hz26 := Zr_zw (c := 29) (k := 0) hz25 (by omega)
  refine z_iinc (i := 1) (ls2 := [some (zR 0), some (zI 1)]) dX8_init_120 (by decide) rfl rfl ?_
  refine z_goto (tgt := 98) dX8_init_123 (by decide) ?_
  refine z_iload_n (i := 1) dX8_init_98 rfl rfl ?_
  refine z_aloadR_n (i := 0) dX8_init_99 rfl rfl ?_
  refine z_getR 8 2 (idx := 19) (b := 29) ly_0 (by decide) (by decide) rfl (by rw [hz26.1]; omega) (zw_up (pX7_up (znx_up (zw_up (znx_up (zw_up (znx_up (zw_up (pX6_up (znx_up (zw_up (pX5_up (znx_up (zw_up (pX2_up (znx_up (zw_up (znx_up zw_at)))))))))))))))))) (by decide +kernel) wf_X8_19 dX8_init_100 ?_
  refine z_alen' (v := 2) ly_29 (by decide) (by rw [hz26.1]; omega) rfl dX8_init_103 ?_
  refine zb_icmp_ge (tgt := 126) dX8_init_104 (by decide) ⟨by decide, by decide⟩ ⟨fun q => absurd q (by decide), fun _ => ?_⟩
  refine z_aloadR_n (i := 0) dX8_init_107 rfl rfl ?_
  refine z_getR 8 2 (idx := 19) (b := 29) ly_0 (by decide) (by decide) rfl (by rw [hz26.1]; omega) (zw_up (pX7_up (znx_up (zw_up (znx_up (zw_up (znx_up (zw_up (pX6_up (znx_up (zw_up (pX5_up (znx_up (zw_up (pX2_up (znx_up (zw_up (znx_up zw_at)))))))))))))))))) (by decide +kernel) wf_X8_19 dX8_init_108 ?_
  refine z_iload_n (i := 1) dX8_init_111 rfl rfl ?_
  refine z_new' 7 (n := 139) hz26 ly_139 (by decide) dX8_init_112 wc_X8_9 wI_7 wi_7 (zrm_eM (by rw [hN]; omega)) ?_
  generalize hm17 : mrow d16 139 (fun _ => 0) = d17
  have hz27 := Zr_nx hz26
  refine z_dup dX8_init_115 (Nat.le_of_ble_eq_true rfl) ?_
  have hz28 := Zr_X7 (a := 139) hz27
  refine z_callI (k' := M_X7_init) (φ' := (pX7 139 (znx (zw (pX7 125 (znx (zw (znx (zw (znx (zw (pX6 (znx (zw (pX5 (znx (zw (pX2 (znx (zw (znx (zw (znx (zw (pX7 15 (znx (zw (pX7 1 (znx φ)) 0 0))) 0 1)) 0 2)) 0 3))) 0 4))) 0 5))) 0 6)) 0 7)) 0 8))) 29 0)))) (As := []) (Q := fun _ _ => True) (st := [zR 139, zI 1, zR 29]) dX8_init_116 rfl rfl rfl wm_X8_11 ok_X7_init okI_X7_init rfl (zroom_eM (by decide) (by decide) (by rw [hN, hz28.1]; omega)) (Nat.le_of_ble_eq_true rfl) (by rw [hz28.1, hz27.1]; omega) ?_
  apply kX7 (a := 139) riv139 hz27 (fun j => by rw [← hm17, mrow_app, if_pos rfl])
  intro d18 b18 x18
  refine z_aastore' (b := 139) (j := 1) ly_29 (by rw [hz28.1]; omega) (by decide) (by rw [hz28.1]; omega) ly_139 dX8_init_119 (by decide) rfl (by decide +kernel) ?_
  have hz29 := Zr_zw (c := 29) (k := 1) hz28 (by omega)
  refine z_iinc (i := 1) (ls2 := [some (zR 0), some (zI 2)]) dX8_init_120 (by decide) rfl rfl ?_
  refine z_goto (tgt := 98) dX8_init_123 (by decide) ?_
  refine z_iload_n (i := 1) dX8_init_98 rfl rfl ?_
  refine z_aloadR_n (i := 0) dX8_init_99 rfl rfl ?_
  refine z_getR 8 2 (idx := 19) (b := 29) ly_0 (by decide) (by decide) rfl (by rw [hz29.1]; omega) (zw_up (pX7_up (znx_up (zw_up (pX7_up (znx_up (zw_up (znx_up (zw_up (znx_up (zw_up (pX6_up (znx_up (zw_up (pX5_up (znx_up (zw_up (pX2_up (znx_up (zw_up (znx_up zw_at))))))))))))))))))))) (by decide +kernel) wf_X8_19 dX8_init_100 ?_
  refine z_alen' (v := 2) ly_29 (by decide) (by rw [hz29.1]; omega) rfl dX8_init_103 ?_
  refine zb_icmp_ge (tgt := 126) dX8_init_104 (by decide) ⟨by decide, by decide⟩ ⟨fun _ => ?_, fun q => absurd q (by decide)⟩
  refine zret_v rfl dX8_init_126 (hQ d18 (River_keep x2 (fun q q1 q2 => by rw [b18 _ (by omega), ← hm17, mrw_ne (by omega), b16 _ (by omega), ← hm15, mrw_ne (by omega), ← hm14, mrw_ne (by omega), ← hm13, mrw_ne (by omega), b12 _ (by omega), ← hm11, mrw_ne (by omega), b10 _ (by omega), ← hm9, mrw_ne (by omega), b8 _ (by omega), ← hm7, mrw_ne (by omega), ← hm6, mrw_ne (by omega), ← hm5, mrw_ne (by omega), b4 _ (by omega), ← hm3, mrw_ne (by omega)])) ?_ ?_ ?_ ?_ ?_)
  · rw [b18 _ (by omega), ← hm17, mrw_ne (by omega), b16 _ (by omega), ← hm15, mrw_ne (by omega), ← hm14, mrw_ne (by omega), ← hm13, mrw_ne (by omega), b12 _ (by omega), ← hm11, mrw_ne (by omega), b10 _ (by omega), ← hm9, mrw_ne (by omega), b8 _ (by omega), ← hm7, mrow_app, if_pos rfl]
  · rw [b18 _ (by omega), ← hm17, mrw_ne (by omega), b16 _ (by omega), ← hm15, mrw_ne (by omega), ← hm14, mrw_ne (by omega), ← hm13, mrw_ne (by omega), b12 _ (by omega), ← hm11, mrw_ne (by omega), b10 _ (by omega), ← hm9, mrw_ne (by omega), b8 _ (by omega), ← hm7, mrow_app, if_pos rfl]
  · intro z; rw [b18 _ (by omega), ← hm17, mrw_ne (by omega), b16 _ (by omega), ← hm15, mrw_ne (by omega), ← hm14, mrw_ne (by omega), ← hm13, mrw_ne (by omega), b12 _ (by omega), ← hm11, mrw_ne (by omega), b10 _ (by omega), ← hm9, mrw_ne (by omega), b8 _ (by omega), ← hm7, mrw_ne (by omega), ← hm6, mrow_app, if_pos rfl]
  · rw [b18 _ (by omega), ← hm17, mrw_ne (by omega), b16 _ (by omega), ← hm15, mrw_ne (by omega), ← hm14, mrw_ne (by omega), ← hm13, mrw_ne (by omega), b12 _ (by omega), ← hm11, mrw_ne (by omega), b10 _ (by omega), ← hm9, mrow_app, if_pos rfl]
  · rw [b18 _ (by omega), ← hm17, mrw_ne (by omega), b16 _ (by omega), ← hm15, mrw_ne (by omega), ← hm14, mrw_ne (by omega), ← hm13, mrw_ne (by omega)]; exact x12
def pX9 (φ : zPhi) : zPhi := (zw (znx (zw (znx (zw (znx (zw (znx (zw (znx (zw (znx (zw (znx (zw (znx (zw (znx (zw (znx (zw (znx (zw (znx φ) 153 0)) 153 1)) 153 2)) 153 4)) 153 5)) 153 6)) 153 8)) 153 9)) 153 10)) 153 12)) 153 18)) 153 21)
theorem Zr_X9 {φ : zPhi} (hz0 : Zr φ 154) : Zr (pX9 φ) 166 := by
  have hz1 := Zr_nx hz0
  have hz2 := Zr_zw (c := 153) (k := 0) hz1 (by omega)
  have hz3 := Zr_nx hz2
  have hz4 := Zr_zw (c := 153) (k := 1) hz3 (by omega)
  have hz5 := Zr_nx hz4
  have hz6 := Zr_zw (c := 153) (k := 2) hz5 (by omega)
  have hz7 := Zr_nx hz6
  have hz8 := Zr_zw (c := 153) (k := 4) hz7 (by omega)
  have hz9 := Zr_nx hz8
  have hz10 := Zr_zw (c := 153) (k := 5) hz9 (by omega)
  have hz11 := Zr_nx hz10
  have hz12 := Zr_zw (c := 153) (k := 6) hz11 (by omega)
  have hz13 := Zr_nx hz12
  have hz14 := Zr_zw (c := 153) (k := 8) hz13 (by omega)
  have hz15 := Zr_nx hz14
  have hz16 := Zr_zw (c := 153) (k := 9) hz15 (by omega)
  have hz17 := Zr_nx hz16
  have hz18 := Zr_zw (c := 153) (k := 10) hz17 (by omega)
  have hz19 := Zr_nx hz18
  have hz20 := Zr_zw (c := 153) (k := 12) hz19 (by omega)
  have hz21 := Zr_nx hz20
  have hz22 := Zr_zw (c := 153) (k := 18) hz21 (by omega)
  have hz23 := Zr_nx hz22
  have hz24 := Zr_zw (c := 153) (k := 21) hz23 (by omega)
  exact hz24
theorem pX9_up {q i : Nat} {φ : zPhi} (h : φ.2 q i = true) : (pX9 φ).2 q i = true := (zw_up (znx_up (zw_up (znx_up (zw_up (znx_up (zw_up (znx_up (zw_up (znx_up (zw_up (znx_up (zw_up (znx_up (zw_up (znx_up (zw_up (znx_up (zw_up (znx_up (zw_up (znx_up (zw_up (znx_up h))))))))))))))))))))))))
set_option maxRecDepth 20000 in
theorem lX9 {g : zGG} {Q : Int → zMem → Prop} {d0 : zMem} {φ φ0 : zPhi} (hz : Zr φ 166) (w0 : φ.2 153 0 = true) (hQ : ∀ d', but d0 d' 154 → (∀ k, d' 154 k = if 5 ≤ k ∧ k < 25 then 120 + (k - 5) else d0 154 k) → Q 0 d') :
    ∀ (n : Nat) (x : Int) (d : zMem), 20 - x = n → 0 ≤ x → but d0 d 154 → (∀ k, d 154 k = if 5 ≤ k ∧ k < 5 + x then 120 + (k - 5) else d0 154 k) → Fr g (eM g M_X9_init φ0 φ Q) M_X9_init φ 152 [some (zR 153), some (zI x)] [] d := by
  intro n
  induction n with
  | zero =>
    intro x d hn hx hd hv
    have e : x = 20 := by omega
    subst e
    refine z_iload_n (i := 1) dX9_init_152 rfl rfl ?_
    refine z_bipush dX9_init_153 (by decide +kernel) ?_
    refine zb_icmp_ge (tgt := 176) dX9_init_155 (by decide) ⟨by decide, by decide⟩ ⟨fun _ => ?_, fun q => absurd q (by decide)⟩
    exact zret_v rfl dX9_init_176 (hQ d hd hv)
  | succ n ih =>
    intro x d hn hx hd hv
    refine z_iload_n (i := 1) dX9_init_152 rfl rfl ?_
    refine z_bipush dX9_init_153 (by decide +kernel) ?_
    refine zb_icmp_ge (tgt := 176) dX9_init_155 (by decide) ⟨⟨by omega, by omega⟩, by decide⟩ ⟨fun q => by omega, fun _ => ?_⟩
    refine z_aloadR_n (i := 0) dX9_init_158 rfl rfl ?_
    refine z_getR 9 0 (idx := 7) (b := 154) ly_153 (by decide) (by decide) rfl (by rw [hz.1]; omega) w0 (by decide +kernel) wf_X9_7 dX9_init_159 ?_
    refine z_iconst dX9_init_162 ?_
    refine z_iload_n (i := 1) dX9_init_163 rfl rfl ?_
    refine z_iadd dX9_init_164 ?_
    refine z_bipush dX9_init_165 (by decide +kernel) ?_
    refine z_iload_n (i := 1) dX9_init_167 rfl rfl ?_
    refine z_iadd dX9_init_168 ?_
    refine z_iastore ly_154 (by rw [hz.1]; omega) (by decide) dX9_init_169 ⟨by omega, by omega⟩ ?_
    refine z_iinc (i := 1) (ls2 := [some (zR 153), some (zI (x + 1))]) dX9_init_170 (by decide) rfl rfl ?_
    refine z_goto (tgt := 152) dX9_init_173 (by decide) ?_
    refine ih (x + 1) _ (by omega) (by omega) (but_mu hd) (fun k => ?_)
    rw [mu_app, if_pos rfl]
    by_cases c : k = 5 + x
    · rw [if_pos c, if_pos (by omega)]; omega
    · rw [if_neg c, hv k]
      by_cases c2 : 5 ≤ k ∧ k < 5 + x
      · rw [if_pos c2, if_pos (by omega)]
      · rw [if_neg c2, if_neg (by omega)]
set_option maxRecDepth 20000 in
theorem kX9 {g : zGG} {Q : Int → zMem → Prop} {d : zMem} {φ : zPhi} (hz0 : Zr φ 154) (hQ : ∀ d', (∀ q, q < 154 → d' q = d q) → (∀ k, 0 ≤ k → k < 1407 → d' 154 k = row0 k) → (∀ z, d' 158 z = 0) → Q 0 d') : Ev g M_X9_init φ (pX9 φ) [zR 153] d Q := by
  have hN : (pX9 φ).1 = 166 := (Zr_X9 hz0).1
  refine Ev_of (by decide +kernel) (Nat.le_of_ble_eq_true rfl) (show Fr g (eM g M_X9_init φ (pX9 φ) Q) M_X9_init φ 0 [some (zR 153), none] [] d from ?_)
  refine z_aloadR_n (i := 0) dX9_init_0 rfl rfl ?_
  refine z_objInit dX9_init_1 wm_X9_1 wOi wOc ⟨Nat.le_of_ble_eq_true rfl, Nat.le_of_ble_eq_true rfl⟩ ?_
  refine z_aloadR_n (i := 0) dX9_init_4 rfl rfl ?_
  refine z_sipush dX9_init_5 (by decide +kernel) ?_
  refine z_newI' (n := 154) (m := 1407) rfl rfl hz0 ly_154 (by decide) dX9_init_8 wIa (zrm_eM (by rw [hN]; omega)) ?_
  generalize hm1 : mrow d 154 (fun _ => 0) = d1
  have hz1 := Zr_nx hz0
  refine z_putR 9 0 (idx := 7) (b := 154) ly_153 (by decide) (by decide) rfl (by rw [hz1.1]; omega) rfl rfl rfl (by decide +kernel) wf_X9_7 dX9_init_10 ?_
  have hz2 := Zr_zw (c := 153) (k := 0) hz1 (by omega)
  refine z_aloadR_n (i := 0) dX9_init_13 rfl rfl ?_
  refine z_sipush dX9_init_14 (by decide +kernel) ?_
  refine z_newI' (n := 155) (m := 1407) rfl rfl hz2 ly_155 (by decide) dX9_init_17 wIa (zrm_eM (by rw [hN]; omega)) ?_
  generalize hm2 : mrow d1 155 (fun _ => 0) = d2
  have hz3 := Zr_nx hz2
  refine z_putR 9 1 (idx := 13) (b := 155) ly_153 (by decide) (by decide) rfl (by rw [hz3.1]; omega) rfl rfl rfl (by decide +kernel) wf_X9_13 dX9_init_19 ?_
  have hz4 := Zr_zw (c := 153) (k := 1) hz3 (by omega)
  refine z_aloadR_n (i := 0) dX9_init_22 rfl rfl ?_
  refine z_sipush dX9_init_23 (by decide +kernel) ?_
  refine z_newI' (n := 156) (m := 8442) rfl rfl hz4 ly_156 (by decide) dX9_init_26 wIa (zrm_eM (by rw [hN]; omega)) ?_
  generalize hm3 : mrow d2 156 (fun _ => 0) = d3
  have hz5 := Zr_nx hz4
  refine z_putR 9 2 (idx := 16) (b := 156) ly_153 (by decide) (by decide) rfl (by rw [hz5.1]; omega) rfl rfl rfl (by decide +kernel) wf_X9_16 dX9_init_28 ?_
  have hz6 := Zr_zw (c := 153) (k := 2) hz5 (by omega)
  refine z_aloadR_n (i := 0) dX9_init_31 rfl rfl ?_
  refine z_sipush dX9_init_32 (by decide +kernel) ?_
  refine z_newI' (n := 157) (m := 2814) rfl rfl hz6 ly_157 (by decide) dX9_init_35 wIa (zrm_eM (by rw [hN]; omega)) ?_
  generalize hm4 : mrow d3 157 (fun _ => 0) = d4
  have hz7 := Zr_nx hz6
  refine z_putR 9 4 (idx := 19) (b := 157) ly_153 (by decide) (by decide) rfl (by rw [hz7.1]; omega) rfl rfl rfl (by decide +kernel) wf_X9_19 dX9_init_37 ?_
  have hz8 := Zr_zw (c := 153) (k := 4) hz7 (by omega)
  refine z_aloadR_n (i := 0) dX9_init_40 rfl rfl ?_
  refine z_iconst dX9_init_41 ?_
  refine z_newZ' (n := 158) (m := 2) rfl rfl hz8 ly_158 (by decide) dX9_init_42 wZa (zrm_eM (by rw [hN]; omega)) ?_
  generalize hm5 : mrow d4 158 (fun _ => 0) = d5
  have hz9 := Zr_nx hz8
  refine z_putR 9 5 (idx := 22) (b := 158) ly_153 (by decide) (by decide) rfl (by rw [hz9.1]; omega) rfl rfl rfl (by decide +kernel) wf_X9_22 dX9_init_44 ?_
  have hz10 := Zr_zw (c := 153) (k := 5) hz9 (by omega)
  refine z_aloadR_n (i := 0) dX9_init_47 rfl rfl ?_
  refine z_bipush dX9_init_48 (by decide +kernel) ?_
  refine z_newI' (n := 159) (m := 64) rfl rfl hz10 ly_159 (by decide) dX9_init_50 wIa (zrm_eM (by rw [hN]; omega)) ?_
  generalize hm6 : mrow d5 159 (fun _ => 0) = d6
  have hz11 := Zr_nx hz10
  refine z_putR 9 6 (idx := 26) (b := 159) ly_153 (by decide) (by decide) rfl (by rw [hz11.1]; omega) rfl rfl rfl (by decide +kernel) wf_X9_26 dX9_init_52 ?_
  have hz12 := Zr_zw (c := 153) (k := 6) hz11 (by omega)
  refine z_aloadR_n (i := 0) dX9_init_55 rfl rfl ?_
  refine z_sipush dX9_init_56 (by decide +kernel) ?_
  refine z_newI' (n := 160) (m := 150) rfl rfl hz12 ly_160 (by decide) dX9_init_59 wIa (zrm_eM (by rw [hN]; omega)) ?_
  generalize hm7 : mrow d6 160 (fun _ => 0) = d7
  have hz13 := Zr_nx hz12
  refine z_putR 9 8 (idx := 29) (b := 160) ly_153 (by decide) (by decide) rfl (by rw [hz13.1]; omega) rfl rfl rfl (by decide +kernel) wf_X9_29 dX9_init_61 ?_
  have hz14 := Zr_zw (c := 153) (k := 8) hz13 (by omega)
  refine z_aloadR_n (i := 0) dX9_init_64 rfl rfl ?_
  refine z_sipush dX9_init_65 (by decide +kernel) ?_
  refine z_newI' (n := 161) (m := 150) rfl rfl hz14 ly_161 (by decide) dX9_init_68 wIa (zrm_eM (by rw [hN]; omega)) ?_
  generalize hm8 : mrow d7 161 (fun _ => 0) = d8
  have hz15 := Zr_nx hz14
  refine z_putR 9 9 (idx := 32) (b := 161) ly_153 (by decide) (by decide) rfl (by rw [hz15.1]; omega) rfl rfl rfl (by decide +kernel) wf_X9_32 dX9_init_70 ?_
  have hz16 := Zr_zw (c := 153) (k := 9) hz15 (by omega)
  refine z_aloadR_n (i := 0) dX9_init_73 rfl rfl ?_
  refine z_sipush dX9_init_74 (by decide +kernel) ?_
  refine z_newZ' (n := 162) (m := 240) rfl rfl hz16 ly_162 (by decide) dX9_init_77 wZa (zrm_eM (by rw [hN]; omega)) ?_
  generalize hm9 : mrow d8 162 (fun _ => 0) = d9
  have hz17 := Zr_nx hz16
  refine z_putR 9 10 (idx := 35) (b := 162) ly_153 (by decide) (by decide) rfl (by rw [hz17.1]; omega) rfl rfl rfl (by decide +kernel) wf_X9_35 dX9_init_79 ?_
  have hz18 := Zr_zw (c := 153) (k := 10) hz17 (by omega)
  refine z_aloadR_n (i := 0) dX9_init_82 rfl rfl ?_
  refine z_sipush dX9_init_83 (by decide +kernel) ?_
  refine z_newI' (n := 163) (m := 150) rfl rfl hz18 ly_163 (by decide) dX9_init_86 wIa (zrm_eM (by rw [hN]; omega)) ?_
  generalize hm10 : mrow d9 163 (fun _ => 0) = d10
  have hz19 := Zr_nx hz18
  refine z_putR 9 12 (idx := 38) (b := 163) ly_153 (by decide) (by decide) rfl (by rw [hz19.1]; omega) rfl rfl rfl (by decide +kernel) wf_X9_38 dX9_init_88 ?_
  have hz20 := Zr_zw (c := 153) (k := 12) hz19 (by omega)
  refine z_aloadR_n (i := 0) dX9_init_91 rfl rfl ?_
  refine z_sipush dX9_init_92 (by decide +kernel) ?_
  refine z_newZ' (n := 164) (m := 480) rfl rfl hz20 ly_164 (by decide) dX9_init_95 wZa (zrm_eM (by rw [hN]; omega)) ?_
  generalize hm11 : mrow d10 164 (fun _ => 0) = d11
  have hz21 := Zr_nx hz20
  refine z_putR 9 18 (idx := 41) (b := 164) ly_153 (by decide) (by decide) rfl (by rw [hz21.1]; omega) rfl rfl rfl (by decide +kernel) wf_X9_41 dX9_init_97 ?_
  have hz22 := Zr_zw (c := 153) (k := 18) hz21 (by omega)
  refine z_aloadR_n (i := 0) dX9_init_100 rfl rfl ?_
  refine z_sipush dX9_init_101 (by decide +kernel) ?_
  refine z_newI' (n := 165) (m := 150) rfl rfl hz22 ly_165 (by decide) dX9_init_104 wIa (zrm_eM (by rw [hN]; omega)) ?_
  generalize hm12 : mrow d11 165 (fun _ => 0) = d12
  have hz23 := Zr_nx hz22
  refine z_putR 9 21 (idx := 44) (b := 165) ly_153 (by decide) (by decide) rfl (by rw [hz23.1]; omega) rfl rfl rfl (by decide +kernel) wf_X9_44 dX9_init_106 ?_
  have hz24 := Zr_zw (c := 153) (k := 21) hz23 (by omega)
  refine z_aloadR_n (i := 0) dX9_init_109 rfl rfl ?_
  refine z_getR 9 0 (idx := 7) (b := 154) ly_153 (by decide) (by decide) rfl (by rw [hz24.1]; omega) (zw_up (znx_up (zw_up (znx_up (zw_up (znx_up (zw_up (znx_up (zw_up (znx_up (zw_up (znx_up (zw_up (znx_up (zw_up (znx_up (zw_up (znx_up (zw_up (znx_up (zw_up (znx_up zw_at)))))))))))))))))))))) (by decide +kernel) wf_X9_7 dX9_init_110 ?_
  refine z_iconst dX9_init_113 ?_
  refine z_iconst dX9_init_114 ?_
  refine z_iastore ly_154 (by rw [hz24.1]; omega) (by decide) dX9_init_115 (by decide) ?_
  generalize hm13 : mu d12 154 (0) (2) = d13
  refine z_aloadR_n (i := 0) dX9_init_116 rfl rfl ?_
  refine z_getR 9 0 (idx := 7) (b := 154) ly_153 (by decide) (by decide) rfl (by rw [hz24.1]; omega) (zw_up (znx_up (zw_up (znx_up (zw_up (znx_up (zw_up (znx_up (zw_up (znx_up (zw_up (znx_up (zw_up (znx_up (zw_up (znx_up (zw_up (znx_up (zw_up (znx_up (zw_up (znx_up zw_at)))))))))))))))))))))) (by decide +kernel) wf_X9_7 dX9_init_117 ?_
  refine z_iconst dX9_init_120 ?_
  refine z_bipush dX9_init_121 (by decide +kernel) ?_
  refine z_iastore ly_154 (by rw [hz24.1]; omega) (by decide) dX9_init_123 (by decide) ?_
  generalize hm14 : mu d13 154 (1) (6) = d14
  refine z_aloadR_n (i := 0) dX9_init_124 rfl rfl ?_
  refine z_getR 9 0 (idx := 7) (b := 154) ly_153 (by decide) (by decide) rfl (by rw [hz24.1]; omega) (zw_up (znx_up (zw_up (znx_up (zw_up (znx_up (zw_up (znx_up (zw_up (znx_up (zw_up (znx_up (zw_up (znx_up (zw_up (znx_up (zw_up (znx_up (zw_up (znx_up (zw_up (znx_up zw_at)))))))))))))))))))))) (by decide +kernel) wf_X9_7 dX9_init_125 ?_
  refine z_iconst dX9_init_128 ?_
  refine z_iconst dX9_init_129 ?_
  refine z_iastore ly_154 (by rw [hz24.1]; omega) (by decide) dX9_init_130 (by decide) ?_
  generalize hm15 : mu d14 154 (2) (3) = d15
  refine z_aloadR_n (i := 0) dX9_init_131 rfl rfl ?_
  refine z_getR 9 0 (idx := 7) (b := 154) ly_153 (by decide) (by decide) rfl (by rw [hz24.1]; omega) (zw_up (znx_up (zw_up (znx_up (zw_up (znx_up (zw_up (znx_up (zw_up (znx_up (zw_up (znx_up (zw_up (znx_up (zw_up (znx_up (zw_up (znx_up (zw_up (znx_up (zw_up (znx_up zw_at)))))))))))))))))))))) (by decide +kernel) wf_X9_7 dX9_init_132 ?_
  refine z_iconst dX9_init_135 ?_
  refine z_iconst dX9_init_136 ?_
  refine z_iastore ly_154 (by rw [hz24.1]; omega) (by decide) dX9_init_137 (by decide) ?_
  generalize hm16 : mu d15 154 (3) (5) = d16
  refine z_aloadR_n (i := 0) dX9_init_138 rfl rfl ?_
  refine z_callVv (k' := M_X9_begin) (φ' := (zw (znx (zw (znx (zw (znx (zw (znx (zw (znx (zw (znx (zw (znx (zw (znx (zw (znx (zw (znx (zw (znx (zw (znx φ) 153 0)) 153 1)) 153 2)) 153 4)) 153 5)) 153 6)) 153 8)) 153 9)) 153 10)) 153 12)) 153 18)) 153 21)) (As := []) (st := []) dX9_init_139 rfl ly_153 (by decide) rfl (by rw [hz24.1]; omega) wm_X9_47 ok_X9_begin okV_X9_begin rfl (zroom_eM (by decide) (by decide) (by rw [hN, hz24.1]; omega)) (Nat.le_of_ble_eq_true rfl) (Nat.le_refl _) rfl ?_
  refine r_begin (φ := (zw (znx (zw (znx (zw (znx (zw (znx (zw (znx (zw (znx (zw (znx (zw (znx (zw (znx (zw (znx (zw (znx (zw (znx φ) 153 0)) 153 1)) 153 2)) 153 4)) 153 5)) 153 6)) 153 8)) 153 9)) 153 10)) 153 12)) 153 18)) 153 21)) (by rw [hz24.1]; omega) (zw_up (znx_up (zw_up (znx_up (zw_up (znx_up (zw_up (znx_up (zw_up (znx_up (zw_up (znx_up (zw_up (znx_up (zw_up (znx_up (zw_up (znx_up (zw_up (znx_up (zw_up (znx_up zw_at)))))))))))))))))))))) ?_
  intro db bb vb
  refine z_aloadR_n (i := 0) dX9_init_142 rfl rfl ?_
  refine z_getR 9 0 (idx := 7) (b := 154) ly_153 (by decide) (by decide) rfl (by rw [hz24.1]; omega) (zw_up (znx_up (zw_up (znx_up (zw_up (znx_up (zw_up (znx_up (zw_up (znx_up (zw_up (znx_up (zw_up (znx_up (zw_up (znx_up (zw_up (znx_up (zw_up (znx_up (zw_up (znx_up zw_at)))))))))))))))))))))) (by decide +kernel) wf_X9_7 dX9_init_143 ?_
  refine z_iconst dX9_init_146 ?_
  refine z_bipush dX9_init_147 (by decide +kernel) ?_
  refine z_iastore ly_154 (by rw [hz24.1]; omega) (by decide) dX9_init_149 (by decide) ?_
  generalize hm17 : mu db 154 (4) (20) = d17
  refine z_iconst dX9_init_150 ?_
  refine z_istore_n (i := 1) (ls2 := [some (zR 153), some (zI 0)]) dX9_init_151 rfl (by decide) rfl ?_
  refine lX9 (d0 := d17) (φ := (zw (znx (zw (znx (zw (znx (zw (znx (zw (znx (zw (znx (zw (znx (zw (znx (zw (znx (zw (znx (zw (znx (zw (znx φ) 153 0)) 153 1)) 153 2)) 153 4)) 153 5)) 153 6)) 153 8)) 153 9)) 153 10)) 153 12)) 153 18)) 153 21)) hz24 (zw_up (znx_up (zw_up (znx_up (zw_up (znx_up (zw_up (znx_up (zw_up (znx_up (zw_up (znx_up (zw_up (znx_up (zw_up (znx_up (zw_up (znx_up (zw_up (znx_up (zw_up (znx_up zw_at)))))))))))))))))))))) (fun dd be ve => ?_) 20 0 d17 (by omega) (by omega) but_rfl (fun k => by rw [if_neg (by omega)])
  have e164 : ∀ k, d16 154 k = if k = 3 then 5 else if k = 2 then 3 else if k = 1 then 6 else if k = 0 then 2 else 0 := fun k => by
    rw [← hm16, mu_app, if_pos rfl, ← hm15, mu_app, if_pos rfl, ← hm14, mu_app, if_pos rfl, ← hm13, mu_app, if_pos rfl, ← hm12, mrw_ne (by omega), ← hm11, mrw_ne (by omega), ← hm10, mrw_ne (by omega), ← hm9, mrw_ne (by omega), ← hm8, mrw_ne (by omega), ← hm7, mrw_ne (by omega), ← hm6, mrw_ne (by omega), ← hm5, mrw_ne (by omega), ← hm4, mrw_ne (by omega), ← hm3, mrw_ne (by omega), ← hm2, mrw_ne (by omega), ← hm1, mrow_app, if_pos rfl]
  refine hQ dd (fun q hq => by rw [be q (by omega), ← hm17, mu_ne (by omega), bb q (by omega), ← hm16, mu_ne (by omega), ← hm15, mu_ne (by omega), ← hm14, mu_ne (by omega), ← hm13, mu_ne (by omega), ← hm12, mrw_ne (by omega), ← hm11, mrw_ne (by omega), ← hm10, mrw_ne (by omega), ← hm9, mrw_ne (by omega), ← hm8, mrw_ne (by omega), ← hm7, mrw_ne (by omega), ← hm6, mrw_ne (by omega), ← hm5, mrw_ne (by omega), ← hm4, mrw_ne (by omega), ← hm3, mrw_ne (by omega), ← hm2, mrw_ne (by omega), ← hm1, mrw_ne (by omega)]) (fun k q0 q1 => ?_) (fun z => ?_)
  · rw [ve k, ← hm17, mu_app, if_pos rfl, vb k, e164 k]
    exact row0_at q0 q1
  · rw [be 158 (by omega), ← hm17, mu_ne (by omega), bb 158 (by omega), ← hm16, mu_ne (by omega), ← hm15, mu_ne (by omega), ← hm14, mu_ne (by omega), ← hm13, mu_ne (by omega), ← hm12, mrw_ne (by omega), ← hm11, mrw_ne (by omega), ← hm10, mrw_ne (by omega), ← hm9, mrw_ne (by omega), ← hm8, mrw_ne (by omega), ← hm7, mrw_ne (by omega), ← hm6, mrw_ne (by omega), ← hm5, mrow_app, if_pos rfl]
