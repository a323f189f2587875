set_option maxRecDepth 20000 in
theorem v_X2_length_0 {g : zGG} {Q : Int → zMem → Prop} {d : zMem}   (h : Q (d 31 2) d) : Fr g (eM g M_X2_length FUL FUL Q) M_X2_length FUL 0 [some (zR 31)] [] d := by
  refine z_aloadR_n (i := 0) dX2_length_0 rfl rfl ?_
  refine z_getI' 2 2 (idx := 18) (fv := (d 31 2)) ly31 (by decide) (by decide) rfl (show 31 < 166 by decide) wf_X2_18 dX2_length_1 rfl ?_
  exact zret_i rfl dX2_length_4 h
theorem e_X2_length {g : zGG} {Q : Int → zMem → Prop} {d : zMem}  (h : Q (d 31 2) d) : Ev g M_X2_length FUL FUL [zR 31] d Q :=
  Ev_of (by decide +kernel) (Nat.le_of_ble_eq_true rfl) (v_X2_length_0  h)
set_option maxRecDepth 20000 in
theorem v_X2_remember_0 {g : zGG} {Q : Int → zMem → Prop} {d : zMem} {a : Nat} (ha : isRiv a)  (h : (0 ≤ ((d 31 1) + (d 31 2)) ∧ inR ((d 31 1) + (d 31 2))) ∧ ((inR (d 31 2)) ∧ ((d 31 2) ≠ 6 → ∀ d1, d1 = mu d 31 2 ((d 31 2) + 1) → ((inR (((d 31 1) + (d 31 2)) % 6)) ∧ ((((d 31 1) + (d 31 2)) % 6) < 0 → Q 0 d1) ∧ (0 ≤ (((d 31 1) + (d 31 2)) % 6) → ((inR (((d 31 1) + (d 31 2)) % 6)) ∧ (6 ≤ (((d 31 1) + (d 31 2)) % 6) → Q 0 d1) ∧ ((((d 31 1) + (d 31 2)) % 6) < 6 → (0 ≤ (((d 31 1) + (d 31 2)) % 6) ∧ (((d 31 1) + (d 31 2)) % 6) < 6) ∧ (0 ≤ (((d 31 1) + (d 31 2)) % 6) ∧ (((d 31 1) + (d 31 2)) % 6) < 6) ∧ Ev g M_X7_copyFrom FUL FUL [zR (RT 32 ((((d 31 1) + (d 31 2)) % 6)).toNat), zR a] d1 (fun _ d2 => Q 0 d2)))))) ∧ ((d 31 2) = 6 → (0 ≤ ((d 31 1) + 1) ∧ inR ((d 31 1) + 1)) ∧ ∀ d3, d3 = mu d 31 1 (((d 31 1) + 1) % 6) → ((inR (((d 31 1) + (d 31 2)) % 6)) ∧ ((((d 31 1) + (d 31 2)) % 6) < 0 → Q 0 d3) ∧ (0 ≤ (((d 31 1) + (d 31 2)) % 6) → ((inR (((d 31 1) + (d 31 2)) % 6)) ∧ (6 ≤ (((d 31 1) + (d 31 2)) % 6) → Q 0 d3) ∧ ((((d 31 1) + (d 31 2)) % 6) < 6 → (0 ≤ (((d 31 1) + (d 31 2)) % 6) ∧ (((d 31 1) + (d 31 2)) % 6) < 6) ∧ (0 ≤ (((d 31 1) + (d 31 2)) % 6) ∧ (((d 31 1) + (d 31 2)) % 6) < 6) ∧ Ev g M_X7_copyFrom FUL FUL [zR (RT 32 ((((d 31 1) + (d 31 2)) % 6)).toNat), zR a] d3 (fun _ d4 => Q 0 d4)))))))) : Fr g (eM g M_X2_remember FUL FUL Q) M_X2_remember FUL 0 [some (zR 31), some (zR a), none] [] d := by
  refine z_aloadR_n (i := 0) dX2_remember_0 rfl rfl ?_
  refine z_getI' 2 1 (idx := 22) (fv := (d 31 1)) ly31 (by decide) (by decide) rfl (show 31 < 166 by decide) wf_X2_22 dX2_remember_1 rfl ?_
  refine z_aloadR_n (i := 0) dX2_remember_4 rfl rfl ?_
  refine z_getI' 2 2 (idx := 18) (fv := (d 31 2)) ly31 (by decide) (by decide) rfl (show 31 < 166 by decide) wf_X2_18 dX2_remember_5 rfl ?_
  refine z_iadd dX2_remember_8 ?_
  refine z_bipush dX2_remember_9 (by decide +kernel) ?_
  refine z_irem dX2_remember_11 ⟨h.1.1, h.1.2, by decide, by decide⟩ ?_
  replace h := h.2
  refine z_istore_n (i := 2) (ls2 := [some (zR 31), some (zR a), some (zI (((d 31 1) + (d 31 2)) % 6))]) dX2_remember_12 rfl (by decide) rfl ?_
  refine z_aloadR_n (i := 0) dX2_remember_13 rfl rfl ?_
  refine z_getI' 2 2 (idx := 18) (fv := (d 31 2)) ly31 (by decide) (by decide) rfl (show 31 < 166 by decide) wf_X2_18 dX2_remember_14 rfl ?_
  refine z_bipush dX2_remember_17 (by decide +kernel) ?_
  refine zb_icmp_ne (tgt := 38) dX2_remember_19 (by decide) ⟨h.1, by decide⟩ ⟨fun c => ?_, fun c => ?_⟩
  · replace h := h.2.1 c
    refine z_aloadR_n (i := 0) dX2_remember_38 rfl rfl ?_
    refine z_dup dX2_remember_39 (Nat.le_of_ble_eq_true rfl) ?_
    refine z_getI' 2 2 (idx := 18) (fv := (d 31 2)) ly31 (by decide) (by decide) rfl (show 31 < 166 by decide) wf_X2_18 dX2_remember_40 rfl ?_
    refine z_iconst dX2_remember_43 ?_
    refine z_iadd dX2_remember_44 ?_
    refine z_putI 2 2 (idx := 18) ly31 (by decide) (by decide) rfl (show 31 < 166 by decide) rfl wf_X2_18 dX2_remember_45 (Or.inl rfl) ?_
    generalize hd1 : mu d 31 ((2 : Nat) : Int) ((d 31 2) + 1) = d1
    replace hd1 : d1 = mu d 31 2 ((d 31 2) + 1) := hd1.symm
    replace h := h d1 hd1
    refine z_iload_n (i := 2) dX2_remember_48 rfl rfl ?_
    refine zb_if_lt (tgt := 80) dX2_remember_49 (by decide) h.1 ⟨fun c => ?_, fun c => ?_⟩
    · replace h := h.2.1 c
      exact zret_v rfl dX2_remember_80 h
    · replace h := h.2.2 c
      refine z_iload_n (i := 2) dX2_remember_52 rfl rfl ?_
      refine z_aloadR_n (i := 0) dX2_remember_53 rfl rfl ?_
      refine z_getR 2 0 (idx := 11) ly31 (by decide) (by decide) rfl (show 31 < 166 by decide) rfl rt_31_0 wf_X2_11 dX2_remember_54 ?_
      refine z_alen' (v := 6) ly32 (by decide) (show 32 < 166 by decide) rfl dX2_remember_57 ?_
      refine zb_icmp_ge (tgt := 80) dX2_remember_58 (by decide) ⟨h.1, by decide⟩ ⟨fun c => ?_, fun c => ?_⟩
      · replace h := h.2.1 c
        exact zret_v rfl dX2_remember_80 h
      · replace h := h.2.2 c
        refine z_aloadR_n (i := 0) dX2_remember_61 rfl rfl ?_
        refine z_getR 2 0 (idx := 11) ly31 (by decide) (by decide) rfl (show 31 < 166 by decide) rfl rt_31_0 wf_X2_11 dX2_remember_62 ?_
        refine z_iload_n (i := 2) dX2_remember_65 rfl rfl ?_
        have hix := h.1
        refine z_aaload ly32 (show 32 < 166 by decide) (by decide) dX2_remember_66 h.1 rfl ?_
        replace h := h.2
        refine z_ifnull dX2_remember_67 ?_
        refine z_aloadR_n (i := 0) dX2_remember_70 rfl rfl ?_
        refine z_getR 2 0 (idx := 11) ly31 (by decide) (by decide) rfl (show 31 < 166 by decide) rfl rt_31_0 wf_X2_11 dX2_remember_71 ?_
        refine z_iload_n (i := 2) dX2_remember_74 rfl rfl ?_
        have hix := h.1
        refine z_aaload ly32 (show 32 < 166 by decide) (by decide) dX2_remember_75 h.1 rfl ?_
        replace h := h.2
        refine z_aloadR_n (i := 1) dX2_remember_76 rfl rfl ?_
        refine z_callVv (k' := M_X7_copyFrom) (As := [zR a]) (st := []) dX2_remember_77 rfl (rl0 (rivH hix)) (by decide) rfl (rlt0 (rivH hix)) wm_X2_25 ok_X7_copyFrom okV_X7_copyFrom rfl (zroom_self (by decide) (by decide)) (Nat.le_of_ble_eq_true rfl) (Nat.le_refl _) rfl (Ev_mono h (fun _ d2 h => ?_))
        exact zret_v rfl dX2_remember_80 h
  · replace h := h.2.2 c
    refine z_aloadR_n (i := 0) dX2_remember_22 rfl rfl ?_
    refine z_aloadR_n (i := 0) dX2_remember_23 rfl rfl ?_
    refine z_getI' 2 1 (idx := 22) (fv := (d 31 1)) ly31 (by decide) (by decide) rfl (show 31 < 166 by decide) wf_X2_22 dX2_remember_24 rfl ?_
    refine z_iconst dX2_remember_27 ?_
    refine z_iadd dX2_remember_28 ?_
    refine z_bipush dX2_remember_29 (by decide +kernel) ?_
    refine z_irem dX2_remember_31 ⟨h.1.1, h.1.2, by decide, by decide⟩ ?_
    replace h := h.2
    refine z_putI 2 1 (idx := 22) ly31 (by decide) (by decide) rfl (show 31 < 166 by decide) rfl wf_X2_22 dX2_remember_32 (Or.inl rfl) ?_
    generalize hd3 : mu d 31 ((1 : Nat) : Int) (((d 31 1) + 1) % 6) = d3
    replace hd3 : d3 = mu d 31 1 (((d 31 1) + 1) % 6) := hd3.symm
    replace h := h d3 hd3
    refine z_goto (tgt := 48) dX2_remember_35 (by decide) ?_
    refine z_iload_n (i := 2) dX2_remember_48 rfl rfl ?_
    refine zb_if_lt (tgt := 80) dX2_remember_49 (by decide) h.1 ⟨fun c => ?_, fun c => ?_⟩
    · replace h := h.2.1 c
      exact zret_v rfl dX2_remember_80 h
    · replace h := h.2.2 c
      refine z_iload_n (i := 2) dX2_remember_52 rfl rfl ?_
      refine z_aloadR_n (i := 0) dX2_remember_53 rfl rfl ?_
      refine z_getR 2 0 (idx := 11) ly31 (by decide) (by decide) rfl (show 31 < 166 by decide) rfl rt_31_0 wf_X2_11 dX2_remember_54 ?_
      refine z_alen' (v := 6) ly32 (by decide) (show 32 < 166 by decide) rfl dX2_remember_57 ?_
      refine zb_icmp_ge (tgt := 80) dX2_remember_58 (by decide) ⟨h.1, by decide⟩ ⟨fun c => ?_, fun c => ?_⟩
      · replace h := h.2.1 c
        exact zret_v rfl dX2_remember_80 h
      · replace h := h.2.2 c
        refine z_aloadR_n (i := 0) dX2_remember_61 rfl rfl ?_
        refine z_getR 2 0 (idx := 11) ly31 (by decide) (by decide) rfl (show 31 < 166 by decide) rfl rt_31_0 wf_X2_11 dX2_remember_62 ?_
        refine z_iload_n (i := 2) dX2_remember_65 rfl rfl ?_
        have hix := h.1
        refine z_aaload ly32 (show 32 < 166 by decide) (by decide) dX2_remember_66 h.1 rfl ?_
        replace h := h.2
        refine z_ifnull dX2_remember_67 ?_
        refine z_aloadR_n (i := 0) dX2_remember_70 rfl rfl ?_
        refine z_getR 2 0 (idx := 11) ly31 (by decide) (by decide) rfl (show 31 < 166 by decide) rfl rt_31_0 wf_X2_11 dX2_remember_71 ?_
        refine z_iload_n (i := 2) dX2_remember_74 rfl rfl ?_
        have hix := h.1
        refine z_aaload ly32 (show 32 < 166 by decide) (by decide) dX2_remember_75 h.1 rfl ?_
        replace h := h.2
        refine z_aloadR_n (i := 1) dX2_remember_76 rfl rfl ?_
        refine z_callVv (k' := M_X7_copyFrom) (As := [zR a]) (st := []) dX2_remember_77 rfl (rl0 (rivH hix)) (by decide) rfl (rlt0 (rivH hix)) wm_X2_25 ok_X7_copyFrom okV_X7_copyFrom rfl (zroom_self (by decide) (by decide)) (Nat.le_of_ble_eq_true rfl) (Nat.le_refl _) rfl (Ev_mono h (fun _ d4 h => ?_))
        exact zret_v rfl dX2_remember_80 h
theorem e_X2_remember {g : zGG} {Q : Int → zMem → Prop} {d : zMem} {a : Nat} (ha : isRiv a) (h : (0 ≤ ((d 31 1) + (d 31 2)) ∧ inR ((d 31 1) + (d 31 2))) ∧ ((inR (d 31 2)) ∧ ((d 31 2) ≠ 6 → ∀ d1, d1 = mu d 31 2 ((d 31 2) + 1) → ((inR (((d 31 1) + (d 31 2)) % 6)) ∧ ((((d 31 1) + (d 31 2)) % 6) < 0 → Q 0 d1) ∧ (0 ≤ (((d 31 1) + (d 31 2)) % 6) → ((inR (((d 31 1) + (d 31 2)) % 6)) ∧ (6 ≤ (((d 31 1) + (d 31 2)) % 6) → Q 0 d1) ∧ ((((d 31 1) + (d 31 2)) % 6) < 6 → (0 ≤ (((d 31 1) + (d 31 2)) % 6) ∧ (((d 31 1) + (d 31 2)) % 6) < 6) ∧ (0 ≤ (((d 31 1) + (d 31 2)) % 6) ∧ (((d 31 1) + (d 31 2)) % 6) < 6) ∧ Ev g M_X7_copyFrom FUL FUL [zR (RT 32 ((((d 31 1) + (d 31 2)) % 6)).toNat), zR a] d1 (fun _ d2 => Q 0 d2)))))) ∧ ((d 31 2) = 6 → (0 ≤ ((d 31 1) + 1) ∧ inR ((d 31 1) + 1)) ∧ ∀ d3, d3 = mu d 31 1 (((d 31 1) + 1) % 6) → ((inR (((d 31 1) + (d 31 2)) % 6)) ∧ ((((d 31 1) + (d 31 2)) % 6) < 0 → Q 0 d3) ∧ (0 ≤ (((d 31 1) + (d 31 2)) % 6) → ((inR (((d 31 1) + (d 31 2)) % 6)) ∧ (6 ≤ (((d 31 1) + (d 31 2)) % 6) → Q 0 d3) ∧ ((((d 31 1) + (d 31 2)) % 6) < 6 → (0 ≤ (((d 31 1) + (d 31 2)) % 6) ∧ (((d 31 1) + (d 31 2)) % 6) < 6) ∧ (0 ≤ (((d 31 1) + (d 31 2)) % 6) ∧ (((d 31 1) + (d 31 2)) % 6) < 6) ∧ Ev g M_X7_copyFrom FUL FUL [zR (RT 32 ((((d 31 1) + (d 31 2)) % 6)).toNat), zR a] d3 (fun _ d4 => Q 0 d4)))))))) : Ev g M_X2_remember FUL FUL [zR 31, zR a] d Q :=
  Ev_of (by decide +kernel) (Nat.le_of_ble_eq_true rfl) (v_X2_remember_0 ha h)
set_option maxRecDepth 20000 in
theorem v_X2_takeBack_0 {g : zGG} {Q : Int → zMem → Prop} {d : zMem} {a : Nat} (ha : isRiv a)  (h : ((inR (d 31 2)) ∧ ((d 31 2) ≠ 0 → ∀ d1, d1 = mu d 31 2 ((d 31 2) - 1) → (0 ≤ ((d 31 1) + ((d 31 2) - 1)) ∧ inR ((d 31 1) + ((d 31 2) - 1))) ∧ ((inR (((d 31 1) + ((d 31 2) - 1)) % 6)) ∧ ((((d 31 1) + ((d 31 2) - 1)) % 6) < 0 → Q 1 d1) ∧ (0 ≤ (((d 31 1) + ((d 31 2) - 1)) % 6) → ((inR (((d 31 1) + ((d 31 2) - 1)) % 6)) ∧ (6 ≤ (((d 31 1) + ((d 31 2) - 1)) % 6) → Q 1 d1) ∧ ((((d 31 1) + ((d 31 2) - 1)) % 6) < 6 → (0 ≤ (((d 31 1) + ((d 31 2) - 1)) % 6) ∧ (((d 31 1) + ((d 31 2) - 1)) % 6) < 6) ∧ (0 ≤ (((d 31 1) + ((d 31 2) - 1)) % 6) ∧ (((d 31 1) + ((d 31 2) - 1)) % 6) < 6) ∧ Ev g M_X7_copyFrom FUL FUL [zR a, zR (RT 32 ((((d 31 1) + ((d 31 2) - 1)) % 6)).toNat)] d1 (fun _ d2 => Q 1 d2)))))) ∧ ((d 31 2) = 0 → Q 0 d))) : Fr g (eM g M_X2_takeBack FUL FUL Q) M_X2_takeBack FUL 0 [some (zR 31), some (zR a), none] [] d := by
  refine z_aloadR_n (i := 0) dX2_takeBack_0 rfl rfl ?_
  refine z_getI' 2 2 (idx := 18) (fv := (d 31 2)) ly31 (by decide) (by decide) rfl (show 31 < 166 by decide) wf_X2_18 dX2_takeBack_1 rfl ?_
  refine zb_if_ne (tgt := 9) dX2_takeBack_4 (by decide) h.1 ⟨fun c => ?_, fun c => ?_⟩
  · replace h := h.2.1 c
    refine z_aloadR_n (i := 0) dX2_takeBack_9 rfl rfl ?_
    refine z_dup dX2_takeBack_10 (Nat.le_of_ble_eq_true rfl) ?_
    refine z_getI' 2 2 (idx := 18) (fv := (d 31 2)) ly31 (by decide) (by decide) rfl (show 31 < 166 by decide) wf_X2_18 dX2_takeBack_11 rfl ?_
    refine z_iconst dX2_takeBack_14 ?_
    refine z_isub dX2_takeBack_15 ?_
    refine z_putI 2 2 (idx := 18) ly31 (by decide) (by decide) rfl (show 31 < 166 by decide) rfl wf_X2_18 dX2_takeBack_16 (Or.inl rfl) ?_
    generalize hd1 : mu d 31 ((2 : Nat) : Int) ((d 31 2) - 1) = d1
    replace hd1 : d1 = mu d 31 2 ((d 31 2) - 1) := hd1.symm
    replace h := h d1 hd1
    refine z_aloadR_n (i := 0) dX2_takeBack_19 rfl rfl ?_
    refine z_getI' 2 1 (idx := 22) (fv := (d 31 1)) ly31 (by decide) (by decide) rfl (show 31 < 166 by decide) wf_X2_22 dX2_takeBack_20 (by show d1 31 1 = _; rw [hd1, mu_ni (by decide)]) ?_
    refine z_aloadR_n (i := 0) dX2_takeBack_23 rfl rfl ?_
    refine z_getI' 2 2 (idx := 18) (fv := ((d 31 2) - 1)) ly31 (by decide) (by decide) rfl (show 31 < 166 by decide) wf_X2_18 dX2_takeBack_24 (by show d1 31 2 = _; rw [hd1, mu_get]) ?_
    refine z_iadd dX2_takeBack_27 ?_
    refine z_bipush dX2_takeBack_28 (by decide +kernel) ?_
    refine z_irem dX2_takeBack_30 ⟨h.1.1, h.1.2, by decide, by decide⟩ ?_
    replace h := h.2
    refine z_istore_n (i := 2) (ls2 := [some (zR 31), some (zR a), some (zI (((d 31 1) + ((d 31 2) - 1)) % 6))]) dX2_takeBack_31 rfl (by decide) rfl ?_
    refine z_iload_n (i := 2) dX2_takeBack_32 rfl rfl ?_
    refine zb_if_lt (tgt := 64) dX2_takeBack_33 (by decide) h.1 ⟨fun c => ?_, fun c => ?_⟩
    · replace h := h.2.1 c
      refine z_iconst dX2_takeBack_64 ?_
      exact zret_z rfl dX2_takeBack_65 (by decide) h
    · replace h := h.2.2 c
      refine z_iload_n (i := 2) dX2_takeBack_36 rfl rfl ?_
      refine z_aloadR_n (i := 0) dX2_takeBack_37 rfl rfl ?_
      refine z_getR 2 0 (idx := 11) ly31 (by decide) (by decide) rfl (show 31 < 166 by decide) rfl rt_31_0 wf_X2_11 dX2_takeBack_38 ?_
      refine z_alen' (v := 6) ly32 (by decide) (show 32 < 166 by decide) rfl dX2_takeBack_41 ?_
      refine zb_icmp_ge (tgt := 64) dX2_takeBack_42 (by decide) ⟨h.1, by decide⟩ ⟨fun c => ?_, fun c => ?_⟩
      · replace h := h.2.1 c
        refine z_iconst dX2_takeBack_64 ?_
        exact zret_z rfl dX2_takeBack_65 (by decide) h
      · replace h := h.2.2 c
        refine z_aloadR_n (i := 0) dX2_takeBack_45 rfl rfl ?_
        refine z_getR 2 0 (idx := 11) ly31 (by decide) (by decide) rfl (show 31 < 166 by decide) rfl rt_31_0 wf_X2_11 dX2_takeBack_46 ?_
        refine z_iload_n (i := 2) dX2_takeBack_49 rfl rfl ?_
        have hix := h.1
        refine z_aaload ly32 (show 32 < 166 by decide) (by decide) dX2_takeBack_50 h.1 rfl ?_
        replace h := h.2
        refine z_ifnull dX2_takeBack_51 ?_
        refine z_aloadR_n (i := 1) dX2_takeBack_54 rfl rfl ?_
        refine z_aloadR_n (i := 0) dX2_takeBack_55 rfl rfl ?_
        refine z_getR 2 0 (idx := 11) ly31 (by decide) (by decide) rfl (show 31 < 166 by decide) rfl rt_31_0 wf_X2_11 dX2_takeBack_56 ?_
        refine z_iload_n (i := 2) dX2_takeBack_59 rfl rfl ?_
        have hix := h.1
        refine z_aaload ly32 (show 32 < 166 by decide) (by decide) dX2_takeBack_60 h.1 rfl ?_
        replace h := h.2
        refine z_callVv (k' := M_X7_copyFrom) (As := [zR (RT 32 ((((d 31 1) + ((d 31 2) - 1)) % 6)).toNat)]) (st := []) dX2_takeBack_61 rfl (rl0 ha) (by decide) rfl (rlt0 ha) wm_X2_25 ok_X7_copyFrom okV_X7_copyFrom rfl (zroom_self (by decide) (by decide)) (Nat.le_of_ble_eq_true rfl) (Nat.le_refl _) rfl (Ev_mono h (fun _ d2 h => ?_))
        refine z_iconst dX2_takeBack_64 ?_
        exact zret_z rfl dX2_takeBack_65 (by decide) h
  · replace h := h.2.2 c
    refine z_iconst dX2_takeBack_7 ?_
    exact zret_z rfl dX2_takeBack_8 (by decide) h
theorem e_X2_takeBack {g : zGG} {Q : Int → zMem → Prop} {d : zMem} {a : Nat} (ha : isRiv a) (h : ((inR (d 31 2)) ∧ ((d 31 2) ≠ 0 → ∀ d1, d1 = mu d 31 2 ((d 31 2) - 1) → (0 ≤ ((d 31 1) + ((d 31 2) - 1)) ∧ inR ((d 31 1) + ((d 31 2) - 1))) ∧ ((inR (((d 31 1) + ((d 31 2) - 1)) % 6)) ∧ ((((d 31 1) + ((d 31 2) - 1)) % 6) < 0 → Q 1 d1) ∧ (0 ≤ (((d 31 1) + ((d 31 2) - 1)) % 6) → ((inR (((d 31 1) + ((d 31 2) - 1)) % 6)) ∧ (6 ≤ (((d 31 1) + ((d 31 2) - 1)) % 6) → Q 1 d1) ∧ ((((d 31 1) + ((d 31 2) - 1)) % 6) < 6 → (0 ≤ (((d 31 1) + ((d 31 2) - 1)) % 6) ∧ (((d 31 1) + ((d 31 2) - 1)) % 6) < 6) ∧ (0 ≤ (((d 31 1) + ((d 31 2) - 1)) % 6) ∧ (((d 31 1) + ((d 31 2) - 1)) % 6) < 6) ∧ Ev g M_X7_copyFrom FUL FUL [zR a, zR (RT 32 ((((d 31 1) + ((d 31 2) - 1)) % 6)).toNat)] d1 (fun _ d2 => Q 1 d2)))))) ∧ ((d 31 2) = 0 → Q 0 d))) : Ev g M_X2_takeBack FUL FUL [zR 31, zR a] d Q :=
  Ev_of (by decide +kernel) (Nat.le_of_ble_eq_true rfl) (v_X2_takeBack_0 ha h)
set_option maxRecDepth 20000 in
theorem v_X5_length_0 {g : zGG} {Q : Int → zMem → Prop} {d : zMem}   (h : Q (d 117 2) d) : Fr g (eM g M_X5_length FUL FUL Q) M_X5_length FUL 0 [some (zR 117)] [] d := by
  refine z_aloadR_n (i := 0) dX5_length_0 rfl rfl ?_
  refine z_getI' 5 2 (idx := 18) (fv := (d 117 2)) ly117 (by decide) (by decide) rfl (show 117 < 166 by decide) wf_X5_18 dX5_length_1 rfl ?_
  exact zret_i rfl dX5_length_4 h
theorem e_X5_length {g : zGG} {Q : Int → zMem → Prop} {d : zMem}  (h : Q (d 117 2) d) : Ev g M_X5_length FUL FUL [zR 117] d Q :=
  Ev_of (by decide +kernel) (Nat.le_of_ble_eq_true rfl) (v_X5_length_0  h)
set_option maxRecDepth 20000 in
theorem v_X5_stepCount_0 {g : zGG} {Q : Int → zMem → Prop} {d : zMem}   (h : Q (d 117 6) d) : Fr g (eM g M_X5_stepCount FUL FUL Q) M_X5_stepCount FUL 0 [some (zR 117)] [] d := by
  refine z_aloadR_n (i := 0) dX5_stepCount_0 rfl rfl ?_
  refine z_getI' 5 6 (idx := 22) (fv := (d 117 6)) ly117 (by decide) (by decide) rfl (show 117 < 166 by decide) wf_X5_22 dX5_stepCount_1 rfl ?_
  exact zret_i rfl dX5_stepCount_4 h
theorem e_X5_stepCount {g : zGG} {Q : Int → zMem → Prop} {d : zMem}  (h : Q (d 117 6) d) : Ev g M_X5_stepCount FUL FUL [zR 117] d Q :=
  Ev_of (by decide +kernel) (Nat.le_of_ble_eq_true rfl) (v_X5_stepCount_0  h)
set_option maxRecDepth 20000 in
theorem v_X5_clear_0 {g : zGG} {Q : Int → zMem → Prop} {d : zMem}   (h : ∀ d1, d1 = mu d 117 2 0 → Q 0 d1) : Fr g (eM g M_X5_clear FUL FUL Q) M_X5_clear FUL 0 [some (zR 117)] [] d := by
  refine z_aloadR_n (i := 0) dX5_clear_0 rfl rfl ?_
  refine z_iconst dX5_clear_1 ?_
  refine z_putI 5 2 (idx := 18) ly117 (by decide) (by decide) rfl (show 117 < 166 by decide) rfl wf_X5_18 dX5_clear_2 (Or.inl rfl) ?_
  generalize hd1 : mu d 117 ((2 : Nat) : Int) 0 = d1
  replace hd1 : d1 = mu d 117 2 0 := hd1.symm
  replace h := h d1 hd1
  exact zret_v rfl dX5_clear_5 h
theorem e_X5_clear {g : zGG} {Q : Int → zMem → Prop} {d : zMem}  (h : ∀ d1, d1 = mu d 117 2 0 → Q 0 d1) : Ev g M_X5_clear FUL FUL [zR 117] d Q :=
  Ev_of (by decide +kernel) (Nat.le_of_ble_eq_true rfl) (v_X5_clear_0  h)
set_option maxRecDepth 20000 in
theorem v_X5_sizeOf_0 {g : zGG} {Q : Int → zMem → Prop} {d : zMem} {n0 : Int}  (h : (Fr g (eM g M_X5_sizeOf FUL FUL Q) M_X5_sizeOf FUL 4 [some (zL n0), none, some (zI 0), some (zL n0), none, none] [] d)) : Fr g (eM g M_X5_sizeOf FUL FUL Q) M_X5_sizeOf FUL 0 [some (zL n0), none, none, none, none, none] [] d := by
  refine z_iconst dX5_sizeOf_0 ?_
  refine z_istore_n (i := 2) (ls2 := [some (zL n0), none, some (zI 0), none, none, none]) dX5_sizeOf_1 rfl (by decide) rfl ?_
  refine z_lload_n (i := 0) dX5_sizeOf_2 rfl rfl ?_
  refine z_lstore_n (i := 3) (ls2 := [some (zL n0), none, some (zI 0), some (zL n0), none, none]) dX5_sizeOf_3 rfl (by decide) rfl ?_
  exact h
theorem e_X5_sizeOf {g : zGG} {Q : Int → zMem → Prop} {d : zMem} {n0 : Int} (h : (Fr g (eM g M_X5_sizeOf FUL FUL Q) M_X5_sizeOf FUL 4 [some (zL n0), none, some (zI 0), some (zL n0), none, none] [] d)) : Ev g M_X5_sizeOf FUL FUL [zL n0] d Q :=
  Ev_of (by decide +kernel) (Nat.le_of_ble_eq_true rfl) (v_X5_sizeOf_0  h)
set_option maxRecDepth 20000 in
theorem v_X5_sizeOf_4 {g : zGG} {Q : Int → zMem → Prop} {d : zMem} {n0 : Int} {n3 : Int} {x2 : Int} (h : ((inR x2) ∧ (8 ≤ x2 → ((0 ≤ n3 ∧ n3 < 18446744073709551616) ∧ (n3 = 0 → Q x2 d) ∧ (n3 ≠ 0 → Q 0 d))) ∧ (x2 < 8 → (0 ≤ n3 ∧ n3 < 18446744073709551616) ∧ ((0 ≤ (n3 % 256) ∧ (n3 % 256) < 18446744073709551616) ∧ ((n3 % 256) = 0 → ((0 ≤ n3 ∧ n3 < 18446744073709551616) ∧ (n3 = 0 → Q x2 d) ∧ (n3 ≠ 0 → Q 0 d))) ∧ ((n3 % 256) ≠ 0 → (0 ≤ n3 ∧ n3 < 18446744073709551616) ∧ ((inR (n3 % 256)) ∧ ((n3 % 256) < 33 → Q 0 d) ∧ (33 ≤ (n3 % 256) → ((inR (n3 % 256)) ∧ ((n3 % 256) ≤ 126 → (0 ≤ n3 ∧ n3 < 18446744073709551616) ∧ (Fr g (eM g M_X5_sizeOf FUL FUL Q) M_X5_sizeOf FUL 4 [some (zL n0), none, some (zI (x2 + 1)), some (zL (n3 / 2 ^ Int.toNat 8)), none, none] [] d)) ∧ (126 < (n3 % 256) → Q 0 d))))))))) : Fr g (eM g M_X5_sizeOf FUL FUL Q) M_X5_sizeOf FUL 4 [some (zL n0), none, some (zI x2), some (zL n3), none, none] [] d := by
  refine z_iload_n (i := 2) dX5_sizeOf_4 rfl rfl ?_
  refine z_bipush dX5_sizeOf_5 (by decide +kernel) ?_
  refine zb_icmp_ge (tgt := 55) dX5_sizeOf_7 (by decide) ⟨h.1, by decide⟩ ⟨fun c => ?_, fun c => ?_⟩
  · replace h := h.2.1 c
    refine z_lload_n (i := 3) dX5_sizeOf_55 rfl rfl ?_
    refine z_lconst (v := 0) dX5_sizeOf_56 (by decide +kernel) ?_
    refine z_lcmp h.1 (by decide) dX5_sizeOf_57 ⟨fun c => ?_, fun c v hv1 hv2 => ?_⟩
    · replace h := h.2.1 c
      refine zb_if_ne (tgt := 65) dX5_sizeOf_58 (by decide) (by decide) ⟨fun q => absurd q (by decide), fun _ => ?_⟩
      refine z_iload_n (i := 2) dX5_sizeOf_61 rfl rfl ?_
      refine z_goto (tgt := 66) dX5_sizeOf_62 (by decide) ?_
      exact zret_i rfl dX5_sizeOf_66 h
    · replace h := h.2.2 c
      refine zb_if_ne (tgt := 65) dX5_sizeOf_58 (by decide) hv1 ⟨fun _ => ?_, fun q => absurd q hv2⟩
      refine z_iconst dX5_sizeOf_65 ?_
      exact zret_i rfl dX5_sizeOf_66 h
  · replace h := h.2.2 c
    refine z_lload_n (i := 3) dX5_sizeOf_10 rfl rfl ?_
    refine z_ldc2 (n := 255) (v := 255) (by decide +kernel) wl_X5_25 dX5_sizeOf_11 ?_
    refine z_land (l_mask8 h.1) dX5_sizeOf_14 ?_
    replace h := h.2
    refine z_lconst (v := 0) dX5_sizeOf_15 (by decide +kernel) ?_
    refine z_lcmp h.1 (by decide) dX5_sizeOf_16 ⟨fun c => ?_, fun c v hv1 hv2 => ?_⟩
    · replace h := h.2.1 c
      refine zb_if_eq (tgt := 55) dX5_sizeOf_17 (by decide) (by decide) ⟨fun _ => ?_, fun q => absurd q (by decide)⟩
      refine z_lload_n (i := 3) dX5_sizeOf_55 rfl rfl ?_
      refine z_lconst (v := 0) dX5_sizeOf_56 (by decide +kernel) ?_
      refine z_lcmp h.1 (by decide) dX5_sizeOf_57 ⟨fun c => ?_, fun c v hv1 hv2 => ?_⟩
      · replace h := h.2.1 c
        refine zb_if_ne (tgt := 65) dX5_sizeOf_58 (by decide) (by decide) ⟨fun q => absurd q (by decide), fun _ => ?_⟩
        refine z_iload_n (i := 2) dX5_sizeOf_61 rfl rfl ?_
        refine z_goto (tgt := 66) dX5_sizeOf_62 (by decide) ?_
        exact zret_i rfl dX5_sizeOf_66 h
      · replace h := h.2.2 c
        refine zb_if_ne (tgt := 65) dX5_sizeOf_58 (by decide) hv1 ⟨fun _ => ?_, fun q => absurd q hv2⟩
        refine z_iconst dX5_sizeOf_65 ?_
        exact zret_i rfl dX5_sizeOf_66 h
    · replace h := h.2.2 c
      refine zb_if_eq (tgt := 55) dX5_sizeOf_17 (by decide) hv1 ⟨fun q => absurd q hv2, fun _ => ?_⟩
      refine z_lload_n (i := 3) dX5_sizeOf_20 rfl rfl ?_
      refine z_ldc2 (n := 255) (v := 255) (by decide +kernel) wl_X5_25 dX5_sizeOf_21 ?_
      refine z_land (l_mask8 h.1) dX5_sizeOf_24 ?_
      replace h := h.2
      refine z_l2i dX5_sizeOf_25 ?_
      refine z_istore (i := 5) (ls2 := [some (zL n0), none, some (zI x2), some (zL n3), none, some (zI (n3 % 256))]) dX5_sizeOf_26 (by decide) rfl ?_
      refine z_iload (i := 5) dX5_sizeOf_28 rfl ?_
      refine z_bipush dX5_sizeOf_30 (by decide +kernel) ?_
      refine zb_icmp_lt (tgt := 42) dX5_sizeOf_32 (by decide) ⟨h.1, by decide⟩ ⟨fun c => ?_, fun c => ?_⟩
      · replace h := h.2.1 c
        refine z_iconst dX5_sizeOf_42 ?_
        exact zret_i rfl dX5_sizeOf_43 h
      · replace h := h.2.2 c
        refine z_iload (i := 5) dX5_sizeOf_35 rfl ?_
        refine z_bipush dX5_sizeOf_37 (by decide +kernel) ?_
        refine zb_icmp_le (tgt := 44) dX5_sizeOf_39 (by decide) ⟨h.1, by decide⟩ ⟨fun c => ?_, fun c => ?_⟩
        · replace h := h.2.1 c
          refine z_iinc (i := 2) (ls2 := [some (zL n0), none, some (zI (x2 + 1)), some (zL n3), none, some (zI (n3 % 256))]) dX5_sizeOf_44 (by decide) rfl rfl ?_
          refine z_lload_n (i := 3) dX5_sizeOf_47 rfl rfl ?_
          refine z_bipush dX5_sizeOf_48 (by decide +kernel) ?_
          refine z_lushr h.1 (by decide) dX5_sizeOf_50 ?_
          replace h := h.2
          refine z_lstore_n (i := 3) (ls2 := [some (zL n0), none, some (zI (x2 + 1)), some (zL (n3 / 2 ^ Int.toNat 8)), none, some (zI (n3 % 256))]) dX5_sizeOf_51 rfl (by decide) rfl ?_
          refine z_goto (tgt := 4) dX5_sizeOf_52 (by decide) ?_
          exact Fr_weak (ls2 := [some (zL n0), none, some (zI (x2 + 1)), some (zL (n3 / 2 ^ Int.toNat 8)), none, none]) (by exact ⟨Or.inr rfl, Or.inl rfl, Or.inr rfl, Or.inr rfl, Or.inl rfl, Or.inl rfl, trivial⟩) h
        · replace h := h.2.2 c
          refine z_iconst dX5_sizeOf_42 ?_
          exact zret_i rfl dX5_sizeOf_43 h
set_option maxRecDepth 20000 in
theorem v_X5_hasRoomFor_0 {g : zGG} {Q : Int → zMem → Prop} {d : zMem} {x1 : Int}  (h : ((inR ((d 117 2) + x1)) ∧ (64 < ((d 117 2) + x1) → Q 0 d) ∧ (((d 117 2) + x1) ≤ 64 → Q 1 d))) : Fr g (eM g M_X5_hasRoomFor FUL FUL Q) M_X5_hasRoomFor FUL 0 [some (zR 117), some (zI x1)] [] d := by
  refine z_aloadR_n (i := 0) dX5_hasRoomFor_0 rfl rfl ?_
  refine z_getI' 5 2 (idx := 18) (fv := (d 117 2)) ly117 (by decide) (by decide) rfl (show 117 < 166 by decide) wf_X5_18 dX5_hasRoomFor_1 rfl ?_
  refine z_iload_n (i := 1) dX5_hasRoomFor_4 rfl rfl ?_
  refine z_iadd dX5_hasRoomFor_5 ?_
  refine z_bipush dX5_hasRoomFor_6 (by decide +kernel) ?_
  refine zb_icmp_gt (tgt := 15) dX5_hasRoomFor_8 (by decide) ⟨h.1, by decide⟩ ⟨fun c => ?_, fun c => ?_⟩
  · replace h := h.2.1 c
    refine z_iconst dX5_hasRoomFor_15 ?_
    exact zret_z rfl dX5_hasRoomFor_16 (by decide) h
  · replace h := h.2.2 c
    refine z_iconst dX5_hasRoomFor_11 ?_
    refine z_goto (tgt := 16) dX5_hasRoomFor_12 (by decide) ?_
    exact zret_z rfl dX5_hasRoomFor_16 (by decide) h
theorem e_X5_hasRoomFor {g : zGG} {Q : Int → zMem → Prop} {d : zMem} {x1 : Int} (h : ((inR ((d 117 2) + x1)) ∧ (64 < ((d 117 2) + x1) → Q 0 d) ∧ (((d 117 2) + x1) ≤ 64 → Q 1 d))) : Ev g M_X5_hasRoomFor FUL FUL [zR 117, zI x1] d Q :=
  Ev_of (by decide +kernel) (Nat.le_of_ble_eq_true rfl) (v_X5_hasRoomFor_0  h)
set_option maxRecDepth 20000 in
theorem v_X5_append_0 {g : zGG} {Q : Int → zMem → Prop} {d : zMem} {n1 : Int} {x3 : Int}  (h : (Fr g (eM g M_X5_append FUL FUL Q) M_X5_append FUL 13 [some (zR 117), some (zL n1), none, some (zI x3), some (zL n1), none, some (zI (((d 117 2) + x3) - 1))] [] d)) : Fr g (eM g M_X5_append FUL FUL Q) M_X5_append FUL 0 [some (zR 117), some (zL n1), none, some (zI x3), none, none, none] [] d := by
  refine z_lload_n (i := 1) dX5_append_0 rfl rfl ?_
  refine z_lstore (i := 4) (ls2 := [some (zR 117), some (zL n1), none, some (zI x3), some (zL n1), none, none]) dX5_append_1 (by decide) rfl ?_
  refine z_aloadR_n (i := 0) dX5_append_3 rfl rfl ?_
  refine z_getI' 5 2 (idx := 18) (fv := (d 117 2)) ly117 (by decide) (by decide) rfl (show 117 < 166 by decide) wf_X5_18 dX5_append_4 rfl ?_
  refine z_iload_n (i := 3) dX5_append_7 rfl rfl ?_
  refine z_iadd dX5_append_8 ?_
  refine z_iconst dX5_append_9 ?_
  refine z_isub dX5_append_10 ?_
  refine z_istore (i := 6) (ls2 := [some (zR 117), some (zL n1), none, some (zI x3), some (zL n1), none, some (zI (((d 117 2) + x3) - 1))]) dX5_append_11 (by decide) rfl ?_
  exact h
theorem e_X5_append {g : zGG} {Q : Int → zMem → Prop} {d : zMem} {n1 : Int} {x3 : Int} (h : (Fr g (eM g M_X5_append FUL FUL Q) M_X5_append FUL 13 [some (zR 117), some (zL n1), none, some (zI x3), some (zL n1), none, some (zI (((d 117 2) + x3) - 1))] [] d)) : Ev g M_X5_append FUL FUL [zR 117, zL n1, zI x3] d Q :=
  Ev_of (by decide +kernel) (Nat.le_of_ble_eq_true rfl) (v_X5_append_0  h)
set_option maxRecDepth 20000 in
theorem v_X5_append_13 {g : zGG} {Q : Int → zMem → Prop} {d : zMem} {n1 : Int} {x3 : Int} {n4 : Int} {x6 : Int} (h : ((inR x6 ∧ inR (d 117 2)) ∧ (x6 < (d 117 2) → ∀ d1, d1 = mu d 117 2 ((d 117 2) + x3) → Q 0 d1) ∧ ((d 117 2) ≤ x6 → ((inR x6) ∧ (x6 < 0 → (0 ≤ n4 ∧ n4 < 18446744073709551616) ∧ (Fr g (eM g M_X5_append FUL FUL Q) M_X5_append FUL 13 [some (zR 117), some (zL n1), none, some (zI x3), some (zL (n4 / 2 ^ Int.toNat 8)), none, some (zI (x6 + (-1)))] [] d)) ∧ (0 ≤ x6 → ((inR x6) ∧ (64 ≤ x6 → (0 ≤ n4 ∧ n4 < 18446744073709551616) ∧ (Fr g (eM g M_X5_append FUL FUL Q) M_X5_append FUL 13 [some (zR 117), some (zL n1), none, some (zI x3), some (zL (n4 / 2 ^ Int.toNat 8)), none, some (zI (x6 + (-1)))] [] d)) ∧ (x6 < 64 → (0 ≤ n4 ∧ n4 < 18446744073709551616) ∧ (0 ≤ x6 ∧ x6 < 64) ∧ ∀ d2, d2 = mu d 118 x6 (n4 % 256) → (0 ≤ n4 ∧ n4 < 18446744073709551616) ∧ (Fr g (eM g M_X5_append FUL FUL Q) M_X5_append FUL 13 [some (zR 117), some (zL n1), none, some (zI x3), some (zL (n4 / 2 ^ Int.toNat 8)), none, some (zI (x6 + (-1)))] [] d2)))))))) : Fr g (eM g M_X5_append FUL FUL Q) M_X5_append FUL 13 [some (zR 117), some (zL n1), none, some (zI x3), some (zL n4), none, some (zI x6)] [] d := by
  refine z_iload (i := 6) dX5_append_13 rfl ?_
  refine z_aloadR_n (i := 0) dX5_append_15 rfl rfl ?_
  refine z_getI' 5 2 (idx := 18) (fv := (d 117 2)) ly117 (by decide) (by decide) rfl (show 117 < 166 by decide) wf_X5_18 dX5_append_16 rfl ?_
  refine zb_icmp_lt (tgt := 61) dX5_append_19 (by decide) h.1 ⟨fun c => ?_, fun c => ?_⟩
  · replace h := h.2.1 c
    refine z_aloadR_n (i := 0) dX5_append_61 rfl rfl ?_
    refine z_dup dX5_append_62 (Nat.le_of_ble_eq_true rfl) ?_
    refine z_getI' 5 2 (idx := 18) (fv := (d 117 2)) ly117 (by decide) (by decide) rfl (show 117 < 166 by decide) wf_X5_18 dX5_append_63 rfl ?_
    refine z_iload_n (i := 3) dX5_append_66 rfl rfl ?_
    refine z_iadd dX5_append_67 ?_
    refine z_putI 5 2 (idx := 18) ly117 (by decide) (by decide) rfl (show 117 < 166 by decide) rfl wf_X5_18 dX5_append_68 (Or.inl rfl) ?_
    generalize hd1 : mu d 117 ((2 : Nat) : Int) ((d 117 2) + x3) = d1
    replace hd1 : d1 = mu d 117 2 ((d 117 2) + x3) := hd1.symm
    replace h := h d1 hd1
    exact zret_v rfl dX5_append_71 h
  · replace h := h.2.2 c
    refine z_iload (i := 6) dX5_append_22 rfl ?_
    refine zb_if_lt (tgt := 48) dX5_append_24 (by decide) h.1 ⟨fun c => ?_, fun c => ?_⟩
    · replace h := h.2.1 c
      refine z_lload (i := 4) dX5_append_48 rfl ?_
      refine z_bipush dX5_append_50 (by decide +kernel) ?_
      refine z_lushr h.1 (by decide) dX5_append_52 ?_
      replace h := h.2
      refine z_lstore (i := 4) (ls2 := [some (zR 117), some (zL n1), none, some (zI x3), some (zL (n4 / 2 ^ Int.toNat 8)), none, some (zI x6)]) dX5_append_53 (by decide) rfl ?_
      refine z_iinc (i := 6) (ls2 := [some (zR 117), some (zL n1), none, some (zI x3), some (zL (n4 / 2 ^ Int.toNat 8)), none, some (zI (x6 + (-1)))]) dX5_append_55 (by decide) rfl rfl ?_
      refine z_goto (tgt := 13) dX5_append_58 (by decide) ?_
      exact h
    · replace h := h.2.2 c
      refine z_iload (i := 6) dX5_append_27 rfl ?_
      refine z_bipush dX5_append_29 (by decide +kernel) ?_
      refine zb_icmp_ge (tgt := 48) dX5_append_31 (by decide) ⟨h.1, by decide⟩ ⟨fun c => ?_, fun c => ?_⟩
      · replace h := h.2.1 c
        refine z_lload (i := 4) dX5_append_48 rfl ?_
        refine z_bipush dX5_append_50 (by decide +kernel) ?_
        refine z_lushr h.1 (by decide) dX5_append_52 ?_
        replace h := h.2
        refine z_lstore (i := 4) (ls2 := [some (zR 117), some (zL n1), none, some (zI x3), some (zL (n4 / 2 ^ Int.toNat 8)), none, some (zI x6)]) dX5_append_53 (by decide) rfl ?_
        refine z_iinc (i := 6) (ls2 := [some (zR 117), some (zL n1), none, some (zI x3), some (zL (n4 / 2 ^ Int.toNat 8)), none, some (zI (x6 + (-1)))]) dX5_append_55 (by decide) rfl rfl ?_
        refine z_goto (tgt := 13) dX5_append_58 (by decide) ?_
        exact h
      · replace h := h.2.2 c
        refine z_aloadR_n (i := 0) dX5_append_34 rfl rfl ?_
        refine z_getR 5 0 (idx := 11) ly117 (by decide) (by decide) rfl (show 117 < 166 by decide) rfl rt_117_0 wf_X5_11 dX5_append_35 ?_
        refine z_iload (i := 6) dX5_append_38 rfl ?_
        refine z_lload (i := 4) dX5_append_40 rfl ?_
        refine z_ldc2 (n := 255) (v := 255) (by decide +kernel) wl_X5_25 dX5_append_42 ?_
        refine z_land (l_mask8 h.1) dX5_append_45 ?_
        replace h := h.2
        refine z_l2i dX5_append_46 ?_
        refine z_iastore ly118 (show 118 < 166 by decide) (by decide) dX5_append_47 h.1 ?_
        replace h := h.2
        generalize hd2 : mu d 118 x6 (n4 % 256) = d2
        replace hd2 := hd2.symm
        replace h := h d2 hd2
        refine z_lload (i := 4) dX5_append_48 rfl ?_
        refine z_bipush dX5_append_50 (by decide +kernel) ?_
        refine z_lushr h.1 (by decide) dX5_append_52 ?_
        replace h := h.2
        refine z_lstore (i := 4) (ls2 := [some (zR 117), some (zL n1), none, some (zI x3), some (zL (n4 / 2 ^ Int.toNat 8)), none, some (zI x6)]) dX5_append_53 (by decide) rfl ?_
        refine z_iinc (i := 6) (ls2 := [some (zR 117), some (zL n1), none, some (zI x3), some (zL (n4 / 2 ^ Int.toNat 8)), none, some (zI (x6 + (-1)))]) dX5_append_55 (by decide) rfl rfl ?_
        refine z_goto (tgt := 13) dX5_append_58 (by decide) ?_
        exact h
set_option maxRecDepth 20000 in
theorem v_X5_scan_0 {g : zGG} {Q : Int → zMem → Prop} {d : zMem}   (h : ∀ d1, d1 = mu d 117 3 0 → ∀ d2, d2 = mu d1 117 6 0 → Ev g M_X5_scanNumber FUL FUL [zR 117, zI 19, zI 44] d2 (fun v1 d3 => ∀ d4, d4 = mu d3 117 4 v1 → ((inR v1) ∧ (v1 ≠ (-1) → Ev g M_X5_scanNumber FUL FUL [zR 117, zI 11, zI 58] d4 (fun v2 d5 => ∀ d6, d6 = mu d5 117 5 v2 → ((inR v2) ∧ (v2 ≠ (-1) → Ev g M_X5_scanSteps FUL FUL [zR 117] d6 (fun v3 d7 => ((inR v3) ∧ (v3 = 0 → Q (d7 117 3) d7) ∧ (v3 ≠ 0 → Q (-6) d7)))) ∧ (v2 = (-1) → Q (d5 117 3) d6)))) ∧ (v1 = (-1) → Q (d3 117 3) d4)))) : Fr g (eM g M_X5_scan FUL FUL Q) M_X5_scan FUL 0 [some (zR 117)] [] d := by
  refine z_aloadR_n (i := 0) dX5_scan_0 rfl rfl ?_
  refine z_iconst dX5_scan_1 ?_
  refine z_putI 5 3 (idx := 27) ly117 (by decide) (by decide) rfl (show 117 < 166 by decide) rfl wf_X5_27 dX5_scan_2 (Or.inl rfl) ?_
  generalize hd1 : mu d 117 ((3 : Nat) : Int) 0 = d1
  replace hd1 : d1 = mu d 117 3 0 := hd1.symm
  replace h := h d1 hd1
  refine z_aloadR_n (i := 0) dX5_scan_5 rfl rfl ?_
  refine z_iconst dX5_scan_6 ?_
  refine z_putI 5 6 (idx := 22) ly117 (by decide) (by decide) rfl (show 117 < 166 by decide) rfl wf_X5_22 dX5_scan_7 (Or.inl rfl) ?_
  generalize hd2 : mu d1 117 ((6 : Nat) : Int) 0 = d2
  replace hd2 : d2 = mu d1 117 6 0 := hd2.symm
  replace h := h d2 hd2
  refine z_aloadR_n (i := 0) dX5_scan_10 rfl rfl ?_
  refine z_aloadR_n (i := 0) dX5_scan_11 rfl rfl ?_
  refine z_bipush dX5_scan_12 (by decide +kernel) ?_
  refine z_bipush dX5_scan_14 (by decide +kernel) ?_
  refine z_callVi (k' := M_X5_scanNumber) (As := [zI 19, zI 44]) (st := [zR 117]) dX5_scan_16 rfl ly117 (by decide) rfl (show 117 < 166 by decide) wm_X5_30 ok_X5_scanNumber okV_X5_scanNumber rfl (zroom_self (by decide) (by decide)) (Nat.le_of_ble_eq_true rfl) (Nat.le_refl _) rfl (Ev_mono h (fun v1 d3 h => ?_))
  refine z_putI 5 4 (idx := 34) ly117 (by decide) (by decide) rfl (show 117 < 166 by decide) rfl wf_X5_34 dX5_scan_19 (Or.inl rfl) ?_
  generalize hd4 : mu d3 117 ((4 : Nat) : Int) v1 = d4
  replace hd4 : d4 = mu d3 117 4 v1 := hd4.symm
  replace h := h d4 hd4
  refine z_aloadR_n (i := 0) dX5_scan_22 rfl rfl ?_
  refine z_getI' 5 4 (idx := 34) (fv := v1) ly117 (by decide) (by decide) rfl (show 117 < 166 by decide) wf_X5_34 dX5_scan_23 (by show d4 117 4 = _; rw [hd4, mu_get]) ?_
  refine z_iconst dX5_scan_26 ?_
  refine zb_icmp_ne (tgt := 35) dX5_scan_27 (by decide) ⟨h.1, by decide⟩ ⟨fun c => ?_, fun c => ?_⟩
  · replace h := h.2.1 c
    refine z_aloadR_n (i := 0) dX5_scan_35 rfl rfl ?_
    refine z_aloadR_n (i := 0) dX5_scan_36 rfl rfl ?_
    refine z_bipush dX5_scan_37 (by decide +kernel) ?_
    refine z_bipush dX5_scan_39 (by decide +kernel) ?_
    refine z_callVi (k' := M_X5_scanNumber) (As := [zI 11, zI 58]) (st := [zR 117]) dX5_scan_41 rfl ly117 (by decide) rfl (show 117 < 166 by decide) wm_X5_30 ok_X5_scanNumber okV_X5_scanNumber rfl (zroom_self (by decide) (by decide)) (Nat.le_of_ble_eq_true rfl) (Nat.le_refl _) rfl (Ev_mono h (fun v2 d5 h => ?_))
    refine z_putI 5 5 (idx := 37) ly117 (by decide) (by decide) rfl (show 117 < 166 by decide) rfl wf_X5_37 dX5_scan_44 (Or.inl rfl) ?_
    generalize hd6 : mu d5 117 ((5 : Nat) : Int) v2 = d6
    replace hd6 : d6 = mu d5 117 5 v2 := hd6.symm
    replace h := h d6 hd6
    refine z_aloadR_n (i := 0) dX5_scan_47 rfl rfl ?_
    refine z_getI' 5 5 (idx := 37) (fv := v2) ly117 (by decide) (by decide) rfl (show 117 < 166 by decide) wf_X5_37 dX5_scan_48 (by show d6 117 5 = _; rw [hd6, mu_get]) ?_
    refine z_iconst dX5_scan_51 ?_
    refine zb_icmp_ne (tgt := 60) dX5_scan_52 (by decide) ⟨h.1, by decide⟩ ⟨fun c => ?_, fun c => ?_⟩
    · replace h := h.2.1 c
      refine z_aloadR_n (i := 0) dX5_scan_60 rfl rfl ?_
      refine z_callVi (k' := M_X5_scanSteps) (As := []) (st := []) dX5_scan_61 rfl ly117 (by decide) rfl (show 117 < 166 by decide) wm_X5_40 ok_X5_scanSteps okV_X5_scanSteps rfl (zroom_self (by decide) (by decide)) (Nat.le_of_ble_eq_true rfl) (Nat.le_refl _) rfl (Ev_mono h (fun v3 d7 h => ?_))
      refine zb_if_eq (tgt := 72) dX5_scan_64 (by decide) h.1 ⟨fun c => ?_, fun c => ?_⟩
      · replace h := h.2.1 c
        refine z_aloadR_n (i := 0) dX5_scan_72 rfl rfl ?_
        refine z_getI' 5 3 (idx := 27) (fv := (d7 117 3)) ly117 (by decide) (by decide) rfl (show 117 < 166 by decide) wf_X5_27 dX5_scan_73 rfl ?_
        exact zret_i rfl dX5_scan_76 h
      · replace h := h.2.2 c
        refine z_bipush dX5_scan_67 (by decide +kernel) ?_
        refine z_goto (tgt := 76) dX5_scan_69 (by decide) ?_
        exact zret_i rfl dX5_scan_76 h
    · replace h := h.2.2 c
      refine z_aloadR_n (i := 0) dX5_scan_55 rfl rfl ?_
      refine z_getI' 5 3 (idx := 27) (fv := (d5 117 3)) ly117 (by decide) (by decide) rfl (show 117 < 166 by decide) wf_X5_27 dX5_scan_56 (by show d6 117 3 = _; rw [hd6, mu_ni (by decide)]) ?_
      exact zret_i rfl dX5_scan_59 h
  · replace h := h.2.2 c
    refine z_aloadR_n (i := 0) dX5_scan_30 rfl rfl ?_
    refine z_getI' 5 3 (idx := 27) (fv := (d3 117 3)) ly117 (by decide) (by decide) rfl (show 117 < 166 by decide) wf_X5_27 dX5_scan_31 (by show d4 117 3 = _; rw [hd4, mu_ni (by decide)]) ?_
    exact zret_i rfl dX5_scan_34 h
theorem e_X5_scan {g : zGG} {Q : Int → zMem → Prop} {d : zMem}  (h : ∀ d1, d1 = mu d 117 3 0 → ∀ d2, d2 = mu d1 117 6 0 → Ev g M_X5_scanNumber FUL FUL [zR 117, zI 19, zI 44] d2 (fun v1 d3 => ∀ d4, d4 = mu d3 117 4 v1 → ((inR v1) ∧ (v1 ≠ (-1) → Ev g M_X5_scanNumber FUL FUL [zR 117, zI 11, zI 58] d4 (fun v2 d5 => ∀ d6, d6 = mu d5 117 5 v2 → ((inR v2) ∧ (v2 ≠ (-1) → Ev g M_X5_scanSteps FUL FUL [zR 117] d6 (fun v3 d7 => ((inR v3) ∧ (v3 = 0 → Q (d7 117 3) d7) ∧ (v3 ≠ 0 → Q (-6) d7)))) ∧ (v2 = (-1) → Q (d5 117 3) d6)))) ∧ (v1 = (-1) → Q (d3 117 3) d4)))) : Ev g M_X5_scan FUL FUL [zR 117] d Q :=
  Ev_of (by decide +kernel) (Nat.le_of_ble_eq_true rfl) (v_X5_scan_0  h)
set_option maxRecDepth 20000 in
theorem v_X5_scanNumber_0 {g : zGG} {Q : Int → zMem → Prop} {d : zMem} {x1 : Int} {x2 : Int}  (h : Ev g M_X5_digitAt FUL FUL [zR 117, zI (d 117 3)] d (fun v1 d1 => ((inR v1) ∧ (v1 ≠ (-1) → ∀ d2, d2 = mu d1 117 3 ((d1 117 3) + 1) → Ev g M_X5_digitAt FUL FUL [zR 117, zI ((d1 117 3) + 1)] d2 (fun v2 d3 => ((inR v2) ∧ (v2 = (-1) → Ev g M_X5_signAt FUL FUL [zR 117, zI (d3 117 3)] d3 (fun v3 d4 => ((inR v3 ∧ inR x2) ∧ (v3 = x2 → ∀ d5, d5 = mu d4 117 3 ((d4 117 3) + 1) → Q v1 d5) ∧ (v3 ≠ x2 → Q (-1) d4)))) ∧ (v2 ≠ (-1) → ((inR v1) ∧ (v1 ≤ 0 → Ev g M_X5_signAt FUL FUL [zR 117, zI (d3 117 3)] d3 (fun v4 d6 => ((inR v4 ∧ inR x2) ∧ (v4 = x2 → ∀ d7, d7 = mu d6 117 3 ((d6 117 3) + 1) → Q v1 d7) ∧ (v4 ≠ x2 → Q (-1) d6)))) ∧ (0 < v1 → ((inR ((v1 * 10) + v2) ∧ inR x1) ∧ (x1 < ((v1 * 10) + v2) → Ev g M_X5_signAt FUL FUL [zR 117, zI (d3 117 3)] d3 (fun v5 d8 => ((inR v5 ∧ inR x2) ∧ (v5 = x2 → ∀ d9, d9 = mu d8 117 3 ((d8 117 3) + 1) → Q v1 d9) ∧ (v5 ≠ x2 → Q (-1) d8)))) ∧ (((v1 * 10) + v2) ≤ x1 → ∀ d10, d10 = mu d3 117 3 ((d3 117 3) + 1) → Ev g M_X5_signAt FUL FUL [zR 117, zI ((d3 117 3) + 1)] d10 (fun v6 d11 => ((inR v6 ∧ inR x2) ∧ (v6 = x2 → ∀ d12, d12 = mu d11 117 3 ((d11 117 3) + 1) → Q ((v1 * 10) + v2) d12) ∧ (v6 ≠ x2 → Q (-1) d11))))))))))) ∧ (v1 = (-1) → Q (-1) d1)))) : Fr g (eM g M_X5_scanNumber FUL FUL Q) M_X5_scanNumber FUL 0 [some (zR 117), some (zI x1), some (zI x2), none, none] [] d := by
  refine z_aloadR_n (i := 0) dX5_scanNumber_0 rfl rfl ?_
  refine z_aloadR_n (i := 0) dX5_scanNumber_1 rfl rfl ?_
  refine z_getI' 5 3 (idx := 27) (fv := (d 117 3)) ly117 (by decide) (by decide) rfl (show 117 < 166 by decide) wf_X5_27 dX5_scanNumber_2 rfl ?_
  refine z_callVi (k' := M_X5_digitAt) (As := [zI (d 117 3)]) (st := []) dX5_scanNumber_5 rfl ly117 (by decide) rfl (show 117 < 166 by decide) wm_X5_44 ok_X5_digitAt okV_X5_digitAt rfl (zroom_self (by decide) (by decide)) (Nat.le_of_ble_eq_true rfl) (Nat.le_refl _) rfl (Ev_mono h (fun v1 d1 h => ?_))
  refine z_istore_n (i := 3) (ls2 := [some (zR 117), some (zI x1), some (zI x2), some (zI v1), none]) dX5_scanNumber_8 rfl (by decide) rfl ?_
  refine z_iload_n (i := 3) dX5_scanNumber_9 rfl rfl ?_
  refine z_iconst dX5_scanNumber_10 ?_
  refine zb_icmp_ne (tgt := 16) dX5_scanNumber_11 (by decide) ⟨h.1, by decide⟩ ⟨fun c => ?_, fun c => ?_⟩
  · replace h := h.2.1 c
    refine z_aloadR_n (i := 0) dX5_scanNumber_16 rfl rfl ?_
    refine z_dup dX5_scanNumber_17 (Nat.le_of_ble_eq_true rfl) ?_
    refine z_getI' 5 3 (idx := 27) (fv := (d1 117 3)) ly117 (by decide) (by decide) rfl (show 117 < 166 by decide) wf_X5_27 dX5_scanNumber_18 rfl ?_
    refine z_iconst dX5_scanNumber_21 ?_
    refine z_iadd dX5_scanNumber_22 ?_
    refine z_putI 5 3 (idx := 27) ly117 (by decide) (by decide) rfl (show 117 < 166 by decide) rfl wf_X5_27 dX5_scanNumber_23 (Or.inl rfl) ?_
    generalize hd2 : mu d1 117 ((3 : Nat) : Int) ((d1 117 3) + 1) = d2
    replace hd2 : d2 = mu d1 117 3 ((d1 117 3) + 1) := hd2.symm
    replace h := h d2 hd2
    refine z_aloadR_n (i := 0) dX5_scanNumber_26 rfl rfl ?_
    refine z_aloadR_n (i := 0) dX5_scanNumber_27 rfl rfl ?_
    refine z_getI' 5 3 (idx := 27) (fv := ((d1 117 3) + 1)) ly117 (by decide) (by decide) rfl (show 117 < 166 by decide) wf_X5_27 dX5_scanNumber_28 (by show d2 117 3 = _; rw [hd2, mu_get]) ?_
    refine z_callVi (k' := M_X5_digitAt) (As := [zI ((d1 117 3) + 1)]) (st := []) dX5_scanNumber_31 rfl ly117 (by decide) rfl (show 117 < 166 by decide) wm_X5_44 ok_X5_digitAt okV_X5_digitAt rfl (zroom_self (by decide) (by decide)) (Nat.le_of_ble_eq_true rfl) (Nat.le_refl _) rfl (Ev_mono h (fun v2 d3 h => ?_))
    refine z_istore (i := 4) (ls2 := [some (zR 117), some (zI x1), some (zI x2), some (zI v1), some (zI v2)]) dX5_scanNumber_34 (by decide) rfl ?_
    refine z_iload (i := 4) dX5_scanNumber_36 rfl ?_
    refine z_iconst dX5_scanNumber_38 ?_
    refine zb_icmp_eq (tgt := 75) dX5_scanNumber_39 (by decide) ⟨h.1, by decide⟩ ⟨fun c => ?_, fun c => ?_⟩
    · replace h := h.2.1 c
      refine z_aloadR_n (i := 0) dX5_scanNumber_75 rfl rfl ?_
      refine z_aloadR_n (i := 0) dX5_scanNumber_76 rfl rfl ?_
      refine z_getI' 5 3 (idx := 27) (fv := (d3 117 3)) ly117 (by decide) (by decide) rfl (show 117 < 166 by decide) wf_X5_27 dX5_scanNumber_77 rfl ?_
      refine z_callVi (k' := M_X5_signAt) (As := [zI (d3 117 3)]) (st := []) dX5_scanNumber_80 rfl ly117 (by decide) rfl (show 117 < 166 by decide) wm_X5_48 ok_X5_signAt okV_X5_signAt rfl (zroom_self (by decide) (by decide)) (Nat.le_of_ble_eq_true rfl) (Nat.le_refl _) rfl (Ev_mono h (fun v3 d4 h => ?_))
      refine z_iload_n (i := 2) dX5_scanNumber_83 rfl rfl ?_
      refine zb_icmp_eq (tgt := 89) dX5_scanNumber_84 (by decide) h.1 ⟨fun c => ?_, fun c => ?_⟩
      · replace h := h.2.1 c
        refine z_aloadR_n (i := 0) dX5_scanNumber_89 rfl rfl ?_
        refine z_dup dX5_scanNumber_90 (Nat.le_of_ble_eq_true rfl) ?_
        refine z_getI' 5 3 (idx := 27) (fv := (d4 117 3)) ly117 (by decide) (by decide) rfl (show 117 < 166 by decide) wf_X5_27 dX5_scanNumber_91 rfl ?_
        refine z_iconst dX5_scanNumber_94 ?_
        refine z_iadd dX5_scanNumber_95 ?_
        refine z_putI 5 3 (idx := 27) ly117 (by decide) (by decide) rfl (show 117 < 166 by decide) rfl wf_X5_27 dX5_scanNumber_96 (Or.inl rfl) ?_
        generalize hd5 : mu d4 117 ((3 : Nat) : Int) ((d4 117 3) + 1) = d5
        replace hd5 : d5 = mu d4 117 3 ((d4 117 3) + 1) := hd5.symm
        replace h := h d5 hd5
        refine z_iload_n (i := 3) dX5_scanNumber_99 rfl rfl ?_
        exact zret_i rfl dX5_scanNumber_100 h
      · replace h := h.2.2 c
        refine z_iconst dX5_scanNumber_87 ?_
        exact zret_i rfl dX5_scanNumber_88 h
    · replace h := h.2.2 c
      refine z_iload_n (i := 3) dX5_scanNumber_42 rfl rfl ?_
      refine zb_if_le (tgt := 75) dX5_scanNumber_43 (by decide) h.1 ⟨fun c => ?_, fun c => ?_⟩
      · replace h := h.2.1 c
        refine z_aloadR_n (i := 0) dX5_scanNumber_75 rfl rfl ?_
        refine z_aloadR_n (i := 0) dX5_scanNumber_76 rfl rfl ?_
        refine z_getI' 5 3 (idx := 27) (fv := (d3 117 3)) ly117 (by decide) (by decide) rfl (show 117 < 166 by decide) wf_X5_27 dX5_scanNumber_77 rfl ?_
        refine z_callVi (k' := M_X5_signAt) (As := [zI (d3 117 3)]) (st := []) dX5_scanNumber_80 rfl ly117 (by decide) rfl (show 117 < 166 by decide) wm_X5_48 ok_X5_signAt okV_X5_signAt rfl (zroom_self (by decide) (by decide)) (Nat.le_of_ble_eq_true rfl) (Nat.le_refl _) rfl (Ev_mono h (fun v4 d6 h => ?_))
        refine z_iload_n (i := 2) dX5_scanNumber_83 rfl rfl ?_
        refine zb_icmp_eq (tgt := 89) dX5_scanNumber_84 (by decide) h.1 ⟨fun c => ?_, fun c => ?_⟩
        · replace h := h.2.1 c
          refine z_aloadR_n (i := 0) dX5_scanNumber_89 rfl rfl ?_
          refine z_dup dX5_scanNumber_90 (Nat.le_of_ble_eq_true rfl) ?_
          refine z_getI' 5 3 (idx := 27) (fv := (d6 117 3)) ly117 (by decide) (by decide) rfl (show 117 < 166 by decide) wf_X5_27 dX5_scanNumber_91 rfl ?_
          refine z_iconst dX5_scanNumber_94 ?_
          refine z_iadd dX5_scanNumber_95 ?_
          refine z_putI 5 3 (idx := 27) ly117 (by decide) (by decide) rfl (show 117 < 166 by decide) rfl wf_X5_27 dX5_scanNumber_96 (Or.inl rfl) ?_
          generalize hd7 : mu d6 117 ((3 : Nat) : Int) ((d6 117 3) + 1) = d7
          replace hd7 : d7 = mu d6 117 3 ((d6 117 3) + 1) := hd7.symm
          replace h := h d7 hd7
          refine z_iload_n (i := 3) dX5_scanNumber_99 rfl rfl ?_
          exact zret_i rfl dX5_scanNumber_100 h
        · replace h := h.2.2 c
          refine z_iconst dX5_scanNumber_87 ?_
          exact zret_i rfl dX5_scanNumber_88 h
      · replace h := h.2.2 c
        refine z_iload_n (i := 3) dX5_scanNumber_46 rfl rfl ?_
        refine z_bipush dX5_scanNumber_47 (by decide +kernel) ?_
        refine z_imul dX5_scanNumber_49 ?_
        refine z_iload (i := 4) dX5_scanNumber_50 rfl ?_
        refine z_iadd dX5_scanNumber_52 ?_
        refine z_iload_n (i := 1) dX5_scanNumber_53 rfl rfl ?_
        refine zb_icmp_gt (tgt := 75) dX5_scanNumber_54 (by decide) h.1 ⟨fun c => ?_, fun c => ?_⟩
        · replace h := h.2.1 c
          refine z_aloadR_n (i := 0) dX5_scanNumber_75 rfl rfl ?_
          refine z_aloadR_n (i := 0) dX5_scanNumber_76 rfl rfl ?_
          refine z_getI' 5 3 (idx := 27) (fv := (d3 117 3)) ly117 (by decide) (by decide) rfl (show 117 < 166 by decide) wf_X5_27 dX5_scanNumber_77 rfl ?_
          refine z_callVi (k' := M_X5_signAt) (As := [zI (d3 117 3)]) (st := []) dX5_scanNumber_80 rfl ly117 (by decide) rfl (show 117 < 166 by decide) wm_X5_48 ok_X5_signAt okV_X5_signAt rfl (zroom_self (by decide) (by decide)) (Nat.le_of_ble_eq_true rfl) (Nat.le_refl _) rfl (Ev_mono h (fun v5 d8 h => ?_))
          refine z_iload_n (i := 2) dX5_scanNumber_83 rfl rfl ?_
          refine zb_icmp_eq (tgt := 89) dX5_scanNumber_84 (by decide) h.1 ⟨fun c => ?_, fun c => ?_⟩
          · replace h := h.2.1 c
            refine z_aloadR_n (i := 0) dX5_scanNumber_89 rfl rfl ?_
            refine z_dup dX5_scanNumber_90 (Nat.le_of_ble_eq_true rfl) ?_
            refine z_getI' 5 3 (idx := 27) (fv := (d8 117 3)) ly117 (by decide) (by decide) rfl (show 117 < 166 by decide) wf_X5_27 dX5_scanNumber_91 rfl ?_
            refine z_iconst dX5_scanNumber_94 ?_
            refine z_iadd dX5_scanNumber_95 ?_
            refine z_putI 5 3 (idx := 27) ly117 (by decide) (by decide) rfl (show 117 < 166 by decide) rfl wf_X5_27 dX5_scanNumber_96 (Or.inl rfl) ?_
            generalize hd9 : mu d8 117 ((3 : Nat) : Int) ((d8 117 3) + 1) = d9
            replace hd9 : d9 = mu d8 117 3 ((d8 117 3) + 1) := hd9.symm
            replace h := h d9 hd9
            refine z_iload_n (i := 3) dX5_scanNumber_99 rfl rfl ?_
            exact zret_i rfl dX5_scanNumber_100 h
          · replace h := h.2.2 c
            refine z_iconst dX5_scanNumber_87 ?_
            exact zret_i rfl dX5_scanNumber_88 h
        · replace h := h.2.2 c
          refine z_iload_n (i := 3) dX5_scanNumber_57 rfl rfl ?_
          refine z_bipush dX5_scanNumber_58 (by decide +kernel) ?_
          refine z_imul dX5_scanNumber_60 ?_
          refine z_iload (i := 4) dX5_scanNumber_61 rfl ?_
          refine z_iadd dX5_scanNumber_63 ?_
          refine z_istore_n (i := 3) (ls2 := [some (zR 117), some (zI x1), some (zI x2), some (zI ((v1 * 10) + v2)), some (zI v2)]) dX5_scanNumber_64 rfl (by decide) rfl ?_
          refine z_aloadR_n (i := 0) dX5_scanNumber_65 rfl rfl ?_
          refine z_dup dX5_scanNumber_66 (Nat.le_of_ble_eq_true rfl) ?_
          refine z_getI' 5 3 (idx := 27) (fv := (d3 117 3)) ly117 (by decide) (by decide) rfl (show 117 < 166 by decide) wf_X5_27 dX5_scanNumber_67 rfl ?_
          refine z_iconst dX5_scanNumber_70 ?_
          refine z_iadd dX5_scanNumber_71 ?_
          refine z_putI 5 3 (idx := 27) ly117 (by decide) (by decide) rfl (show 117 < 166 by decide) rfl wf_X5_27 dX5_scanNumber_72 (Or.inl rfl) ?_
          generalize hd10 : mu d3 117 ((3 : Nat) : Int) ((d3 117 3) + 1) = d10
          replace hd10 : d10 = mu d3 117 3 ((d3 117 3) + 1) := hd10.symm
          replace h := h d10 hd10
          refine z_aloadR_n (i := 0) dX5_scanNumber_75 rfl rfl ?_
          refine z_aloadR_n (i := 0) dX5_scanNumber_76 rfl rfl ?_
          refine z_getI' 5 3 (idx := 27) (fv := ((d3 117 3) + 1)) ly117 (by decide) (by decide) rfl (show 117 < 166 by decide) wf_X5_27 dX5_scanNumber_77 (by show d10 117 3 = _; rw [hd10, mu_get]) ?_
          refine z_callVi (k' := M_X5_signAt) (As := [zI ((d3 117 3) + 1)]) (st := []) dX5_scanNumber_80 rfl ly117 (by decide) rfl (show 117 < 166 by decide) wm_X5_48 ok_X5_signAt okV_X5_signAt rfl (zroom_self (by decide) (by decide)) (Nat.le_of_ble_eq_true rfl) (Nat.le_refl _) rfl (Ev_mono h (fun v6 d11 h => ?_))
          refine z_iload_n (i := 2) dX5_scanNumber_83 rfl rfl ?_
          refine zb_icmp_eq (tgt := 89) dX5_scanNumber_84 (by decide) h.1 ⟨fun c => ?_, fun c => ?_⟩
          · replace h := h.2.1 c
            refine z_aloadR_n (i := 0) dX5_scanNumber_89 rfl rfl ?_
            refine z_dup dX5_scanNumber_90 (Nat.le_of_ble_eq_true rfl) ?_
            refine z_getI' 5 3 (idx := 27) (fv := (d11 117 3)) ly117 (by decide) (by decide) rfl (show 117 < 166 by decide) wf_X5_27 dX5_scanNumber_91 rfl ?_
            refine z_iconst dX5_scanNumber_94 ?_
            refine z_iadd dX5_scanNumber_95 ?_
            refine z_putI 5 3 (idx := 27) ly117 (by decide) (by decide) rfl (show 117 < 166 by decide) rfl wf_X5_27 dX5_scanNumber_96 (Or.inl rfl) ?_
            generalize hd12 : mu d11 117 ((3 : Nat) : Int) ((d11 117 3) + 1) = d12
            replace hd12 : d12 = mu d11 117 3 ((d11 117 3) + 1) := hd12.symm
            replace h := h d12 hd12
            refine z_iload_n (i := 3) dX5_scanNumber_99 rfl rfl ?_
            exact zret_i rfl dX5_scanNumber_100 h
          · replace h := h.2.2 c
            refine z_iconst dX5_scanNumber_87 ?_
            exact zret_i rfl dX5_scanNumber_88 h
  · replace h := h.2.2 c
    refine z_iconst dX5_scanNumber_14 ?_
    exact zret_i rfl dX5_scanNumber_15 h
theorem e_X5_scanNumber {g : zGG} {Q : Int → zMem → Prop} {d : zMem} {x1 : Int} {x2 : Int} (h : Ev g M_X5_digitAt FUL FUL [zR 117, zI (d 117 3)] d (fun v1 d1 => ((inR v1) ∧ (v1 ≠ (-1) → ∀ d2, d2 = mu d1 117 3 ((d1 117 3) + 1) → Ev g M_X5_digitAt FUL FUL [zR 117, zI ((d1 117 3) + 1)] d2 (fun v2 d3 => ((inR v2) ∧ (v2 = (-1) → Ev g M_X5_signAt FUL FUL [zR 117, zI (d3 117 3)] d3 (fun v3 d4 => ((inR v3 ∧ inR x2) ∧ (v3 = x2 → ∀ d5, d5 = mu d4 117 3 ((d4 117 3) + 1) → Q v1 d5) ∧ (v3 ≠ x2 → Q (-1) d4)))) ∧ (v2 ≠ (-1) → ((inR v1) ∧ (v1 ≤ 0 → Ev g M_X5_signAt FUL FUL [zR 117, zI (d3 117 3)] d3 (fun v4 d6 => ((inR v4 ∧ inR x2) ∧ (v4 = x2 → ∀ d7, d7 = mu d6 117 3 ((d6 117 3) + 1) → Q v1 d7) ∧ (v4 ≠ x2 → Q (-1) d6)))) ∧ (0 < v1 → ((inR ((v1 * 10) + v2) ∧ inR x1) ∧ (x1 < ((v1 * 10) + v2) → Ev g M_X5_signAt FUL FUL [zR 117, zI (d3 117 3)] d3 (fun v5 d8 => ((inR v5 ∧ inR x2) ∧ (v5 = x2 → ∀ d9, d9 = mu d8 117 3 ((d8 117 3) + 1) → Q v1 d9) ∧ (v5 ≠ x2 → Q (-1) d8)))) ∧ (((v1 * 10) + v2) ≤ x1 → ∀ d10, d10 = mu d3 117 3 ((d3 117 3) + 1) → Ev g M_X5_signAt FUL FUL [zR 117, zI ((d3 117 3) + 1)] d10 (fun v6 d11 => ((inR v6 ∧ inR x2) ∧ (v6 = x2 → ∀ d12, d12 = mu d11 117 3 ((d11 117 3) + 1) → Q ((v1 * 10) + v2) d12) ∧ (v6 ≠ x2 → Q (-1) d11))))))))))) ∧ (v1 = (-1) → Q (-1) d1)))) : Ev g M_X5_scanNumber FUL FUL [zR 117, zI x1, zI x2] d Q :=
  Ev_of (by decide +kernel) (Nat.le_of_ble_eq_true rfl) (v_X5_scanNumber_0  h)
set_option maxRecDepth 20000 in
theorem v_X5_scanSteps_0 {g : zGG} {Q : Int → zMem → Prop} {d : zMem}   (h : ((inR (d 117 3) ∧ inR (d 117 2)) ∧ ((d 117 2) ≤ (d 117 3) → ((inR (d 117 6)) ∧ ((d 117 6) ≤ 0 → Q 0 d) ∧ (0 < (d 117 6) → Q 1 d))) ∧ ((d 117 3) < (d 117 2) → Ev g M_X5_wayAt FUL FUL [zR 117, zI (d 117 3)] d (fun v1 d1 => ((inR v1) ∧ (v1 ≠ (-1) → ∀ d2, d2 = mu d1 117 3 ((d1 117 3) + 1) → Ev g M_X5_digitAt FUL FUL [zR 117, zI ((d1 117 3) + 1)] d2 (fun v2 d3 => ((inR v2) ∧ (v2 < 2 → Ev g M_X5_addSteps FUL FUL [zR 117, zI v1, zI 1] d3 (fun _ d4 => (Fr g (eM g M_X5_scanSteps FUL FUL Q) M_X5_scanSteps FUL 0 [some (zR 117), none, none] [] d4))) ∧ (2 ≤ v2 → Ev g M_X5_digitAt FUL FUL [zR 117, zI (d3 117 3)] d3 (fun v3 d5 => ∀ d6, d6 = mu d5 117 3 ((d5 117 3) + 1) → Ev g M_X5_addSteps FUL FUL [zR 117, zI v1, zI v3] d6 (fun _ d7 => (Fr g (eM g M_X5_scanSteps FUL FUL Q) M_X5_scanSteps FUL 0 [some (zR 117), none, none] [] d7))))))) ∧ (v1 = (-1) → Q 0 d1)))))) : Fr g (eM g M_X5_scanSteps FUL FUL Q) M_X5_scanSteps FUL 0 [some (zR 117), none, none] [] d := by
  refine z_aloadR_n (i := 0) dX5_scanSteps_0 rfl rfl ?_
  refine z_getI' 5 3 (idx := 27) (fv := (d 117 3)) ly117 (by decide) (by decide) rfl (show 117 < 166 by decide) wf_X5_27 dX5_scanSteps_1 rfl ?_
  refine z_aloadR_n (i := 0) dX5_scanSteps_4 rfl rfl ?_
  refine z_getI' 5 2 (idx := 18) (fv := (d 117 2)) ly117 (by decide) (by decide) rfl (show 117 < 166 by decide) wf_X5_18 dX5_scanSteps_5 rfl ?_
  refine zb_icmp_ge (tgt := 79) dX5_scanSteps_8 (by decide) h.1 ⟨fun c => ?_, fun c => ?_⟩
  · replace h := h.2.1 c
    refine z_aloadR_n (i := 0) dX5_scanSteps_79 rfl rfl ?_
    refine z_getI' 5 6 (idx := 22) (fv := (d 117 6)) ly117 (by decide) (by decide) rfl (show 117 < 166 by decide) wf_X5_22 dX5_scanSteps_80 rfl ?_
    refine zb_if_le (tgt := 90) dX5_scanSteps_83 (by decide) h.1 ⟨fun c => ?_, fun c => ?_⟩
    · replace h := h.2.1 c
      refine z_iconst dX5_scanSteps_90 ?_
      exact zret_z rfl dX5_scanSteps_91 (by decide) h
    · replace h := h.2.2 c
      refine z_iconst dX5_scanSteps_86 ?_
      refine z_goto (tgt := 91) dX5_scanSteps_87 (by decide) ?_
      exact zret_z rfl dX5_scanSteps_91 (by decide) h
  · replace h := h.2.2 c
    refine z_aloadR_n (i := 0) dX5_scanSteps_11 rfl rfl ?_
    refine z_aloadR_n (i := 0) dX5_scanSteps_12 rfl rfl ?_
    refine z_getI' 5 3 (idx := 27) (fv := (d 117 3)) ly117 (by decide) (by decide) rfl (show 117 < 166 by decide) wf_X5_27 dX5_scanSteps_13 rfl ?_
    refine z_callVi (k' := M_X5_wayAt) (As := [zI (d 117 3)]) (st := []) dX5_scanSteps_16 rfl ly117 (by decide) rfl (show 117 < 166 by decide) wm_X5_51 ok_X5_wayAt okV_X5_wayAt rfl (zroom_self (by decide) (by decide)) (Nat.le_of_ble_eq_true rfl) (Nat.le_refl _) rfl (Ev_mono h (fun v1 d1 h => ?_))
    refine z_istore_n (i := 1) (ls2 := [some (zR 117), some (zI v1), none]) dX5_scanSteps_19 rfl (by decide) rfl ?_
    refine z_iload_n (i := 1) dX5_scanSteps_20 rfl rfl ?_
    refine z_iconst dX5_scanSteps_21 ?_
    refine zb_icmp_ne (tgt := 27) dX5_scanSteps_22 (by decide) ⟨h.1, by decide⟩ ⟨fun c => ?_, fun c => ?_⟩
    · replace h := h.2.1 c
      refine z_aloadR_n (i := 0) dX5_scanSteps_27 rfl rfl ?_
      refine z_dup dX5_scanSteps_28 (Nat.le_of_ble_eq_true rfl) ?_
      refine z_getI' 5 3 (idx := 27) (fv := (d1 117 3)) ly117 (by decide) (by decide) rfl (show 117 < 166 by decide) wf_X5_27 dX5_scanSteps_29 rfl ?_
      refine z_iconst dX5_scanSteps_32 ?_
      refine z_iadd dX5_scanSteps_33 ?_
      refine z_putI 5 3 (idx := 27) ly117 (by decide) (by decide) rfl (show 117 < 166 by decide) rfl wf_X5_27 dX5_scanSteps_34 (Or.inl rfl) ?_
      generalize hd2 : mu d1 117 ((3 : Nat) : Int) ((d1 117 3) + 1) = d2
      replace hd2 : d2 = mu d1 117 3 ((d1 117 3) + 1) := hd2.symm
      replace h := h d2 hd2
      refine z_iconst dX5_scanSteps_37 ?_
      refine z_istore_n (i := 2) (ls2 := [some (zR 117), some (zI v1), some (zI 1)]) dX5_scanSteps_38 rfl (by decide) rfl ?_
      refine z_aloadR_n (i := 0) dX5_scanSteps_39 rfl rfl ?_
      refine z_aloadR_n (i := 0) dX5_scanSteps_40 rfl rfl ?_
      refine z_getI' 5 3 (idx := 27) (fv := ((d1 117 3) + 1)) ly117 (by decide) (by decide) rfl (show 117 < 166 by decide) wf_X5_27 dX5_scanSteps_41 (by show d2 117 3 = _; rw [hd2, mu_get]) ?_
      refine z_callVi (k' := M_X5_digitAt) (As := [zI ((d1 117 3) + 1)]) (st := []) dX5_scanSteps_44 rfl ly117 (by decide) rfl (show 117 < 166 by decide) wm_X5_44 ok_X5_digitAt okV_X5_digitAt rfl (zroom_self (by decide) (by decide)) (Nat.le_of_ble_eq_true rfl) (Nat.le_refl _) rfl (Ev_mono h (fun v2 d3 h => ?_))
      refine z_iconst dX5_scanSteps_47 ?_
      refine zb_icmp_lt (tgt := 70) dX5_scanSteps_48 (by decide) ⟨h.1, by decide⟩ ⟨fun c => ?_, fun c => ?_⟩
      · replace h := h.2.1 c
        refine z_aloadR_n (i := 0) dX5_scanSteps_70 rfl rfl ?_
        refine z_iload_n (i := 1) dX5_scanSteps_71 rfl rfl ?_
        refine z_iload_n (i := 2) dX5_scanSteps_72 rfl rfl ?_
        refine z_callVv (k' := M_X5_addSteps) (As := [zI v1, zI 1]) (st := []) dX5_scanSteps_73 rfl ly117 (by decide) rfl (show 117 < 166 by decide) wm_X5_54 ok_X5_addSteps okV_X5_addSteps rfl (zroom_self (by decide) (by decide)) (Nat.le_of_ble_eq_true rfl) (Nat.le_refl _) rfl (Ev_mono h (fun _ d4 h => ?_))
        refine z_goto (tgt := 0) dX5_scanSteps_76 (by decide) ?_
        exact Fr_weak (ls2 := [some (zR 117), none, none]) (by exact ⟨Or.inr rfl, Or.inl rfl, Or.inl rfl, trivial⟩) h
      · replace h := h.2.2 c
        refine z_aloadR_n (i := 0) dX5_scanSteps_51 rfl rfl ?_
        refine z_aloadR_n (i := 0) dX5_scanSteps_52 rfl rfl ?_
        refine z_getI' 5 3 (idx := 27) (fv := (d3 117 3)) ly117 (by decide) (by decide) rfl (show 117 < 166 by decide) wf_X5_27 dX5_scanSteps_53 rfl ?_
        refine z_callVi (k' := M_X5_digitAt) (As := [zI (d3 117 3)]) (st := []) dX5_scanSteps_56 rfl ly117 (by decide) rfl (show 117 < 166 by decide) wm_X5_44 ok_X5_digitAt okV_X5_digitAt rfl (zroom_self (by decide) (by decide)) (Nat.le_of_ble_eq_true rfl) (Nat.le_refl _) rfl (Ev_mono h (fun v3 d5 h => ?_))
        refine z_istore_n (i := 2) (ls2 := [some (zR 117), some (zI v1), some (zI v3)]) dX5_scanSteps_59 rfl (by decide) rfl ?_
        refine z_aloadR_n (i := 0) dX5_scanSteps_60 rfl rfl ?_
        refine z_dup dX5_scanSteps_61 (Nat.le_of_ble_eq_true rfl) ?_
        refine z_getI' 5 3 (idx := 27) (fv := (d5 117 3)) ly117 (by decide) (by decide) rfl (show 117 < 166 by decide) wf_X5_27 dX5_scanSteps_62 rfl ?_
        refine z_iconst dX5_scanSteps_65 ?_
        refine z_iadd dX5_scanSteps_66 ?_
        refine z_putI 5 3 (idx := 27) ly117 (by decide) (by decide) rfl (show 117 < 166 by decide) rfl wf_X5_27 dX5_scanSteps_67 (Or.inl rfl) ?_
        generalize hd6 : mu d5 117 ((3 : Nat) : Int) ((d5 117 3) + 1) = d6
        replace hd6 : d6 = mu d5 117 3 ((d5 117 3) + 1) := hd6.symm
        replace h := h d6 hd6
        refine z_aloadR_n (i := 0) dX5_scanSteps_70 rfl rfl ?_
        refine z_iload_n (i := 1) dX5_scanSteps_71 rfl rfl ?_
        refine z_iload_n (i := 2) dX5_scanSteps_72 rfl rfl ?_
        refine z_callVv (k' := M_X5_addSteps) (As := [zI v1, zI v3]) (st := []) dX5_scanSteps_73 rfl ly117 (by decide) rfl (show 117 < 166 by decide) wm_X5_54 ok_X5_addSteps okV_X5_addSteps rfl (zroom_self (by decide) (by decide)) (Nat.le_of_ble_eq_true rfl) (Nat.le_refl _) rfl (Ev_mono h (fun _ d7 h => ?_))
        refine z_goto (tgt := 0) dX5_scanSteps_76 (by decide) ?_
        exact Fr_weak (ls2 := [some (zR 117), none, none]) (by exact ⟨Or.inr rfl, Or.inl rfl, Or.inl rfl, trivial⟩) h
    · replace h := h.2.2 c
      refine z_iconst dX5_scanSteps_25 ?_
      exact zret_z rfl dX5_scanSteps_26 (by decide) h
theorem e_X5_scanSteps {g : zGG} {Q : Int → zMem → Prop} {d : zMem}  (h : ((inR (d 117 3) ∧ inR (d 117 2)) ∧ ((d 117 2) ≤ (d 117 3) → ((inR (d 117 6)) ∧ ((d 117 6) ≤ 0 → Q 0 d) ∧ (0 < (d 117 6) → Q 1 d))) ∧ ((d 117 3) < (d 117 2) → Ev g M_X5_wayAt FUL FUL [zR 117, zI (d 117 3)] d (fun v1 d1 => ((inR v1) ∧ (v1 ≠ (-1) → ∀ d2, d2 = mu d1 117 3 ((d1 117 3) + 1) → Ev g M_X5_digitAt FUL FUL [zR 117, zI ((d1 117 3) + 1)] d2 (fun v2 d3 => ((inR v2) ∧ (v2 < 2 → Ev g M_X5_addSteps FUL FUL [zR 117, zI v1, zI 1] d3 (fun _ d4 => (Fr g (eM g M_X5_scanSteps FUL FUL Q) M_X5_scanSteps FUL 0 [some (zR 117), none, none] [] d4))) ∧ (2 ≤ v2 → Ev g M_X5_digitAt FUL FUL [zR 117, zI (d3 117 3)] d3 (fun v3 d5 => ∀ d6, d6 = mu d5 117 3 ((d5 117 3) + 1) → Ev g M_X5_addSteps FUL FUL [zR 117, zI v1, zI v3] d6 (fun _ d7 => (Fr g (eM g M_X5_scanSteps FUL FUL Q) M_X5_scanSteps FUL 0 [some (zR 117), none, none] [] d7))))))) ∧ (v1 = (-1) → Q 0 d1)))))) : Ev g M_X5_scanSteps FUL FUL [zR 117] d Q :=
  Ev_of (by decide +kernel) (Nat.le_of_ble_eq_true rfl) (v_X5_scanSteps_0  h)
set_option maxRecDepth 20000 in
theorem v_X5_addSteps_0 {g : zGG} {Q : Int → zMem → Prop} {d : zMem} {x1 : Int} {x2 : Int}  (h : (Fr g (eM g M_X5_addSteps FUL FUL Q) M_X5_addSteps FUL 2 [some (zR 117), some (zI x1), some (zI x2), some (zI 0)] [] d)) : Fr g (eM g M_X5_addSteps FUL FUL Q) M_X5_addSteps FUL 0 [some (zR 117), some (zI x1), some (zI x2), none] [] d := by
  refine z_iconst dX5_addSteps_0 ?_
  refine z_istore_n (i := 3) (ls2 := [some (zR 117), some (zI x1), some (zI x2), some (zI 0)]) dX5_addSteps_1 rfl (by decide) rfl ?_
  exact h
theorem e_X5_addSteps {g : zGG} {Q : Int → zMem → Prop} {d : zMem} {x1 : Int} {x2 : Int} (h : (Fr g (eM g M_X5_addSteps FUL FUL Q) M_X5_addSteps FUL 2 [some (zR 117), some (zI x1), some (zI x2), some (zI 0)] [] d)) : Ev g M_X5_addSteps FUL FUL [zR 117, zI x1, zI x2] d Q :=
  Ev_of (by decide +kernel) (Nat.le_of_ble_eq_true rfl) (v_X5_addSteps_0  h)
set_option maxRecDepth 20000 in
theorem v_X5_addSteps_2 {g : zGG} {Q : Int → zMem → Prop} {d : zMem} {x1 : Int} {x2 : Int} {x3 : Int} (h : ((inR x3 ∧ inR x2) ∧ (x2 ≤ x3 → Q 0 d) ∧ (x3 < x2 → ((inR (d 117 6)) ∧ ((d 117 6) < 0 → ∀ d1, d1 = mu d 117 6 ((d 117 6) + 1) → (Fr g (eM g M_X5_addSteps FUL FUL Q) M_X5_addSteps FUL 2 [some (zR 117), some (zI x1), some (zI x2), some (zI (x3 + 1))] [] d1)) ∧ (0 ≤ (d 117 6) → ((inR (d 117 6)) ∧ (150 ≤ (d 117 6) → ∀ d2, d2 = mu d 117 6 ((d 117 6) + 1) → (Fr g (eM g M_X5_addSteps FUL FUL Q) M_X5_addSteps FUL 2 [some (zR 117), some (zI x1), some (zI x2), some (zI (x3 + 1))] [] d2)) ∧ ((d 117 6) < 150 → (0 ≤ (d 117 6) ∧ (d 117 6) < 150) ∧ ∀ d3, d3 = mu d 119 (d 117 6) x1 → ∀ d4, d4 = mu d3 117 6 ((d 117 6) + 1) → (Fr g (eM g M_X5_addSteps FUL FUL Q) M_X5_addSteps FUL 2 [some (zR 117), some (zI x1), some (zI x2), some (zI (x3 + 1))] [] d4)))))))) : Fr g (eM g M_X5_addSteps FUL FUL Q) M_X5_addSteps FUL 2 [some (zR 117), some (zI x1), some (zI x2), some (zI x3)] [] d := by
  refine z_iload_n (i := 3) dX5_addSteps_2 rfl rfl ?_
  refine z_iload_n (i := 2) dX5_addSteps_3 rfl rfl ?_
  refine zb_icmp_ge (tgt := 50) dX5_addSteps_4 (by decide) h.1 ⟨fun c => ?_, fun c => ?_⟩
  · replace h := h.2.1 c
    exact zret_v rfl dX5_addSteps_50 h
  · replace h := h.2.2 c
    refine z_aloadR_n (i := 0) dX5_addSteps_7 rfl rfl ?_
    refine z_getI' 5 6 (idx := 22) (fv := (d 117 6)) ly117 (by decide) (by decide) rfl (show 117 < 166 by decide) wf_X5_22 dX5_addSteps_8 rfl ?_
    refine zb_if_lt (tgt := 34) dX5_addSteps_11 (by decide) h.1 ⟨fun c => ?_, fun c => ?_⟩
    · replace h := h.2.1 c
      refine z_aloadR_n (i := 0) dX5_addSteps_34 rfl rfl ?_
      refine z_dup dX5_addSteps_35 (Nat.le_of_ble_eq_true rfl) ?_
      refine z_getI' 5 6 (idx := 22) (fv := (d 117 6)) ly117 (by decide) (by decide) rfl (show 117 < 166 by decide) wf_X5_22 dX5_addSteps_36 rfl ?_
      refine z_iconst dX5_addSteps_39 ?_
      refine z_iadd dX5_addSteps_40 ?_
      refine z_putI 5 6 (idx := 22) ly117 (by decide) (by decide) rfl (show 117 < 166 by decide) rfl wf_X5_22 dX5_addSteps_41 (Or.inl rfl) ?_
      generalize hd1 : mu d 117 ((6 : Nat) : Int) ((d 117 6) + 1) = d1
      replace hd1 : d1 = mu d 117 6 ((d 117 6) + 1) := hd1.symm
      replace h := h d1 hd1
      refine z_iinc (i := 3) (ls2 := [some (zR 117), some (zI x1), some (zI x2), some (zI (x3 + 1))]) dX5_addSteps_44 (by decide) rfl rfl ?_
      refine z_goto (tgt := 2) dX5_addSteps_47 (by decide) ?_
      exact h
    · replace h := h.2.2 c
      refine z_aloadR_n (i := 0) dX5_addSteps_14 rfl rfl ?_
      refine z_getI' 5 6 (idx := 22) (fv := (d 117 6)) ly117 (by decide) (by decide) rfl (show 117 < 166 by decide) wf_X5_22 dX5_addSteps_15 rfl ?_
      refine z_sipush dX5_addSteps_18 (by decide +kernel) ?_
      refine zb_icmp_ge (tgt := 34) dX5_addSteps_21 (by decide) ⟨h.1, by decide⟩ ⟨fun c => ?_, fun c => ?_⟩
      · replace h := h.2.1 c
        refine z_aloadR_n (i := 0) dX5_addSteps_34 rfl rfl ?_
        refine z_dup dX5_addSteps_35 (Nat.le_of_ble_eq_true rfl) ?_
        refine z_getI' 5 6 (idx := 22) (fv := (d 117 6)) ly117 (by decide) (by decide) rfl (show 117 < 166 by decide) wf_X5_22 dX5_addSteps_36 rfl ?_
        refine z_iconst dX5_addSteps_39 ?_
        refine z_iadd dX5_addSteps_40 ?_
        refine z_putI 5 6 (idx := 22) ly117 (by decide) (by decide) rfl (show 117 < 166 by decide) rfl wf_X5_22 dX5_addSteps_41 (Or.inl rfl) ?_
        generalize hd2 : mu d 117 ((6 : Nat) : Int) ((d 117 6) + 1) = d2
        replace hd2 : d2 = mu d 117 6 ((d 117 6) + 1) := hd2.symm
        replace h := h d2 hd2
        refine z_iinc (i := 3) (ls2 := [some (zR 117), some (zI x1), some (zI x2), some (zI (x3 + 1))]) dX5_addSteps_44 (by decide) rfl rfl ?_
        refine z_goto (tgt := 2) dX5_addSteps_47 (by decide) ?_
        exact h
      · replace h := h.2.2 c
        refine z_aloadR_n (i := 0) dX5_addSteps_24 rfl rfl ?_
        refine z_getR 5 1 (idx := 15) ly117 (by decide) (by decide) rfl (show 117 < 166 by decide) rfl rt_117_1 wf_X5_15 dX5_addSteps_25 ?_
        refine z_aloadR_n (i := 0) dX5_addSteps_28 rfl rfl ?_
        refine z_getI' 5 6 (idx := 22) (fv := (d 117 6)) ly117 (by decide) (by decide) rfl (show 117 < 166 by decide) wf_X5_22 dX5_addSteps_29 rfl ?_
        refine z_iload_n (i := 1) dX5_addSteps_32 rfl rfl ?_
        refine z_iastore ly119 (show 119 < 166 by decide) (by decide) dX5_addSteps_33 h.1 ?_
        replace h := h.2
        generalize hd3 : mu d 119 (d 117 6) x1 = d3
        replace hd3 := hd3.symm
        replace h := h d3 hd3
        refine z_aloadR_n (i := 0) dX5_addSteps_34 rfl rfl ?_
        refine z_dup dX5_addSteps_35 (Nat.le_of_ble_eq_true rfl) ?_
        refine z_getI' 5 6 (idx := 22) (fv := (d 117 6)) ly117 (by decide) (by decide) rfl (show 117 < 166 by decide) wf_X5_22 dX5_addSteps_36 (by show d3 117 6 = _; rw [hd3, mu_na (by omega)]) ?_
        refine z_iconst dX5_addSteps_39 ?_
        refine z_iadd dX5_addSteps_40 ?_
        refine z_putI 5 6 (idx := 22) ly117 (by decide) (by decide) rfl (show 117 < 166 by decide) rfl wf_X5_22 dX5_addSteps_41 (Or.inl rfl) ?_
        generalize hd4 : mu d3 117 ((6 : Nat) : Int) ((d 117 6) + 1) = d4
        replace hd4 : d4 = mu d3 117 6 ((d 117 6) + 1) := hd4.symm
        replace h := h d4 hd4
        refine z_iinc (i := 3) (ls2 := [some (zR 117), some (zI x1), some (zI x2), some (zI (x3 + 1))]) dX5_addSteps_44 (by decide) rfl rfl ?_
        refine z_goto (tgt := 2) dX5_addSteps_47 (by decide) ?_
        exact h
set_option maxRecDepth 20000 in
theorem v_X5_signAt_0 {g : zGG} {Q : Int → zMem → Prop} {d : zMem} {x1 : Int}  (h : ((inR x1) ∧ (x1 < 0 → Q 0 d) ∧ (0 ≤ x1 → ((inR x1 ∧ inR (d 117 2)) ∧ ((d 117 2) ≤ x1 → Q 0 d) ∧ (x1 < (d 117 2) → ((inR x1) ∧ (64 ≤ x1 → Q 0 d) ∧ (x1 < 64 → (0 ≤ x1 ∧ x1 < 64) ∧ Q (d 118 x1) d))))))) : Fr g (eM g M_X5_signAt FUL FUL Q) M_X5_signAt FUL 0 [some (zR 117), some (zI x1)] [] d := by
  refine z_iload_n (i := 1) dX5_signAt_0 rfl rfl ?_
  refine zb_if_lt (tgt := 27) dX5_signAt_1 (by decide) h.1 ⟨fun c => ?_, fun c => ?_⟩
  · replace h := h.2.1 c
    refine z_iconst dX5_signAt_27 ?_
    exact zret_i rfl dX5_signAt_28 h
  · replace h := h.2.2 c
    refine z_iload_n (i := 1) dX5_signAt_4 rfl rfl ?_
    refine z_aloadR_n (i := 0) dX5_signAt_5 rfl rfl ?_
    refine z_getI' 5 2 (idx := 18) (fv := (d 117 2)) ly117 (by decide) (by decide) rfl (show 117 < 166 by decide) wf_X5_18 dX5_signAt_6 rfl ?_
    refine zb_icmp_ge (tgt := 27) dX5_signAt_9 (by decide) h.1 ⟨fun c => ?_, fun c => ?_⟩
    · replace h := h.2.1 c
      refine z_iconst dX5_signAt_27 ?_
      exact zret_i rfl dX5_signAt_28 h
    · replace h := h.2.2 c
      refine z_iload_n (i := 1) dX5_signAt_12 rfl rfl ?_
      refine z_bipush dX5_signAt_13 (by decide +kernel) ?_
      refine zb_icmp_ge (tgt := 27) dX5_signAt_15 (by decide) ⟨h.1, by decide⟩ ⟨fun c => ?_, fun c => ?_⟩
      · replace h := h.2.1 c
        refine z_iconst dX5_signAt_27 ?_
        exact zret_i rfl dX5_signAt_28 h
      · replace h := h.2.2 c
        refine z_aloadR_n (i := 0) dX5_signAt_18 rfl rfl ?_
        refine z_getR 5 0 (idx := 11) ly117 (by decide) (by decide) rfl (show 117 < 166 by decide) rfl rt_117_0 wf_X5_11 dX5_signAt_19 ?_
        refine z_iload_n (i := 1) dX5_signAt_22 rfl rfl ?_
        refine z_iaload' (fv := (d 118 x1)) ly118 (show 118 < 166 by decide) (by decide) dX5_signAt_23 h.1 rfl ?_
        replace h := h.2
        refine z_goto (tgt := 28) dX5_signAt_24 (by decide) ?_
        exact zret_i rfl dX5_signAt_28 h
theorem e_X5_signAt {g : zGG} {Q : Int → zMem → Prop} {d : zMem} {x1 : Int} (h : ((inR x1) ∧ (x1 < 0 → Q 0 d) ∧ (0 ≤ x1 → ((inR x1 ∧ inR (d 117 2)) ∧ ((d 117 2) ≤ x1 → Q 0 d) ∧ (x1 < (d 117 2) → ((inR x1) ∧ (64 ≤ x1 → Q 0 d) ∧ (x1 < 64 → (0 ≤ x1 ∧ x1 < 64) ∧ Q (d 118 x1) d))))))) : Ev g M_X5_signAt FUL FUL [zR 117, zI x1] d Q :=
  Ev_of (by decide +kernel) (Nat.le_of_ble_eq_true rfl) (v_X5_signAt_0  h)
set_option maxRecDepth 20000 in
theorem v_X5_digitAt_0 {g : zGG} {Q : Int → zMem → Prop} {d : zMem} {x1 : Int}  (h : Ev g M_X5_signAt FUL FUL [zR 117, zI x1] d (fun v1 d1 => ((inR v1) ∧ (v1 < 48 → Q (-1) d1) ∧ (48 ≤ v1 → ((inR v1) ∧ (57 < v1 → Q (-1) d1) ∧ (v1 ≤ 57 → Q (v1 - 48) d1)))))) : Fr g (eM g M_X5_digitAt FUL FUL Q) M_X5_digitAt FUL 0 [some (zR 117), some (zI x1), none] [] d := by
  refine z_aloadR_n (i := 0) dX5_digitAt_0 rfl rfl ?_
  refine z_iload_n (i := 1) dX5_digitAt_1 rfl rfl ?_
  refine z_callVi (k' := M_X5_signAt) (As := [zI x1]) (st := []) dX5_digitAt_2 rfl ly117 (by decide) rfl (show 117 < 166 by decide) wm_X5_48 ok_X5_signAt okV_X5_signAt rfl (zroom_self (by decide) (by decide)) (Nat.le_of_ble_eq_true rfl) (Nat.le_refl _) rfl (Ev_mono h (fun v1 d1 h => ?_))
  refine z_istore_n (i := 2) (ls2 := [some (zR 117), some (zI x1), some (zI v1)]) dX5_digitAt_5 rfl (by decide) rfl ?_
  refine z_iload_n (i := 2) dX5_digitAt_6 rfl rfl ?_
  refine z_bipush dX5_digitAt_7 (by decide +kernel) ?_
  refine zb_icmp_lt (tgt := 25) dX5_digitAt_9 (by decide) ⟨h.1, by decide⟩ ⟨fun c => ?_, fun c => ?_⟩
  · replace h := h.2.1 c
    refine z_iconst dX5_digitAt_25 ?_
    exact zret_i rfl dX5_digitAt_26 h
  · replace h := h.2.2 c
    refine z_iload_n (i := 2) dX5_digitAt_12 rfl rfl ?_
    refine z_bipush dX5_digitAt_13 (by decide +kernel) ?_
    refine zb_icmp_gt (tgt := 25) dX5_digitAt_15 (by decide) ⟨h.1, by decide⟩ ⟨fun c => ?_, fun c => ?_⟩
    · replace h := h.2.1 c
      refine z_iconst dX5_digitAt_25 ?_
      exact zret_i rfl dX5_digitAt_26 h
    · replace h := h.2.2 c
      refine z_iload_n (i := 2) dX5_digitAt_18 rfl rfl ?_
      refine z_bipush dX5_digitAt_19 (by decide +kernel) ?_
      refine z_isub dX5_digitAt_21 ?_
      refine z_goto (tgt := 26) dX5_digitAt_22 (by decide) ?_
      exact zret_i rfl dX5_digitAt_26 h
theorem e_X5_digitAt {g : zGG} {Q : Int → zMem → Prop} {d : zMem} {x1 : Int} (h : Ev g M_X5_signAt FUL FUL [zR 117, zI x1] d (fun v1 d1 => ((inR v1) ∧ (v1 < 48 → Q (-1) d1) ∧ (48 ≤ v1 → ((inR v1) ∧ (57 < v1 → Q (-1) d1) ∧ (v1 ≤ 57 → Q (v1 - 48) d1)))))) : Ev g M_X5_digitAt FUL FUL [zR 117, zI x1] d Q :=
  Ev_of (by decide +kernel) (Nat.le_of_ble_eq_true rfl) (v_X5_digitAt_0  h)
set_option maxRecDepth 20000 in
theorem v_X5_wayAt_0 {g : zGG} {Q : Int → zMem → Prop} {d : zMem} {x1 : Int}  (h : Ev g M_X5_signAt FUL FUL [zR 117, zI x1] d (fun v1 d1 => ((inR v1) ∧ ((v1 ≠ 100 ∧ v1 ≠ 108 ∧ v1 ≠ 114 ∧ v1 ≠ 117) → Q (-1) d1) ∧ (v1 = 100 → Q 3 d1) ∧ (v1 = 108 → Q 2 d1) ∧ (v1 = 114 → Q 0 d1) ∧ (v1 = 117 → Q 1 d1)))) : Fr g (eM g M_X5_wayAt FUL FUL Q) M_X5_wayAt FUL 0 [some (zR 117), some (zI x1)] [] d := by
  refine z_aloadR_n (i := 0) dX5_wayAt_0 rfl rfl ?_
  refine z_iload_n (i := 1) dX5_wayAt_1 rfl rfl ?_
  refine z_callVi (k' := M_X5_signAt) (As := [zI x1]) (st := []) dX5_wayAt_2 rfl ly117 (by decide) rfl (show 117 < 166 by decide) wm_X5_48 ok_X5_signAt okV_X5_signAt rfl (zroom_self (by decide) (by decide)) (Nat.le_of_ble_eq_true rfl) (Nat.le_refl _) rfl (Ev_mono h (fun v1 d1 h => ?_))
  have hr := h.1
  rcases (show (v1 ≠ 100 ∧ v1 ≠ 108 ∧ v1 ≠ 114 ∧ v1 ≠ 117) ∨ v1 = 100 ∨ v1 = 108 ∨ v1 = 114 ∨ v1 = 117 by omega) with c | c | c | c | c
  · replace h := h.2.1 c
    refine z_lk (off := 51) (tgt := 56) dX5_wayAt_5 (by decide +kernel) hr (by rw [Op.lookupswitch.offset_cons, if_neg (by omega), Op.lookupswitch.offset_cons, if_neg (by omega), Op.lookupswitch.offset_cons, if_neg (by omega), Op.lookupswitch.offset_cons, if_neg (by omega)] <;> rfl) (by decide) ?_
    refine z_iconst dX5_wayAt_56 ?_
    exact zret_i rfl dX5_wayAt_57 h
  · replace h := h.2.2.1 c
    refine z_lk (off := 49) (tgt := 54) dX5_wayAt_5 (by decide +kernel) hr (by rw [c]; decide +kernel) (by decide) ?_
    refine z_iconst dX5_wayAt_54 ?_
    exact zret_i rfl dX5_wayAt_55 h
  · replace h := h.2.2.2.1 c
    refine z_lk (off := 47) (tgt := 52) dX5_wayAt_5 (by decide +kernel) hr (by rw [c]; decide +kernel) (by decide) ?_
    refine z_iconst dX5_wayAt_52 ?_
    exact zret_i rfl dX5_wayAt_53 h
  · replace h := h.2.2.2.2.1 c
    refine z_lk (off := 43) (tgt := 48) dX5_wayAt_5 (by decide +kernel) hr (by rw [c]; decide +kernel) (by decide) ?_
    refine z_iconst dX5_wayAt_48 ?_
    exact zret_i rfl dX5_wayAt_49 h
  · replace h := h.2.2.2.2.2 c
    refine z_lk (off := 45) (tgt := 50) dX5_wayAt_5 (by decide +kernel) hr (by rw [c]; decide +kernel) (by decide) ?_
    refine z_iconst dX5_wayAt_50 ?_
    exact zret_i rfl dX5_wayAt_51 h
theorem e_X5_wayAt {g : zGG} {Q : Int → zMem → Prop} {d : zMem} {x1 : Int} (h : Ev g M_X5_signAt FUL FUL [zR 117, zI x1] d (fun v1 d1 => ((inR v1) ∧ ((v1 ≠ 100 ∧ v1 ≠ 108 ∧ v1 ≠ 114 ∧ v1 ≠ 117) → Q (-1) d1) ∧ (v1 = 100 → Q 3 d1) ∧ (v1 = 108 → Q 2 d1) ∧ (v1 = 114 → Q 0 d1) ∧ (v1 = 117 → Q 1 d1)))) : Ev g M_X5_wayAt FUL FUL [zR 117, zI x1] d Q :=
  Ev_of (by decide +kernel) (Nat.le_of_ble_eq_true rfl) (v_X5_wayAt_0  h)
set_option maxRecDepth 20000 in
theorem v_X5_layCourse_0 {g : zGG} {Q : Int → zMem → Prop} {d : zMem} {a : Nat} (ha : isRiv a)  (h : Ev g M_X8_cellAt FUL FUL [zI (d 117 4), zI (d 117 5)] d (fun v1 d1 => Ev g M_X1_append FUL FUL [zR (a + 2), zI v1] d1 (fun v2 d2 => (Fr g (eM g M_X5_layCourse FUL FUL Q) M_X5_layCourse FUL 21 [some (zR 117), some (zR (a + 2)), some (zI v1), some (zI v2), some (zI 0)] [] d2)))) : Fr g (eM g M_X5_layCourse FUL FUL Q) M_X5_layCourse FUL 0 [some (zR 117), some (zR (a + 2)), none, none, none] [] d := by
  refine z_aloadR_n (i := 0) dX5_layCourse_0 rfl rfl ?_
  refine z_getI' 5 4 (idx := 34) (fv := (d 117 4)) ly117 (by decide) (by decide) rfl (show 117 < 166 by decide) wf_X5_34 dX5_layCourse_1 rfl ?_
  refine z_aloadR_n (i := 0) dX5_layCourse_4 rfl rfl ?_
  refine z_getI' 5 5 (idx := 37) (fv := (d 117 5)) ly117 (by decide) (by decide) rfl (show 117 < 166 by decide) wf_X5_37 dX5_layCourse_5 rfl ?_
  refine z_callSN (k' := M_X8_cellAt) (As := [zI (d 117 4), zI (d 117 5)]) (st := []) dX5_layCourse_8 rfl wm_X5_58 ok_X8_cellAt okS_X8_cellAt rfl (zroom_self (by decide) (by decide)) (Nat.le_of_ble_eq_true rfl) (Nat.le_refl _) (zEnd_i (Nat.le_refl _) rfl (fun _ _ q => q)) (Ev_mono h (fun v1 d1 h => ?_))
  refine z_istore_n (i := 2) (ls2 := [some (zR 117), some (zR (a + 2)), some (zI v1), none, none]) dX5_layCourse_11 rfl (by decide) rfl ?_
  refine z_aloadR_n (i := 1) dX5_layCourse_12 rfl rfl ?_
  refine z_iload_n (i := 2) dX5_layCourse_13 rfl rfl ?_
  refine z_callVi (k' := M_X1_append) (As := [zI v1]) (st := []) dX5_layCourse_14 rfl (rl2 ha) (by decide) rfl (rlt2 ha) wm_X5_62 ok_X1_append okV_X1_append rfl (zroom_self (by decide) (by decide)) (Nat.le_of_ble_eq_true rfl) (Nat.le_refl _) rfl (Ev_mono h (fun v2 d2 h => ?_))
  refine z_istore_n (i := 3) (ls2 := [some (zR 117), some (zR (a + 2)), some (zI v1), some (zI v2), none]) dX5_layCourse_17 rfl (by decide) rfl ?_
  refine z_iconst dX5_layCourse_18 ?_
  refine z_istore (i := 4) (ls2 := [some (zR 117), some (zR (a + 2)), some (zI v1), some (zI v2), some (zI 0)]) dX5_layCourse_19 (by decide) rfl ?_
  exact h
theorem e_X5_layCourse {g : zGG} {Q : Int → zMem → Prop} {d : zMem} {a : Nat} (ha : isRiv a) (h : Ev g M_X8_cellAt FUL FUL [zI (d 117 4), zI (d 117 5)] d (fun v1 d1 => Ev g M_X1_append FUL FUL [zR (a + 2), zI v1] d1 (fun v2 d2 => (Fr g (eM g M_X5_layCourse FUL FUL Q) M_X5_layCourse FUL 21 [some (zR 117), some (zR (a + 2)), some (zI v1), some (zI v2), some (zI 0)] [] d2)))) : Ev g M_X5_layCourse FUL FUL [zR 117, zR (a + 2)] d Q :=
  Ev_of (by decide +kernel) (Nat.le_of_ble_eq_true rfl) (v_X5_layCourse_0 ha h)
set_option maxRecDepth 20000 in
theorem v_X5_layCourse_21 {g : zGG} {Q : Int → zMem → Prop} {d : zMem} {a : Nat} (ha : isRiv a) {x2 : Int} {x3 : Int} {x4 : Int} (h : ((inR x3) ∧ (x3 = 0 → ((x3 = 0 ∨ x3 = 1) ∧ Q x3 d)) ∧ (x3 ≠ 0 → ((inR x4 ∧ inR (d 117 6)) ∧ ((d 117 6) ≤ x4 → ((x3 = 0 ∨ x3 = 1) ∧ Q x3 d)) ∧ (x4 < (d 117 6) → ((inR x4) ∧ (150 ≤ x4 → ((x3 = 0 ∨ x3 = 1) ∧ Q x3 d)) ∧ (x4 < 150 → (0 ≤ x4 ∧ x4 < 150) ∧ Ev g M_X8_beside FUL FUL [zI x2, zI (d 119 x4)] d (fun v1 d1 => Ev g M_X1_append FUL FUL [zR (a + 2), zI v1] d1 (fun v2 d2 => (Fr g (eM g M_X5_layCourse FUL FUL Q) M_X5_layCourse FUL 21 [some (zR 117), some (zR (a + 2)), some (zI v1), some (zI v2), some (zI (x4 + 1))] [] d2)))))))))) : Fr g (eM g M_X5_layCourse FUL FUL Q) M_X5_layCourse FUL 21 [some (zR 117), some (zR (a + 2)), some (zI x2), some (zI x3), some (zI x4)] [] d := by
  refine z_iload_n (i := 3) dX5_layCourse_21 rfl rfl ?_
  refine zb_if_eq (tgt := 66) dX5_layCourse_22 (by decide) h.1 ⟨fun c => ?_, fun c => ?_⟩
  · replace h := h.2.1 c
    refine z_iload_n (i := 3) dX5_layCourse_66 rfl rfl ?_
    exact zret_z rfl dX5_layCourse_67 h.1 h.2
  · replace h := h.2.2 c
    refine z_iload (i := 4) dX5_layCourse_25 rfl ?_
    refine z_aloadR_n (i := 0) dX5_layCourse_27 rfl rfl ?_
    refine z_getI' 5 6 (idx := 22) (fv := (d 117 6)) ly117 (by decide) (by decide) rfl (show 117 < 166 by decide) wf_X5_22 dX5_layCourse_28 rfl ?_
    refine zb_icmp_ge (tgt := 66) dX5_layCourse_31 (by decide) h.1 ⟨fun c => ?_, fun c => ?_⟩
    · replace h := h.2.1 c
      refine z_iload_n (i := 3) dX5_layCourse_66 rfl rfl ?_
      exact zret_z rfl dX5_layCourse_67 h.1 h.2
    · replace h := h.2.2 c
      refine z_iload (i := 4) dX5_layCourse_34 rfl ?_
      refine z_sipush dX5_layCourse_36 (by decide +kernel) ?_
      refine zb_icmp_ge (tgt := 66) dX5_layCourse_39 (by decide) ⟨h.1, by decide⟩ ⟨fun c => ?_, fun c => ?_⟩
      · replace h := h.2.1 c
        refine z_iload_n (i := 3) dX5_layCourse_66 rfl rfl ?_
        exact zret_z rfl dX5_layCourse_67 h.1 h.2
      · replace h := h.2.2 c
        refine z_iload_n (i := 2) dX5_layCourse_42 rfl rfl ?_
        refine z_aloadR_n (i := 0) dX5_layCourse_43 rfl rfl ?_
        refine z_getR 5 1 (idx := 15) ly117 (by decide) (by decide) rfl (show 117 < 166 by decide) rfl rt_117_1 wf_X5_15 dX5_layCourse_44 ?_
        refine z_iload (i := 4) dX5_layCourse_47 rfl ?_
        refine z_iaload' (fv := (d 119 x4)) ly119 (show 119 < 166 by decide) (by decide) dX5_layCourse_49 h.1 rfl ?_
        replace h := h.2
        refine z_callSN (k' := M_X8_beside) (As := [zI x2, zI (d 119 x4)]) (st := []) dX5_layCourse_50 rfl wm_X5_68 ok_X8_beside okS_X8_beside rfl (zroom_self (by decide) (by decide)) (Nat.le_of_ble_eq_true rfl) (Nat.le_refl _) (zEnd_i (Nat.le_refl _) rfl (fun _ _ q => q)) (Ev_mono h (fun v1 d1 h => ?_))
        refine z_istore_n (i := 2) (ls2 := [some (zR 117), some (zR (a + 2)), some (zI v1), some (zI x3), some (zI x4)]) dX5_layCourse_53 rfl (by decide) rfl ?_
        refine z_aloadR_n (i := 1) dX5_layCourse_54 rfl rfl ?_
        refine z_iload_n (i := 2) dX5_layCourse_55 rfl rfl ?_
        refine z_callVi (k' := M_X1_append) (As := [zI v1]) (st := []) dX5_layCourse_56 rfl (rl2 ha) (by decide) rfl (rlt2 ha) wm_X5_62 ok_X1_append okV_X1_append rfl (zroom_self (by decide) (by decide)) (Nat.le_of_ble_eq_true rfl) (Nat.le_refl _) rfl (Ev_mono h (fun v2 d2 h => ?_))
        refine z_istore_n (i := 3) (ls2 := [some (zR 117), some (zR (a + 2)), some (zI v1), some (zI v2), some (zI x4)]) dX5_layCourse_59 rfl (by decide) rfl ?_
        refine z_iinc (i := 4) (ls2 := [some (zR 117), some (zR (a + 2)), some (zI v1), some (zI v2), some (zI (x4 + 1))]) dX5_layCourse_60 (by decide) rfl rfl ?_
        refine z_goto (tgt := 21) dX5_layCourse_63 (by decide) ?_
        exact h
set_option maxRecDepth 20000 in
theorem v_X6_watch_0 {g : zGG} {Q : Int → zMem → Prop} {d : zMem} {x1 : Int}  (h : ∀ d1, d1 = mu d 120 2 x1 → ∀ d2, d2 = mu d1 120 3 0 → Q 0 d2) : Fr g (eM g M_X6_watch FUL FUL Q) M_X6_watch FUL 0 [some (zR 120), some (zI x1)] [] d := by
  refine z_aloadR_n (i := 0) dX6_watch_0 rfl rfl ?_
  refine z_iload_n (i := 1) dX6_watch_1 rfl rfl ?_
  refine z_putI 6 2 (idx := 25) ly120 (by decide) (by decide) rfl (show 120 < 166 by decide) rfl wf_X6_25 dX6_watch_2 (Or.inl rfl) ?_
  generalize hd1 : mu d 120 ((2 : Nat) : Int) x1 = d1
  replace hd1 : d1 = mu d 120 2 x1 := hd1.symm
  replace h := h d1 hd1
  refine z_aloadR_n (i := 0) dX6_watch_5 rfl rfl ?_
  refine z_iconst dX6_watch_6 ?_
  refine z_putI 6 3 (idx := 29) ly120 (by decide) (by decide) rfl (show 120 < 166 by decide) rfl wf_X6_29 dX6_watch_7 (Or.inr ⟨rfl, by decide⟩) ?_
  generalize hd2 : mu d1 120 ((3 : Nat) : Int) 0 = d2
  replace hd2 : d2 = mu d1 120 3 0 := hd2.symm
  replace h := h d2 hd2
  exact zret_v rfl dX6_watch_10 h
theorem e_X6_watch {g : zGG} {Q : Int → zMem → Prop} {d : zMem} {x1 : Int} (h : ∀ d1, d1 = mu d 120 2 x1 → ∀ d2, d2 = mu d1 120 3 0 → Q 0 d2) : Ev g M_X6_watch FUL FUL [zR 120, zI x1] d Q :=
  Ev_of (by decide +kernel) (Nat.le_of_ble_eq_true rfl) (v_X6_watch_0  h)
set_option maxRecDepth 20000 in
theorem v_X6_passYear_0 {g : zGG} {Q : Int → zMem → Prop} {d : zMem} {a : Nat} (ha : isRiv a)  (h : Ev g M_X7_hasFlood FUL FUL [zR a, zI (d a 8)] d (fun v1 d1 => Ev g M_X6_wearBanks FUL FUL [zR 120, zR a, zI v1] d1 (fun _ d2 => Ev g M_X6_growBends FUL FUL [zR 120, zR a] d2 (fun _ d3 => Ev g M_X7_agePairs FUL FUL [zR a] d3 (fun _ d4 => Ev g M_X6_cutNecks FUL FUL [zR 120, zR a, zI v1] d4 (fun _ d5 => Ev g M_X7_setting FUL FUL [zR a, zI 3] d5 (fun v2 d6 => Ev g M_X4_passYear FUL FUL [zR (a + 5), zI v2] d6 (fun _ d7 => ∀ d8, d8 = mu d7 a 8 ((d7 a 8) + 1) → Q 0 d8)))))))) : Fr g (eM g M_X6_passYear FUL FUL Q) M_X6_passYear FUL 0 [some (zR 120), some (zR a), none] [] d := by
  refine z_aloadR_n (i := 1) dX6_passYear_0 rfl rfl ?_
  refine z_aloadR_n (i := 1) dX6_passYear_1 rfl rfl ?_
  refine z_getIN' 7 8 (idx := 33) (fv := (d a 8)) (rl0 ha) (by decide) (by decide) rfl (rlt0 ha) wf_X6_33 dX6_passYear_2 rfl ?_
  refine z_callVi (k' := M_X7_hasFlood) (As := [zI (d a 8)]) (st := []) dX6_passYear_5 rfl (rl0 ha) (by decide) rfl (rlt0 ha) wm_X6_38 ok_X7_hasFlood okV_X7_hasFlood rfl (zroom_self (by decide) (by decide)) (Nat.le_of_ble_eq_true rfl) (Nat.le_refl _) rfl (Ev_mono h (fun v1 d1 h => ?_))
  refine z_istore_n (i := 2) (ls2 := [some (zR 120), some (zR a), some (zI v1)]) dX6_passYear_8 rfl (by decide) rfl ?_
  refine z_aloadR_n (i := 0) dX6_passYear_9 rfl rfl ?_
  refine z_aloadR_n (i := 1) dX6_passYear_10 rfl rfl ?_
  refine z_iload_n (i := 2) dX6_passYear_11 rfl rfl ?_
  refine z_callVv (k' := M_X6_wearBanks) (As := [zR a, zI v1]) (st := []) dX6_passYear_12 rfl ly120 (by decide) rfl (show 120 < 166 by decide) wm_X6_42 ok_X6_wearBanks okV_X6_wearBanks rfl (zroom_self (by decide) (by decide)) (Nat.le_of_ble_eq_true rfl) (Nat.le_refl _) rfl (Ev_mono h (fun _ d2 h => ?_))
  refine z_aloadR_n (i := 0) dX6_passYear_15 rfl rfl ?_
  refine z_aloadR_n (i := 1) dX6_passYear_16 rfl rfl ?_
  refine z_callVv (k' := M_X6_growBends) (As := [zR a]) (st := []) dX6_passYear_17 rfl ly120 (by decide) rfl (show 120 < 166 by decide) wm_X6_46 ok_X6_growBends okV_X6_growBends rfl (zroom_self (by decide) (by decide)) (Nat.le_of_ble_eq_true rfl) (Nat.le_refl _) rfl (Ev_mono h (fun _ d3 h => ?_))
  refine z_aloadR_n (i := 1) dX6_passYear_20 rfl rfl ?_
  refine z_callVv (k' := M_X7_agePairs) (As := []) (st := []) dX6_passYear_21 rfl (rl0 ha) (by decide) rfl (rlt0 ha) wm_X6_50 ok_X7_agePairs okV_X7_agePairs rfl (zroom_self (by decide) (by decide)) (Nat.le_of_ble_eq_true rfl) (Nat.le_refl _) rfl (Ev_mono h (fun _ d4 h => ?_))
  refine z_aloadR_n (i := 0) dX6_passYear_24 rfl rfl ?_
  refine z_aloadR_n (i := 1) dX6_passYear_25 rfl rfl ?_
  refine z_iload_n (i := 2) dX6_passYear_26 rfl rfl ?_
  refine z_callVv (k' := M_X6_cutNecks) (As := [zR a, zI v1]) (st := []) dX6_passYear_27 rfl ly120 (by decide) rfl (show 120 < 166 by decide) wm_X6_53 ok_X6_cutNecks okV_X6_cutNecks rfl (zroom_self (by decide) (by decide)) (Nat.le_of_ble_eq_true rfl) (Nat.le_refl _) rfl (Ev_mono h (fun _ d5 h => ?_))
  refine z_aloadR_n (i := 1) dX6_passYear_30 rfl rfl ?_
  refine z_getRN 7 2 (idx := 56) (rl0 ha) (by decide) (by decide) rfl (rlt0 ha) rfl (rt0_2 ha) wf_X6_56 dX6_passYear_31 ?_
  refine z_aloadR_n (i := 1) dX6_passYear_34 rfl rfl ?_
  refine z_iconst dX6_passYear_35 ?_
  refine z_callVi (k' := M_X7_setting) (As := [zI 3]) (st := [zR (a + 5)]) dX6_passYear_36 rfl (rl0 ha) (by decide) rfl (rlt0 ha) wm_X6_60 ok_X7_setting okV_X7_setting rfl (zroom_self (by decide) (by decide)) (Nat.le_of_ble_eq_true rfl) (Nat.le_refl _) rfl (Ev_mono h (fun v2 d6 h => ?_))
  refine z_callVv (k' := M_X4_passYear) (As := [zI v2]) (st := []) dX6_passYear_39 rfl (rl5 ha) (by decide) rfl (rlt5 ha) wm_X6_64 ok_X4_passYear okV_X4_passYear rfl (zroom_self (by decide) (by decide)) (Nat.le_of_ble_eq_true rfl) (Nat.le_refl _) rfl (Ev_mono h (fun _ d7 h => ?_))
  refine z_aloadR_n (i := 1) dX6_passYear_42 rfl rfl ?_
  refine z_dup dX6_passYear_43 (Nat.le_of_ble_eq_true rfl) ?_
  refine z_getIN' 7 8 (idx := 33) (fv := (d7 a 8)) (rl0 ha) (by decide) (by decide) rfl (rlt0 ha) wf_X6_33 dX6_passYear_44 rfl ?_
  refine z_iconst dX6_passYear_47 ?_
  refine z_iadd dX6_passYear_48 ?_
  refine z_putIN 7 8 (idx := 33) (rl0 ha) (by decide) (by decide) rfl (rlt0 ha) rfl wf_X6_33 dX6_passYear_49 (Or.inl rfl) ?_
  generalize hd8 : mu d7 a ((8 : Nat) : Int) ((d7 a 8) + 1) = d8
  replace hd8 : d8 = mu d7 a 8 ((d7 a 8) + 1) := hd8.symm
  replace h := h d8 hd8
  exact zret_v rfl dX6_passYear_52 h
theorem e_X6_passYear {g : zGG} {Q : Int → zMem → Prop} {d : zMem} {a : Nat} (ha : isRiv a) (h : Ev g M_X7_hasFlood FUL FUL [zR a, zI (d a 8)] d (fun v1 d1 => Ev g M_X6_wearBanks FUL FUL [zR 120, zR a, zI v1] d1 (fun _ d2 => Ev g M_X6_growBends FUL FUL [zR 120, zR a] d2 (fun _ d3 => Ev g M_X7_agePairs FUL FUL [zR a] d3 (fun _ d4 => Ev g M_X6_cutNecks FUL FUL [zR 120, zR a, zI v1] d4 (fun _ d5 => Ev g M_X7_setting FUL FUL [zR a, zI 3] d5 (fun v2 d6 => Ev g M_X4_passYear FUL FUL [zR (a + 5), zI v2] d6 (fun _ d7 => ∀ d8, d8 = mu d7 a 8 ((d7 a 8) + 1) → Q 0 d8)))))))) : Ev g M_X6_passYear FUL FUL [zR 120, zR a] d Q :=
  Ev_of (by decide +kernel) (Nat.le_of_ble_eq_true rfl) (v_X6_passYear_0 ha h)
set_option maxRecDepth 20000 in
theorem v_X6_wearBanks_0 {g : zGG} {Q : Int → zMem → Prop} {d : zMem} {a : Nat} {x2 : Int} (ha : isRiv a)  (h : Ev g M_X7_setting FUL FUL [zR a, zI 0] d (fun v1 d1 => ((inR x2) ∧ (x2 = 0 → (Fr g (eM g M_X6_wearBanks FUL FUL Q) M_X6_wearBanks FUL 22 [some (zR 120), some (zR a), some (zI x2), some (zI (v1 * 1)), some (zI 0), some (zI 0)] [] d1)) ∧ (x2 ≠ 0 → (Fr g (eM g M_X6_wearBanks FUL FUL Q) M_X6_wearBanks FUL 22 [some (zR 120), some (zR a), some (zI x2), some (zI (v1 * 2)), some (zI 0), some (zI 0)] [] d1))))) : Fr g (eM g M_X6_wearBanks FUL FUL Q) M_X6_wearBanks FUL 0 [some (zR 120), some (zR a), some (zI x2), none, none, none] [] d := by
  refine z_aloadR_n (i := 1) dX6_wearBanks_0 rfl rfl ?_
  refine z_iconst dX6_wearBanks_1 ?_
  refine z_callVi (k' := M_X7_setting) (As := [zI 0]) (st := []) dX6_wearBanks_2 rfl (rl0 ha) (by decide) rfl (rlt0 ha) wm_X6_60 ok_X7_setting okV_X7_setting rfl (zroom_self (by decide) (by decide)) (Nat.le_of_ble_eq_true rfl) (Nat.le_refl _) rfl (Ev_mono h (fun v1 d1 h => ?_))
  refine z_iload_n (i := 2) dX6_wearBanks_5 rfl rfl ?_
  refine zb_if_eq (tgt := 13) dX6_wearBanks_6 (by decide) h.1 ⟨fun c => ?_, fun c => ?_⟩
  · replace h := h.2.1 c
    refine z_iconst dX6_wearBanks_13 ?_
    refine z_imul dX6_wearBanks_14 ?_
    refine z_istore_n (i := 3) (ls2 := [some (zR 120), some (zR a), some (zI x2), some (zI (v1 * 1)), none, none]) dX6_wearBanks_15 rfl (by decide) rfl ?_
    refine z_iconst dX6_wearBanks_16 ?_
    refine z_istore (i := 4) (ls2 := [some (zR 120), some (zR a), some (zI x2), some (zI (v1 * 1)), some (zI 0), none]) dX6_wearBanks_17 (by decide) rfl ?_
    refine z_iconst dX6_wearBanks_19 ?_
    refine z_istore (i := 5) (ls2 := [some (zR 120), some (zR a), some (zI x2), some (zI (v1 * 1)), some (zI 0), some (zI 0)]) dX6_wearBanks_20 (by decide) rfl ?_
    exact h
  · replace h := h.2.2 c
    refine z_iconst dX6_wearBanks_9 ?_
    refine z_goto (tgt := 14) dX6_wearBanks_10 (by decide) ?_
    refine z_imul dX6_wearBanks_14 ?_
    refine z_istore_n (i := 3) (ls2 := [some (zR 120), some (zR a), some (zI x2), some (zI (v1 * 2)), none, none]) dX6_wearBanks_15 rfl (by decide) rfl ?_
    refine z_iconst dX6_wearBanks_16 ?_
    refine z_istore (i := 4) (ls2 := [some (zR 120), some (zR a), some (zI x2), some (zI (v1 * 2)), some (zI 0), none]) dX6_wearBanks_17 (by decide) rfl ?_
    refine z_iconst dX6_wearBanks_19 ?_
    refine z_istore (i := 5) (ls2 := [some (zR 120), some (zR a), some (zI x2), some (zI (v1 * 2)), some (zI 0), some (zI 0)]) dX6_wearBanks_20 (by decide) rfl ?_
    exact h
theorem e_X6_wearBanks {g : zGG} {Q : Int → zMem → Prop} {d : zMem} {a : Nat} {x2 : Int} (ha : isRiv a) (h : Ev g M_X7_setting FUL FUL [zR a, zI 0] d (fun v1 d1 => ((inR x2) ∧ (x2 = 0 → (Fr g (eM g M_X6_wearBanks FUL FUL Q) M_X6_wearBanks FUL 22 [some (zR 120), some (zR a), some (zI x2), some (zI (v1 * 1)), some (zI 0), some (zI 0)] [] d1)) ∧ (x2 ≠ 0 → (Fr g (eM g M_X6_wearBanks FUL FUL Q) M_X6_wearBanks FUL 22 [some (zR 120), some (zR a), some (zI x2), some (zI (v1 * 2)), some (zI 0), some (zI 0)] [] d1))))) : Ev g M_X6_wearBanks FUL FUL [zR 120, zR a, zI x2] d Q :=
  Ev_of (by decide +kernel) (Nat.le_of_ble_eq_true rfl) (v_X6_wearBanks_0 ha h)
set_option maxRecDepth 20000 in
theorem v_X6_wearBanks_22 {g : zGG} {Q : Int → zMem → Prop} {d : zMem} {a : Nat} {x2 : Int} (ha : isRiv a) {x3 : Int} {x4 : Int} {x5 : Int} (h : ((inR x5) ∧ (150 ≤ x5 → Q 0 d) ∧ (x5 < 150 → Ev g M_X0_seekFrom FUL FUL [zR 121, zR (a + 2), zI x4] d (fun v1 d1 => ((inR v1) ∧ (v1 = 0 → Q 0 d1) ∧ (v1 ≠ 0 → Ev g M_X7_isFirm FUL FUL [zR a, zR 121] d1 (fun v2 d2 => ((inR v2) ∧ (v2 ≠ 0 → (Fr g (eM g M_X6_wearBanks FUL FUL Q) M_X6_wearBanks FUL 22 [some (zR 120), some (zR a), some (zI x2), some (zI x3), some (zI ((d2 121 0) + 1)), some (zI (x5 + 1))] [] d2)) ∧ (v2 = 0 → Ev g M_X7_wearBank FUL FUL [zR a, zR 121, zI x3] d2 (fun _ d3 => (Fr g (eM g M_X6_wearBanks FUL FUL Q) M_X6_wearBanks FUL 22 [some (zR 120), some (zR a), some (zI x2), some (zI x3), some (zI ((d3 121 0) + 1)), some (zI (x5 + 1))] [] d3))))))))))) : Fr g (eM g M_X6_wearBanks FUL FUL Q) M_X6_wearBanks FUL 22 [some (zR 120), some (zR a), some (zI x2), some (zI x3), some (zI x4), some (zI x5)] [] d := by
  refine z_iload (i := 5) dX6_wearBanks_22 rfl ?_
  refine z_sipush dX6_wearBanks_24 (by decide +kernel) ?_
  refine zb_icmp_ge (tgt := 83) dX6_wearBanks_27 (by decide) ⟨h.1, by decide⟩ ⟨fun c => ?_, fun c => ?_⟩
  · replace h := h.2.1 c
    exact zret_v rfl dX6_wearBanks_83 h
  · replace h := h.2.2 c
    refine z_aloadR_n (i := 0) dX6_wearBanks_30 rfl rfl ?_
    refine z_getR 6 0 (idx := 12) ly120 (by decide) (by decide) rfl (show 120 < 166 by decide) rfl rt_120_0 wf_X6_12 dX6_wearBanks_31 ?_
    refine z_aloadR_n (i := 1) dX6_wearBanks_34 rfl rfl ?_
    refine z_getRN 7 1 (idx := 70) (rl0 ha) (by decide) (by decide) rfl (rlt0 ha) rfl (rt0_1 ha) wf_X6_70 dX6_wearBanks_35 ?_
    refine z_iload (i := 4) dX6_wearBanks_38 rfl ?_
    refine z_callVi (k' := M_X0_seekFrom) (As := [zR (a + 2), zI x4]) (st := []) dX6_wearBanks_40 rfl ly121 (by decide) rfl (show 121 < 166 by decide) wm_X6_74 ok_X0_seekFrom okV_X0_seekFrom rfl (zroom_self (by decide) (by decide)) (Nat.le_of_ble_eq_true rfl) (Nat.le_refl _) rfl (Ev_mono h (fun v1 d1 h => ?_))
    refine zb_if_eq (tgt := 83) dX6_wearBanks_43 (by decide) h.1 ⟨fun c => ?_, fun c => ?_⟩
    · replace h := h.2.1 c
      exact zret_v rfl dX6_wearBanks_83 h
    · replace h := h.2.2 c
      refine z_aloadR_n (i := 1) dX6_wearBanks_46 rfl rfl ?_
      refine z_aloadR_n (i := 0) dX6_wearBanks_47 rfl rfl ?_
      refine z_getR 6 0 (idx := 12) ly120 (by decide) (by decide) rfl (show 120 < 166 by decide) rfl rt_120_0 wf_X6_12 dX6_wearBanks_48 ?_
      refine z_callVi (k' := M_X7_isFirm) (As := [zR 121]) (st := []) dX6_wearBanks_51 rfl (rl0 ha) (by decide) rfl (rlt0 ha) wm_X6_78 ok_X7_isFirm okV_X7_isFirm rfl (zroom_self (by decide) (by decide)) (Nat.le_of_ble_eq_true rfl) (Nat.le_refl _) rfl (Ev_mono h (fun v2 d2 h => ?_))
      refine zb_if_ne (tgt := 66) dX6_wearBanks_54 (by decide) h.1 ⟨fun c => ?_, fun c => ?_⟩
      · replace h := h.2.1 c
        refine z_aloadR_n (i := 0) dX6_wearBanks_66 rfl rfl ?_
        refine z_getR 6 0 (idx := 12) ly120 (by decide) (by decide) rfl (show 120 < 166 by decide) rfl rt_120_0 wf_X6_12 dX6_wearBanks_67 ?_
        refine z_getIN' 0 0 (idx := 86) (fv := (d2 121 0)) ly121 (by decide) (by decide) rfl (show 121 < 166 by decide) wf_X6_86 dX6_wearBanks_70 rfl ?_
        refine z_iconst dX6_wearBanks_73 ?_
        refine z_iadd dX6_wearBanks_74 ?_
        refine z_istore (i := 4) (ls2 := [some (zR 120), some (zR a), some (zI x2), some (zI x3), some (zI ((d2 121 0) + 1)), some (zI x5)]) dX6_wearBanks_75 (by decide) rfl ?_
        refine z_iinc (i := 5) (ls2 := [some (zR 120), some (zR a), some (zI x2), some (zI x3), some (zI ((d2 121 0) + 1)), some (zI (x5 + 1))]) dX6_wearBanks_77 (by decide) rfl rfl ?_
        refine z_goto (tgt := 22) dX6_wearBanks_80 (by decide) ?_
        exact h
      · replace h := h.2.2 c
        refine z_aloadR_n (i := 1) dX6_wearBanks_57 rfl rfl ?_
        refine z_aloadR_n (i := 0) dX6_wearBanks_58 rfl rfl ?_
        refine z_getR 6 0 (idx := 12) ly120 (by decide) (by decide) rfl (show 120 < 166 by decide) rfl rt_120_0 wf_X6_12 dX6_wearBanks_59 ?_
        refine z_iload_n (i := 3) dX6_wearBanks_62 rfl rfl ?_
        refine z_callVv (k' := M_X7_wearBank) (As := [zR 121, zI x3]) (st := []) dX6_wearBanks_63 rfl (rl0 ha) (by decide) rfl (rlt0 ha) wm_X6_82 ok_X7_wearBank okV_X7_wearBank rfl (zroom_self (by decide) (by decide)) (Nat.le_of_ble_eq_true rfl) (Nat.le_refl _) rfl (Ev_mono h (fun _ d3 h => ?_))
        refine z_aloadR_n (i := 0) dX6_wearBanks_66 rfl rfl ?_
        refine z_getR 6 0 (idx := 12) ly120 (by decide) (by decide) rfl (show 120 < 166 by decide) rfl rt_120_0 wf_X6_12 dX6_wearBanks_67 ?_
        refine z_getIN' 0 0 (idx := 86) (fv := (d3 121 0)) ly121 (by decide) (by decide) rfl (show 121 < 166 by decide) wf_X6_86 dX6_wearBanks_70 rfl ?_
        refine z_iconst dX6_wearBanks_73 ?_
        refine z_iadd dX6_wearBanks_74 ?_
        refine z_istore (i := 4) (ls2 := [some (zR 120), some (zR a), some (zI x2), some (zI x3), some (zI ((d3 121 0) + 1)), some (zI x5)]) dX6_wearBanks_75 (by decide) rfl ?_
        refine z_iinc (i := 5) (ls2 := [some (zR 120), some (zR a), some (zI x2), some (zI x3), some (zI ((d3 121 0) + 1)), some (zI (x5 + 1))]) dX6_wearBanks_77 (by decide) rfl rfl ?_
        refine z_goto (tgt := 22) dX6_wearBanks_80 (by decide) ?_
        exact h
set_option maxRecDepth 20000 in
theorem v_X6_growBends_0 {g : zGG} {Q : Int → zMem → Prop} {d : zMem} {a : Nat} (ha : isRiv a)  (h : (Fr g (eM g M_X6_growBends FUL FUL Q) M_X6_growBends FUL 4 [some (zR 120), some (zR a), some (zI 0), some (zI 0)] [] d)) : Fr g (eM g M_X6_growBends FUL FUL Q) M_X6_growBends FUL 0 [some (zR 120), some (zR a), none, none] [] d := by
  refine z_iconst dX6_growBends_0 ?_
  refine z_istore_n (i := 2) (ls2 := [some (zR 120), some (zR a), some (zI 0), none]) dX6_growBends_1 rfl (by decide) rfl ?_
  refine z_iconst dX6_growBends_2 ?_
  refine z_istore_n (i := 3) (ls2 := [some (zR 120), some (zR a), some (zI 0), some (zI 0)]) dX6_growBends_3 rfl (by decide) rfl ?_
  exact h
theorem e_X6_growBends {g : zGG} {Q : Int → zMem → Prop} {d : zMem} {a : Nat} (ha : isRiv a) (h : (Fr g (eM g M_X6_growBends FUL FUL Q) M_X6_growBends FUL 4 [some (zR 120), some (zR a), some (zI 0), some (zI 0)] [] d)) : Ev g M_X6_growBends FUL FUL [zR 120, zR a] d Q :=
  Ev_of (by decide +kernel) (Nat.le_of_ble_eq_true rfl) (v_X6_growBends_0 ha h)
set_option maxRecDepth 20000 in
theorem v_X6_growBends_4 {g : zGG} {Q : Int → zMem → Prop} {d : zMem} {a : Nat} (ha : isRiv a) {x2 : Int} {x3 : Int} (h : ((inR x3) ∧ (150 ≤ x3 → Q 0 d) ∧ (x3 < 150 → Ev g M_X0_seekFrom FUL FUL [zR 121, zR (a + 2), zI x2] d (fun v1 d1 => ((inR v1) ∧ (v1 = 0 → Q 0 d1) ∧ (v1 ≠ 0 → Ev g M_X7_canGrow FUL FUL [zR a, zR 121] d1 (fun v2 d2 => ((inR v2) ∧ (v2 = 0 → (Fr g (eM g M_X6_growBends FUL FUL Q) M_X6_growBends FUL 4 [some (zR 120), some (zR a), some (zI ((d2 121 0) + 1)), some (zI (x3 + 1))] [] d2)) ∧ (v2 ≠ 0 → Ev g M_X6_noteTaken FUL FUL [zR 120, zR a] d2 (fun _ d3 => Ev g M_X7_growBend FUL FUL [zR a, zR 121] d3 (fun _ d4 => (Fr g (eM g M_X6_growBends FUL FUL Q) M_X6_growBends FUL 4 [some (zR 120), some (zR a), some (zI ((d4 121 1) + 2)), some (zI (x3 + 1))] [] d4)))))))))))) : Fr g (eM g M_X6_growBends FUL FUL Q) M_X6_growBends FUL 4 [some (zR 120), some (zR a), some (zI x2), some (zI x3)] [] d := by
  refine z_iload_n (i := 3) dX6_growBends_4 rfl rfl ?_
  refine z_sipush dX6_growBends_5 (by decide +kernel) ?_
  refine zb_icmp_ge (tgt := 79) dX6_growBends_8 (by decide) ⟨h.1, by decide⟩ ⟨fun c => ?_, fun c => ?_⟩
  · replace h := h.2.1 c
    exact zret_v rfl dX6_growBends_79 h
  · replace h := h.2.2 c
    refine z_aloadR_n (i := 0) dX6_growBends_11 rfl rfl ?_
    refine z_getR 6 0 (idx := 12) ly120 (by decide) (by decide) rfl (show 120 < 166 by decide) rfl rt_120_0 wf_X6_12 dX6_growBends_12 ?_
    refine z_aloadR_n (i := 1) dX6_growBends_15 rfl rfl ?_
    refine z_getRN 7 1 (idx := 70) (rl0 ha) (by decide) (by decide) rfl (rlt0 ha) rfl (rt0_1 ha) wf_X6_70 dX6_growBends_16 ?_
    refine z_iload_n (i := 2) dX6_growBends_19 rfl rfl ?_
    refine z_callVi (k' := M_X0_seekFrom) (As := [zR (a + 2), zI x2]) (st := []) dX6_growBends_20 rfl ly121 (by decide) rfl (show 121 < 166 by decide) wm_X6_74 ok_X0_seekFrom okV_X0_seekFrom rfl (zroom_self (by decide) (by decide)) (Nat.le_of_ble_eq_true rfl) (Nat.le_refl _) rfl (Ev_mono h (fun v1 d1 h => ?_))
    refine zb_if_eq (tgt := 79) dX6_growBends_23 (by decide) h.1 ⟨fun c => ?_, fun c => ?_⟩
    · replace h := h.2.1 c
      exact zret_v rfl dX6_growBends_79 h
    · replace h := h.2.2 c
      refine z_aloadR_n (i := 1) dX6_growBends_26 rfl rfl ?_
      refine z_aloadR_n (i := 0) dX6_growBends_27 rfl rfl ?_
      refine z_getR 6 0 (idx := 12) ly120 (by decide) (by decide) rfl (show 120 < 166 by decide) rfl rt_120_0 wf_X6_12 dX6_growBends_28 ?_
      refine z_callVi (k' := M_X7_canGrow) (As := [zR 121]) (st := []) dX6_growBends_31 rfl (rl0 ha) (by decide) rfl (rlt0 ha) wm_X6_89 ok_X7_canGrow okV_X7_canGrow rfl (zroom_self (by decide) (by decide)) (Nat.le_of_ble_eq_true rfl) (Nat.le_refl _) rfl (Ev_mono h (fun v2 d2 h => ?_))
      refine zb_if_eq (tgt := 63) dX6_growBends_34 (by decide) h.1 ⟨fun c => ?_, fun c => ?_⟩
      · replace h := h.2.1 c
        refine z_aloadR_n (i := 0) dX6_growBends_63 rfl rfl ?_
        refine z_getR 6 0 (idx := 12) ly120 (by decide) (by decide) rfl (show 120 < 166 by decide) rfl rt_120_0 wf_X6_12 dX6_growBends_64 ?_
        refine z_getIN' 0 0 (idx := 86) (fv := (d2 121 0)) ly121 (by decide) (by decide) rfl (show 121 < 166 by decide) wf_X6_86 dX6_growBends_67 rfl ?_
        refine z_iconst dX6_growBends_70 ?_
        refine z_iadd dX6_growBends_71 ?_
        refine z_istore_n (i := 2) (ls2 := [some (zR 120), some (zR a), some (zI ((d2 121 0) + 1)), some (zI x3)]) dX6_growBends_72 rfl (by decide) rfl ?_
        refine z_iinc (i := 3) (ls2 := [some (zR 120), some (zR a), some (zI ((d2 121 0) + 1)), some (zI (x3 + 1))]) dX6_growBends_73 (by decide) rfl rfl ?_
        refine z_goto (tgt := 4) dX6_growBends_76 (by decide) ?_
        exact h
      · replace h := h.2.2 c
        refine z_aloadR_n (i := 0) dX6_growBends_37 rfl rfl ?_
        refine z_aloadR_n (i := 1) dX6_growBends_38 rfl rfl ?_
        refine z_callVv (k' := M_X6_noteTaken) (As := [zR a]) (st := []) dX6_growBends_39 rfl ly120 (by decide) rfl (show 120 < 166 by decide) wm_X6_92 ok_X6_noteTaken okV_X6_noteTaken rfl (zroom_self (by decide) (by decide)) (Nat.le_of_ble_eq_true rfl) (Nat.le_refl _) rfl (Ev_mono h (fun _ d3 h => ?_))
        refine z_aloadR_n (i := 1) dX6_growBends_42 rfl rfl ?_
        refine z_aloadR_n (i := 0) dX6_growBends_43 rfl rfl ?_
        refine z_getR 6 0 (idx := 12) ly120 (by decide) (by decide) rfl (show 120 < 166 by decide) rfl rt_120_0 wf_X6_12 dX6_growBends_44 ?_
        refine z_callVv (k' := M_X7_growBend) (As := [zR 121]) (st := []) dX6_growBends_47 rfl (rl0 ha) (by decide) rfl (rlt0 ha) wm_X6_95 ok_X7_growBend okV_X7_growBend rfl (zroom_self (by decide) (by decide)) (Nat.le_of_ble_eq_true rfl) (Nat.le_refl _) rfl (Ev_mono h (fun _ d4 h => ?_))
        refine z_aloadR_n (i := 0) dX6_growBends_50 rfl rfl ?_
        refine z_getR 6 0 (idx := 12) ly120 (by decide) (by decide) rfl (show 120 < 166 by decide) rfl rt_120_0 wf_X6_12 dX6_growBends_51 ?_
        refine z_getIN' 0 1 (idx := 99) (fv := (d4 121 1)) ly121 (by decide) (by decide) rfl (show 121 < 166 by decide) wf_X6_99 dX6_growBends_54 rfl ?_
        refine z_iconst dX6_growBends_57 ?_
        refine z_iadd dX6_growBends_58 ?_
        refine z_istore_n (i := 2) (ls2 := [some (zR 120), some (zR a), some (zI ((d4 121 1) + 2)), some (zI x3)]) dX6_growBends_59 rfl (by decide) rfl ?_
        refine z_goto (tgt := 73) dX6_growBends_60 (by decide) ?_
        refine z_iinc (i := 3) (ls2 := [some (zR 120), some (zR a), some (zI ((d4 121 1) + 2)), some (zI (x3 + 1))]) dX6_growBends_73 (by decide) rfl rfl ?_
        refine z_goto (tgt := 4) dX6_growBends_76 (by decide) ?_
        exact h
set_option maxRecDepth 20000 in
theorem v_X6_noteTaken_0 {g : zGG} {Q : Int → zMem → Prop} {d : zMem} {a : Nat} (ha : isRiv a)  (h : (Fr g (eM g M_X6_noteTaken FUL FUL Q) M_X6_noteTaken FUL 8 [some (zR 120), some (zR a), some (zI (d 121 0))] [] d)) : Fr g (eM g M_X6_noteTaken FUL FUL Q) M_X6_noteTaken FUL 0 [some (zR 120), some (zR a), none] [] d := by
  refine z_aloadR_n (i := 0) dX6_noteTaken_0 rfl rfl ?_
  refine z_getR 6 0 (idx := 12) ly120 (by decide) (by decide) rfl (show 120 < 166 by decide) rfl rt_120_0 wf_X6_12 dX6_noteTaken_1 ?_
  refine z_getIN' 0 0 (idx := 86) (fv := (d 121 0)) ly121 (by decide) (by decide) rfl (show 121 < 166 by decide) wf_X6_86 dX6_noteTaken_4 rfl ?_
  refine z_istore_n (i := 2) (ls2 := [some (zR 120), some (zR a), some (zI (d 121 0))]) dX6_noteTaken_7 rfl (by decide) rfl ?_
  exact h
theorem e_X6_noteTaken {g : zGG} {Q : Int → zMem → Prop} {d : zMem} {a : Nat} (ha : isRiv a) (h : (Fr g (eM g M_X6_noteTaken FUL FUL Q) M_X6_noteTaken FUL 8 [some (zR 120), some (zR a), some (zI (d 121 0))] [] d)) : Ev g M_X6_noteTaken FUL FUL [zR 120, zR a] d Q :=
  Ev_of (by decide +kernel) (Nat.le_of_ble_eq_true rfl) (v_X6_noteTaken_0 ha h)
set_option maxRecDepth 20000 in
theorem v_X6_noteTaken_8 {g : zGG} {Q : Int → zMem → Prop} {d : zMem} {a : Nat} (ha : isRiv a) {x2 : Int} (h : ((inR x2 ∧ inR (d 121 1)) ∧ ((d 121 1) < x2 → Q 0 d) ∧ (x2 ≤ (d 121 1) → Ev g M_X7_bankCell FUL FUL [zR a, zR 121, zI x2] d (fun v1 d1 => ((inR v1 ∧ inR (d1 120 2)) ∧ (v1 ≠ (d1 120 2) → (Fr g (eM g M_X6_noteTaken FUL FUL Q) M_X6_noteTaken FUL 8 [some (zR 120), some (zR a), some (zI (x2 + 1))] [] d1)) ∧ (v1 = (d1 120 2) → ∀ d2, d2 = mu d1 120 3 1 → (Fr g (eM g M_X6_noteTaken FUL FUL Q) M_X6_noteTaken FUL 8 [some (zR 120), some (zR a), some (zI (x2 + 1))] [] d2))))))) : Fr g (eM g M_X6_noteTaken FUL FUL Q) M_X6_noteTaken FUL 8 [some (zR 120), some (zR a), some (zI x2)] [] d := by
  refine z_iload_n (i := 2) dX6_noteTaken_8 rfl rfl ?_
  refine z_aloadR_n (i := 0) dX6_noteTaken_9 rfl rfl ?_
  refine z_getR 6 0 (idx := 12) ly120 (by decide) (by decide) rfl (show 120 < 166 by decide) rfl rt_120_0 wf_X6_12 dX6_noteTaken_10 ?_
  refine z_getIN' 0 1 (idx := 99) (fv := (d 121 1)) ly121 (by decide) (by decide) rfl (show 121 < 166 by decide) wf_X6_99 dX6_noteTaken_13 rfl ?_
  refine zb_icmp_gt (tgt := 46) dX6_noteTaken_16 (by decide) h.1 ⟨fun c => ?_, fun c => ?_⟩
  · replace h := h.2.1 c
    exact zret_v rfl dX6_noteTaken_46 h
  · replace h := h.2.2 c
    refine z_aloadR_n (i := 1) dX6_noteTaken_19 rfl rfl ?_
    refine z_aloadR_n (i := 0) dX6_noteTaken_20 rfl rfl ?_
    refine z_getR 6 0 (idx := 12) ly120 (by decide) (by decide) rfl (show 120 < 166 by decide) rfl rt_120_0 wf_X6_12 dX6_noteTaken_21 ?_
    refine z_iload_n (i := 2) dX6_noteTaken_24 rfl rfl ?_
    refine z_callVi (k' := M_X7_bankCell) (As := [zR 121, zI x2]) (st := []) dX6_noteTaken_25 rfl (rl0 ha) (by decide) rfl (rlt0 ha) wm_X6_102 ok_X7_bankCell okV_X7_bankCell rfl (zroom_self (by decide) (by decide)) (Nat.le_of_ble_eq_true rfl) (Nat.le_refl _) rfl (Ev_mono h (fun v1 d1 h => ?_))
    refine z_aloadR_n (i := 0) dX6_noteTaken_28 rfl rfl ?_
    refine z_getI' 6 2 (idx := 25) (fv := (d1 120 2)) ly120 (by decide) (by decide) rfl (show 120 < 166 by decide) wf_X6_25 dX6_noteTaken_29 rfl ?_
    refine zb_icmp_ne (tgt := 40) dX6_noteTaken_32 (by decide) h.1 ⟨fun c => ?_, fun c => ?_⟩
    · replace h := h.2.1 c
      refine z_iinc (i := 2) (ls2 := [some (zR 120), some (zR a), some (zI (x2 + 1))]) dX6_noteTaken_40 (by decide) rfl rfl ?_
      refine z_goto (tgt := 8) dX6_noteTaken_43 (by decide) ?_
      exact h
    · replace h := h.2.2 c
      refine z_aloadR_n (i := 0) dX6_noteTaken_35 rfl rfl ?_
      refine z_iconst dX6_noteTaken_36 ?_
      refine z_putI 6 3 (idx := 29) ly120 (by decide) (by decide) rfl (show 120 < 166 by decide) rfl wf_X6_29 dX6_noteTaken_37 (Or.inr ⟨rfl, by decide⟩) ?_
      generalize hd2 : mu d1 120 ((3 : Nat) : Int) 1 = d2
      replace hd2 : d2 = mu d1 120 3 1 := hd2.symm
      replace h := h d2 hd2
      refine z_iinc (i := 2) (ls2 := [some (zR 120), some (zR a), some (zI (x2 + 1))]) dX6_noteTaken_40 (by decide) rfl rfl ?_
      refine z_goto (tgt := 8) dX6_noteTaken_43 (by decide) ?_
      exact h
set_option maxRecDepth 20000 in
theorem v_X6_cutNecks_0 {g : zGG} {Q : Int → zMem → Prop} {d : zMem} {a : Nat} {x2 : Int} (ha : isRiv a)  (h : ((inR x2) ∧ (x2 = 0 → Ev g M_X7_setting FUL FUL [zR a, zI 2] d (fun v1 d1 => Ev g M_X1_length FUL FUL [zR (a + 2)] d1 (fun v2 d2 => (Fr g (eM g M_X6_cutNecks FUL FUL Q) M_X6_cutNecks FUL 26 [some (zR 120), some (zR a), some (zI x2), some (zI v1), some (zI v2), some (zI 0)] [] d2)))) ∧ (x2 ≠ 0 → Ev g M_X1_length FUL FUL [zR (a + 2)] d (fun v3 d3 => (Fr g (eM g M_X6_cutNecks FUL FUL Q) M_X6_cutNecks FUL 26 [some (zR 120), some (zR a), some (zI x2), some (zI 0), some (zI v3), some (zI 0)] [] d3))))) : Fr g (eM g M_X6_cutNecks FUL FUL Q) M_X6_cutNecks FUL 0 [some (zR 120), some (zR a), some (zI x2), none, none, none] [] d := by
  refine z_iload_n (i := 2) dX6_cutNecks_0 rfl rfl ?_
  refine zb_if_eq (tgt := 8) dX6_cutNecks_1 (by decide) h.1 ⟨fun c => ?_, fun c => ?_⟩
  · replace h := h.2.1 c
    refine z_aloadR_n (i := 1) dX6_cutNecks_8 rfl rfl ?_
    refine z_iconst dX6_cutNecks_9 ?_
    refine z_callVi (k' := M_X7_setting) (As := [zI 2]) (st := []) dX6_cutNecks_10 rfl (rl0 ha) (by decide) rfl (rlt0 ha) wm_X6_60 ok_X7_setting okV_X7_setting rfl (zroom_self (by decide) (by decide)) (Nat.le_of_ble_eq_true rfl) (Nat.le_refl _) rfl (Ev_mono h (fun v1 d1 h => ?_))
    refine z_istore_n (i := 3) (ls2 := [some (zR 120), some (zR a), some (zI x2), some (zI v1), none, none]) dX6_cutNecks_13 rfl (by decide) rfl ?_
    refine z_aloadR_n (i := 1) dX6_cutNecks_14 rfl rfl ?_
    refine z_getRN 7 1 (idx := 70) (rl0 ha) (by decide) (by decide) rfl (rlt0 ha) rfl (rt0_1 ha) wf_X6_70 dX6_cutNecks_15 ?_
    refine z_callVi (k' := M_X1_length) (As := []) (st := []) dX6_cutNecks_18 rfl (rl2 ha) (by decide) rfl (rlt2 ha) wm_X6_106 ok_X1_length okV_X1_length rfl (zroom_self (by decide) (by decide)) (Nat.le_of_ble_eq_true rfl) (Nat.le_refl _) rfl (Ev_mono h (fun v2 d2 h => ?_))
    refine z_istore (i := 4) (ls2 := [some (zR 120), some (zR a), some (zI x2), some (zI v1), some (zI v2), none]) dX6_cutNecks_21 (by decide) rfl ?_
    refine z_iconst dX6_cutNecks_23 ?_
    refine z_istore (i := 5) (ls2 := [some (zR 120), some (zR a), some (zI x2), some (zI v1), some (zI v2), some (zI 0)]) dX6_cutNecks_24 (by decide) rfl ?_
    exact h
  · replace h := h.2.2 c
    refine z_iconst dX6_cutNecks_4 ?_
    refine z_goto (tgt := 13) dX6_cutNecks_5 (by decide) ?_
    refine z_istore_n (i := 3) (ls2 := [some (zR 120), some (zR a), some (zI x2), some (zI 0), none, none]) dX6_cutNecks_13 rfl (by decide) rfl ?_
    refine z_aloadR_n (i := 1) dX6_cutNecks_14 rfl rfl ?_
    refine z_getRN 7 1 (idx := 70) (rl0 ha) (by decide) (by decide) rfl (rlt0 ha) rfl (rt0_1 ha) wf_X6_70 dX6_cutNecks_15 ?_
    refine z_callVi (k' := M_X1_length) (As := []) (st := []) dX6_cutNecks_18 rfl (rl2 ha) (by decide) rfl (rlt2 ha) wm_X6_106 ok_X1_length okV_X1_length rfl (zroom_self (by decide) (by decide)) (Nat.le_of_ble_eq_true rfl) (Nat.le_refl _) rfl (Ev_mono h (fun v3 d3 h => ?_))
    refine z_istore (i := 4) (ls2 := [some (zR 120), some (zR a), some (zI x2), some (zI 0), some (zI v3), none]) dX6_cutNecks_21 (by decide) rfl ?_
    refine z_iconst dX6_cutNecks_23 ?_
    refine z_istore (i := 5) (ls2 := [some (zR 120), some (zR a), some (zI x2), some (zI 0), some (zI v3), some (zI 0)]) dX6_cutNecks_24 (by decide) rfl ?_
    exact h
theorem e_X6_cutNecks {g : zGG} {Q : Int → zMem → Prop} {d : zMem} {a : Nat} {x2 : Int} (ha : isRiv a) (h : ((inR x2) ∧ (x2 = 0 → Ev g M_X7_setting FUL FUL [zR a, zI 2] d (fun v1 d1 => Ev g M_X1_length FUL FUL [zR (a + 2)] d1 (fun v2 d2 => (Fr g (eM g M_X6_cutNecks FUL FUL Q) M_X6_cutNecks FUL 26 [some (zR 120), some (zR a), some (zI x2), some (zI v1), some (zI v2), some (zI 0)] [] d2)))) ∧ (x2 ≠ 0 → Ev g M_X1_length FUL FUL [zR (a + 2)] d (fun v3 d3 => (Fr g (eM g M_X6_cutNecks FUL FUL Q) M_X6_cutNecks FUL 26 [some (zR 120), some (zR a), some (zI x2), some (zI 0), some (zI v3), some (zI 0)] [] d3))))) : Ev g M_X6_cutNecks FUL FUL [zR 120, zR a, zI x2] d Q :=
  Ev_of (by decide +kernel) (Nat.le_of_ble_eq_true rfl) (v_X6_cutNecks_0 ha h)
set_option maxRecDepth 20000 in
theorem v_X6_cutNecks_26 {g : zGG} {Q : Int → zMem → Prop} {d : zMem} {a : Nat} {x2 : Int} (ha : isRiv a) {x3 : Int} {x4 : Int} {x5 : Int} (h : ((inR x5) ∧ (150 ≤ x5 → Ev g M_X1_length FUL FUL [zR (a + 2)] d (fun v1 d1 => ∀ d2, d2 = mu d1 120 4 (x4 - v1) → Q 0 d2)) ∧ (x5 < 150 → Ev g M_X3_seekWidest FUL FUL [zR 122, zR a, zI x3] d (fun v2 d3 => ((inR v2) ∧ (v2 = 0 → Ev g M_X1_length FUL FUL [zR (a + 2)] d3 (fun v3 d4 => ∀ d5, d5 = mu d4 120 4 (x4 - v3) → Q 0 d5)) ∧ (v2 ≠ 0 → Ev g M_X7_cutBetween FUL FUL [zR a, zI (d3 122 0), zI (d3 122 1)] d3 (fun _ d6 => (Fr g (eM g M_X6_cutNecks FUL FUL Q) M_X6_cutNecks FUL 26 [some (zR 120), some (zR a), some (zI x2), some (zI x3), some (zI x4), some (zI (x5 + 1))] [] d6)))))))) : Fr g (eM g M_X6_cutNecks FUL FUL Q) M_X6_cutNecks FUL 26 [some (zR 120), some (zR a), some (zI x2), some (zI x3), some (zI x4), some (zI x5)] [] d := by
  refine z_iload (i := 5) dX6_cutNecks_26 rfl ?_
  refine z_sipush dX6_cutNecks_28 (by decide +kernel) ?_
  refine zb_icmp_ge (tgt := 70) dX6_cutNecks_31 (by decide) ⟨h.1, by decide⟩ ⟨fun c => ?_, fun c => ?_⟩
  · replace h := h.2.1 c
    refine z_aloadR_n (i := 0) dX6_cutNecks_70 rfl rfl ?_
    refine z_iload (i := 4) dX6_cutNecks_71 rfl ?_
    refine z_aloadR_n (i := 1) dX6_cutNecks_73 rfl rfl ?_
    refine z_getRN 7 1 (idx := 70) (rl0 ha) (by decide) (by decide) rfl (rlt0 ha) rfl (rt0_1 ha) wf_X6_70 dX6_cutNecks_74 ?_
    refine z_callVi (k' := M_X1_length) (As := []) (st := [zI x4, zR 120]) dX6_cutNecks_77 rfl (rl2 ha) (by decide) rfl (rlt2 ha) wm_X6_106 ok_X1_length okV_X1_length rfl (zroom_self (by decide) (by decide)) (Nat.le_of_ble_eq_true rfl) (Nat.le_refl _) rfl (Ev_mono h (fun v1 d1 h => ?_))
    refine z_isub dX6_cutNecks_80 ?_
    refine z_putI 6 4 (idx := 126) ly120 (by decide) (by decide) rfl (show 120 < 166 by decide) rfl wf_X6_126 dX6_cutNecks_81 (Or.inl rfl) ?_
    generalize hd2 : mu d1 120 ((4 : Nat) : Int) (x4 - v1) = d2
    replace hd2 : d2 = mu d1 120 4 (x4 - v1) := hd2.symm
    replace h := h d2 hd2
    exact zret_v rfl dX6_cutNecks_84 h
  · replace h := h.2.2 c
    refine z_aloadR_n (i := 0) dX6_cutNecks_34 rfl rfl ?_
    refine z_getR 6 1 (idx := 21) ly120 (by decide) (by decide) rfl (show 120 < 166 by decide) rfl rt_120_1 wf_X6_21 dX6_cutNecks_35 ?_
    refine z_aloadR_n (i := 1) dX6_cutNecks_38 rfl rfl ?_
    refine z_iload_n (i := 3) dX6_cutNecks_39 rfl rfl ?_
    refine z_callVi (k' := M_X3_seekWidest) (As := [zR a, zI x3]) (st := []) dX6_cutNecks_40 rfl ly122 (by decide) rfl (show 122 < 166 by decide) wm_X6_112 ok_X3_seekWidest okV_X3_seekWidest rfl (zroom_self (by decide) (by decide)) (Nat.le_of_ble_eq_true rfl) (Nat.le_refl _) rfl (Ev_mono h (fun v2 d3 h => ?_))
    refine zb_if_eq (tgt := 70) dX6_cutNecks_43 (by decide) h.1 ⟨fun c => ?_, fun c => ?_⟩
    · replace h := h.2.1 c
      refine z_aloadR_n (i := 0) dX6_cutNecks_70 rfl rfl ?_
      refine z_iload (i := 4) dX6_cutNecks_71 rfl ?_
      refine z_aloadR_n (i := 1) dX6_cutNecks_73 rfl rfl ?_
      refine z_getRN 7 1 (idx := 70) (rl0 ha) (by decide) (by decide) rfl (rlt0 ha) rfl (rt0_1 ha) wf_X6_70 dX6_cutNecks_74 ?_
      refine z_callVi (k' := M_X1_length) (As := []) (st := [zI x4, zR 120]) dX6_cutNecks_77 rfl (rl2 ha) (by decide) rfl (rlt2 ha) wm_X6_106 ok_X1_length okV_X1_length rfl (zroom_self (by decide) (by decide)) (Nat.le_of_ble_eq_true rfl) (Nat.le_refl _) rfl (Ev_mono h (fun v3 d4 h => ?_))
      refine z_isub dX6_cutNecks_80 ?_
      refine z_putI 6 4 (idx := 126) ly120 (by decide) (by decide) rfl (show 120 < 166 by decide) rfl wf_X6_126 dX6_cutNecks_81 (Or.inl rfl) ?_
      generalize hd5 : mu d4 120 ((4 : Nat) : Int) (x4 - v3) = d5
      replace hd5 : d5 = mu d4 120 4 (x4 - v3) := hd5.symm
      replace h := h d5 hd5
      exact zret_v rfl dX6_cutNecks_84 h
    · replace h := h.2.2 c
      refine z_aloadR_n (i := 1) dX6_cutNecks_46 rfl rfl ?_
      refine z_aloadR_n (i := 0) dX6_cutNecks_47 rfl rfl ?_
      refine z_getR 6 1 (idx := 21) ly120 (by decide) (by decide) rfl (show 120 < 166 by decide) rfl rt_120_1 wf_X6_21 dX6_cutNecks_48 ?_
      refine z_getIN' 3 0 (idx := 116) (fv := (d3 122 0)) ly122 (by decide) (by decide) rfl (show 122 < 166 by decide) wf_X6_116 dX6_cutNecks_51 rfl ?_
      refine z_aloadR_n (i := 0) dX6_cutNecks_54 rfl rfl ?_
      refine z_getR 6 1 (idx := 21) ly120 (by decide) (by decide) rfl (show 120 < 166 by decide) rfl rt_120_1 wf_X6_21 dX6_cutNecks_55 ?_
      refine z_getIN' 3 1 (idx := 119) (fv := (d3 122 1)) ly122 (by decide) (by decide) rfl (show 122 < 166 by decide) wf_X6_119 dX6_cutNecks_58 rfl ?_
      refine z_callVv (k' := M_X7_cutBetween) (As := [zI (d3 122 0), zI (d3 122 1)]) (st := []) dX6_cutNecks_61 rfl (rl0 ha) (by decide) rfl (rlt0 ha) wm_X6_122 ok_X7_cutBetween okV_X7_cutBetween rfl (zroom_self (by decide) (by decide)) (Nat.le_of_ble_eq_true rfl) (Nat.le_refl _) rfl (Ev_mono h (fun _ d6 h => ?_))
      refine z_iinc (i := 5) (ls2 := [some (zR 120), some (zR a), some (zI x2), some (zI x3), some (zI x4), some (zI (x5 + 1))]) dX6_cutNecks_64 (by decide) rfl rfl ?_
      refine z_goto (tgt := 26) dX6_cutNecks_67 (by decide) ?_
      exact h
