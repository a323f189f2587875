set_option maxRecDepth 20000 in
theorem v_X0_seekFrom_0 {g : zGG} {Q : Int → zMem → Prop} {d : zMem} {bd : Nat} {a : Nat} {x2 : Int} (hbd : isBd bd) (ha : isRiv a)  (h : (inR x2) ∧ (Fr g (eM g M_X0_seekFrom FUL FUL Q) M_X0_seekFrom FUL 6 [some (zR bd), some (zR (a + 2)), some (zI x2), some (zI (max x2 1)), none, none, none, none] [] d)) : Fr g (eM g M_X0_seekFrom FUL FUL Q) M_X0_seekFrom FUL 0 [some (zR bd), some (zR (a + 2)), some (zI x2), none, none, none, none, none] [] d := by
  refine z_iload_n (i := 2) dX0_seekFrom_0 rfl rfl ?_
  refine z_iconst dX0_seekFrom_1 ?_
  refine z_max ⟨h.1, by decide⟩ dX0_seekFrom_2 wm_X0_9 wMs_max wMi wMc_max ⟨Nat.le_of_ble_eq_true rfl, Nat.le_of_ble_eq_true rfl, Nat.le_refl _, Nat.le_refl _⟩ ?_
  replace h := h.2
  refine z_istore_n (i := 3) (ls2 := [some (zR bd), some (zR (a + 2)), some (zI x2), some (zI (max x2 1)), none, none, none, none]) dX0_seekFrom_5 rfl (by decide) rfl ?_
  exact h
theorem e_X0_seekFrom {g : zGG} {Q : Int → zMem → Prop} {d : zMem} {bd : Nat} {a : Nat} {x2 : Int} (hbd : isBd bd) (ha : isRiv a) (h : (inR x2) ∧ (Fr g (eM g M_X0_seekFrom FUL FUL Q) M_X0_seekFrom FUL 6 [some (zR bd), some (zR (a + 2)), some (zI x2), some (zI (max x2 1)), none, none, none, none] [] d)) : Ev g M_X0_seekFrom FUL FUL [zR bd, zR (a + 2), zI x2] d Q :=
  Ev_of (by decide +kernel) (Nat.le_of_ble_eq_true rfl) (v_X0_seekFrom_0 hbd ha h)
set_option maxRecDepth 20000 in
theorem v_X0_seekFrom_6 {g : zGG} {Q : Int → zMem → Prop} {d : zMem} {bd : Nat} {a : Nat} {x2 : Int} (hbd : isBd bd) (ha : isRiv a) {x3 : Int} (h : Ev g M_X1_length FUL FUL [zR (a + 2)] d (fun v1 d1 => ((inR x3 ∧ inR v1) ∧ (v1 ≤ x3 → Q 0 d1) ∧ (x3 < v1 → Ev g M_X1_wayFrom FUL FUL [zR (a + 2), zI (x3 - 1)] d1 (fun v2 d2 => Ev g M_X1_wayFrom FUL FUL [zR (a + 2), zI x3] d2 (fun v3 d3 => ((inR v2 ∧ inR v3) ∧ (v2 = v3 → (Fr g (eM g M_X0_seekFrom FUL FUL Q) M_X0_seekFrom FUL 6 [some (zR bd), some (zR (a + 2)), some (zI x2), some (zI (x3 + 1)), none, none, none, none] [] d3)) ∧ (v2 ≠ v3 → ((inR v3) ∧ (v3 = (-1) → (Fr g (eM g M_X0_seekFrom FUL FUL Q) M_X0_seekFrom FUL 6 [some (zR bd), some (zR (a + 2)), some (zI x2), some (zI (x3 + 1)), none, none, none, none] [] d3)) ∧ (v3 ≠ (-1) → Ev g M_X0_endOfRow FUL FUL [zR (a + 2), zI x3, zI v3] d3 (fun v4 d4 => Ev g M_X1_wayFrom FUL FUL [zR (a + 2), zI v4] d4 (fun v5 d5 => ((inR v5) ∧ (v5 = (-1) → (Fr g (eM g M_X0_seekFrom FUL FUL Q) M_X0_seekFrom FUL 6 [some (zR bd), some (zR (a + 2)), some (zI x2), some (zI (x3 + 1)), none, none, none, none] [] d5)) ∧ (v5 ≠ (-1) → Ev g M_X8_areOpposite FUL FUL [zI v2, zI v5] d5 (fun v6 d6 => ((inR v6) ∧ (v6 = 0 → (Fr g (eM g M_X0_seekFrom FUL FUL Q) M_X0_seekFrom FUL 6 [some (zR bd), some (zR (a + 2)), some (zI x2), some (zI (x3 + 1)), none, none, none, none] [] d6)) ∧ (v6 ≠ 0 → ∀ d7, d7 = mu d6 bd 0 x3 → ∀ d8, d8 = mu d7 bd 1 v4 → ∀ d9, d9 = mu d8 bd 2 v2 → Q 1 d9))))))))))))))))) : Fr g (eM g M_X0_seekFrom FUL FUL Q) M_X0_seekFrom FUL 6 [some (zR bd), some (zR (a + 2)), some (zI x2), some (zI x3), none, none, none, none] [] d := by
  refine z_iload_n (i := 3) dX0_seekFrom_6 rfl rfl ?_
  refine z_aloadR_n (i := 1) dX0_seekFrom_7 rfl rfl ?_
  refine z_callVi (k' := M_X1_length) (As := []) (st := [zI x3]) dX0_seekFrom_8 rfl (rl2 ha) (by decide) rfl (rlt2 ha) wm_X0_15 ok_X1_length okV_X1_length rfl (zroom_self (by decide) (by decide)) (Nat.le_of_ble_eq_true rfl) (Nat.le_refl _) rfl (Ev_mono h (fun v1 d1 h => ?_))
  refine zb_icmp_ge (tgt := 101) dX0_seekFrom_11 (by decide) h.1 ⟨fun c => ?_, fun c => ?_⟩
  · replace h := h.2.1 c
    refine z_iconst dX0_seekFrom_101 ?_
    exact zret_z rfl dX0_seekFrom_102 (by decide) h
  · replace h := h.2.2 c
    refine z_aloadR_n (i := 1) dX0_seekFrom_14 rfl rfl ?_
    refine z_iload_n (i := 3) dX0_seekFrom_15 rfl rfl ?_
    refine z_iconst dX0_seekFrom_16 ?_
    refine z_isub dX0_seekFrom_17 ?_
    refine z_callVi (k' := M_X1_wayFrom) (As := [zI (x3 - 1)]) (st := []) dX0_seekFrom_18 rfl (rl2 ha) (by decide) rfl (rlt2 ha) wm_X0_21 ok_X1_wayFrom okV_X1_wayFrom rfl (zroom_self (by decide) (by decide)) (Nat.le_of_ble_eq_true rfl) (Nat.le_refl _) rfl (Ev_mono h (fun v2 d2 h => ?_))
    refine z_istore (i := 4) (ls2 := [some (zR bd), some (zR (a + 2)), some (zI x2), some (zI x3), some (zI v2), none, none, none]) dX0_seekFrom_21 (by decide) rfl ?_
    refine z_aloadR_n (i := 1) dX0_seekFrom_23 rfl rfl ?_
    refine z_iload_n (i := 3) dX0_seekFrom_24 rfl rfl ?_
    refine z_callVi (k' := M_X1_wayFrom) (As := [zI x3]) (st := []) dX0_seekFrom_25 rfl (rl2 ha) (by decide) rfl (rlt2 ha) wm_X0_21 ok_X1_wayFrom okV_X1_wayFrom rfl (zroom_self (by decide) (by decide)) (Nat.le_of_ble_eq_true rfl) (Nat.le_refl _) rfl (Ev_mono h (fun v3 d3 h => ?_))
    refine z_istore (i := 5) (ls2 := [some (zR bd), some (zR (a + 2)), some (zI x2), some (zI x3), some (zI v2), some (zI v3), none, none]) dX0_seekFrom_28 (by decide) rfl ?_
    refine z_iload (i := 4) dX0_seekFrom_30 rfl ?_
    refine z_iload (i := 5) dX0_seekFrom_32 rfl ?_
    refine zb_icmp_eq (tgt := 95) dX0_seekFrom_34 (by decide) h.1 ⟨fun c => ?_, fun c => ?_⟩
    · replace h := h.2.1 c
      refine z_iinc (i := 3) (ls2 := [some (zR bd), some (zR (a + 2)), some (zI x2), some (zI (x3 + 1)), some (zI v2), some (zI v3), none, none]) dX0_seekFrom_95 (by decide) rfl rfl ?_
      refine z_goto (tgt := 6) dX0_seekFrom_98 (by decide) ?_
      exact Fr_weak (ls2 := [some (zR bd), some (zR (a + 2)), some (zI x2), some (zI (x3 + 1)), none, none, none, none]) (by exact ⟨Or.inr rfl, Or.inr rfl, Or.inr rfl, Or.inr rfl, Or.inl rfl, Or.inl rfl, Or.inl rfl, Or.inl rfl, trivial⟩) h
    · replace h := h.2.2 c
      refine z_iload (i := 5) dX0_seekFrom_37 rfl ?_
      refine z_iconst dX0_seekFrom_39 ?_
      refine zb_icmp_eq (tgt := 95) dX0_seekFrom_40 (by decide) ⟨h.1, by decide⟩ ⟨fun c => ?_, fun c => ?_⟩
      · replace h := h.2.1 c
        refine z_iinc (i := 3) (ls2 := [some (zR bd), some (zR (a + 2)), some (zI x2), some (zI (x3 + 1)), some (zI v2), some (zI v3), none, none]) dX0_seekFrom_95 (by decide) rfl rfl ?_
        refine z_goto (tgt := 6) dX0_seekFrom_98 (by decide) ?_
        exact Fr_weak (ls2 := [some (zR bd), some (zR (a + 2)), some (zI x2), some (zI (x3 + 1)), none, none, none, none]) (by exact ⟨Or.inr rfl, Or.inr rfl, Or.inr rfl, Or.inr rfl, Or.inl rfl, Or.inl rfl, Or.inl rfl, Or.inl rfl, trivial⟩) h
      · replace h := h.2.2 c
        refine z_aloadR_n (i := 1) dX0_seekFrom_43 rfl rfl ?_
        refine z_iload_n (i := 3) dX0_seekFrom_44 rfl rfl ?_
        refine z_iload (i := 5) dX0_seekFrom_45 rfl ?_
        refine z_callS (k' := M_X0_endOfRow) (As := [zR (a + 2), zI x3, zI v3]) (st := []) dX0_seekFrom_47 rfl wm_X0_25 ok_X0_endOfRow okS_X0_endOfRow rfl (zroom_self (by decide) (by decide)) (Nat.le_of_ble_eq_true rfl) (Nat.le_refl _) (zEnd_i (Nat.le_refl _) rfl (fun _ _ q => q)) (Ev_mono h (fun v4 d4 h => ?_))
        refine z_istore (i := 6) (ls2 := [some (zR bd), some (zR (a + 2)), some (zI x2), some (zI x3), some (zI v2), some (zI v3), some (zI v4), none]) dX0_seekFrom_50 (by decide) rfl ?_
        refine z_aloadR_n (i := 1) dX0_seekFrom_52 rfl rfl ?_
        refine z_iload (i := 6) dX0_seekFrom_53 rfl ?_
        refine z_callVi (k' := M_X1_wayFrom) (As := [zI v4]) (st := []) dX0_seekFrom_55 rfl (rl2 ha) (by decide) rfl (rlt2 ha) wm_X0_21 ok_X1_wayFrom okV_X1_wayFrom rfl (zroom_self (by decide) (by decide)) (Nat.le_of_ble_eq_true rfl) (Nat.le_refl _) rfl (Ev_mono h (fun v5 d5 h => ?_))
        refine z_istore (i := 7) (ls2 := [some (zR bd), some (zR (a + 2)), some (zI x2), some (zI x3), some (zI v2), some (zI v3), some (zI v4), some (zI v5)]) dX0_seekFrom_58 (by decide) rfl ?_
        refine z_iload (i := 7) dX0_seekFrom_60 rfl ?_
        refine z_iconst dX0_seekFrom_62 ?_
        refine zb_icmp_eq (tgt := 95) dX0_seekFrom_63 (by decide) ⟨h.1, by decide⟩ ⟨fun c => ?_, fun c => ?_⟩
        · replace h := h.2.1 c
          refine z_iinc (i := 3) (ls2 := [some (zR bd), some (zR (a + 2)), some (zI x2), some (zI (x3 + 1)), some (zI v2), some (zI v3), some (zI v4), some (zI v5)]) dX0_seekFrom_95 (by decide) rfl rfl ?_
          refine z_goto (tgt := 6) dX0_seekFrom_98 (by decide) ?_
          exact Fr_weak (ls2 := [some (zR bd), some (zR (a + 2)), some (zI x2), some (zI (x3 + 1)), none, none, none, none]) (by exact ⟨Or.inr rfl, Or.inr rfl, Or.inr rfl, Or.inr rfl, Or.inl rfl, Or.inl rfl, Or.inl rfl, Or.inl rfl, trivial⟩) h
        · replace h := h.2.2 c
          refine z_iload (i := 4) dX0_seekFrom_66 rfl ?_
          refine z_iload (i := 7) dX0_seekFrom_68 rfl ?_
          refine z_callSN (k' := M_X8_areOpposite) (As := [zI v2, zI v5]) (st := []) dX0_seekFrom_70 rfl wm_X0_31 ok_X8_areOpposite okS_X8_areOpposite rfl (zroom_self (by decide) (by decide)) (Nat.le_of_ble_eq_true rfl) (Nat.le_refl _) (zEnd_i (Nat.le_refl _) rfl (fun _ _ q => q)) (Ev_mono h (fun v6 d6 h => ?_))
          refine zb_if_eq (tgt := 95) dX0_seekFrom_73 (by decide) h.1 ⟨fun c => ?_, fun c => ?_⟩
          · replace h := h.2.1 c
            refine z_iinc (i := 3) (ls2 := [some (zR bd), some (zR (a + 2)), some (zI x2), some (zI (x3 + 1)), some (zI v2), some (zI v3), some (zI v4), some (zI v5)]) dX0_seekFrom_95 (by decide) rfl rfl ?_
            refine z_goto (tgt := 6) dX0_seekFrom_98 (by decide) ?_
            exact Fr_weak (ls2 := [some (zR bd), some (zR (a + 2)), some (zI x2), some (zI (x3 + 1)), none, none, none, none]) (by exact ⟨Or.inr rfl, Or.inr rfl, Or.inr rfl, Or.inr rfl, Or.inl rfl, Or.inl rfl, Or.inl rfl, Or.inl rfl, trivial⟩) h
          · replace h := h.2.2 c
            refine z_aloadR_n (i := 0) dX0_seekFrom_76 rfl rfl ?_
            refine z_iload_n (i := 3) dX0_seekFrom_77 rfl rfl ?_
            refine z_putI 0 0 (idx := 35) (lbd hbd) (by decide) (by decide) rfl (ltbd hbd) rfl wf_X0_35 dX0_seekFrom_78 (Or.inl rfl) ?_
            generalize hd7 : mu d6 bd ((0 : Nat) : Int) x3 = d7
            replace hd7 : d7 = mu d6 bd 0 x3 := hd7.symm
            replace h := h d7 hd7
            refine z_aloadR_n (i := 0) dX0_seekFrom_81 rfl rfl ?_
            refine z_iload (i := 6) dX0_seekFrom_82 rfl ?_
            refine z_putI 0 1 (idx := 39) (lbd hbd) (by decide) (by decide) rfl (ltbd hbd) rfl wf_X0_39 dX0_seekFrom_84 (Or.inl rfl) ?_
            generalize hd8 : mu d7 bd ((1 : Nat) : Int) v4 = d8
            replace hd8 : d8 = mu d7 bd 1 v4 := hd8.symm
            replace h := h d8 hd8
            refine z_aloadR_n (i := 0) dX0_seekFrom_87 rfl rfl ?_
            refine z_iload (i := 4) dX0_seekFrom_88 rfl ?_
            refine z_putI 0 2 (idx := 42) (lbd hbd) (by decide) (by decide) rfl (ltbd hbd) rfl wf_X0_42 dX0_seekFrom_90 (Or.inl rfl) ?_
            generalize hd9 : mu d8 bd ((2 : Nat) : Int) v2 = d9
            replace hd9 : d9 = mu d8 bd 2 v2 := hd9.symm
            replace h := h d9 hd9
            refine z_iconst dX0_seekFrom_93 ?_
            exact zret_z rfl dX0_seekFrom_94 (by decide) h
set_option maxRecDepth 20000 in
theorem v_X0_seekNumbered_0 {g : zGG} {Q : Int → zMem → Prop} {d : zMem} {bd : Nat} {a : Nat} {x2 : Int} (hbd : isBd bd) (ha : isRiv a)  (h : ((inR x2) ∧ (x2 < 0 → Q 0 d) ∧ (0 ≤ x2 → ((inR x2) ∧ (x2 < 150 → (Fr g (eM g M_X0_seekNumbered FUL FUL Q) M_X0_seekNumbered FUL 18 [some (zR bd), some (zR (a + 2)), some (zI x2), some (zI 0), some (zI 0)] [] d)) ∧ (150 ≤ x2 → Q 0 d))))) : Fr g (eM g M_X0_seekNumbered FUL FUL Q) M_X0_seekNumbered FUL 0 [some (zR bd), some (zR (a + 2)), some (zI x2), none, none] [] d := by
  refine z_iload_n (i := 2) dX0_seekNumbered_0 rfl rfl ?_
  refine zb_if_lt (tgt := 11) dX0_seekNumbered_1 (by decide) h.1 ⟨fun c => ?_, fun c => ?_⟩
  · replace h := h.2.1 c
    refine z_iconst dX0_seekNumbered_11 ?_
    exact zret_z rfl dX0_seekNumbered_12 (by decide) h
  · replace h := h.2.2 c
    refine z_iload_n (i := 2) dX0_seekNumbered_4 rfl rfl ?_
    refine z_sipush dX0_seekNumbered_5 (by decide +kernel) ?_
    refine zb_icmp_lt (tgt := 13) dX0_seekNumbered_8 (by decide) ⟨h.1, by decide⟩ ⟨fun c => ?_, fun c => ?_⟩
    · replace h := h.2.1 c
      refine z_iconst dX0_seekNumbered_13 ?_
      refine z_istore_n (i := 3) (ls2 := [some (zR bd), some (zR (a + 2)), some (zI x2), some (zI 0), none]) dX0_seekNumbered_14 rfl (by decide) rfl ?_
      refine z_iconst dX0_seekNumbered_15 ?_
      refine z_istore (i := 4) (ls2 := [some (zR bd), some (zR (a + 2)), some (zI x2), some (zI 0), some (zI 0)]) dX0_seekNumbered_16 (by decide) rfl ?_
      exact h
    · replace h := h.2.2 c
      refine z_iconst dX0_seekNumbered_11 ?_
      exact zret_z rfl dX0_seekNumbered_12 (by decide) h
theorem e_X0_seekNumbered {g : zGG} {Q : Int → zMem → Prop} {d : zMem} {bd : Nat} {a : Nat} {x2 : Int} (hbd : isBd bd) (ha : isRiv a) (h : ((inR x2) ∧ (x2 < 0 → Q 0 d) ∧ (0 ≤ x2 → ((inR x2) ∧ (x2 < 150 → (Fr g (eM g M_X0_seekNumbered FUL FUL Q) M_X0_seekNumbered FUL 18 [some (zR bd), some (zR (a + 2)), some (zI x2), some (zI 0), some (zI 0)] [] d)) ∧ (150 ≤ x2 → Q 0 d))))) : Ev g M_X0_seekNumbered FUL FUL [zR bd, zR (a + 2), zI x2] d Q :=
  Ev_of (by decide +kernel) (Nat.le_of_ble_eq_true rfl) (v_X0_seekNumbered_0 hbd ha h)
set_option maxRecDepth 20000 in
theorem v_X0_seekNumbered_18 {g : zGG} {Q : Int → zMem → Prop} {d : zMem} {bd : Nat} {a : Nat} {x2 : Int} (hbd : isBd bd) (ha : isRiv a) {x3 : Int} {x4 : Int} (h : ((inR x4 ∧ inR x2) ∧ (x2 < x4 → Q 1 d) ∧ (x4 ≤ x2 → Ev g M_X0_seekFrom FUL FUL [zR bd, zR (a + 2), zI x3] d (fun v1 d1 => ((inR v1) ∧ (v1 ≠ 0 → (Fr g (eM g M_X0_seekNumbered FUL FUL Q) M_X0_seekNumbered FUL 18 [some (zR bd), some (zR (a + 2)), some (zI x2), some (zI ((d1 bd 0) + 1)), some (zI (x4 + 1))] [] d1)) ∧ (v1 = 0 → Q 0 d1)))))) : Fr g (eM g M_X0_seekNumbered FUL FUL Q) M_X0_seekNumbered FUL 18 [some (zR bd), some (zR (a + 2)), some (zI x2), some (zI x3), some (zI x4)] [] d := by
  refine z_iload (i := 4) dX0_seekNumbered_18 rfl ?_
  refine z_iload_n (i := 2) dX0_seekNumbered_20 rfl rfl ?_
  refine zb_icmp_gt (tgt := 48) dX0_seekNumbered_21 (by decide) h.1 ⟨fun c => ?_, fun c => ?_⟩
  · replace h := h.2.1 c
    refine z_iconst dX0_seekNumbered_48 ?_
    exact zret_z rfl dX0_seekNumbered_49 (by decide) h
  · replace h := h.2.2 c
    refine z_aloadR_n (i := 0) dX0_seekNumbered_24 rfl rfl ?_
    refine z_aloadR_n (i := 1) dX0_seekNumbered_25 rfl rfl ?_
    refine z_iload_n (i := 3) dX0_seekNumbered_26 rfl rfl ?_
    refine z_callVi (k' := M_X0_seekFrom) (As := [zR (a + 2), zI x3]) (st := []) dX0_seekNumbered_27 rfl (lbd hbd) (by decide) rfl (ltbd hbd) wm_X0_45 ok_X0_seekFrom okV_X0_seekFrom rfl (zroom_self (by decide) (by decide)) (Nat.le_of_ble_eq_true rfl) (Nat.le_refl _) rfl (Ev_mono h (fun v1 d1 h => ?_))
    refine zb_if_ne (tgt := 35) dX0_seekNumbered_30 (by decide) h.1 ⟨fun c => ?_, fun c => ?_⟩
    · replace h := h.2.1 c
      refine z_aloadR_n (i := 0) dX0_seekNumbered_35 rfl rfl ?_
      refine z_getI' 0 0 (idx := 35) (fv := (d1 bd 0)) (lbd hbd) (by decide) (by decide) rfl (ltbd hbd) wf_X0_35 dX0_seekNumbered_36 rfl ?_
      refine z_iconst dX0_seekNumbered_39 ?_
      refine z_iadd dX0_seekNumbered_40 ?_
      refine z_istore_n (i := 3) (ls2 := [some (zR bd), some (zR (a + 2)), some (zI x2), some (zI ((d1 bd 0) + 1)), some (zI x4)]) dX0_seekNumbered_41 rfl (by decide) rfl ?_
      refine z_iinc (i := 4) (ls2 := [some (zR bd), some (zR (a + 2)), some (zI x2), some (zI ((d1 bd 0) + 1)), some (zI (x4 + 1))]) dX0_seekNumbered_42 (by decide) rfl rfl ?_
      refine z_goto (tgt := 18) dX0_seekNumbered_45 (by decide) ?_
      exact h
    · replace h := h.2.2 c
      refine z_iconst dX0_seekNumbered_33 ?_
      exact zret_z rfl dX0_seekNumbered_34 (by decide) h
set_option maxRecDepth 20000 in
theorem v_X0_endOfRow_0 {g : zGG} {Q : Int → zMem → Prop} {d : zMem} {a : Nat} {x1 : Int} {x2 : Int} (ha : isRiv a)  (h : (Fr g (eM g M_X0_endOfRow FUL FUL Q) M_X0_endOfRow FUL 2 [some (zR (a + 2)), some (zI x1), some (zI x2), some (zI x1)] [] d)) : Fr g (eM g M_X0_endOfRow FUL FUL Q) M_X0_endOfRow FUL 0 [some (zR (a + 2)), some (zI x1), some (zI x2), none] [] d := by
  refine z_iload_n (i := 1) dX0_endOfRow_0 rfl rfl ?_
  refine z_istore_n (i := 3) (ls2 := [some (zR (a + 2)), some (zI x1), some (zI x2), some (zI x1)]) dX0_endOfRow_1 rfl (by decide) rfl ?_
  exact h
theorem e_X0_endOfRow {g : zGG} {Q : Int → zMem → Prop} {d : zMem} {a : Nat} {x1 : Int} {x2 : Int} (ha : isRiv a) (h : (Fr g (eM g M_X0_endOfRow FUL FUL Q) M_X0_endOfRow FUL 2 [some (zR (a + 2)), some (zI x1), some (zI x2), some (zI x1)] [] d)) : Ev g M_X0_endOfRow FUL FUL [zR (a + 2), zI x1, zI x2] d Q :=
  Ev_of (by decide +kernel) (Nat.le_of_ble_eq_true rfl) (v_X0_endOfRow_0 ha h)
set_option maxRecDepth 20000 in
theorem v_X0_endOfRow_2 {g : zGG} {Q : Int → zMem → Prop} {d : zMem} {a : Nat} {x1 : Int} {x2 : Int} (ha : isRiv a) {x3 : Int} (h : Ev g M_X1_length FUL FUL [zR (a + 2)] d (fun v1 d1 => ((inR x3 ∧ inR v1) ∧ (v1 ≤ x3 → Q x3 d1) ∧ (x3 < v1 → Ev g M_X1_wayFrom FUL FUL [zR (a + 2), zI x3] d1 (fun v2 d2 => ((inR v2 ∧ inR x2) ∧ (v2 ≠ x2 → Q x3 d2) ∧ (v2 = x2 → (Fr g (eM g M_X0_endOfRow FUL FUL Q) M_X0_endOfRow FUL 2 [some (zR (a + 2)), some (zI x1), some (zI x2), some (zI (x3 + 1))] [] d2)))))))) : Fr g (eM g M_X0_endOfRow FUL FUL Q) M_X0_endOfRow FUL 2 [some (zR (a + 2)), some (zI x1), some (zI x2), some (zI x3)] [] d := by
  refine z_iload_n (i := 3) dX0_endOfRow_2 rfl rfl ?_
  refine z_aloadR_n (i := 0) dX0_endOfRow_3 rfl rfl ?_
  refine z_callVi (k' := M_X1_length) (As := []) (st := [zI x3]) dX0_endOfRow_4 rfl (rl2 ha) (by decide) rfl (rlt2 ha) wm_X0_15 ok_X1_length okV_X1_length rfl (zroom_self (by decide) (by decide)) (Nat.le_of_ble_eq_true rfl) (Nat.le_refl _) rfl (Ev_mono h (fun v1 d1 h => ?_))
  refine zb_icmp_ge (tgt := 25) dX0_endOfRow_7 (by decide) h.1 ⟨fun c => ?_, fun c => ?_⟩
  · replace h := h.2.1 c
    refine z_iload_n (i := 3) dX0_endOfRow_25 rfl rfl ?_
    exact zret_i rfl dX0_endOfRow_26 h
  · replace h := h.2.2 c
    refine z_aloadR_n (i := 0) dX0_endOfRow_10 rfl rfl ?_
    refine z_iload_n (i := 3) dX0_endOfRow_11 rfl rfl ?_
    refine z_callVi (k' := M_X1_wayFrom) (As := [zI x3]) (st := []) dX0_endOfRow_12 rfl (rl2 ha) (by decide) rfl (rlt2 ha) wm_X0_21 ok_X1_wayFrom okV_X1_wayFrom rfl (zroom_self (by decide) (by decide)) (Nat.le_of_ble_eq_true rfl) (Nat.le_refl _) rfl (Ev_mono h (fun v2 d2 h => ?_))
    refine z_iload_n (i := 2) dX0_endOfRow_15 rfl rfl ?_
    refine zb_icmp_ne (tgt := 25) dX0_endOfRow_16 (by decide) h.1 ⟨fun c => ?_, fun c => ?_⟩
    · replace h := h.2.1 c
      refine z_iload_n (i := 3) dX0_endOfRow_25 rfl rfl ?_
      exact zret_i rfl dX0_endOfRow_26 h
    · replace h := h.2.2 c
      refine z_iinc (i := 3) (ls2 := [some (zR (a + 2)), some (zI x1), some (zI x2), some (zI (x3 + 1))]) dX0_endOfRow_19 (by decide) rfl rfl ?_
      refine z_goto (tgt := 2) dX0_endOfRow_22 (by decide) ?_
      exact h
set_option maxRecDepth 20000 in
theorem v_X3_seekNumbered_0 {g : zGG} {Q : Int → zMem → Prop} {d : zMem} {nk : Nat} {a : Nat} {x2 : Int} (hnk : isNk nk) (ha : isRiv a)  (h : ((inR x2) ∧ (0 ≤ x2 → (Fr g (eM g M_X3_seekNumbered FUL FUL Q) M_X3_seekNumbered FUL 11 [some (zR nk), some (zR (a + 2)), some (zI x2), some (zI 0), some (zI 0), none, none] [] d)) ∧ (x2 < 0 → Q 0 d))) : Fr g (eM g M_X3_seekNumbered FUL FUL Q) M_X3_seekNumbered FUL 0 [some (zR nk), some (zR (a + 2)), some (zI x2), none, none, none, none] [] d := by
  refine z_iload_n (i := 2) dX3_seekNumbered_0 rfl rfl ?_
  refine zb_if_ge (tgt := 6) dX3_seekNumbered_1 (by decide) h.1 ⟨fun c => ?_, fun c => ?_⟩
  · replace h := h.2.1 c
    refine z_iconst dX3_seekNumbered_6 ?_
    refine z_istore_n (i := 3) (ls2 := [some (zR nk), some (zR (a + 2)), some (zI x2), some (zI 0), none, none, none]) dX3_seekNumbered_7 rfl (by decide) rfl ?_
    refine z_iconst dX3_seekNumbered_8 ?_
    refine z_istore (i := 4) (ls2 := [some (zR nk), some (zR (a + 2)), some (zI x2), some (zI 0), some (zI 0), none, none]) dX3_seekNumbered_9 (by decide) rfl ?_
    exact h
  · replace h := h.2.2 c
    refine z_iconst dX3_seekNumbered_4 ?_
    exact zret_z rfl dX3_seekNumbered_5 (by decide) h
theorem e_X3_seekNumbered {g : zGG} {Q : Int → zMem → Prop} {d : zMem} {nk : Nat} {a : Nat} {x2 : Int} (hnk : isNk nk) (ha : isRiv a) (h : ((inR x2) ∧ (0 ≤ x2 → (Fr g (eM g M_X3_seekNumbered FUL FUL Q) M_X3_seekNumbered FUL 11 [some (zR nk), some (zR (a + 2)), some (zI x2), some (zI 0), some (zI 0), none, none] [] d)) ∧ (x2 < 0 → Q 0 d))) : Ev g M_X3_seekNumbered FUL FUL [zR nk, zR (a + 2), zI x2] d Q :=
  Ev_of (by decide +kernel) (Nat.le_of_ble_eq_true rfl) (v_X3_seekNumbered_0 hnk ha h)
set_option maxRecDepth 20000 in
theorem v_X3_seekNumbered_11 {g : zGG} {Q : Int → zMem → Prop} {d : zMem} {nk : Nat} {a : Nat} {x2 : Int} (hnk : isNk nk) (ha : isRiv a) {x3 : Int} {x4 : Int} (h : Ev g M_X1_length FUL FUL [zR (a + 2)] d (fun v1 d1 => ((inR x4 ∧ inR v1) ∧ (v1 ≤ x4 → Q 0 d1) ∧ (x4 < v1 → (Fr g (eM g M_X3_seekNumbered FUL FUL Q) M_X3_seekNumbered FUL 31 [some (zR nk), some (zR (a + 2)), some (zI x2), some (zI x3), some (zI x4), some (zI ((x4 + 3) - 1)), some (zI 0)] [] d1))))) : Fr g (eM g M_X3_seekNumbered FUL FUL Q) M_X3_seekNumbered FUL 11 [some (zR nk), some (zR (a + 2)), some (zI x2), some (zI x3), some (zI x4), none, none] [] d := by
  refine z_iload (i := 4) dX3_seekNumbered_11 rfl ?_
  refine z_aloadR_n (i := 1) dX3_seekNumbered_13 rfl rfl ?_
  refine z_callVi (k' := M_X1_length) (As := []) (st := [zI x4]) dX3_seekNumbered_14 rfl (rl2 ha) (by decide) rfl (rlt2 ha) wm_X3_9 ok_X1_length okV_X1_length rfl (zroom_self (by decide) (by decide)) (Nat.le_of_ble_eq_true rfl) (Nat.le_refl _) rfl (Ev_mono h (fun v1 d1 h => ?_))
  refine zb_icmp_ge (tgt := 90) dX3_seekNumbered_17 (by decide) h.1 ⟨fun c => ?_, fun c => ?_⟩
  · replace h := h.2.1 c
    refine z_iconst dX3_seekNumbered_90 ?_
    exact zret_z rfl dX3_seekNumbered_91 (by decide) h
  · replace h := h.2.2 c
    refine z_iload (i := 4) dX3_seekNumbered_20 rfl ?_
    refine z_iconst dX3_seekNumbered_22 ?_
    refine z_iadd dX3_seekNumbered_23 ?_
    refine z_iconst dX3_seekNumbered_24 ?_
    refine z_isub dX3_seekNumbered_25 ?_
    refine z_istore (i := 5) (ls2 := [some (zR nk), some (zR (a + 2)), some (zI x2), some (zI x3), some (zI x4), some (zI ((x4 + 3) - 1)), none]) dX3_seekNumbered_26 (by decide) rfl ?_
    refine z_iconst dX3_seekNumbered_28 ?_
    refine z_istore (i := 6) (ls2 := [some (zR nk), some (zR (a + 2)), some (zI x2), some (zI x3), some (zI x4), some (zI ((x4 + 3) - 1)), some (zI 0)]) dX3_seekNumbered_29 (by decide) rfl ?_
    exact h
set_option maxRecDepth 20000 in
theorem v_X3_seekNumbered_31 {g : zGG} {Q : Int → zMem → Prop} {d : zMem} {nk : Nat} {a : Nat} {x2 : Int} (hnk : isNk nk) (ha : isRiv a) {x3 : Int} {x4 : Int} {x5 : Int} {x6 : Int} (h : ((inR x6) ∧ (4 ≤ x6 → (Fr g (eM g M_X3_seekNumbered FUL FUL Q) M_X3_seekNumbered FUL 11 [some (zR nk), some (zR (a + 2)), some (zI x2), some (zI x3), some (zI (x4 + 1)), none, none] [] d)) ∧ (x6 < 4 → Ev g M_X1_nextBeside FUL FUL [zR (a + 2), zI x4, zI x5] d (fun v1 d1 => ((inR v1) ∧ (v1 ≠ (-1) → ((inR x3 ∧ inR x2) ∧ (x3 ≠ x2 → (Fr g (eM g M_X3_seekNumbered FUL FUL Q) M_X3_seekNumbered FUL 31 [some (zR nk), some (zR (a + 2)), some (zI x2), some (zI (x3 + 1)), some (zI x4), some (zI v1), some (zI (x6 + 1))] [] d1)) ∧ (x3 = x2 → ∀ d2, d2 = mu d1 nk 0 x4 → ∀ d3, d3 = mu d2 nk 1 v1 → Q 1 d3))) ∧ (v1 = (-1) → (Fr g (eM g M_X3_seekNumbered FUL FUL Q) M_X3_seekNumbered FUL 11 [some (zR nk), some (zR (a + 2)), some (zI x2), some (zI x3), some (zI (x4 + 1)), none, none] [] d1))))))) : Fr g (eM g M_X3_seekNumbered FUL FUL Q) M_X3_seekNumbered FUL 31 [some (zR nk), some (zR (a + 2)), some (zI x2), some (zI x3), some (zI x4), some (zI x5), some (zI x6)] [] d := by
  refine z_iload (i := 6) dX3_seekNumbered_31 rfl ?_
  refine z_iconst dX3_seekNumbered_33 ?_
  refine zb_icmp_ge (tgt := 84) dX3_seekNumbered_34 (by decide) ⟨h.1, by decide⟩ ⟨fun c => ?_, fun c => ?_⟩
  · replace h := h.2.1 c
    refine z_iinc (i := 4) (ls2 := [some (zR nk), some (zR (a + 2)), some (zI x2), some (zI x3), some (zI (x4 + 1)), some (zI x5), some (zI x6)]) dX3_seekNumbered_84 (by decide) rfl rfl ?_
    refine z_goto (tgt := 11) dX3_seekNumbered_87 (by decide) ?_
    exact Fr_weak (ls2 := [some (zR nk), some (zR (a + 2)), some (zI x2), some (zI x3), some (zI (x4 + 1)), none, none]) (by exact ⟨Or.inr rfl, Or.inr rfl, Or.inr rfl, Or.inr rfl, Or.inr rfl, Or.inl rfl, Or.inl rfl, trivial⟩) h
  · replace h := h.2.2 c
    refine z_aloadR_n (i := 1) dX3_seekNumbered_37 rfl rfl ?_
    refine z_iload (i := 4) dX3_seekNumbered_38 rfl ?_
    refine z_iload (i := 5) dX3_seekNumbered_40 rfl ?_
    refine z_callVi (k' := M_X1_nextBeside) (As := [zI x4, zI x5]) (st := []) dX3_seekNumbered_42 rfl (rl2 ha) (by decide) rfl (rlt2 ha) wm_X3_15 ok_X1_nextBeside okV_X1_nextBeside rfl (zroom_self (by decide) (by decide)) (Nat.le_of_ble_eq_true rfl) (Nat.le_refl _) rfl (Ev_mono h (fun v1 d1 h => ?_))
    refine z_istore (i := 5) (ls2 := [some (zR nk), some (zR (a + 2)), some (zI x2), some (zI x3), some (zI x4), some (zI v1), some (zI x6)]) dX3_seekNumbered_45 (by decide) rfl ?_
    refine z_iload (i := 5) dX3_seekNumbered_47 rfl ?_
    refine z_iconst dX3_seekNumbered_49 ?_
    refine zb_icmp_ne (tgt := 56) dX3_seekNumbered_50 (by decide) ⟨h.1, by decide⟩ ⟨fun c => ?_, fun c => ?_⟩
    · replace h := h.2.1 c
      refine z_iload_n (i := 3) dX3_seekNumbered_56 rfl rfl ?_
      refine z_iload_n (i := 2) dX3_seekNumbered_57 rfl rfl ?_
      refine zb_icmp_ne (tgt := 75) dX3_seekNumbered_58 (by decide) h.1 ⟨fun c => ?_, fun c => ?_⟩
      · replace h := h.2.1 c
        refine z_iinc (i := 3) (ls2 := [some (zR nk), some (zR (a + 2)), some (zI x2), some (zI (x3 + 1)), some (zI x4), some (zI v1), some (zI x6)]) dX3_seekNumbered_75 (by decide) rfl rfl ?_
        refine z_iinc (i := 6) (ls2 := [some (zR nk), some (zR (a + 2)), some (zI x2), some (zI (x3 + 1)), some (zI x4), some (zI v1), some (zI (x6 + 1))]) dX3_seekNumbered_78 (by decide) rfl rfl ?_
        refine z_goto (tgt := 31) dX3_seekNumbered_81 (by decide) ?_
        exact h
      · replace h := h.2.2 c
        refine z_aloadR_n (i := 0) dX3_seekNumbered_61 rfl rfl ?_
        refine z_iload (i := 4) dX3_seekNumbered_62 rfl ?_
        refine z_putI 3 0 (idx := 19) (lnk hnk) (by decide) (by decide) rfl (ltnk hnk) rfl wf_X3_19 dX3_seekNumbered_64 (Or.inl rfl) ?_
        generalize hd2 : mu d1 nk ((0 : Nat) : Int) x4 = d2
        replace hd2 : d2 = mu d1 nk 0 x4 := hd2.symm
        replace h := h d2 hd2
        refine z_aloadR_n (i := 0) dX3_seekNumbered_67 rfl rfl ?_
        refine z_iload (i := 5) dX3_seekNumbered_68 rfl ?_
        refine z_putI 3 1 (idx := 25) (lnk hnk) (by decide) (by decide) rfl (ltnk hnk) rfl wf_X3_25 dX3_seekNumbered_70 (Or.inl rfl) ?_
        generalize hd3 : mu d2 nk ((1 : Nat) : Int) v1 = d3
        replace hd3 : d3 = mu d2 nk 1 v1 := hd3.symm
        replace h := h d3 hd3
        refine z_iconst dX3_seekNumbered_73 ?_
        exact zret_z rfl dX3_seekNumbered_74 (by decide) h
    · replace h := h.2.2 c
      refine z_goto (tgt := 84) dX3_seekNumbered_53 (by decide) ?_
      refine z_iinc (i := 4) (ls2 := [some (zR nk), some (zR (a + 2)), some (zI x2), some (zI x3), some (zI (x4 + 1)), some (zI v1), some (zI x6)]) dX3_seekNumbered_84 (by decide) rfl rfl ?_
      refine z_goto (tgt := 11) dX3_seekNumbered_87 (by decide) ?_
      exact Fr_weak (ls2 := [some (zR nk), some (zR (a + 2)), some (zI x2), some (zI x3), some (zI (x4 + 1)), none, none]) (by exact ⟨Or.inr rfl, Or.inr rfl, Or.inr rfl, Or.inr rfl, Or.inr rfl, Or.inl rfl, Or.inl rfl, trivial⟩) h
set_option maxRecDepth 20000 in
theorem v_X3_seekWidest_0 {g : zGG} {Q : Int → zMem → Prop} {d : zMem} {nk : Nat} {a : Nat} {x2 : Int} (hnk : isNk nk) (ha : isRiv a)  (h : ∀ d1, d1 = mu d nk 0 (-1) → ∀ d2, d2 = mu d1 nk 1 (-1) → (Fr g (eM g M_X3_seekWidest FUL FUL Q) M_X3_seekWidest FUL 21 [some (zR nk), some (zR a), some (zI x2), some (zI 2), some (zR (a + 2)), some (zI 0), none, none] [] d2)) : Fr g (eM g M_X3_seekWidest FUL FUL Q) M_X3_seekWidest FUL 0 [some (zR nk), some (zR a), some (zI x2), none, none, none, none, none] [] d := by
  refine z_aloadR_n (i := 0) dX3_seekWidest_0 rfl rfl ?_
  refine z_iconst dX3_seekWidest_1 ?_
  refine z_putI 3 0 (idx := 19) (lnk hnk) (by decide) (by decide) rfl (ltnk hnk) rfl wf_X3_19 dX3_seekWidest_2 (Or.inl rfl) ?_
  generalize hd1 : mu d nk ((0 : Nat) : Int) (-1) = d1
  replace hd1 : d1 = mu d nk 0 (-1) := hd1.symm
  replace h := h d1 hd1
  refine z_aloadR_n (i := 0) dX3_seekWidest_5 rfl rfl ?_
  refine z_iconst dX3_seekWidest_6 ?_
  refine z_putI 3 1 (idx := 25) (lnk hnk) (by decide) (by decide) rfl (ltnk hnk) rfl wf_X3_25 dX3_seekWidest_7 (Or.inl rfl) ?_
  generalize hd2 : mu d1 nk ((1 : Nat) : Int) (-1) = d2
  replace hd2 : d2 = mu d1 nk 1 (-1) := hd2.symm
  replace h := h d2 hd2
  refine z_iconst dX3_seekWidest_10 ?_
  refine z_istore_n (i := 3) (ls2 := [some (zR nk), some (zR a), some (zI x2), some (zI 2), none, none, none, none]) dX3_seekWidest_11 rfl (by decide) rfl ?_
  refine z_aloadR_n (i := 1) dX3_seekWidest_12 rfl rfl ?_
  refine z_getRN 7 1 (idx := 28) (rl0 ha) (by decide) (by decide) rfl (rlt0 ha) rfl (rt0_1 ha) wf_X3_28 dX3_seekWidest_13 ?_
  refine z_astoreR (i := 4) (ls2 := [some (zR nk), some (zR a), some (zI x2), some (zI 2), some (zR (a + 2)), none, none, none]) dX3_seekWidest_16 (by decide) rfl ?_
  refine z_iconst dX3_seekWidest_18 ?_
  refine z_istore (i := 5) (ls2 := [some (zR nk), some (zR a), some (zI x2), some (zI 2), some (zR (a + 2)), some (zI 0), none, none]) dX3_seekWidest_19 (by decide) rfl ?_
  exact h
theorem e_X3_seekWidest {g : zGG} {Q : Int → zMem → Prop} {d : zMem} {nk : Nat} {a : Nat} {x2 : Int} (hnk : isNk nk) (ha : isRiv a) (h : ∀ d1, d1 = mu d nk 0 (-1) → ∀ d2, d2 = mu d1 nk 1 (-1) → (Fr g (eM g M_X3_seekWidest FUL FUL Q) M_X3_seekWidest FUL 21 [some (zR nk), some (zR a), some (zI x2), some (zI 2), some (zR (a + 2)), some (zI 0), none, none] [] d2)) : Ev g M_X3_seekWidest FUL FUL [zR nk, zR a, zI x2] d Q :=
  Ev_of (by decide +kernel) (Nat.le_of_ble_eq_true rfl) (v_X3_seekWidest_0 hnk ha h)
set_option maxRecDepth 20000 in
theorem v_X3_seekWidest_21 {g : zGG} {Q : Int → zMem → Prop} {d : zMem} {nk : Nat} {a : Nat} {x2 : Int} (hnk : isNk nk) (ha : isRiv a) {x3 : Int} {x5 : Int} (h : Ev g M_X1_length FUL FUL [zR (a + 2)] d (fun v1 d1 => ((inR x5 ∧ inR v1) ∧ (v1 ≤ x5 → ((inR (d1 nk 0)) ∧ ((d1 nk 0) = (-1) → Q 0 d1) ∧ ((d1 nk 0) ≠ (-1) → Q 1 d1))) ∧ (x5 < v1 → (Fr g (eM g M_X3_seekWidest FUL FUL Q) M_X3_seekWidest FUL 34 [some (zR nk), some (zR a), some (zI x2), some (zI x3), some (zR (a + 2)), some (zI x5), some (zI 0), none] [] d1))))) : Fr g (eM g M_X3_seekWidest FUL FUL Q) M_X3_seekWidest FUL 21 [some (zR nk), some (zR a), some (zI x2), some (zI x3), some (zR (a + 2)), some (zI x5), none, none] [] d := by
  refine z_iload (i := 5) dX3_seekWidest_21 rfl ?_
  refine z_aloadR (i := 4) dX3_seekWidest_23 rfl ?_
  refine z_callVi (k' := M_X1_length) (As := []) (st := [zI x5]) dX3_seekWidest_25 rfl (rl2 ha) (by decide) rfl (rlt2 ha) wm_X3_9 ok_X1_length okV_X1_length rfl (zroom_self (by decide) (by decide)) (Nat.le_of_ble_eq_true rfl) (Nat.le_refl _) rfl (Ev_mono h (fun v1 d1 h => ?_))
  refine zb_icmp_ge (tgt := 102) dX3_seekWidest_28 (by decide) h.1 ⟨fun c => ?_, fun c => ?_⟩
  · replace h := h.2.1 c
    refine z_aloadR_n (i := 0) dX3_seekWidest_102 rfl rfl ?_
    refine z_getI' 3 0 (idx := 19) (fv := (d1 nk 0)) (lnk hnk) (by decide) (by decide) rfl (ltnk hnk) wf_X3_19 dX3_seekWidest_103 rfl ?_
    refine z_iconst dX3_seekWidest_106 ?_
    refine zb_icmp_eq (tgt := 114) dX3_seekWidest_107 (by decide) ⟨h.1, by decide⟩ ⟨fun c => ?_, fun c => ?_⟩
    · replace h := h.2.1 c
      refine z_iconst dX3_seekWidest_114 ?_
      exact zret_z rfl dX3_seekWidest_115 (by decide) h
    · replace h := h.2.2 c
      refine z_iconst dX3_seekWidest_110 ?_
      refine z_goto (tgt := 115) dX3_seekWidest_111 (by decide) ?_
      exact zret_z rfl dX3_seekWidest_115 (by decide) h
  · replace h := h.2.2 c
    refine z_iconst dX3_seekWidest_31 ?_
    refine z_istore (i := 6) (ls2 := [some (zR nk), some (zR a), some (zI x2), some (zI x3), some (zR (a + 2)), some (zI x5), some (zI 0), none]) dX3_seekWidest_32 (by decide) rfl ?_
    exact h
set_option maxRecDepth 20000 in
theorem v_X3_seekWidest_34 {g : zGG} {Q : Int → zMem → Prop} {d : zMem} {nk : Nat} {a : Nat} {x2 : Int} (hnk : isNk nk) (ha : isRiv a) {x3 : Int} {x5 : Int} {x6 : Int} (h : ((inR x6) ∧ (4 ≤ x6 → (Fr g (eM g M_X3_seekWidest FUL FUL Q) M_X3_seekWidest FUL 21 [some (zR nk), some (zR a), some (zI x2), some (zI x3), some (zR (a + 2)), some (zI (x5 + 1)), none, none] [] d)) ∧ (x6 < 4 → Ev g M_X1_numberBeside FUL FUL [zR (a + 2), zI x5, zI x6] d (fun v1 d1 => ((inR (v1 - x5) ∧ inR x3) ∧ ((v1 - x5) ≤ x3 → (Fr g (eM g M_X3_seekWidest FUL FUL Q) M_X3_seekWidest FUL 34 [some (zR nk), some (zR a), some (zI x2), some (zI x3), some (zR (a + 2)), some (zI x5), some (zI (x6 + 1)), none] [] d1)) ∧ (x3 < (v1 - x5) → Ev g M_X7_ageOf FUL FUL [zR a, zI x5, zI v1] d1 (fun v2 d2 => ((inR v2 ∧ inR x2) ∧ (v2 < x2 → (Fr g (eM g M_X3_seekWidest FUL FUL Q) M_X3_seekWidest FUL 34 [some (zR nk), some (zR a), some (zI x2), some (zI x3), some (zR (a + 2)), some (zI x5), some (zI (x6 + 1)), none] [] d2)) ∧ (x2 ≤ v2 → ∀ d3, d3 = mu d2 nk 0 x5 → ∀ d4, d4 = mu d3 nk 1 v1 → (Fr g (eM g M_X3_seekWidest FUL FUL Q) M_X3_seekWidest FUL 34 [some (zR nk), some (zR a), some (zI x2), some (zI (v1 - x5)), some (zR (a + 2)), some (zI x5), some (zI (x6 + 1)), none] [] d4)))))))))) : Fr g (eM g M_X3_seekWidest FUL FUL Q) M_X3_seekWidest FUL 34 [some (zR nk), some (zR a), some (zI x2), some (zI x3), some (zR (a + 2)), some (zI x5), some (zI x6), none] [] d := by
  refine z_iload (i := 6) dX3_seekWidest_34 rfl ?_
  refine z_iconst dX3_seekWidest_36 ?_
  refine zb_icmp_ge (tgt := 96) dX3_seekWidest_37 (by decide) ⟨h.1, by decide⟩ ⟨fun c => ?_, fun c => ?_⟩
  · replace h := h.2.1 c
    refine z_iinc (i := 5) (ls2 := [some (zR nk), some (zR a), some (zI x2), some (zI x3), some (zR (a + 2)), some (zI (x5 + 1)), some (zI x6), none]) dX3_seekWidest_96 (by decide) rfl rfl ?_
    refine z_goto (tgt := 21) dX3_seekWidest_99 (by decide) ?_
    exact Fr_weak (ls2 := [some (zR nk), some (zR a), some (zI x2), some (zI x3), some (zR (a + 2)), some (zI (x5 + 1)), none, none]) (by exact ⟨Or.inr rfl, Or.inr rfl, Or.inr rfl, Or.inr rfl, Or.inr rfl, Or.inr rfl, Or.inl rfl, Or.inl rfl, trivial⟩) h
  · replace h := h.2.2 c
    refine z_aloadR (i := 4) dX3_seekWidest_40 rfl ?_
    refine z_iload (i := 5) dX3_seekWidest_42 rfl ?_
    refine z_iload (i := 6) dX3_seekWidest_44 rfl ?_
    refine z_callVi (k' := M_X1_numberBeside) (As := [zI x5, zI x6]) (st := []) dX3_seekWidest_46 rfl (rl2 ha) (by decide) rfl (rlt2 ha) wm_X3_34 ok_X1_numberBeside okV_X1_numberBeside rfl (zroom_self (by decide) (by decide)) (Nat.le_of_ble_eq_true rfl) (Nat.le_refl _) rfl (Ev_mono h (fun v1 d1 h => ?_))
    refine z_istore (i := 7) (ls2 := [some (zR nk), some (zR a), some (zI x2), some (zI x3), some (zR (a + 2)), some (zI x5), some (zI x6), some (zI v1)]) dX3_seekWidest_49 (by decide) rfl ?_
    refine z_iload (i := 7) dX3_seekWidest_51 rfl ?_
    refine z_iload (i := 5) dX3_seekWidest_53 rfl ?_
    refine z_isub dX3_seekWidest_55 ?_
    refine z_iload_n (i := 3) dX3_seekWidest_56 rfl rfl ?_
    refine zb_icmp_le (tgt := 90) dX3_seekWidest_57 (by decide) h.1 ⟨fun c => ?_, fun c => ?_⟩
    · replace h := h.2.1 c
      refine z_iinc (i := 6) (ls2 := [some (zR nk), some (zR a), some (zI x2), some (zI x3), some (zR (a + 2)), some (zI x5), some (zI (x6 + 1)), some (zI v1)]) dX3_seekWidest_90 (by decide) rfl rfl ?_
      refine z_goto (tgt := 34) dX3_seekWidest_93 (by decide) ?_
      exact Fr_weak (ls2 := [some (zR nk), some (zR a), some (zI x2), some (zI x3), some (zR (a + 2)), some (zI x5), some (zI (x6 + 1)), none]) (by exact ⟨Or.inr rfl, Or.inr rfl, Or.inr rfl, Or.inr rfl, Or.inr rfl, Or.inr rfl, Or.inr rfl, Or.inl rfl, trivial⟩) h
    · replace h := h.2.2 c
      refine z_aloadR_n (i := 1) dX3_seekWidest_60 rfl rfl ?_
      refine z_iload (i := 5) dX3_seekWidest_61 rfl ?_
      refine z_iload (i := 7) dX3_seekWidest_63 rfl ?_
      refine z_callVi (k' := M_X7_ageOf) (As := [zI x5, zI v1]) (st := []) dX3_seekWidest_65 rfl (rl0 ha) (by decide) rfl (rlt0 ha) wm_X3_37 ok_X7_ageOf okV_X7_ageOf rfl (zroom_self (by decide) (by decide)) (Nat.le_of_ble_eq_true rfl) (Nat.le_refl _) rfl (Ev_mono h (fun v2 d2 h => ?_))
      refine z_iload_n (i := 2) dX3_seekWidest_68 rfl rfl ?_
      refine zb_icmp_lt (tgt := 90) dX3_seekWidest_69 (by decide) h.1 ⟨fun c => ?_, fun c => ?_⟩
      · replace h := h.2.1 c
        refine z_iinc (i := 6) (ls2 := [some (zR nk), some (zR a), some (zI x2), some (zI x3), some (zR (a + 2)), some (zI x5), some (zI (x6 + 1)), some (zI v1)]) dX3_seekWidest_90 (by decide) rfl rfl ?_
        refine z_goto (tgt := 34) dX3_seekWidest_93 (by decide) ?_
        exact Fr_weak (ls2 := [some (zR nk), some (zR a), some (zI x2), some (zI x3), some (zR (a + 2)), some (zI x5), some (zI (x6 + 1)), none]) (by exact ⟨Or.inr rfl, Or.inr rfl, Or.inr rfl, Or.inr rfl, Or.inr rfl, Or.inr rfl, Or.inr rfl, Or.inl rfl, trivial⟩) h
      · replace h := h.2.2 c
        refine z_aloadR_n (i := 0) dX3_seekWidest_72 rfl rfl ?_
        refine z_iload (i := 5) dX3_seekWidest_73 rfl ?_
        refine z_putI 3 0 (idx := 19) (lnk hnk) (by decide) (by decide) rfl (ltnk hnk) rfl wf_X3_19 dX3_seekWidest_75 (Or.inl rfl) ?_
        generalize hd3 : mu d2 nk ((0 : Nat) : Int) x5 = d3
        replace hd3 : d3 = mu d2 nk 0 x5 := hd3.symm
        replace h := h d3 hd3
        refine z_aloadR_n (i := 0) dX3_seekWidest_78 rfl rfl ?_
        refine z_iload (i := 7) dX3_seekWidest_79 rfl ?_
        refine z_putI 3 1 (idx := 25) (lnk hnk) (by decide) (by decide) rfl (ltnk hnk) rfl wf_X3_25 dX3_seekWidest_81 (Or.inl rfl) ?_
        generalize hd4 : mu d3 nk ((1 : Nat) : Int) v1 = d4
        replace hd4 : d4 = mu d3 nk 1 v1 := hd4.symm
        replace h := h d4 hd4
        refine z_iload (i := 7) dX3_seekWidest_84 rfl ?_
        refine z_iload (i := 5) dX3_seekWidest_86 rfl ?_
        refine z_isub dX3_seekWidest_88 ?_
        refine z_istore_n (i := 3) (ls2 := [some (zR nk), some (zR a), some (zI x2), some (zI (v1 - x5)), some (zR (a + 2)), some (zI x5), some (zI x6), some (zI v1)]) dX3_seekWidest_89 rfl (by decide) rfl ?_
        refine z_iinc (i := 6) (ls2 := [some (zR nk), some (zR a), some (zI x2), some (zI (v1 - x5)), some (zR (a + 2)), some (zI x5), some (zI (x6 + 1)), some (zI v1)]) dX3_seekWidest_90 (by decide) rfl rfl ?_
        refine z_goto (tgt := 34) dX3_seekWidest_93 (by decide) ?_
        exact Fr_weak (ls2 := [some (zR nk), some (zR a), some (zI x2), some (zI (v1 - x5)), some (zR (a + 2)), some (zI x5), some (zI (x6 + 1)), none]) (by exact ⟨Or.inr rfl, Or.inr rfl, Or.inr rfl, Or.inr rfl, Or.inr rfl, Or.inr rfl, Or.inr rfl, Or.inl rfl, trivial⟩) h
set_option maxRecDepth 20000 in
theorem v_X4_clear_0 {g : zGG} {φ : zPhi} {Q : Int → zMem → Prop} {d : zMem} {a : Nat} (ha : isRiv a) (h0 : a + 9 < φ.1) (hw0 : φ.2 (a + 5) 0 = true)  (h : ∀ d1, d1 = mu d (a + 5) 4 0 → Ev g M_J7_fill_53178 φ φ [zR (a + 6), zI (-1)] d1 (fun _ d2 => Q 0 d2)) : Fr g (eM g M_X4_clear φ φ Q) M_X4_clear φ 0 [some (zR (a + 5))] [] d := by
  refine z_aloadR_n (i := 0) dX4_clear_0 rfl rfl ?_
  refine z_iconst dX4_clear_1 ?_
  refine z_putI 4 4 (idx := 27) (rl5 ha) (by decide) (by decide) rfl (hlt5 h0) rfl wf_X4_27 dX4_clear_2 (Or.inl rfl) ?_
  generalize hd1 : mu d (a + 5) ((4 : Nat) : Int) 0 = d1
  replace hd1 : d1 = mu d (a + 5) 4 0 := hd1.symm
  replace h := h d1 hd1
  refine z_aloadR_n (i := 0) dX4_clear_5 rfl rfl ?_
  refine z_getR 4 0 (idx := 9) (rl5 ha) (by decide) (by decide) rfl (hlt5 h0) hw0 (rt5_0 ha) wf_X4_9 dX4_clear_6 ?_
  refine z_iconst dX4_clear_9 ?_
  refine z_callS (k' := M_J7_fill_53178) (As := [zR (a + 6), zI (-1)]) (st := []) dX4_clear_10 rfl wm_X4_31 ok_J7_fill_53178 okS_J7_fill_53178 rfl (zroom_self (by decide) (by decide)) (Nat.le_of_ble_eq_true rfl) (Nat.le_refl _) (zEnd_v (Nat.le_refl _) rfl (fun _ _ q => q)) (Ev_mono h (fun _ d2 h => ?_))
  exact zret_v rfl dX4_clear_13 h
theorem e_X4_clear {g : zGG} {φ : zPhi} {Q : Int → zMem → Prop} {d : zMem} {a : Nat} (ha : isRiv a) (h0 : a + 9 < φ.1) (hw0 : φ.2 (a + 5) 0 = true) (h : ∀ d1, d1 = mu d (a + 5) 4 0 → Ev g M_J7_fill_53178 φ φ [zR (a + 6), zI (-1)] d1 (fun _ d2 => Q 0 d2)) : Ev g M_X4_clear φ φ [zR (a + 5)] d Q :=
  Ev_of (by decide +kernel) (Nat.le_of_ble_eq_true rfl) (v_X4_clear_0 ha h0 hw0 h)
set_option maxRecDepth 20000 in
theorem v_X4_copyFrom_0 {g : zGG} {Q : Int → zMem → Prop} {d : zMem} {a : Nat} {b : Nat} (ha : isRiv a) (hb : isRiv b)  (h : ∀ d1, d1 = mrow d (a + 6) (zcp (d (b + 6)) (d (a + 6)) 0 0 240) → ∀ d2, d2 = mrow d1 (a + 7) (zcp (d1 (b + 7)) (d1 (a + 7)) 0 0 12) → ∀ d3, d3 = mrow d2 (a + 8) (zcp (d2 (b + 8)) (d2 (a + 8)) 0 0 12) → ∀ d4, d4 = mrow d3 (a + 9) (zcp (d3 (b + 9)) (d3 (a + 9)) 0 0 12) → ∀ d5, d5 = mu d4 (a + 5) 4 (d4 (b + 5) 4) → Q 0 d5) : Fr g (eM g M_X4_copyFrom FUL FUL Q) M_X4_copyFrom FUL 0 [some (zR (a + 5)), some (zR (b + 5))] [] d := by
  refine z_aloadR_n (i := 1) dX4_copyFrom_0 rfl rfl ?_
  refine z_getR 4 0 (idx := 9) (rl5 hb) (by decide) (by decide) rfl (rlt5 hb) rfl (rt5_0 hb) wf_X4_9 dX4_copyFrom_1 ?_
  refine z_iconst dX4_copyFrom_4 ?_
  refine z_aloadR_n (i := 0) dX4_copyFrom_5 rfl rfl ?_
  refine z_getR 4 0 (idx := 9) (rl5 ha) (by decide) (by decide) rfl (rlt5 ha) rfl (rt5_0 ha) wf_X4_9 dX4_copyFrom_6 ?_
  refine z_iconst dX4_copyFrom_9 ?_
  refine z_sipush dX4_copyFrom_10 (by decide +kernel) ?_
  refine z_copy (rl6 hb) (rl6 ha) (rlt6 hb) (rlt6 ha) (by decide) (by decide) dX4_copyFrom_13 wm_X4_37 wSn wSs wSi ⟨Nat.le_of_ble_eq_true rfl, Nat.le_of_ble_eq_true rfl⟩ ?_
  generalize hd1 : mrow d (a + 6) (zcp (d (b + 6)) (d (a + 6)) 0 0 240) = d1
  replace hd1 := hd1.symm
  replace h := h d1 hd1
  refine z_aloadR_n (i := 1) dX4_copyFrom_16 rfl rfl ?_
  refine z_getR 4 1 (idx := 15) (rl5 hb) (by decide) (by decide) rfl (rlt5 hb) rfl (rt5_1 hb) wf_X4_15 dX4_copyFrom_17 ?_
  refine z_iconst dX4_copyFrom_20 ?_
  refine z_aloadR_n (i := 0) dX4_copyFrom_21 rfl rfl ?_
  refine z_getR 4 1 (idx := 15) (rl5 ha) (by decide) (by decide) rfl (rlt5 ha) rfl (rt5_1 ha) wf_X4_15 dX4_copyFrom_22 ?_
  refine z_iconst dX4_copyFrom_25 ?_
  refine z_bipush dX4_copyFrom_26 (by decide +kernel) ?_
  refine z_copy (rl7 hb) (rl7 ha) (rlt7 hb) (rlt7 ha) (by decide) (by decide) dX4_copyFrom_28 wm_X4_37 wSn wSs wSi ⟨Nat.le_of_ble_eq_true rfl, Nat.le_of_ble_eq_true rfl⟩ ?_
  generalize hd2 : mrow d1 (a + 7) (zcp (d1 (b + 7)) (d1 (a + 7)) 0 0 12) = d2
  replace hd2 := hd2.symm
  replace h := h d2 hd2
  refine z_aloadR_n (i := 1) dX4_copyFrom_31 rfl rfl ?_
  refine z_getR 4 2 (idx := 18) (rl5 hb) (by decide) (by decide) rfl (rlt5 hb) rfl (rt5_2 hb) wf_X4_18 dX4_copyFrom_32 ?_
  refine z_iconst dX4_copyFrom_35 ?_
  refine z_aloadR_n (i := 0) dX4_copyFrom_36 rfl rfl ?_
  refine z_getR 4 2 (idx := 18) (rl5 ha) (by decide) (by decide) rfl (rlt5 ha) rfl (rt5_2 ha) wf_X4_18 dX4_copyFrom_37 ?_
  refine z_iconst dX4_copyFrom_40 ?_
  refine z_bipush dX4_copyFrom_41 (by decide +kernel) ?_
  refine z_copy (rl8 hb) (rl8 ha) (rlt8 hb) (rlt8 ha) (by decide) (by decide) dX4_copyFrom_43 wm_X4_37 wSn wSs wSi ⟨Nat.le_of_ble_eq_true rfl, Nat.le_of_ble_eq_true rfl⟩ ?_
  generalize hd3 : mrow d2 (a + 8) (zcp (d2 (b + 8)) (d2 (a + 8)) 0 0 12) = d3
  replace hd3 := hd3.symm
  replace h := h d3 hd3
  refine z_aloadR_n (i := 1) dX4_copyFrom_46 rfl rfl ?_
  refine z_getR 4 3 (idx := 21) (rl5 hb) (by decide) (by decide) rfl (rlt5 hb) rfl (rt5_3 hb) wf_X4_21 dX4_copyFrom_47 ?_
  refine z_iconst dX4_copyFrom_50 ?_
  refine z_aloadR_n (i := 0) dX4_copyFrom_51 rfl rfl ?_
  refine z_getR 4 3 (idx := 21) (rl5 ha) (by decide) (by decide) rfl (rlt5 ha) rfl (rt5_3 ha) wf_X4_21 dX4_copyFrom_52 ?_
  refine z_iconst dX4_copyFrom_55 ?_
  refine z_bipush dX4_copyFrom_56 (by decide +kernel) ?_
  refine z_copy (rl9 hb) (rl9 ha) (rlt9 hb) (rlt9 ha) (by decide) (by decide) dX4_copyFrom_58 wm_X4_37 wSn wSs wSi ⟨Nat.le_of_ble_eq_true rfl, Nat.le_of_ble_eq_true rfl⟩ ?_
  generalize hd4 : mrow d3 (a + 9) (zcp (d3 (b + 9)) (d3 (a + 9)) 0 0 12) = d4
  replace hd4 := hd4.symm
  replace h := h d4 hd4
  refine z_aloadR_n (i := 0) dX4_copyFrom_61 rfl rfl ?_
  refine z_aloadR_n (i := 1) dX4_copyFrom_62 rfl rfl ?_
  refine z_getI' 4 4 (idx := 27) (fv := (d4 (b + 5) 4)) (rl5 hb) (by decide) (by decide) rfl (rlt5 hb) wf_X4_27 dX4_copyFrom_63 rfl ?_
  refine z_putI 4 4 (idx := 27) (rl5 ha) (by decide) (by decide) rfl (rlt5 ha) rfl wf_X4_27 dX4_copyFrom_66 (Or.inl rfl) ?_
  generalize hd5 : mu d4 (a + 5) ((4 : Nat) : Int) (d4 (b + 5) 4) = d5
  replace hd5 : d5 = mu d4 (a + 5) 4 (d4 (b + 5) 4) := hd5.symm
  replace h := h d5 hd5
  exact zret_v rfl dX4_copyFrom_69 h
theorem e_X4_copyFrom {g : zGG} {Q : Int → zMem → Prop} {d : zMem} {a : Nat} {b : Nat} (ha : isRiv a) (hb : isRiv b) (h : ∀ d1, d1 = mrow d (a + 6) (zcp (d (b + 6)) (d (a + 6)) 0 0 240) → ∀ d2, d2 = mrow d1 (a + 7) (zcp (d1 (b + 7)) (d1 (a + 7)) 0 0 12) → ∀ d3, d3 = mrow d2 (a + 8) (zcp (d2 (b + 8)) (d2 (a + 8)) 0 0 12) → ∀ d4, d4 = mrow d3 (a + 9) (zcp (d3 (b + 9)) (d3 (a + 9)) 0 0 12) → ∀ d5, d5 = mu d4 (a + 5) 4 (d4 (b + 5) 4) → Q 0 d5) : Ev g M_X4_copyFrom FUL FUL [zR (a + 5), zR (b + 5)] d Q :=
  Ev_of (by decide +kernel) (Nat.le_of_ble_eq_true rfl) (v_X4_copyFrom_0 ha hb h)
set_option maxRecDepth 20000 in
theorem v_X4_length_0 {g : zGG} {Q : Int → zMem → Prop} {d : zMem} {a : Nat} (ha : isRiv a)  (h : Q (d (a + 5) 4) d) : Fr g (eM g M_X4_length FUL FUL Q) M_X4_length FUL 0 [some (zR (a + 5))] [] d := by
  refine z_aloadR_n (i := 0) dX4_length_0 rfl rfl ?_
  refine z_getI' 4 4 (idx := 27) (fv := (d (a + 5) 4)) (rl5 ha) (by decide) (by decide) rfl (rlt5 ha) wf_X4_27 dX4_length_1 rfl ?_
  exact zret_i rfl dX4_length_4 h
theorem e_X4_length {g : zGG} {Q : Int → zMem → Prop} {d : zMem} {a : Nat} (ha : isRiv a) (h : Q (d (a + 5) 4) d) : Ev g M_X4_length FUL FUL [zR (a + 5)] d Q :=
  Ev_of (by decide +kernel) (Nat.le_of_ble_eq_true rfl) (v_X4_length_0 ha h)
set_option maxRecDepth 20000 in
theorem v_X4_has_0 {g : zGG} {Q : Int → zMem → Prop} {d : zMem} {a : Nat} {x1 : Int} (ha : isRiv a)  (h : ((inR x1) ∧ (x1 < 0 → Q 0 d) ∧ (0 ≤ x1 → ((inR x1 ∧ inR (d (a + 5) 4)) ∧ ((d (a + 5) 4) ≤ x1 → Q 0 d) ∧ (x1 < (d (a + 5) 4) → ((inR x1) ∧ (12 ≤ x1 → Q 0 d) ∧ (x1 < 12 → Q 1 d))))))) : Fr g (eM g M_X4_has FUL FUL Q) M_X4_has FUL 0 [some (zR (a + 5)), some (zI x1)] [] d := by
  refine z_iload_n (i := 1) dX4_has_0 rfl rfl ?_
  refine zb_if_lt (tgt := 22) dX4_has_1 (by decide) h.1 ⟨fun c => ?_, fun c => ?_⟩
  · replace h := h.2.1 c
    refine z_iconst dX4_has_22 ?_
    exact zret_z rfl dX4_has_23 (by decide) h
  · replace h := h.2.2 c
    refine z_iload_n (i := 1) dX4_has_4 rfl rfl ?_
    refine z_aloadR_n (i := 0) dX4_has_5 rfl rfl ?_
    refine z_getI' 4 4 (idx := 27) (fv := (d (a + 5) 4)) (rl5 ha) (by decide) (by decide) rfl (rlt5 ha) wf_X4_27 dX4_has_6 rfl ?_
    refine zb_icmp_ge (tgt := 22) dX4_has_9 (by decide) h.1 ⟨fun c => ?_, fun c => ?_⟩
    · replace h := h.2.1 c
      refine z_iconst dX4_has_22 ?_
      exact zret_z rfl dX4_has_23 (by decide) h
    · replace h := h.2.2 c
      refine z_iload_n (i := 1) dX4_has_12 rfl rfl ?_
      refine z_bipush dX4_has_13 (by decide +kernel) ?_
      refine zb_icmp_ge (tgt := 22) dX4_has_15 (by decide) ⟨h.1, by decide⟩ ⟨fun c => ?_, fun c => ?_⟩
      · replace h := h.2.1 c
        refine z_iconst dX4_has_22 ?_
        exact zret_z rfl dX4_has_23 (by decide) h
      · replace h := h.2.2 c
        refine z_iconst dX4_has_18 ?_
        refine z_goto (tgt := 23) dX4_has_19 (by decide) ?_
        exact zret_z rfl dX4_has_23 (by decide) h
theorem e_X4_has {g : zGG} {Q : Int → zMem → Prop} {d : zMem} {a : Nat} {x1 : Int} (ha : isRiv a) (h : ((inR x1) ∧ (x1 < 0 → Q 0 d) ∧ (0 ≤ x1 → ((inR x1 ∧ inR (d (a + 5) 4)) ∧ ((d (a + 5) 4) ≤ x1 → Q 0 d) ∧ (x1 < (d (a + 5) 4) → ((inR x1) ∧ (12 ≤ x1 → Q 0 d) ∧ (x1 < 12 → Q 1 d))))))) : Ev g M_X4_has FUL FUL [zR (a + 5), zI x1] d Q :=
  Ev_of (by decide +kernel) (Nat.le_of_ble_eq_true rfl) (v_X4_has_0 ha h)
set_option maxRecDepth 20000 in
theorem v_X4_ownerOf_0 {g : zGG} {Q : Int → zMem → Prop} {d : zMem} {a : Nat} {x1 : Int} (ha : isRiv a)  (h : Ev g M_X8_isOnLand FUL FUL [zI x1] d (fun v1 d1 => ((inR v1) ∧ (v1 = 0 → Q (-1) d1) ∧ (v1 ≠ 0 → (0 ≤ x1 ∧ x1 < 240) ∧ Q (d1 (a + 6) x1) d1)))) : Fr g (eM g M_X4_ownerOf FUL FUL Q) M_X4_ownerOf FUL 0 [some (zR (a + 5)), some (zI x1)] [] d := by
  refine z_iload_n (i := 1) dX4_ownerOf_0 rfl rfl ?_
  refine z_callSN (k' := M_X8_isOnLand) (As := [zI x1]) (st := []) dX4_ownerOf_1 rfl wm_X4_43 ok_X8_isOnLand okS_X8_isOnLand rfl (zroom_self (by decide) (by decide)) (Nat.le_of_ble_eq_true rfl) (Nat.le_refl _) (zEnd_i (Nat.le_refl _) rfl (fun _ _ q => q)) (Ev_mono h (fun v1 d1 h => ?_))
  refine zb_if_eq (tgt := 16) dX4_ownerOf_4 (by decide) h.1 ⟨fun c => ?_, fun c => ?_⟩
  · replace h := h.2.1 c
    refine z_iconst dX4_ownerOf_16 ?_
    exact zret_i rfl dX4_ownerOf_17 h
  · replace h := h.2.2 c
    refine z_aloadR_n (i := 0) dX4_ownerOf_7 rfl rfl ?_
    refine z_getR 4 0 (idx := 9) (rl5 ha) (by decide) (by decide) rfl (rlt5 ha) rfl (rt5_0 ha) wf_X4_9 dX4_ownerOf_8 ?_
    refine z_iload_n (i := 1) dX4_ownerOf_11 rfl rfl ?_
    refine z_iaload' (fv := (d1 (a + 6) x1)) (rl6 ha) (rlt6 ha) (by decide) dX4_ownerOf_12 h.1 rfl ?_
    replace h := h.2
    refine z_goto (tgt := 17) dX4_ownerOf_13 (by decide) ?_
    exact zret_i rfl dX4_ownerOf_17 h
theorem e_X4_ownerOf {g : zGG} {Q : Int → zMem → Prop} {d : zMem} {a : Nat} {x1 : Int} (ha : isRiv a) (h : Ev g M_X8_isOnLand FUL FUL [zI x1] d (fun v1 d1 => ((inR v1) ∧ (v1 = 0 → Q (-1) d1) ∧ (v1 ≠ 0 → (0 ≤ x1 ∧ x1 < 240) ∧ Q (d1 (a + 6) x1) d1)))) : Ev g M_X4_ownerOf FUL FUL [zR (a + 5), zI x1] d Q :=
  Ev_of (by decide +kernel) (Nat.le_of_ble_eq_true rfl) (v_X4_ownerOf_0 ha h)
set_option maxRecDepth 20000 in
theorem v_X4_sizeOf_0 {g : zGG} {Q : Int → zMem → Prop} {d : zMem} {a : Nat} {x1 : Int} (ha : isRiv a)  (h : Ev g M_X4_has FUL FUL [zR (a + 5), zI x1] d (fun v1 d1 => ((inR v1) ∧ (v1 = 0 → Q 0 d1) ∧ (v1 ≠ 0 → (0 ≤ x1 ∧ x1 < 12) ∧ Q (d1 (a + 8) x1) d1)))) : Fr g (eM g M_X4_sizeOf FUL FUL Q) M_X4_sizeOf FUL 0 [some (zR (a + 5)), some (zI x1)] [] d := by
  refine z_aloadR_n (i := 0) dX4_sizeOf_0 rfl rfl ?_
  refine z_iload_n (i := 1) dX4_sizeOf_1 rfl rfl ?_
  refine z_callVi (k' := M_X4_has) (As := [zI x1]) (st := []) dX4_sizeOf_2 rfl (rl5 ha) (by decide) rfl (rlt5 ha) wm_X4_47 ok_X4_has okV_X4_has rfl (zroom_self (by decide) (by decide)) (Nat.le_of_ble_eq_true rfl) (Nat.le_refl _) rfl (Ev_mono h (fun v1 d1 h => ?_))
  refine zb_if_eq (tgt := 17) dX4_sizeOf_5 (by decide) h.1 ⟨fun c => ?_, fun c => ?_⟩
  · replace h := h.2.1 c
    refine z_iconst dX4_sizeOf_17 ?_
    exact zret_i rfl dX4_sizeOf_18 h
  · replace h := h.2.2 c
    refine z_aloadR_n (i := 0) dX4_sizeOf_8 rfl rfl ?_
    refine z_getR 4 2 (idx := 18) (rl5 ha) (by decide) (by decide) rfl (rlt5 ha) rfl (rt5_2 ha) wf_X4_18 dX4_sizeOf_9 ?_
    refine z_iload_n (i := 1) dX4_sizeOf_12 rfl rfl ?_
    refine z_iaload' (fv := (d1 (a + 8) x1)) (rl8 ha) (rlt8 ha) (by decide) dX4_sizeOf_13 h.1 rfl ?_
    replace h := h.2
    refine z_goto (tgt := 18) dX4_sizeOf_14 (by decide) ?_
    exact zret_i rfl dX4_sizeOf_18 h
theorem e_X4_sizeOf {g : zGG} {Q : Int → zMem → Prop} {d : zMem} {a : Nat} {x1 : Int} (ha : isRiv a) (h : Ev g M_X4_has FUL FUL [zR (a + 5), zI x1] d (fun v1 d1 => ((inR v1) ∧ (v1 = 0 → Q 0 d1) ∧ (v1 ≠ 0 → (0 ≤ x1 ∧ x1 < 12) ∧ Q (d1 (a + 8) x1) d1)))) : Ev g M_X4_sizeOf FUL FUL [zR (a + 5), zI x1] d Q :=
  Ev_of (by decide +kernel) (Nat.le_of_ble_eq_true rfl) (v_X4_sizeOf_0 ha h)
set_option maxRecDepth 20000 in
theorem v_X4_yearsOf_0 {g : zGG} {Q : Int → zMem → Prop} {d : zMem} {a : Nat} {x1 : Int} (ha : isRiv a)  (h : Ev g M_X4_has FUL FUL [zR (a + 5), zI x1] d (fun v1 d1 => ((inR v1) ∧ (v1 = 0 → Q 0 d1) ∧ (v1 ≠ 0 → (0 ≤ x1 ∧ x1 < 12) ∧ Q (d1 (a + 9) x1) d1)))) : Fr g (eM g M_X4_yearsOf FUL FUL Q) M_X4_yearsOf FUL 0 [some (zR (a + 5)), some (zI x1)] [] d := by
  refine z_aloadR_n (i := 0) dX4_yearsOf_0 rfl rfl ?_
  refine z_iload_n (i := 1) dX4_yearsOf_1 rfl rfl ?_
  refine z_callVi (k' := M_X4_has) (As := [zI x1]) (st := []) dX4_yearsOf_2 rfl (rl5 ha) (by decide) rfl (rlt5 ha) wm_X4_47 ok_X4_has okV_X4_has rfl (zroom_self (by decide) (by decide)) (Nat.le_of_ble_eq_true rfl) (Nat.le_refl _) rfl (Ev_mono h (fun v1 d1 h => ?_))
  refine zb_if_eq (tgt := 17) dX4_yearsOf_5 (by decide) h.1 ⟨fun c => ?_, fun c => ?_⟩
  · replace h := h.2.1 c
    refine z_iconst dX4_yearsOf_17 ?_
    exact zret_i rfl dX4_yearsOf_18 h
  · replace h := h.2.2 c
    refine z_aloadR_n (i := 0) dX4_yearsOf_8 rfl rfl ?_
    refine z_getR 4 3 (idx := 21) (rl5 ha) (by decide) (by decide) rfl (rlt5 ha) rfl (rt5_3 ha) wf_X4_21 dX4_yearsOf_9 ?_
    refine z_iload_n (i := 1) dX4_yearsOf_12 rfl rfl ?_
    refine z_iaload' (fv := (d1 (a + 9) x1)) (rl9 ha) (rlt9 ha) (by decide) dX4_yearsOf_13 h.1 rfl ?_
    replace h := h.2
    refine z_goto (tgt := 18) dX4_yearsOf_14 (by decide) ?_
    exact zret_i rfl dX4_yearsOf_18 h
theorem e_X4_yearsOf {g : zGG} {Q : Int → zMem → Prop} {d : zMem} {a : Nat} {x1 : Int} (ha : isRiv a) (h : Ev g M_X4_has FUL FUL [zR (a + 5), zI x1] d (fun v1 d1 => ((inR v1) ∧ (v1 = 0 → Q 0 d1) ∧ (v1 ≠ 0 → (0 ≤ x1 ∧ x1 < 12) ∧ Q (d1 (a + 9) x1) d1)))) : Ev g M_X4_yearsOf FUL FUL [zR (a + 5), zI x1] d Q :=
  Ev_of (by decide +kernel) (Nat.le_of_ble_eq_true rfl) (v_X4_yearsOf_0 ha h)
set_option maxRecDepth 20000 in
theorem v_X4_firstCellOf_0 {g : zGG} {Q : Int → zMem → Prop} {d : zMem} {a : Nat} {x1 : Int} (ha : isRiv a)  (h : Ev g M_X4_has FUL FUL [zR (a + 5), zI x1] d (fun v1 d1 => ((inR v1) ∧ (v1 = 0 → Q 0 d1) ∧ (v1 ≠ 0 → (0 ≤ x1 ∧ x1 < 12) ∧ Q (d1 (a + 7) x1) d1)))) : Fr g (eM g M_X4_firstCellOf FUL FUL Q) M_X4_firstCellOf FUL 0 [some (zR (a + 5)), some (zI x1)] [] d := by
  refine z_aloadR_n (i := 0) dX4_firstCellOf_0 rfl rfl ?_
  refine z_iload_n (i := 1) dX4_firstCellOf_1 rfl rfl ?_
  refine z_callVi (k' := M_X4_has) (As := [zI x1]) (st := []) dX4_firstCellOf_2 rfl (rl5 ha) (by decide) rfl (rlt5 ha) wm_X4_47 ok_X4_has okV_X4_has rfl (zroom_self (by decide) (by decide)) (Nat.le_of_ble_eq_true rfl) (Nat.le_refl _) rfl (Ev_mono h (fun v1 d1 h => ?_))
  refine zb_if_eq (tgt := 17) dX4_firstCellOf_5 (by decide) h.1 ⟨fun c => ?_, fun c => ?_⟩
  · replace h := h.2.1 c
    refine z_iconst dX4_firstCellOf_17 ?_
    exact zret_i rfl dX4_firstCellOf_18 h
  · replace h := h.2.2 c
    refine z_aloadR_n (i := 0) dX4_firstCellOf_8 rfl rfl ?_
    refine z_getR 4 1 (idx := 15) (rl5 ha) (by decide) (by decide) rfl (rlt5 ha) rfl (rt5_1 ha) wf_X4_15 dX4_firstCellOf_9 ?_
    refine z_iload_n (i := 1) dX4_firstCellOf_12 rfl rfl ?_
    refine z_iaload' (fv := (d1 (a + 7) x1)) (rl7 ha) (rlt7 ha) (by decide) dX4_firstCellOf_13 h.1 rfl ?_
    replace h := h.2
    refine z_goto (tgt := 18) dX4_firstCellOf_14 (by decide) ?_
    exact zret_i rfl dX4_firstCellOf_18 h
theorem e_X4_firstCellOf {g : zGG} {Q : Int → zMem → Prop} {d : zMem} {a : Nat} {x1 : Int} (ha : isRiv a) (h : Ev g M_X4_has FUL FUL [zR (a + 5), zI x1] d (fun v1 d1 => ((inR v1) ∧ (v1 = 0 → Q 0 d1) ∧ (v1 ≠ 0 → (0 ≤ x1 ∧ x1 < 12) ∧ Q (d1 (a + 7) x1) d1)))) : Ev g M_X4_firstCellOf FUL FUL [zR (a + 5), zI x1] d Q :=
  Ev_of (by decide +kernel) (Nat.le_of_ble_eq_true rfl) (v_X4_firstCellOf_0 ha h)
set_option maxRecDepth 20000 in
theorem v_X4_take_0 {g : zGG} {Q : Int → zMem → Prop} {d : zMem} {a : Nat} {b : Nat} {x2 : Int} {x3 : Int} (ha : isRiv a) (hb : isRiv b)  (h : ((inR (d (a + 5) 4)) ∧ ((d (a + 5) 4) < 12 → ((inR (d (a + 5) 4)) ∧ ((d (a + 5) 4) < 0 → Q 0 d) ∧ (0 ≤ (d (a + 5) 4) → ((inR (d (a + 5) 4)) ∧ ((d (a + 5) 4) < 12 → (Fr g (eM g M_X4_take FUL FUL Q) M_X4_take FUL 36 [some (zR (a + 5)), some (zR (b + 2)), some (zI x2), some (zI x3), some (zI (x2 + 1)), none] [] d)) ∧ (12 ≤ (d (a + 5) 4) → Q 0 d))))) ∧ (12 ≤ (d (a + 5) 4) → Ev g M_X4_drop FUL FUL [zR (a + 5), zI 0] d (fun _ d1 => ((inR (d1 (a + 5) 4)) ∧ ((d1 (a + 5) 4) < 0 → Q 0 d1) ∧ (0 ≤ (d1 (a + 5) 4) → ((inR (d1 (a + 5) 4)) ∧ ((d1 (a + 5) 4) < 12 → (Fr g (eM g M_X4_take FUL FUL Q) M_X4_take FUL 36 [some (zR (a + 5)), some (zR (b + 2)), some (zI x2), some (zI x3), some (zI (x2 + 1)), none] [] d1)) ∧ (12 ≤ (d1 (a + 5) 4) → Q 0 d1)))))))) : Fr g (eM g M_X4_take FUL FUL Q) M_X4_take FUL 0 [some (zR (a + 5)), some (zR (b + 2)), some (zI x2), some (zI x3), none, none] [] d := by
  refine z_aloadR_n (i := 0) dX4_take_0 rfl rfl ?_
  refine z_getI' 4 4 (idx := 27) (fv := (d (a + 5) 4)) (rl5 ha) (by decide) (by decide) rfl (rlt5 ha) wf_X4_27 dX4_take_1 rfl ?_
  refine z_bipush dX4_take_4 (by decide +kernel) ?_
  refine zb_icmp_lt (tgt := 14) dX4_take_6 (by decide) ⟨h.1, by decide⟩ ⟨fun c => ?_, fun c => ?_⟩
  · replace h := h.2.1 c
    refine z_aloadR_n (i := 0) dX4_take_14 rfl rfl ?_
    refine z_getI' 4 4 (idx := 27) (fv := (d (a + 5) 4)) (rl5 ha) (by decide) (by decide) rfl (rlt5 ha) wf_X4_27 dX4_take_15 rfl ?_
    refine zb_if_lt (tgt := 30) dX4_take_18 (by decide) h.1 ⟨fun c => ?_, fun c => ?_⟩
    · replace h := h.2.1 c
      exact zret_v rfl dX4_take_30 h
    · replace h := h.2.2 c
      refine z_aloadR_n (i := 0) dX4_take_21 rfl rfl ?_
      refine z_getI' 4 4 (idx := 27) (fv := (d (a + 5) 4)) (rl5 ha) (by decide) (by decide) rfl (rlt5 ha) wf_X4_27 dX4_take_22 rfl ?_
      refine z_bipush dX4_take_25 (by decide +kernel) ?_
      refine zb_icmp_lt (tgt := 31) dX4_take_27 (by decide) ⟨h.1, by decide⟩ ⟨fun c => ?_, fun c => ?_⟩
      · replace h := h.2.1 c
        refine z_iload_n (i := 2) dX4_take_31 rfl rfl ?_
        refine z_iconst dX4_take_32 ?_
        refine z_iadd dX4_take_33 ?_
        refine z_istore (i := 4) (ls2 := [some (zR (a + 5)), some (zR (b + 2)), some (zI x2), some (zI x3), some (zI (x2 + 1)), none]) dX4_take_34 (by decide) rfl ?_
        exact h
      · replace h := h.2.2 c
        exact zret_v rfl dX4_take_30 h
  · replace h := h.2.2 c
    refine z_aloadR_n (i := 0) dX4_take_9 rfl rfl ?_
    refine z_iconst dX4_take_10 ?_
    refine z_callVv (k' := M_X4_drop) (As := [zI 0]) (st := []) dX4_take_11 rfl (rl5 ha) (by decide) rfl (rlt5 ha) wm_X4_50 ok_X4_drop okV_X4_drop rfl (zroom_self (by decide) (by decide)) (Nat.le_of_ble_eq_true rfl) (Nat.le_refl _) rfl (Ev_mono h (fun _ d1 h => ?_))
    refine z_aloadR_n (i := 0) dX4_take_14 rfl rfl ?_
    refine z_getI' 4 4 (idx := 27) (fv := (d1 (a + 5) 4)) (rl5 ha) (by decide) (by decide) rfl (rlt5 ha) wf_X4_27 dX4_take_15 rfl ?_
    refine zb_if_lt (tgt := 30) dX4_take_18 (by decide) h.1 ⟨fun c => ?_, fun c => ?_⟩
    · replace h := h.2.1 c
      exact zret_v rfl dX4_take_30 h
    · replace h := h.2.2 c
      refine z_aloadR_n (i := 0) dX4_take_21 rfl rfl ?_
      refine z_getI' 4 4 (idx := 27) (fv := (d1 (a + 5) 4)) (rl5 ha) (by decide) (by decide) rfl (rlt5 ha) wf_X4_27 dX4_take_22 rfl ?_
      refine z_bipush dX4_take_25 (by decide +kernel) ?_
      refine zb_icmp_lt (tgt := 31) dX4_take_27 (by decide) ⟨h.1, by decide⟩ ⟨fun c => ?_, fun c => ?_⟩
      · replace h := h.2.1 c
        refine z_iload_n (i := 2) dX4_take_31 rfl rfl ?_
        refine z_iconst dX4_take_32 ?_
        refine z_iadd dX4_take_33 ?_
        refine z_istore (i := 4) (ls2 := [some (zR (a + 5)), some (zR (b + 2)), some (zI x2), some (zI x3), some (zI (x2 + 1)), none]) dX4_take_34 (by decide) rfl ?_
        exact h
      · replace h := h.2.2 c
        exact zret_v rfl dX4_take_30 h
theorem e_X4_take {g : zGG} {Q : Int → zMem → Prop} {d : zMem} {a : Nat} {b : Nat} {x2 : Int} {x3 : Int} (ha : isRiv a) (hb : isRiv b) (h : ((inR (d (a + 5) 4)) ∧ ((d (a + 5) 4) < 12 → ((inR (d (a + 5) 4)) ∧ ((d (a + 5) 4) < 0 → Q 0 d) ∧ (0 ≤ (d (a + 5) 4) → ((inR (d (a + 5) 4)) ∧ ((d (a + 5) 4) < 12 → (Fr g (eM g M_X4_take FUL FUL Q) M_X4_take FUL 36 [some (zR (a + 5)), some (zR (b + 2)), some (zI x2), some (zI x3), some (zI (x2 + 1)), none] [] d)) ∧ (12 ≤ (d (a + 5) 4) → Q 0 d))))) ∧ (12 ≤ (d (a + 5) 4) → Ev g M_X4_drop FUL FUL [zR (a + 5), zI 0] d (fun _ d1 => ((inR (d1 (a + 5) 4)) ∧ ((d1 (a + 5) 4) < 0 → Q 0 d1) ∧ (0 ≤ (d1 (a + 5) 4) → ((inR (d1 (a + 5) 4)) ∧ ((d1 (a + 5) 4) < 12 → (Fr g (eM g M_X4_take FUL FUL Q) M_X4_take FUL 36 [some (zR (a + 5)), some (zR (b + 2)), some (zI x2), some (zI x3), some (zI (x2 + 1)), none] [] d1)) ∧ (12 ≤ (d1 (a + 5) 4) → Q 0 d1)))))))) : Ev g M_X4_take FUL FUL [zR (a + 5), zR (b + 2), zI x2, zI x3] d Q :=
  Ev_of (by decide +kernel) (Nat.le_of_ble_eq_true rfl) (v_X4_take_0 ha hb h)
set_option maxRecDepth 20000 in
theorem v_X4_take_36 {g : zGG} {Q : Int → zMem → Prop} {d : zMem} {a : Nat} {b : Nat} {x2 : Int} {x3 : Int} (ha : isRiv a) (hb : isRiv b) {x4 : Int} (h : ((inR x4 ∧ inR x3) ∧ (x3 ≤ x4 → Ev g M_X1_cellOf FUL FUL [zR (b + 2), zI (x2 + 1)] d (fun v1 d1 => (0 ≤ (d (a + 5) 4) ∧ (d (a + 5) 4) < 12) ∧ ∀ d2, d2 = mu d1 (a + 7) (d (a + 5) 4) v1 → (0 ≤ (d1 (a + 5) 4) ∧ (d1 (a + 5) 4) < 12) ∧ ∀ d3, d3 = mu d2 (a + 8) (d1 (a + 5) 4) ((x3 - x2) - 1) → (0 ≤ (d1 (a + 5) 4) ∧ (d1 (a + 5) 4) < 12) ∧ ∀ d4, d4 = mu d3 (a + 9) (d1 (a + 5) 4) 0 → ∀ d5, d5 = mu d4 (a + 5) 4 ((d1 (a + 5) 4) + 1) → Q 0 d5)) ∧ (x4 < x3 → Ev g M_X1_cellOf FUL FUL [zR (b + 2), zI x4] d (fun v2 d6 => Ev g M_X8_isOnLand FUL FUL [zI v2] d6 (fun v3 d7 => ((inR v3) ∧ (v3 = 0 → (Fr g (eM g M_X4_take FUL FUL Q) M_X4_take FUL 36 [some (zR (a + 5)), some (zR (b + 2)), some (zI x2), some (zI x3), some (zI (x4 + 1)), none] [] d7)) ∧ (v3 ≠ 0 → (0 ≤ v2 ∧ v2 < 240) ∧ ∀ d8, d8 = mu d7 (a + 6) v2 (d7 (a + 5) 4) → (Fr g (eM g M_X4_take FUL FUL Q) M_X4_take FUL 36 [some (zR (a + 5)), some (zR (b + 2)), some (zI x2), some (zI x3), some (zI (x4 + 1)), none] [] d8)))))))) : Fr g (eM g M_X4_take FUL FUL Q) M_X4_take FUL 36 [some (zR (a + 5)), some (zR (b + 2)), some (zI x2), some (zI x3), some (zI x4), none] [] d := by
  refine z_iload (i := 4) dX4_take_36 rfl ?_
  refine z_iload_n (i := 3) dX4_take_38 rfl rfl ?_
  refine zb_icmp_ge (tgt := 75) dX4_take_39 (by decide) h.1 ⟨fun c => ?_, fun c => ?_⟩
  · replace h := h.2.1 c
    refine z_aloadR_n (i := 0) dX4_take_75 rfl rfl ?_
    refine z_getR 4 1 (idx := 15) (rl5 ha) (by decide) (by decide) rfl (rlt5 ha) rfl (rt5_1 ha) wf_X4_15 dX4_take_76 ?_
    refine z_aloadR_n (i := 0) dX4_take_79 rfl rfl ?_
    refine z_getI' 4 4 (idx := 27) (fv := (d (a + 5) 4)) (rl5 ha) (by decide) (by decide) rfl (rlt5 ha) wf_X4_27 dX4_take_80 rfl ?_
    refine z_aloadR_n (i := 1) dX4_take_83 rfl rfl ?_
    refine z_iload_n (i := 2) dX4_take_84 rfl rfl ?_
    refine z_iconst dX4_take_85 ?_
    refine z_iadd dX4_take_86 ?_
    refine z_callVi (k' := M_X1_cellOf) (As := [zI (x2 + 1)]) (st := [zI (d (a + 5) 4), zR (a + 7)]) dX4_take_87 rfl (rl2 hb) (by decide) rfl (rlt2 hb) wm_X4_54 ok_X1_cellOf okV_X1_cellOf rfl (zroom_self (by decide) (by decide)) (Nat.le_of_ble_eq_true rfl) (Nat.le_refl _) rfl (Ev_mono h (fun v1 d1 h => ?_))
    refine z_iastore (rl7 ha) (rlt7 ha) (by decide) dX4_take_90 h.1 ?_
    replace h := h.2
    generalize hd2 : mu d1 (a + 7) (d (a + 5) 4) v1 = d2
    replace hd2 := hd2.symm
    replace h := h d2 hd2
    refine z_aloadR_n (i := 0) dX4_take_91 rfl rfl ?_
    refine z_getR 4 2 (idx := 18) (rl5 ha) (by decide) (by decide) rfl (rlt5 ha) rfl (rt5_2 ha) wf_X4_18 dX4_take_92 ?_
    refine z_aloadR_n (i := 0) dX4_take_95 rfl rfl ?_
    refine z_getI' 4 4 (idx := 27) (fv := (d1 (a + 5) 4)) (rl5 ha) (by decide) (by decide) rfl (rlt5 ha) wf_X4_27 dX4_take_96 (by show d2 (a + 5) 4 = _; rw [hd2, mu_na (by omega)]) ?_
    refine z_iload_n (i := 3) dX4_take_99 rfl rfl ?_
    refine z_iload_n (i := 2) dX4_take_100 rfl rfl ?_
    refine z_isub dX4_take_101 ?_
    refine z_iconst dX4_take_102 ?_
    refine z_isub dX4_take_103 ?_
    refine z_iastore (rl8 ha) (rlt8 ha) (by decide) dX4_take_104 h.1 ?_
    replace h := h.2
    generalize hd3 : mu d2 (a + 8) (d1 (a + 5) 4) ((x3 - x2) - 1) = d3
    replace hd3 := hd3.symm
    replace h := h d3 hd3
    refine z_aloadR_n (i := 0) dX4_take_105 rfl rfl ?_
    refine z_getR 4 3 (idx := 21) (rl5 ha) (by decide) (by decide) rfl (rlt5 ha) rfl (rt5_3 ha) wf_X4_21 dX4_take_106 ?_
    refine z_aloadR_n (i := 0) dX4_take_109 rfl rfl ?_
    refine z_getI' 4 4 (idx := 27) (fv := (d1 (a + 5) 4)) (rl5 ha) (by decide) (by decide) rfl (rlt5 ha) wf_X4_27 dX4_take_110 (by show d3 (a + 5) 4 = _; rw [hd3, mu_na (by omega)]; rw [hd2, mu_na (by omega)]) ?_
    refine z_iconst dX4_take_113 ?_
    refine z_iastore (rl9 ha) (rlt9 ha) (by decide) dX4_take_114 h.1 ?_
    replace h := h.2
    generalize hd4 : mu d3 (a + 9) (d1 (a + 5) 4) 0 = d4
    replace hd4 := hd4.symm
    replace h := h d4 hd4
    refine z_aloadR_n (i := 0) dX4_take_115 rfl rfl ?_
    refine z_dup dX4_take_116 (Nat.le_of_ble_eq_true rfl) ?_
    refine z_getI' 4 4 (idx := 27) (fv := (d1 (a + 5) 4)) (rl5 ha) (by decide) (by decide) rfl (rlt5 ha) wf_X4_27 dX4_take_117 (by show d4 (a + 5) 4 = _; rw [hd4, mu_na (by omega)]; rw [hd3, mu_na (by omega)]; rw [hd2, mu_na (by omega)]) ?_
    refine z_iconst dX4_take_120 ?_
    refine z_iadd dX4_take_121 ?_
    refine z_putI 4 4 (idx := 27) (rl5 ha) (by decide) (by decide) rfl (rlt5 ha) rfl wf_X4_27 dX4_take_122 (Or.inl rfl) ?_
    generalize hd5 : mu d4 (a + 5) ((4 : Nat) : Int) ((d1 (a + 5) 4) + 1) = d5
    replace hd5 : d5 = mu d4 (a + 5) 4 ((d1 (a + 5) 4) + 1) := hd5.symm
    replace h := h d5 hd5
    exact zret_v rfl dX4_take_125 h
  · replace h := h.2.2 c
    refine z_aloadR_n (i := 1) dX4_take_42 rfl rfl ?_
    refine z_iload (i := 4) dX4_take_43 rfl ?_
    refine z_callVi (k' := M_X1_cellOf) (As := [zI x4]) (st := []) dX4_take_45 rfl (rl2 hb) (by decide) rfl (rlt2 hb) wm_X4_54 ok_X1_cellOf okV_X1_cellOf rfl (zroom_self (by decide) (by decide)) (Nat.le_of_ble_eq_true rfl) (Nat.le_refl _) rfl (Ev_mono h (fun v2 d6 h => ?_))
    refine z_istore (i := 5) (ls2 := [some (zR (a + 5)), some (zR (b + 2)), some (zI x2), some (zI x3), some (zI x4), some (zI v2)]) dX4_take_48 (by decide) rfl ?_
    refine z_iload (i := 5) dX4_take_50 rfl ?_
    refine z_callSN (k' := M_X8_isOnLand) (As := [zI v2]) (st := []) dX4_take_52 rfl wm_X4_43 ok_X8_isOnLand okS_X8_isOnLand rfl (zroom_self (by decide) (by decide)) (Nat.le_of_ble_eq_true rfl) (Nat.le_refl _) (zEnd_i (Nat.le_refl _) rfl (fun _ _ q => q)) (Ev_mono h (fun v3 d7 h => ?_))
    refine zb_if_eq (tgt := 69) dX4_take_55 (by decide) h.1 ⟨fun c => ?_, fun c => ?_⟩
    · replace h := h.2.1 c
      refine z_iinc (i := 4) (ls2 := [some (zR (a + 5)), some (zR (b + 2)), some (zI x2), some (zI x3), some (zI (x4 + 1)), some (zI v2)]) dX4_take_69 (by decide) rfl rfl ?_
      refine z_goto (tgt := 36) dX4_take_72 (by decide) ?_
      exact Fr_weak (ls2 := [some (zR (a + 5)), some (zR (b + 2)), some (zI x2), some (zI x3), some (zI (x4 + 1)), none]) (by exact ⟨Or.inr rfl, Or.inr rfl, Or.inr rfl, Or.inr rfl, Or.inr rfl, Or.inl rfl, trivial⟩) h
    · replace h := h.2.2 c
      refine z_aloadR_n (i := 0) dX4_take_58 rfl rfl ?_
      refine z_getR 4 0 (idx := 9) (rl5 ha) (by decide) (by decide) rfl (rlt5 ha) rfl (rt5_0 ha) wf_X4_9 dX4_take_59 ?_
      refine z_iload (i := 5) dX4_take_62 rfl ?_
      refine z_aloadR_n (i := 0) dX4_take_64 rfl rfl ?_
      refine z_getI' 4 4 (idx := 27) (fv := (d7 (a + 5) 4)) (rl5 ha) (by decide) (by decide) rfl (rlt5 ha) wf_X4_27 dX4_take_65 rfl ?_
      refine z_iastore (rl6 ha) (rlt6 ha) (by decide) dX4_take_68 h.1 ?_
      replace h := h.2
      generalize hd8 : mu d7 (a + 6) v2 (d7 (a + 5) 4) = d8
      replace hd8 := hd8.symm
      replace h := h d8 hd8
      refine z_iinc (i := 4) (ls2 := [some (zR (a + 5)), some (zR (b + 2)), some (zI x2), some (zI x3), some (zI (x4 + 1)), some (zI v2)]) dX4_take_69 (by decide) rfl rfl ?_
      refine z_goto (tgt := 36) dX4_take_72 (by decide) ?_
      exact Fr_weak (ls2 := [some (zR (a + 5)), some (zR (b + 2)), some (zI x2), some (zI x3), some (zI (x4 + 1)), none]) (by exact ⟨Or.inr rfl, Or.inr rfl, Or.inr rfl, Or.inr rfl, Or.inr rfl, Or.inl rfl, trivial⟩) h
set_option maxRecDepth 20000 in
theorem v_X4_drop_0 {g : zGG} {Q : Int → zMem → Prop} {d : zMem} {a : Nat} {x1 : Int} (ha : isRiv a)  (h : Ev g M_X4_has FUL FUL [zR (a + 5), zI x1] d (fun v1 d1 => ((inR v1) ∧ (v1 ≠ 0 → (Fr g (eM g M_X4_drop FUL FUL Q) M_X4_drop FUL 11 [some (zR (a + 5)), some (zI x1), some (zI 0)] [] d1)) ∧ (v1 = 0 → Q 0 d1)))) : Fr g (eM g M_X4_drop FUL FUL Q) M_X4_drop FUL 0 [some (zR (a + 5)), some (zI x1), none] [] d := by
  refine z_aloadR_n (i := 0) dX4_drop_0 rfl rfl ?_
  refine z_iload_n (i := 1) dX4_drop_1 rfl rfl ?_
  refine z_callVi (k' := M_X4_has) (As := [zI x1]) (st := []) dX4_drop_2 rfl (rl5 ha) (by decide) rfl (rlt5 ha) wm_X4_47 ok_X4_has okV_X4_has rfl (zroom_self (by decide) (by decide)) (Nat.le_of_ble_eq_true rfl) (Nat.le_refl _) rfl (Ev_mono h (fun v1 d1 h => ?_))
  refine zb_if_ne (tgt := 9) dX4_drop_5 (by decide) h.1 ⟨fun c => ?_, fun c => ?_⟩
  · replace h := h.2.1 c
    refine z_iconst dX4_drop_9 ?_
    refine z_istore_n (i := 2) (ls2 := [some (zR (a + 5)), some (zI x1), some (zI 0)]) dX4_drop_10 rfl (by decide) rfl ?_
    exact h
  · replace h := h.2.2 c
    exact zret_v rfl dX4_drop_8 h
theorem e_X4_drop {g : zGG} {Q : Int → zMem → Prop} {d : zMem} {a : Nat} {x1 : Int} (ha : isRiv a) (h : Ev g M_X4_has FUL FUL [zR (a + 5), zI x1] d (fun v1 d1 => ((inR v1) ∧ (v1 ≠ 0 → (Fr g (eM g M_X4_drop FUL FUL Q) M_X4_drop FUL 11 [some (zR (a + 5)), some (zI x1), some (zI 0)] [] d1)) ∧ (v1 = 0 → Q 0 d1)))) : Ev g M_X4_drop FUL FUL [zR (a + 5), zI x1] d Q :=
  Ev_of (by decide +kernel) (Nat.le_of_ble_eq_true rfl) (v_X4_drop_0 ha h)
set_option maxRecDepth 20000 in
theorem v_X4_drop_11 {g : zGG} {Q : Int → zMem → Prop} {d : zMem} {a : Nat} {x1 : Int} (ha : isRiv a) {x2 : Int} (h : ((inR x2) ∧ (240 ≤ x2 → (Fr g (eM g M_X4_drop FUL FUL Q) M_X4_drop FUL 68 [some (zR (a + 5)), some (zI x1), some (zI (x1 + 1))] [] d)) ∧ (x2 < 240 → (0 ≤ x2 ∧ x2 < 240) ∧ ((inR (d (a + 6) x2) ∧ inR x1) ∧ ((d (a + 6) x2) ≠ x1 → (0 ≤ x2 ∧ x2 < 240) ∧ ((inR (d (a + 6) x2) ∧ inR x1) ∧ ((d (a + 6) x2) ≤ x1 → (Fr g (eM g M_X4_drop FUL FUL Q) M_X4_drop FUL 11 [some (zR (a + 5)), some (zI x1), some (zI (x2 + 1))] [] d)) ∧ (x1 < (d (a + 6) x2) → (0 ≤ x2 ∧ x2 < 240) ∧ (0 ≤ x2 ∧ x2 < 240) ∧ ∀ d1, d1 = mu d (a + 6) x2 ((d (a + 6) x2) - 1) → (Fr g (eM g M_X4_drop FUL FUL Q) M_X4_drop FUL 11 [some (zR (a + 5)), some (zI x1), some (zI (x2 + 1))] [] d1)))) ∧ ((d (a + 6) x2) = x1 → (0 ≤ x2 ∧ x2 < 240) ∧ ∀ d2, d2 = mu d (a + 6) x2 (-1) → (Fr g (eM g M_X4_drop FUL FUL Q) M_X4_drop FUL 11 [some (zR (a + 5)), some (zI x1), some (zI (x2 + 1))] [] d2)))))) : Fr g (eM g M_X4_drop FUL FUL Q) M_X4_drop FUL 11 [some (zR (a + 5)), some (zI x1), some (zI x2)] [] d := by
  refine z_iload_n (i := 2) dX4_drop_11 rfl rfl ?_
  refine z_sipush dX4_drop_12 (by decide +kernel) ?_
  refine zb_icmp_ge (tgt := 64) dX4_drop_15 (by decide) ⟨h.1, by decide⟩ ⟨fun c => ?_, fun c => ?_⟩
  · replace h := h.2.1 c
    refine z_iload_n (i := 1) dX4_drop_64 rfl rfl ?_
    refine z_iconst dX4_drop_65 ?_
    refine z_iadd dX4_drop_66 ?_
    refine z_istore_n (i := 2) (ls2 := [some (zR (a + 5)), some (zI x1), some (zI (x1 + 1))]) dX4_drop_67 rfl (by decide) rfl ?_
    exact h
  · replace h := h.2.2 c
    refine z_aloadR_n (i := 0) dX4_drop_18 rfl rfl ?_
    refine z_getR 4 0 (idx := 9) (rl5 ha) (by decide) (by decide) rfl (rlt5 ha) rfl (rt5_0 ha) wf_X4_9 dX4_drop_19 ?_
    refine z_iload_n (i := 2) dX4_drop_22 rfl rfl ?_
    refine z_iaload' (fv := (d (a + 6) x2)) (rl6 ha) (rlt6 ha) (by decide) dX4_drop_23 h.1 rfl ?_
    replace h := h.2
    refine z_iload_n (i := 1) dX4_drop_24 rfl rfl ?_
    refine zb_icmp_ne (tgt := 38) dX4_drop_25 (by decide) h.1 ⟨fun c => ?_, fun c => ?_⟩
    · replace h := h.2.1 c
      refine z_aloadR_n (i := 0) dX4_drop_38 rfl rfl ?_
      refine z_getR 4 0 (idx := 9) (rl5 ha) (by decide) (by decide) rfl (rlt5 ha) rfl (rt5_0 ha) wf_X4_9 dX4_drop_39 ?_
      refine z_iload_n (i := 2) dX4_drop_42 rfl rfl ?_
      refine z_iaload' (fv := (d (a + 6) x2)) (rl6 ha) (rlt6 ha) (by decide) dX4_drop_43 h.1 rfl ?_
      replace h := h.2
      refine z_iload_n (i := 1) dX4_drop_44 rfl rfl ?_
      refine zb_icmp_le (tgt := 58) dX4_drop_45 (by decide) h.1 ⟨fun c => ?_, fun c => ?_⟩
      · replace h := h.2.1 c
        refine z_iinc (i := 2) (ls2 := [some (zR (a + 5)), some (zI x1), some (zI (x2 + 1))]) dX4_drop_58 (by decide) rfl rfl ?_
        refine z_goto (tgt := 11) dX4_drop_61 (by decide) ?_
        exact h
      · replace h := h.2.2 c
        refine z_aloadR_n (i := 0) dX4_drop_48 rfl rfl ?_
        refine z_getR 4 0 (idx := 9) (rl5 ha) (by decide) (by decide) rfl (rlt5 ha) rfl (rt5_0 ha) wf_X4_9 dX4_drop_49 ?_
        refine z_iload_n (i := 2) dX4_drop_52 rfl rfl ?_
        refine z_dup2 dX4_drop_53 (Nat.le_of_ble_eq_true rfl) (Nat.le_of_ble_eq_true rfl) ?_
        refine z_iaload' (fv := (d (a + 6) x2)) (rl6 ha) (rlt6 ha) (by decide) dX4_drop_54 h.1 rfl ?_
        replace h := h.2
        refine z_iconst dX4_drop_55 ?_
        refine z_isub dX4_drop_56 ?_
        refine z_iastore (rl6 ha) (rlt6 ha) (by decide) dX4_drop_57 h.1 ?_
        replace h := h.2
        generalize hd1 : mu d (a + 6) x2 ((d (a + 6) x2) - 1) = d1
        replace hd1 := hd1.symm
        replace h := h d1 hd1
        refine z_iinc (i := 2) (ls2 := [some (zR (a + 5)), some (zI x1), some (zI (x2 + 1))]) dX4_drop_58 (by decide) rfl rfl ?_
        refine z_goto (tgt := 11) dX4_drop_61 (by decide) ?_
        exact h
    · replace h := h.2.2 c
      refine z_aloadR_n (i := 0) dX4_drop_28 rfl rfl ?_
      refine z_getR 4 0 (idx := 9) (rl5 ha) (by decide) (by decide) rfl (rlt5 ha) rfl (rt5_0 ha) wf_X4_9 dX4_drop_29 ?_
      refine z_iload_n (i := 2) dX4_drop_32 rfl rfl ?_
      refine z_iconst dX4_drop_33 ?_
      refine z_iastore (rl6 ha) (rlt6 ha) (by decide) dX4_drop_34 h.1 ?_
      replace h := h.2
      generalize hd2 : mu d (a + 6) x2 (-1) = d2
      replace hd2 := hd2.symm
      replace h := h d2 hd2
      refine z_goto (tgt := 58) dX4_drop_35 (by decide) ?_
      refine z_iinc (i := 2) (ls2 := [some (zR (a + 5)), some (zI x1), some (zI (x2 + 1))]) dX4_drop_58 (by decide) rfl rfl ?_
      refine z_goto (tgt := 11) dX4_drop_61 (by decide) ?_
      exact h
set_option maxRecDepth 20000 in
theorem v_X4_drop_68 {g : zGG} {Q : Int → zMem → Prop} {d : zMem} {a : Nat} {x1 : Int} (ha : isRiv a) {x2 : Int} (h : ((inR x2 ∧ inR (d (a + 5) 4)) ∧ ((d (a + 5) 4) ≤ x2 → ∀ d1, d1 = mu d (a + 5) 4 ((d (a + 5) 4) - 1) → Q 0 d1) ∧ (x2 < (d (a + 5) 4) → ((inR x2) ∧ (12 ≤ x2 → ∀ d2, d2 = mu d (a + 5) 4 ((d (a + 5) 4) - 1) → Q 0 d2) ∧ (x2 < 12 → (0 ≤ x2 ∧ x2 < 12) ∧ (0 ≤ (x2 - 1) ∧ (x2 - 1) < 12) ∧ ∀ d3, d3 = mu d (a + 7) (x2 - 1) (d (a + 7) x2) → (0 ≤ x2 ∧ x2 < 12) ∧ (0 ≤ (x2 - 1) ∧ (x2 - 1) < 12) ∧ ∀ d4, d4 = mu d3 (a + 8) (x2 - 1) (d (a + 8) x2) → (0 ≤ x2 ∧ x2 < 12) ∧ (0 ≤ (x2 - 1) ∧ (x2 - 1) < 12) ∧ ∀ d5, d5 = mu d4 (a + 9) (x2 - 1) (d (a + 9) x2) → (Fr g (eM g M_X4_drop FUL FUL Q) M_X4_drop FUL 68 [some (zR (a + 5)), some (zI x1), some (zI (x2 + 1))] [] d5)))))) : Fr g (eM g M_X4_drop FUL FUL Q) M_X4_drop FUL 68 [some (zR (a + 5)), some (zI x1), some (zI x2)] [] d := by
  refine z_iload_n (i := 2) dX4_drop_68 rfl rfl ?_
  refine z_aloadR_n (i := 0) dX4_drop_69 rfl rfl ?_
  refine z_getI' 4 4 (idx := 27) (fv := (d (a + 5) 4)) (rl5 ha) (by decide) (by decide) rfl (rlt5 ha) wf_X4_27 dX4_drop_70 rfl ?_
  refine zb_icmp_ge (tgt := 130) dX4_drop_73 (by decide) h.1 ⟨fun c => ?_, fun c => ?_⟩
  · replace h := h.2.1 c
    refine z_aloadR_n (i := 0) dX4_drop_130 rfl rfl ?_
    refine z_dup dX4_drop_131 (Nat.le_of_ble_eq_true rfl) ?_
    refine z_getI' 4 4 (idx := 27) (fv := (d (a + 5) 4)) (rl5 ha) (by decide) (by decide) rfl (rlt5 ha) wf_X4_27 dX4_drop_132 rfl ?_
    refine z_iconst dX4_drop_135 ?_
    refine z_isub dX4_drop_136 ?_
    refine z_putI 4 4 (idx := 27) (rl5 ha) (by decide) (by decide) rfl (rlt5 ha) rfl wf_X4_27 dX4_drop_137 (Or.inl rfl) ?_
    generalize hd1 : mu d (a + 5) ((4 : Nat) : Int) ((d (a + 5) 4) - 1) = d1
    replace hd1 : d1 = mu d (a + 5) 4 ((d (a + 5) 4) - 1) := hd1.symm
    replace h := h d1 hd1
    exact zret_v rfl dX4_drop_140 h
  · replace h := h.2.2 c
    refine z_iload_n (i := 2) dX4_drop_76 rfl rfl ?_
    refine z_bipush dX4_drop_77 (by decide +kernel) ?_
    refine zb_icmp_ge (tgt := 130) dX4_drop_79 (by decide) ⟨h.1, by decide⟩ ⟨fun c => ?_, fun c => ?_⟩
    · replace h := h.2.1 c
      refine z_aloadR_n (i := 0) dX4_drop_130 rfl rfl ?_
      refine z_dup dX4_drop_131 (Nat.le_of_ble_eq_true rfl) ?_
      refine z_getI' 4 4 (idx := 27) (fv := (d (a + 5) 4)) (rl5 ha) (by decide) (by decide) rfl (rlt5 ha) wf_X4_27 dX4_drop_132 rfl ?_
      refine z_iconst dX4_drop_135 ?_
      refine z_isub dX4_drop_136 ?_
      refine z_putI 4 4 (idx := 27) (rl5 ha) (by decide) (by decide) rfl (rlt5 ha) rfl wf_X4_27 dX4_drop_137 (Or.inl rfl) ?_
      generalize hd2 : mu d (a + 5) ((4 : Nat) : Int) ((d (a + 5) 4) - 1) = d2
      replace hd2 : d2 = mu d (a + 5) 4 ((d (a + 5) 4) - 1) := hd2.symm
      replace h := h d2 hd2
      exact zret_v rfl dX4_drop_140 h
    · replace h := h.2.2 c
      refine z_aloadR_n (i := 0) dX4_drop_82 rfl rfl ?_
      refine z_getR 4 1 (idx := 15) (rl5 ha) (by decide) (by decide) rfl (rlt5 ha) rfl (rt5_1 ha) wf_X4_15 dX4_drop_83 ?_
      refine z_iload_n (i := 2) dX4_drop_86 rfl rfl ?_
      refine z_iconst dX4_drop_87 ?_
      refine z_isub dX4_drop_88 ?_
      refine z_aloadR_n (i := 0) dX4_drop_89 rfl rfl ?_
      refine z_getR 4 1 (idx := 15) (rl5 ha) (by decide) (by decide) rfl (rlt5 ha) rfl (rt5_1 ha) wf_X4_15 dX4_drop_90 ?_
      refine z_iload_n (i := 2) dX4_drop_93 rfl rfl ?_
      refine z_iaload' (fv := (d (a + 7) x2)) (rl7 ha) (rlt7 ha) (by decide) dX4_drop_94 h.1 rfl ?_
      replace h := h.2
      refine z_iastore (rl7 ha) (rlt7 ha) (by decide) dX4_drop_95 h.1 ?_
      replace h := h.2
      generalize hd3 : mu d (a + 7) (x2 - 1) (d (a + 7) x2) = d3
      replace hd3 := hd3.symm
      replace h := h d3 hd3
      refine z_aloadR_n (i := 0) dX4_drop_96 rfl rfl ?_
      refine z_getR 4 2 (idx := 18) (rl5 ha) (by decide) (by decide) rfl (rlt5 ha) rfl (rt5_2 ha) wf_X4_18 dX4_drop_97 ?_
      refine z_iload_n (i := 2) dX4_drop_100 rfl rfl ?_
      refine z_iconst dX4_drop_101 ?_
      refine z_isub dX4_drop_102 ?_
      refine z_aloadR_n (i := 0) dX4_drop_103 rfl rfl ?_
      refine z_getR 4 2 (idx := 18) (rl5 ha) (by decide) (by decide) rfl (rlt5 ha) rfl (rt5_2 ha) wf_X4_18 dX4_drop_104 ?_
      refine z_iload_n (i := 2) dX4_drop_107 rfl rfl ?_
      refine z_iaload' (fv := (d (a + 8) x2)) (rl8 ha) (rlt8 ha) (by decide) dX4_drop_108 h.1 (by rw [hd3, mu_na (by omega)]) ?_
      replace h := h.2
      refine z_iastore (rl8 ha) (rlt8 ha) (by decide) dX4_drop_109 h.1 ?_
      replace h := h.2
      generalize hd4 : mu d3 (a + 8) (x2 - 1) (d (a + 8) x2) = d4
      replace hd4 := hd4.symm
      replace h := h d4 hd4
      refine z_aloadR_n (i := 0) dX4_drop_110 rfl rfl ?_
      refine z_getR 4 3 (idx := 21) (rl5 ha) (by decide) (by decide) rfl (rlt5 ha) rfl (rt5_3 ha) wf_X4_21 dX4_drop_111 ?_
      refine z_iload_n (i := 2) dX4_drop_114 rfl rfl ?_
      refine z_iconst dX4_drop_115 ?_
      refine z_isub dX4_drop_116 ?_
      refine z_aloadR_n (i := 0) dX4_drop_117 rfl rfl ?_
      refine z_getR 4 3 (idx := 21) (rl5 ha) (by decide) (by decide) rfl (rlt5 ha) rfl (rt5_3 ha) wf_X4_21 dX4_drop_118 ?_
      refine z_iload_n (i := 2) dX4_drop_121 rfl rfl ?_
      refine z_iaload' (fv := (d (a + 9) x2)) (rl9 ha) (rlt9 ha) (by decide) dX4_drop_122 h.1 (by rw [hd4, mu_na (by omega)]; rw [hd3, mu_na (by omega)]) ?_
      replace h := h.2
      refine z_iastore (rl9 ha) (rlt9 ha) (by decide) dX4_drop_123 h.1 ?_
      replace h := h.2
      generalize hd5 : mu d4 (a + 9) (x2 - 1) (d (a + 9) x2) = d5
      replace hd5 := hd5.symm
      replace h := h d5 hd5
      refine z_iinc (i := 2) (ls2 := [some (zR (a + 5)), some (zI x1), some (zI (x2 + 1))]) dX4_drop_124 (by decide) rfl rfl ?_
      refine z_goto (tgt := 68) dX4_drop_127 (by decide) ?_
      exact h
set_option maxRecDepth 20000 in
theorem v_X4_passYear_0 {g : zGG} {Q : Int → zMem → Prop} {d : zMem} {a : Nat} {x1 : Int} (ha : isRiv a)  (h : (inR (d (a + 5) 4)) ∧ (Fr g (eM g M_X4_passYear FUL FUL Q) M_X4_passYear FUL 12 [some (zR (a + 5)), some (zI x1), some (zI ((min (d (a + 5) 4) 12) - 1))] [] d)) : Fr g (eM g M_X4_passYear FUL FUL Q) M_X4_passYear FUL 0 [some (zR (a + 5)), some (zI x1), none] [] d := by
  refine z_aloadR_n (i := 0) dX4_passYear_0 rfl rfl ?_
  refine z_getI' 4 4 (idx := 27) (fv := (d (a + 5) 4)) (rl5 ha) (by decide) (by decide) rfl (rlt5 ha) wf_X4_27 dX4_passYear_1 rfl ?_
  refine z_bipush dX4_passYear_4 (by decide +kernel) ?_
  refine z_min ⟨h.1, by decide⟩ dX4_passYear_6 wm_X4_60 wMs_min wMi wMc_min ⟨Nat.le_of_ble_eq_true rfl, Nat.le_of_ble_eq_true rfl, Nat.le_refl _, Nat.le_refl _⟩ ?_
  replace h := h.2
  refine z_iconst dX4_passYear_9 ?_
  refine z_isub dX4_passYear_10 ?_
  refine z_istore_n (i := 2) (ls2 := [some (zR (a + 5)), some (zI x1), some (zI ((min (d (a + 5) 4) 12) - 1))]) dX4_passYear_11 rfl (by decide) rfl ?_
  exact h
theorem e_X4_passYear {g : zGG} {Q : Int → zMem → Prop} {d : zMem} {a : Nat} {x1 : Int} (ha : isRiv a) (h : (inR (d (a + 5) 4)) ∧ (Fr g (eM g M_X4_passYear FUL FUL Q) M_X4_passYear FUL 12 [some (zR (a + 5)), some (zI x1), some (zI ((min (d (a + 5) 4) 12) - 1))] [] d)) : Ev g M_X4_passYear FUL FUL [zR (a + 5), zI x1] d Q :=
  Ev_of (by decide +kernel) (Nat.le_of_ble_eq_true rfl) (v_X4_passYear_0 ha h)
set_option maxRecDepth 20000 in
theorem v_X4_passYear_12 {g : zGG} {Q : Int → zMem → Prop} {d : zMem} {a : Nat} {x1 : Int} (ha : isRiv a) {x2 : Int} (h : ((inR x2) ∧ (x2 < 0 → Q 0 d) ∧ (0 ≤ x2 → (0 ≤ x2 ∧ x2 < 12) ∧ (0 ≤ x2 ∧ x2 < 12) ∧ ∀ d1, d1 = mu d (a + 9) x2 ((d (a + 9) x2) + 1) → (0 ≤ x2 ∧ x2 < 12) ∧ ((inR (d1 (a + 9) x2) ∧ inR x1) ∧ ((d1 (a + 9) x2) < x1 → (Fr g (eM g M_X4_passYear FUL FUL Q) M_X4_passYear FUL 12 [some (zR (a + 5)), some (zI x1), some (zI (x2 + (-1)))] [] d1)) ∧ (x1 ≤ (d1 (a + 9) x2) → Ev g M_X4_drop FUL FUL [zR (a + 5), zI x2] d1 (fun _ d2 => (Fr g (eM g M_X4_passYear FUL FUL Q) M_X4_passYear FUL 12 [some (zR (a + 5)), some (zI x1), some (zI (x2 + (-1)))] [] d2))))))) : Fr g (eM g M_X4_passYear FUL FUL Q) M_X4_passYear FUL 12 [some (zR (a + 5)), some (zI x1), some (zI x2)] [] d := by
  refine z_iload_n (i := 2) dX4_passYear_12 rfl rfl ?_
  refine zb_if_lt (tgt := 47) dX4_passYear_13 (by decide) h.1 ⟨fun c => ?_, fun c => ?_⟩
  · replace h := h.2.1 c
    exact zret_v rfl dX4_passYear_47 h
  · replace h := h.2.2 c
    refine z_aloadR_n (i := 0) dX4_passYear_16 rfl rfl ?_
    refine z_getR 4 3 (idx := 21) (rl5 ha) (by decide) (by decide) rfl (rlt5 ha) rfl (rt5_3 ha) wf_X4_21 dX4_passYear_17 ?_
    refine z_iload_n (i := 2) dX4_passYear_20 rfl rfl ?_
    refine z_dup2 dX4_passYear_21 (Nat.le_of_ble_eq_true rfl) (Nat.le_of_ble_eq_true rfl) ?_
    refine z_iaload' (fv := (d (a + 9) x2)) (rl9 ha) (rlt9 ha) (by decide) dX4_passYear_22 h.1 rfl ?_
    replace h := h.2
    refine z_iconst dX4_passYear_23 ?_
    refine z_iadd dX4_passYear_24 ?_
    refine z_iastore (rl9 ha) (rlt9 ha) (by decide) dX4_passYear_25 h.1 ?_
    replace h := h.2
    generalize hd1 : mu d (a + 9) x2 ((d (a + 9) x2) + 1) = d1
    replace hd1 := hd1.symm
    replace h := h d1 hd1
    refine z_aloadR_n (i := 0) dX4_passYear_26 rfl rfl ?_
    refine z_getR 4 3 (idx := 21) (rl5 ha) (by decide) (by decide) rfl (rlt5 ha) rfl (rt5_3 ha) wf_X4_21 dX4_passYear_27 ?_
    refine z_iload_n (i := 2) dX4_passYear_30 rfl rfl ?_
    refine z_iaload' (fv := (d1 (a + 9) x2)) (rl9 ha) (rlt9 ha) (by decide) dX4_passYear_31 h.1 rfl ?_
    replace h := h.2
    refine z_iload_n (i := 1) dX4_passYear_32 rfl rfl ?_
    refine zb_icmp_lt (tgt := 41) dX4_passYear_33 (by decide) h.1 ⟨fun c => ?_, fun c => ?_⟩
    · replace h := h.2.1 c
      refine z_iinc (i := 2) (ls2 := [some (zR (a + 5)), some (zI x1), some (zI (x2 + (-1)))]) dX4_passYear_41 (by decide) rfl rfl ?_
      refine z_goto (tgt := 12) dX4_passYear_44 (by decide) ?_
      exact h
    · replace h := h.2.2 c
      refine z_aloadR_n (i := 0) dX4_passYear_36 rfl rfl ?_
      refine z_iload_n (i := 2) dX4_passYear_37 rfl rfl ?_
      refine z_callVv (k' := M_X4_drop) (As := [zI x2]) (st := []) dX4_passYear_38 rfl (rl5 ha) (by decide) rfl (rlt5 ha) wm_X4_50 ok_X4_drop okV_X4_drop rfl (zroom_self (by decide) (by decide)) (Nat.le_of_ble_eq_true rfl) (Nat.le_refl _) rfl (Ev_mono h (fun _ d2 h => ?_))
      refine z_iinc (i := 2) (ls2 := [some (zR (a + 5)), some (zI x1), some (zI (x2 + (-1)))]) dX4_passYear_41 (by decide) rfl rfl ?_
      refine z_goto (tgt := 12) dX4_passYear_44 (by decide) ?_
      exact h
