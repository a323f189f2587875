theorem wc_L_7 : Cond.classLink RL 7 (RXc 8) ∈ GW := inGW 62 (by decide +kernel) rfl
theorem wc_L_10 : Cond.classLink RL 10 (RXc 9) ∈ GW := inGW 790 (by decide +kernel) rfl
theorem wm_L_9 : Cond.methodLink RL 9 yX8_init ∈ GW := inGW 64 (by decide +kernel) rfl
theorem wm_L_12 : Cond.methodLink RL 12 yX9_init ∈ GW := inGW 792 (by decide +kernel) rfl
theorem wAO : Cond.arrayOver (.object RX7) ∈ lw_tbl := List.mem_of_getElem? (i := 186) (by decide +kernel)
theorem wLS1 : Cond.laysStatic RX8 "FIRST_SETTINGS" "[I" ∈ lw_tbl := List.mem_of_getElem? (i := 77) (by decide +kernel)
theorem wLS2 : Cond.laysStatic RX8 "HIGHEST_SETTINGS" "[I" ∈ lw_tbl := List.mem_of_getElem? (i := 336) (by decide +kernel)
theorem wI_all : ∀ ci, ci < 10 → Cond.instantiable (RXc ci) (ncl ci) ∈ GW := by
  intro ci h
  rcases (show ci = 0 ∨ ci = 1 ∨ ci = 2 ∨ ci = 3 ∨ ci = 4 ∨ ci = 5 ∨ ci = 6 ∨ ci = 7 ∨ ci = 8 ∨ ci = 9 by omega) with e | e | e | e | e | e | e | e | e | e <;> subst e
  · exact wI_0
  · exact wI_1
  · exact wI_2
  · exact wI_3
  · exact wI_4
  · exact wI_5
  · exact wI_6
  · exact wI_7
  · exact wI_8
  · exact wI_9
-- the law from its entry, over the pure machine
set_option maxRecDepth 20000 in
theorem law_all {g : zGG} {nm : String} (hN : gN g ≤ 2048) : Fr g eL (kL nm) phi0 0 [some zX, none, none, none] [] (fun _ _ => 0) := by
  have hz1 := Zr_nx Zr_0
  have hz2 := Zr_X8 hz1
  have hz3 := Zr_nx hz2
  have hz4 := Zr_X9 hz3
  refine z_new' 8 (n := 0) Zr_0 ly_0 (by decide) dL_law_0 wc_L_7 wI_8 wi_8 (zrm_eL (by decide)) ?_
  refine z_dup dL_law_3 (Nat.le_of_ble_eq_true rfl) ?_
  refine z_callI (k' := M_X8_init) (φ' := (pX8 (znx phi0))) (As := []) (Q := fun _ _ => True) (st := [zR 0]) dL_law_4 rfl rfl rfl wm_L_9 ok_X8_init okI_X8_init rfl (zroom_eL (by decide) (by decide) (by rw [hz2.1]; decide)) (Nat.le_of_ble_eq_true rfl) (by rw [hz2.1, hz1.1]; decide) ?_
  apply kX8 hz1
  intro d1 R1 q1 q2 q3 q4 q5
  refine z_astoreR_n (i := 1) (ls2 := [some zX, some (zR 0), none, none]) dL_law_7 rfl (show 1 < 4 by decide) rfl ?_
  refine z_new' 9 (n := 153) hz2 ly_153 (by decide) dL_law_8 wc_L_10 wI_9 wi_9 (zrm_eL (by decide)) ?_
  generalize hm2 : mrow d1 153 (fun _ => 0) = d2
  refine z_dup dL_law_11 (Nat.le_of_ble_eq_true rfl) ?_
  refine z_callI (k' := M_X9_init) (φ' := (pX9 (znx (pX8 (znx phi0))))) (As := []) (Q := fun _ _ => True) (st := [zR 153]) dL_law_12 rfl rfl rfl wm_L_12 ok_X9_init okI_X9_init rfl (zroom_eL (by decide) (by decide) (by rw [hz4.1]; decide)) (Nat.le_of_ble_eq_true rfl) (by rw [hz4.1, hz3.1]; decide) ?_
  apply kX9 hz3
  intro d3 b3 v3 w3
  refine z_astoreR_n (i := 2) (ls2 := [some zX, some (zR 0), some (zR 153), none]) dL_law_15 rfl (show 2 < 4 by decide) rfl ?_
  refine z_iconst dL_law_16 ?_
  refine z_istore_n (i := 3) (ls2 := [some zX, some (zR 0), some (zR 153), some (zI 0)]) dL_law_17 rfl (show 3 < 4 by decide) rfl ?_
  have e : ∀ q, q < 153 → d3 q = d1 q := fun q hq => by rw [b3 q (by omega), ← hm2, mrw_ne (by omega)]
  have hJ : J d3 := J_first (River_keep R1 (fun q _ h => e q (by omega))) (by rw [e 31 (by omega)]; exact q1) (by rw [e 31 (by omega)]; exact q2) (fun z => by rw [e 30 (by omega)]; exact q3 z) (by rw [e 117 (by omega)]; exact q4) (by rw [e 120 (by omega)]; exact q5) (fun j => by rw [b3 153 (by omega), ← hm2, mrow_app, if_pos rfl]) v3 w3
  exact Fr_ful fulL (l_law hN 3000 0 d3 (by omega) (by omega) (by omega) hJ)
theorem cls_inv {c : Nat} {q : vw_C} (h : cls[c]? = some q) : c < 10 ∧ q = (RXc c, TXc c, ncl c) := by
  have hc : c < 10 := by
    have := (List.getElem?_eq_some_iff.mp h).1
    simpa [cls] using this
  refine ⟨hc, ?_⟩
  rw [cls_at hc] at h
  exact (Option.some.inj h).symm
/-- from the entry, for every script of at most 2048 ints, the law comes to its end with true -/
theorem whole_start {p : Program} {e : Env} {s : State} {m : MethodId} {below : List Frame} {meth : Method} {c : Code} (l : Launch) (hflags : l.flags = flags0) {b L : Nat} {xs : Nat → Int32} (hL : L ≤ 2048) (C0 : lw_At p s m meth c b L xs) : W p l e room_1 s m #[Value.ref b] below meth c s.heap [] 0 0 (lw_Z below #[Value.ref b] s) (entryFrame m ([Value.ref b] : List Value).toArray 4) := by
  obtain ⟨hx, hb, hr, hml, hown, hts, hX, hbl, hlocks, hgv⟩ := id C0
  have hgw : ∀ w ∈ GW, w.before #[Value.ref b] s = true := fun w hw => hts w (List.mem_filter.mp hw).1
  have hcls : ∀ ci, ci < 10 → ∃ (cC : ClassId) (iS : Nat → Nat), u_Kn s (RXc ci) (TXc ci) (ncl ci) cC iS := fun ci hci => u_known (n := ncl ci) hgw (ws_GW ci hci) (hgw _ (wI_all ci hci))
  obtain ⟨dC, dI, hKc⟩ : ∃ (dC : Nat → ClassId) (dI : Nat → Nat → Nat), ∀ ci, ci < 10 → u_Kn s (RXc ci) (TXc ci) (ncl ci) (dC ci) (dI ci) := by
    refine ⟨fun ci => if h : ci < 10 then Classical.choose (hcls ci h) else Classical.choose (hcls 0 (by decide)), fun ci => if h : ci < 10 then Classical.choose (Classical.choose_spec (hcls ci h)) else fun _ => 0, fun ci h => ?_⟩
    simp only [dif_pos h]
    exact Classical.choose_spec (Classical.choose_spec (hcls ci h))
  obtain ⟨cI, kI, compI, i1, i2, i3⟩ := Cond.arrayClass_spec (hgw _ wIa)
  obtain ⟨cZ, kZ, compZ, z1, z2, z3⟩ := Cond.arrayClass_spec (hgw _ wZa)
  obtain ⟨compR, cR, kR, r1, r2, r3, r4, r5⟩ := Cond.arrayOver_spec (hts _ wAO)
  have hs := flat_of_before _ hgv
  have hA : ∀ a : Nat, a < s.heap.size → ¬ (fun q : Nat => s.heap.size ≤ q) a := fun a h => Nat.not_le.mpr h
  obtain ⟨t1, ht1, hT1⟩ := va_Tof (N := 4) (ty := .int) (tm := .static RX8 "FIRST_SETTINGS" "[I") (f := fun j => .int (Int32.ofInt (f1 j))) (A := fun q : Nat => s.heap.size ≤ q) (by decide) (hs _ (by decide +kernel)) (va_eqt (z := 4) (hs _ (by decide +kernel))) (fun j hj => by
    rcases (show j = 0 ∨ j = 1 ∨ j = 2 ∨ j = 3 by omega) with e | e | e | e <;> subst e
    · exact va_eqt (z := 2) (hs (Cond.eq (.elem (.static RX8 "FIRST_SETTINGS" "[I") (.int 0)) (.int 2)) (by decide +kernel))
    · exact va_eqt (z := 6) (hs (Cond.eq (.elem (.static RX8 "FIRST_SETTINGS" "[I") (.int 1)) (.int 6)) (by decide +kernel))
    · exact va_eqt (z := 3) (hs (Cond.eq (.elem (.static RX8 "FIRST_SETTINGS" "[I") (.int 2)) (.int 3)) (by decide +kernel))
    · exact va_eqt (z := 5) (hs (Cond.eq (.elem (.static RX8 "FIRST_SETTINGS" "[I") (.int 3)) (.int 5)) (by decide +kernel))) hA
  obtain ⟨t2, ht2, hT2⟩ := va_Tof (N := 4) (ty := .int) (tm := .static RX8 "HIGHEST_SETTINGS" "[I") (f := fun j => .int (Int32.ofInt (f2 j))) (A := fun q : Nat => s.heap.size ≤ q) (by decide) (hs _ (by decide +kernel)) (va_eqt (z := 4) (hs _ (by decide +kernel))) (fun j hj => by
    rcases (show j = 0 ∨ j = 1 ∨ j = 2 ∨ j = 3 by omega) with e | e | e | e <;> subst e
    · exact va_eqt (z := 9) (hs (Cond.eq (.elem (.static RX8 "HIGHEST_SETTINGS" "[I") (.int 0)) (.int 9)) (by decide +kernel))
    · exact va_eqt (z := 60) (hs (Cond.eq (.elem (.static RX8 "HIGHEST_SETTINGS" "[I") (.int 1)) (.int 60)) (by decide +kernel))
    · exact va_eqt (z := 20) (hs (Cond.eq (.elem (.static RX8 "HIGHEST_SETTINGS" "[I") (.int 2)) (.int 20)) (by decide +kernel))
    · exact va_eqt (z := 50) (hs (Cond.eq (.elem (.static RX8 "HIGHEST_SETTINGS" "[I") (.int 3)) (.int 50)) (by decide +kernel))) hA
  have hZ1 := va_Zof (hts _ wLS1) (hgw _ wi_8) ht1 hA
  have hZ2 := va_Zof (hts _ wLS2) (hgw _ wi_8) ht2 hA
  obtain ⟨g, hg⟩ : ∃ g : zGG, g = (l, (dC, dI), (cI, cZ, cR), (s.heap.size, t1, t2, b), L, xs) := ⟨_, rfl⟩
  have hKn : zKn g s := by
    subst hg
    refine ⟨⟨fun k q hq => ?_, fun k q hq => ?_⟩, fun w hw => ?_, va_AO.of (hts _ wAO), hZ1, hT1, hZ2, hT2, hX, hbl⟩
    · obtain ⟨h1, h2⟩ := cls_inv hq
      rw [h2]
      exact hKc k h1
    · match k, hq with
      | 0, hq =>
        cases hq
        exact ⟨fun n z => ⟨fun k h => (by cases h), kI, i2, compI, i3⟩, i1⟩
      | 1, hq =>
        cases hq
        exact ⟨fun n z => ⟨fun k h => (by cases h), kZ, z2, compZ, z3⟩, z1⟩
      | 2, hq =>
        cases hq
        exact ⟨fun n z => ⟨fun k h => (by cases h), kR, r3, compR, r4⟩, kR, compR, r3, r4, r1, r5⟩
      | k + 3, hq => simp [ztys] at hq
    · have h1 := hts w (List.mem_filter.mp hw).1
      have h2 := (List.mem_filter.mp hw).2
      cases w <;> first | exact h1 | (simp [isNest] at h2)
  have hC : zCx g eL (kL meth.name) p s m #[Value.ref b] meth c := by
    refine ⟨hx, hb, hr, hml, hown, hgw, hKn, hlocks, ?_, rfl⟩
    subst hg
    rfl
  have F := law_all (g := g) (nm := meth.name) (by subst hg; exact hL)
  have := F p e s m #[Value.ref b] below meth c hC (Nat.le_refl _) s.heap [] _ (fun k hk => absurd hk (Nat.not_lt_zero _)) va_S.rf (zin_ok (g := g) (n := 4) (args := [zX]) (by decide))
  subst hg
  rw [lg_entry_eq]
  exact this
