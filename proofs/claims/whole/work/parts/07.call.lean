-- ROWS: ends, entry, calls, new cells, copies, statics, Math, over the pure machine
section
variable {g : zGG} {e : zEE} {k : zMk} {φ : zPhi} {pc : Nat} {ls : List (Option zPV)} {st : List zPV} {d : zMem}
theorem zret_i {Q : Int → zMem → Prop} {φ0 : zPhi} {v : Int} (hr : kret k = some .int) (hd : decode (kcode k) pc = .ok (.ireturn, 1)) (hQ : Q v d) : Fr g (eM g k φ0 φ Q) k φ pc ls [zI v] d := by
  intro p ee s m args below meth c hC h0 H locs A hH hS hl
  refine W.iret hC.1 hC.2.1 (hC.2.2.1.trans hr) (fun t ht hW => ?_) hS.2.2 hd hC.2.2.2.2.2.2.2.1
  unfold zQc
  rw [hr]
  exact ⟨⟨Int32.ofInt v, d, rfl, ⟨v, rfl, hQ⟩, (show zH g φ d t.heap by rw [ht]; exact hH)⟩, hS.F ht⟩
theorem zret_z {Q : Int → zMem → Prop} {φ0 : zPhi} {v : Int} (hr : kret k = some .boolean) (hd : decode (kcode k) pc = .ok (.ireturn, 1)) (hb : v = 0 ∨ v = 1) (hQ : Q v d) : Fr g (eM g k φ0 φ Q) k φ pc ls [zI v] d := by
  intro p ee s m args below meth c hC h0 H locs A hH hS hl
  refine W.zret hC.1 hC.2.1 (hC.2.2.1.trans hr) (okB_nar (Or.inr ⟨rfl, hb⟩)).1 (fun t ht hW => ?_) hS.2.2 hd hC.2.2.2.2.2.2.2.1
  unfold zQc
  rw [hr]
  exact ⟨⟨Int32.ofInt v, d, rfl, ⟨v, rfl, hQ⟩, (show zH g φ d t.heap by rw [ht]; exact hH)⟩, hS.F ht⟩
theorem zret_v {Q : Int → zMem → Prop} {φ0 : zPhi} (hr : kret k = none) (hd : decode (kcode k) pc = .ok (.return_, 1)) (hQ : Q 0 d) : Fr g (eM g k φ0 φ Q) k φ pc ls [] d := by
  intro p ee s m args below meth c hC h0 H locs A hH hS hl
  refine W.vret hC.1 hC.2.1 (hC.2.2.1.trans hr) (fun t ht hW => ?_) hS.2.2 hd hC.2.2.2.2.2.2.2.1
  unfold zQc
  rw [hr]
  exact ⟨⟨d, rfl, hQ, (show zH g φ d t.heap by rw [ht]; exact hH)⟩, hS.F ht⟩
-- entry
def zent0 : List zPV → List (Option zPV)
  | [] => []
  | v :: vs => if v.1 < 6 then some v :: zent0 vs else some v :: none :: zent0 vs
def zin (n : Nat) (args : List zPV) : List (Option zPV) := zent0 args ++ List.replicate (n - (zent0 args).length) none
theorem zval_catR (g : zGG) (v : zPV) : (zval g v).category = if v.1 < 6 then 1 else 2 := by
  by_cases h : v.1 < 6
  · rw [if_pos h]; exact zval_cat1 g v h
  · rw [if_neg h]
    obtain ⟨t, x⟩ := v
    have ht : ¬ t < 6 := h
    obtain ⟨t', rfl⟩ : ∃ t', t = t' + 6 := ⟨t - 6, by omega⟩
    rfl
theorem lg_sl_len (g : zGG) : ∀ args : List zPV, (lg_sl (args.map (zval g))).length = (zent0 args).length
  | [] => rfl
  | v :: vs => by
    have ih := lg_sl_len g vs
    unfold lg_sl at ih ⊢
    rw [List.map_cons, List.flatMap_cons, List.length_append, ih, zval_catR]
    by_cases h : v.1 < 6
    · simp [zent0, h]; omega
    · simp [zent0, h]; omega
theorem zent0_args (g : zGG) : ∀ (args : List zPV) (b i : Nat) (v : zPV), (zent0 args)[i]? = some (some v) → (b + i, zval g v) ∈ lv_args b (args.map (zval g))
  | [], b, i, v, h => by simp [zent0] at h
  | w :: vs, b, i, v, h => by
    rw [List.map_cons, lv_args, zval_catR]
    by_cases hw : w.1 < 6
    · rw [zent0, if_pos hw] at h
      rw [if_pos hw]
      cases i with
      | zero =>
        rw [List.getElem?_cons_zero] at h
        cases h
        exact List.mem_cons_self
      | succ i =>
        rw [List.getElem?_cons_succ] at h
        have := zent0_args g vs (b + 1) i v h
        rw [show b + (i + 1) = b + 1 + i by omega]
        exact List.mem_cons_of_mem _ this
    · rw [zent0, if_neg hw] at h
      rw [if_neg hw, if_pos rfl]
      match i, h with
      | 0, h =>
        rw [List.getElem?_cons_zero] at h
        cases h
        exact List.mem_cons_self
      | 1, h => simp at h
      | i + 2, h =>
        rw [List.getElem?_cons_succ, List.getElem?_cons_succ] at h
        have := zent0_args g vs (b + 2) i v h
        rw [show b + (i + 2) = b + 2 + i by omega]
        exact List.mem_cons_of_mem _ this
theorem zin_ok {n : Nat} {args : List zPV} (h : (zent0 args).length ≤ n) : zLs g n (zin n args) ((lg_sl (args.map (zval g)) ++ List.replicate (n - (lg_sl (args.map (zval g))).length) Slot.unset).toArray) := by
  have hl := lv_entry (args.map (zval g)) (n := n) (by rw [lg_sl_len]; exact h)
  refine ⟨hl.1, hl.2.1, fun i v hi => ?_⟩
  unfold zin at hi
  rcases Nat.lt_or_ge i (zent0 args).length with q | q
  · rw [List.getElem?_append_left q] at hi
    have := hl.2.2 _ (zent0_args g args 0 i v hi)
    rwa [Nat.zero_add] at this
  · rw [List.getElem?_append_right q, List.getElem?_replicate] at hi
    split at hi <;> simp at hi
theorem Ev_of {args : List zPV} {φ' : zPhi} {Q : Int → zMem → Prop} (hp : plainName (ky k).cls = true) (hn : (zent0 args).length ≤ kn k) (h : Fr g (eM g k φ φ' Q) k φ 0 (zin (kn k) args) [] d) : Ev g k φ φ' args d Q := by
  refine Met.ofW (cc := kcode k) (maxL := kn k) (ret := kret k) hp rfl ?_
  intro p e s m as below meth c s₁ B hml hv
  obtain ⟨rfl, hK, hH, hsz, hle⟩ := hv
  have hts := atoms_spec (ws := kws k) B.pre
  have hC : zCx g (eM g k φ φ' Q) k p s m (args.map (zval g)).toArray meth c := ⟨B.exec, B.bytes, B.returns, hml, findClass_of_methodNamed B.named, fun w hw => hts w (List.mem_cons_of_mem _ hw), hK, B.notSynchronized, hsz, (name_of_methodNamed B.named B.method).1⟩
  have := h p e s m _ below meth c hC (Nat.le_refl _) s.heap [] _ hH va_S.rf (zin_ok hn)
  rw [lg_entry_eq]
  rw [show (eM g k φ φ' Q).2.1 = φ from rfl, Nat.sub_self, Nat.sub_self] at this
  exact this
theorem Ev_mono {args : List zPV} {φ' : zPhi} {Q Q' : Int → zMem → Prop} (h : Ev g k φ φ' args d Q) (hq : ∀ v d', Q v d' → Q' v d') : Ev g k φ φ' args d Q' := by
  intro p ee ha hc hk s m as below hf happ hP hK
  obtain ⟨n, o, h1, h2, h3, h4, h5⟩ := h p ee ha hc hk s m as below hf happ hP hK
  refine ⟨n, o, h1, h2, h3, ?_, h5⟩
  unfold zQc at h4 ⊢
  cases hr : kret k with
  | none =>
    rw [hr] at h4
    obtain ⟨⟨u, a1, a2, a3⟩, a4⟩ := h4
    exact ⟨⟨u, a1, hq _ _ a2, a3⟩, a4⟩
  | some ty =>
    rw [hr] at h4
    obtain ⟨⟨r, u, a1, ⟨v, a2, a3⟩, a4⟩, a5⟩ := h4
    exact ⟨⟨r, u, a1, ⟨v, a2, hq _ _ a3⟩, a4⟩, a5⟩
-- calls
def zcs (st : List zPV) : Nat := (st.map (fun v => if v.1 < 6 then 1 else 2)).sum
theorem zcs_of (g : zGG) (st : List zPV) : ((st.map (zval g)).map fun v => v.category).sum = zcs st := by
  unfold zcs
  rw [List.map_map]
  congr 1
  apply List.map_congr_left
  intro v _
  exact zval_catR g v
def zok (k' : zMk) (n : Nat) : Prop := Cond.initialized (ky k').cls ∈ GW ∧ Cond.code (ky k') (kcode k') (kn k') (kret k') ∈ GW ∧ ((ky k').cls ≠ "java/lang/invoke/MethodHandle" ∧ (ky k').cls ≠ "java/lang/invoke/VarHandle") ∧ (parseMethodDescriptor (ky k').desc).map (fun d => d.parameters.length) = some n
def zokV (k' : zMk) : Prop := Cond.instanceMethod (ky k') ∈ GW ∧ Cond.selects (ky k').cls (ky k') (ky k') ∈ GW
theorem kws_GW {k' : zMk} {n : Nat} (h : zok k' n) : ∀ w ∈ kws k', w ∈ GW := fun w hw => (List.mem_cons.mp hw).elim (fun q => q ▸ h.2.1) (fun q => q)
def zroom (e : zEE) (k' : zMk) (φ' : zPhi) : Prop := (kfr k' + 1 ≤ e.1.frames ∧ 8 + (kn k' + 11) + klo k' ≤ e.1.locals) ∧ (φ'.1 - e.2.1.1 ≤ e.1.cells ∧ zsl φ'.1 - zsl e.2.1.1 ≤ e.1.slots)
theorem zroom_fit {e : zEE} {k' : zMk} {φ φ' : zPhi} (h : zroom e k' φ') (h0 : e.2.1.1 ≤ φ.1) (h1 : φ.1 ≤ φ'.1) : φ.1 - e.2.1.1 + (φ'.1 - φ.1) ≤ e.1.cells ∧ zsl φ.1 - zsl e.2.1.1 + (zsl φ'.1 - zsl φ.1) ≤ e.1.slots := by
  obtain ⟨-, h2, h3⟩ := h
  have h4 := zsl_mono h0
  have h5 := zsl_mono h1
  omega
theorem zend_i {k' : zMk} {φ' : zPhi} {As : Array Value} {Q : Int → zMem → Prop} {ty : FieldType} {p : Program} {ee : Env} {s : State} {m : MethodId} {args : Array Value} {below : List Frame} {meth : Method} {c : Code} {H : Heap} {locs : List Loc} {A : Array Slot} {st0 : List Value} {rest : List zPV} {Z : State → Prop}
    (hC : zCx g e k p s m args meth c) (h0 : e.2.1.1 ≤ φ.1) (h1 : φ.1 ≤ φ'.1) (hS : va_S (gA g) s.heap H locs) (hl : zLs g (kn k) ls A) (hr : kret k' = some ty)
    (hrun : va_Run p (gL g) ee e.1 s m args below meth c H locs (φ.1 - e.2.1.1) (zsl φ.1 - zsl e.2.1.1) (φ'.1 - φ.1) (zsl φ'.1 - zsl φ.1) (F0 m pc A st0) (rest.map (zval g)) (zQc g k' φ' Q As) (gA g))
    (hQ : ∀ v d', Q v d' → Fr g e k φ' (pc + 3) ls (zI v :: rest) d') : W p (gL g) ee e.1 s m args below meth c H locs (φ.1 - e.2.1.1) (zsl φ.1 - zsl e.2.1.1) (e.2.2 args s below) (F0 m pc A st0) := by
  unfold zQc at hrun
  rw [hr] at hrun
  refine va_calli hrun hS (fun q _ h => h) (fun q h => h) (fun r d' t H1 locs1 ht hvm hp hb hz hk1 hS1 => ?_)
  obtain ⟨v, rfl, hv⟩ := hp
  have := hQ v d' hv p ee s m args below meth c hC (Nat.le_trans h0 h1) H1 locs1 A (by rw [← ht]; exact hb) hS1 hl
  have h4 := zsl_mono h0
  have h5 := zsl_mono h1
  rw [show φ.1 - e.2.1.1 + (φ'.1 - φ.1) = φ'.1 - e.2.1.1 by omega, show zsl φ.1 - zsl e.2.1.1 + (zsl φ'.1 - zsl φ.1) = zsl φ'.1 - zsl e.2.1.1 by omega]
  exact this
theorem zend_v {k' : zMk} {φ' : zPhi} {As : Array Value} {Q : Int → zMem → Prop} {p : Program} {ee : Env} {s : State} {m : MethodId} {args : Array Value} {below : List Frame} {meth : Method} {c : Code} {H : Heap} {locs : List Loc} {A : Array Slot} {st0 : List Value} {rest : List zPV} {Z : State → Prop}
    (hC : zCx g e k p s m args meth c) (h0 : e.2.1.1 ≤ φ.1) (h1 : φ.1 ≤ φ'.1) (hS : va_S (gA g) s.heap H locs) (hl : zLs g (kn k) ls A) (hr : kret k' = none)
    (hrun : va_Run p (gL g) ee e.1 s m args below meth c H locs (φ.1 - e.2.1.1) (zsl φ.1 - zsl e.2.1.1) (φ'.1 - φ.1) (zsl φ'.1 - zsl φ.1) (F0 m pc A st0) (rest.map (zval g)) (zQc g k' φ' Q As) (gA g))
    (hQ : ∀ v d', Q v d' → Fr g e k φ' (pc + 3) ls rest d') : W p (gL g) ee e.1 s m args below meth c H locs (φ.1 - e.2.1.1) (zsl φ.1 - zsl e.2.1.1) (e.2.2 args s below) (F0 m pc A st0) := by
  unfold zQc at hrun
  rw [hr] at hrun
  refine va_callv hrun hS (fun q _ h => h) (fun q h => h) (fun d' t H1 locs1 ht hvm hp hb hz hk1 hS1 => ?_)
  have := hQ 0 d' hp p ee s m args below meth c hC (Nat.le_trans h0 h1) H1 locs1 A (by rw [← ht]; exact hb) hS1 hl
  have h4 := zsl_mono h0
  have h5 := zsl_mono h1
  rw [show φ.1 - e.2.1.1 + (φ'.1 - φ.1) = φ'.1 - e.2.1.1 by omega, show zsl φ.1 - zsl e.2.1.1 + (zsl φ'.1 - zsl φ.1) = zsl φ'.1 - zsl e.2.1.1 by omega]
  exact this
theorem zpre {φ' : zPhi} {As : List zPV} {p : Program} {s : State} {m : MethodId} {args : Array Value} {meth : Method} {c : Code} {H : Heap} {locs : List Loc} (hC : zCx g e k p s m args meth c) (hH : zH g φ d H) (hS : va_S (gA g) s.heap H locs) (hz : H.size = gB g + φ.1) (h1 : φ.1 ≤ φ'.1) (U : State) (hU : U.heap = H) (hW : s.WarmedH U.vm) : zPc g φ φ' As d (As.map (zval g)).toArray U :=
  ⟨rfl, hC.2.2.2.2.2.2.1.go hS hU hW, by rw [hU]; exact hH, by rw [hU]; exact hz, h1⟩
theorem z_callV {k' : zMk} {φ' : zPhi} {a ci n idx : Nat} {As : List zPV} {Q : Int → zMem → Prop} {stk : List zPV}
    (hd : decode (kcode k) pc = .ok (.invokevirtual idx, 3)) (hst : As.reverse ++ zR a :: st = stk) (hL : LAY a = (0, ci)) (hci : ci < 10) (hcl : (ky k').cls = RXc ci) (ha : a < φ.1)
    (w1 : Cond.methodLink (kown k) idx (ky k') ∈ GW) (hok : zok k' n) (hokV : zokV k') (hn : As.length = n) (hroom : zroom e k' φ') (hW : zcs st ≤ 8) (h1 : φ.1 ≤ φ'.1)
    (hend : ∀ {p : Program} {ee : Env} {s : State} {m : MethodId} {args : Array Value} {below : List Frame} {meth : Method} {c : Code} {H : Heap} {locs : List Loc} {A : Array Slot} {st0 : List Value}, zCx g e k p s m args meth c → e.2.1.1 ≤ φ.1 → va_S (gA g) s.heap H locs → zLs g (kn k) ls A → va_Run p (gL g) ee e.1 s m args below meth c H locs (φ.1 - e.2.1.1) (zsl φ.1 - zsl e.2.1.1) (φ'.1 - φ.1) (zsl φ'.1 - zsl φ.1) (F0 m pc A st0) (st.map (zval g)) (zQc g k' φ' Q (((zR a :: As)).map (zval g)).toArray) (gA g) → W p (gL g) ee e.1 s m args below meth c H locs (φ.1 - e.2.1.1) (zsl φ.1 - zsl e.2.1.1) (e.2.2 args s below) (F0 m pc A st0))
    (hEv : Ev g k' φ φ' (zR a :: As) d Q) : Fr g e k φ pc ls stk d := by
  subst hst
  intro p ee s m args below meth c hC h0 H locs A hH hS hl T hT X
  have hz := hH.size hC h0 hS hT X
  have ha' := zwl_get (g := g) (d := d) ha
  rw [zent_obj hL] at ha'
  have hcw : CallW e.1 s args (kown k) (RXc ci) idx (ky k') (kcode k') (kn k') (kret k') (kws k') (krm k' φ φ') (φ'.1 - φ.1) (zsl φ'.1 - zsl φ.1) n := by
    refine cwV n hC.2.2.2.2.2.1 (goodIn_GW ?_) rfl rfl rfl ⟨hcl, hok.2.2.1.1, hok.2.2.1.2, hok.2.2.2⟩ hroom.1
    intro w hw
    rcases List.mem_append.mp hw with q | q
    · rcases List.mem_cons.mp q with rfl | q
      · exact w1
      rcases List.mem_cons.mp q with rfl | q
      · exact hokV.1
      rcases List.mem_cons.mp q with rfl | q
      · rw [← hcl]; exact hokV.2
      rcases List.mem_cons.mp q with rfl | q
      · rw [← hcl]; exact hok.1
      · cases q
    · exact kws_GW hok w q
  refine hend hC h0 hS hl (va_runV (As := As.map (zval g)) ⟨hC.1, hC.2.1, hC.2.2.2.1, hC.2.2.2.2.1, hC.2.2.2.2.2.1⟩ hEv hcw ⟨zPc.blind, va_recv hC.2.2.2.2.2.2.1.1 (zwl_P hH) (cls_at hci) ha', fun U hU hW => ?_⟩ rfl (by rw [List.length_map]; exact hn) hl.1 ?_ (lv_room (by rw [zcs_of]; exact hW)) hd (zroom_fit hroom h0 h1)) T hT X
  · exact zpre (As := zR a :: As) hC hH hS hz h1 U hU hW
  · show List.map (zval g) (As.reverse ++ zR a :: st) = _
    rw [List.map_append, List.map_reverse]
    rfl
theorem z_callVi {k' : zMk} {φ' : zPhi} {a ci n idx : Nat} {As : List zPV} {stk : List zPV} {ty : FieldType}
    (hd : decode (kcode k) pc = .ok (.invokevirtual idx, 3)) (hst : As.reverse ++ zR a :: st = stk) (hL : LAY a = (0, ci)) (hci : ci < 10) (hcl : (ky k').cls = RXc ci) (ha : a < φ.1)
    (w1 : Cond.methodLink (kown k) idx (ky k') ∈ GW) (hok : zok k' n) (hokV : zokV k') (hn : As.length = n) (hroom : zroom e k' φ') (hW : zcs st ≤ 8) (h1 : φ.1 ≤ φ'.1) (hr : kret k' = some ty)
    (hEv : Ev g k' φ φ' (zR a :: As) d (fun v d' => Fr g e k φ' (pc + 3) ls (zI v :: st) d')) : Fr g e k φ pc ls stk d :=
  z_callV hd hst hL hci hcl ha w1 hok hokV hn hroom hW h1 (fun hC h0 hS hl hrun => zend_i (Z := fun _ => True) hC h0 h1 hS hl hr hrun (fun _ _ h => h)) hEv
theorem z_callVv {k' : zMk} {φ' : zPhi} {a ci n idx : Nat} {As : List zPV} {stk : List zPV}
    (hd : decode (kcode k) pc = .ok (.invokevirtual idx, 3)) (hst : As.reverse ++ zR a :: st = stk) (hL : LAY a = (0, ci)) (hci : ci < 10) (hcl : (ky k').cls = RXc ci) (ha : a < φ.1)
    (w1 : Cond.methodLink (kown k) idx (ky k') ∈ GW) (hok : zok k' n) (hokV : zokV k') (hn : As.length = n) (hroom : zroom e k' φ') (hW : zcs st ≤ 8) (h1 : φ.1 ≤ φ'.1) (hr : kret k' = none)
    (hEv : Ev g k' φ φ' (zR a :: As) d (fun _ d' => Fr g e k φ' (pc + 3) ls st d')) : Fr g e k φ pc ls stk d :=
  z_callV hd hst hL hci hcl ha w1 hok hokV hn hroom hW h1 (fun hC h0 hS hl hrun => zend_v (Z := fun _ => True) hC h0 h1 hS hl hr hrun (fun _ _ h => h)) hEv
end
