-- ROWS: other calls, new cells, copies, statics, Math, the script
section
variable {g : zGG} {e : zEE} {k : zMk} {φ : zPhi} {pc : Nat} {ls : List (Option zPV)} {st : List zPV} {d : zMem}
abbrev zEnd (g : zGG) (e : zEE) (k k' : zMk) (φ φ' : zPhi) (pc : Nat) (ls : List (Option zPV)) (st : List zPV) (As : List zPV) (Q : Int → zMem → Prop) : Prop :=
  ∀ {p : Program} {ee : Env} {s : State} {m : MethodId} {args : Array Value} {below : List Frame} {meth : Method} {c : Code} {H : Heap} {locs : List Loc} {A : Array Slot} {st0 : List Value}, zCx g e k p s m args meth c → e.2.1.1 ≤ φ.1 → va_S (gA g) s.heap H locs → zLs g (kn k) ls A → va_Run p (gL g) ee e.1 s m args below meth c H locs (φ.1 - e.2.1.1) (zsl φ.1 - zsl e.2.1.1) (φ'.1 - φ.1) (zsl φ'.1 - zsl φ.1) (F0 m pc A st0) (st.map (zval g)) (zQc g k' φ' Q (As.map (zval g)).toArray) (gA g) → W p (gL g) ee e.1 s m args below meth c H locs (φ.1 - e.2.1.1) (zsl φ.1 - zsl e.2.1.1) (e.2.2 args s below) (F0 m pc A st0)
theorem zcallB {k' : zMk} {φ' : zPhi} {n idx : Nat} {p : Program} {s : State} {m : MethodId} {args : Array Value} {meth : Method} {c : Code} (hC : zCx g e k p s m args meth c) (w1 : Cond.methodLink (kown k) idx (ky k') ∈ GW) (hok : zok k' n) (hroom : zroom e k' φ') : CallB e.1 s args (kown k) idx (ky k') (kcode k') (kn k') (kret k') (kws k') (krm k' φ φ') (φ'.1 - φ.1) (zsl φ'.1 - zsl φ.1) n :=
  callB_of n hC.2.2.2.2.2.1 (goodIn_GW (kws_GW hok)) rfl rfl rfl (hC.2.2.2.2.2.1 _ hok.1) (hC.2.2.2.2.2.1 _ w1) ⟨hok.2.2.1.1, hok.2.2.1.2, hok.2.2.2⟩ hroom.1
theorem zcallN {k' : zMk} {φ' : zPhi} {n idx : Nat} {host : String} {p : Program} {s : State} {m : MethodId} {args : Array Value} {meth : Method} {c : Code} (hC : zCx g e k p s m args meth c) (w1 : Cond.methodLinkNest (kown k) idx (ky k') host ∈ NW) (hok : zok k' n) (hroom : zroom e k' φ') : va_CN e.1 s args (kown k) idx (ky k') host (kcode k') (kn k') (kret k') (kws k') (krm k' φ φ') (φ'.1 - φ.1) (zsl φ'.1 - zsl φ.1) n :=
  va_cnB n hC.2.2.2.2.2.1 (goodIn_GW (kws_GW hok)) rfl rfl rfl (hC.2.2.2.2.2.2.1.2.1 _ w1) (hC.2.2.2.2.2.1 _ hok.1) ⟨hok.2.2.1.1, hok.2.2.1.2, hok.2.2.2⟩ hroom.1
theorem z_callS {k' : zMk} {φ' : zPhi} {n idx : Nat} {As : List zPV} {Q : Int → zMem → Prop} {stk : List zPV}
    (hd : decode (kcode k) pc = .ok (.invokestatic idx, 3)) (hst : As.reverse ++ st = stk)
    (w1 : Cond.methodLink (kown k) idx (ky k') ∈ GW) (hok : zok k' n) (hs : Cond.static (ky k') ∈ GW) (hn : As.length = n) (hroom : zroom e k' φ') (hW : zcs st ≤ 8) (h1 : φ.1 ≤ φ'.1)
    (hend : zEnd g e k k' φ φ' pc ls st As Q) (hEv : Ev g k' φ φ' As d Q) : Fr g e k φ pc ls stk d := by
  subst hst
  intro p ee s m args below meth c hC h0 H locs A hH hS hl T hT X
  have hz := hH.size hC h0 hS hT X
  refine hend hC h0 hS hl (va_runS (As := As.map (zval g)) ⟨hC.1, hC.2.1, hC.2.2.2.1, hC.2.2.2.2.1, hC.2.2.2.2.2.1⟩ hEv ⟨zcallB hC w1 hok hroom, hC.2.2.2.2.2.1 _ hs⟩ ⟨zPc.blind, fun U hU hW => ?_⟩ rfl (by rw [List.length_map]; exact hn) hl.1 ?_ (lv_room (by rw [zcs_of]; exact hW)) hd (zroom_fit hroom h0 h1)) T hT X
  · exact zpre hC hH hS hz h1 U hU hW
  · show List.map (zval g) (As.reverse ++ st) = _
    rw [List.map_append, List.map_reverse]
theorem z_callSN {k' : zMk} {φ' : zPhi} {n idx : Nat} {host : String} {As : List zPV} {Q : Int → zMem → Prop} {stk : List zPV}
    (hd : decode (kcode k) pc = .ok (.invokestatic idx, 3)) (hst : As.reverse ++ st = stk)
    (w1 : Cond.methodLinkNest (kown k) idx (ky k') host ∈ NW) (hok : zok k' n) (hs : Cond.static (ky k') ∈ GW) (hn : As.length = n) (hroom : zroom e k' φ') (hW : zcs st ≤ 8) (h1 : φ.1 ≤ φ'.1)
    (hend : zEnd g e k k' φ φ' pc ls st As Q) (hEv : Ev g k' φ φ' As d Q) : Fr g e k φ pc ls stk d := by
  subst hst
  intro p ee s m args below meth c hC h0 H locs A hH hS hl T hT X
  have hz := hH.size hC h0 hS hT X
  refine hend hC h0 hS hl (va_runSN (As := As.map (zval g)) ⟨hC.1, hC.2.1, hC.2.2.2.1, hC.2.2.2.2.1, hC.2.2.2.2.2.1⟩ hEv ⟨zcallN hC w1 hok hroom, hC.2.2.2.2.2.1 _ hs, trivial⟩ ⟨zPc.blind, fun U hU hW => ?_⟩ rfl (by rw [List.length_map]; exact hn) hl.1 ?_ (lv_room (by rw [zcs_of]; exact hW)) hd (zroom_fit hroom h0 h1)) T hT X
  · exact zpre hC hH hS hz h1 U hU hW
  · show List.map (zval g) (As.reverse ++ st) = _
    rw [List.map_append, List.map_reverse]
theorem z_callI {k' : zMk} {φ' : zPhi} {a n idx : Nat} {As : List zPV} {Q : Int → zMem → Prop} {stk : List zPV}
    (hd : decode (kcode k) pc = .ok (.invokespecial idx, 3)) (hst : As.reverse ++ zR a :: st = stk) (hr : kret k' = none) (hnm : (ky k').name = "<init>")
    (w1 : Cond.methodLink (kown k) idx (ky k') ∈ GW) (hok : zok k' n) (hs : Cond.instanceMethod (ky k') ∈ GW) (hn : As.length = n) (hroom : zroom e k' φ') (hW : zcs st ≤ 8) (h1 : φ.1 ≤ φ'.1)
    (hEv : Ev g k' φ φ' (zR a :: As) d (fun _ d' => Fr g e k φ' (pc + 3) ls st d')) : Fr g e k φ pc ls stk d := by
  subst hst
  intro p ee s m args below meth c hC h0 H locs A hH hS hl T hT X
  have hz := hH.size hC h0 hS hT X
  have hcb := zcallB (φ := φ) hC w1 hok hroom
  rw [hr] at hcb
  refine zend_v (k' := k') (Z := fun _ => True) hC h0 h1 hS hl hr (va_runI (b := gB g + a) (As := As.map (zval g)) ⟨hC.1, hC.2.1, hC.2.2.2.1, hC.2.2.2.2.1, hC.2.2.2.2.2.1⟩ hEv ⟨hcb, hnm, hC.2.2.2.2.2.1 _ hs⟩ ⟨zPc.blind, fun U hU hW => ?_⟩ rfl (by rw [List.length_map]; exact hn) hl.1 ?_ (lv_room (by rw [zcs_of]; exact hW)) hd (zroom_fit hroom h0 h1)) (fun _ _ h => h) T hT X
  · exact zpre (As := zR a :: As) hC hH hS hz h1 U hU hW
  · show List.map (zval g) (As.reverse ++ zR a :: st) = _
    rw [List.map_append, List.map_reverse]
    rfl
theorem z_callIN {k' : zMk} {φ' : zPhi} {a n idx : Nat} {host : String} {As : List zPV} {stk : List zPV}
    (hd : decode (kcode k) pc = .ok (.invokespecial idx, 3)) (hst : As.reverse ++ zR a :: st = stk) (hr : kret k' = none) (hnm : (ky k').name = "<init>")
    (w1 : Cond.methodLinkNest (kown k) idx (ky k') host ∈ NW) (hok : zok k' n) (hs : Cond.instanceMethod (ky k') ∈ GW) (hn : As.length = n) (hroom : zroom e k' φ') (hW : zcs st ≤ 8) (h1 : φ.1 ≤ φ'.1)
    (hEv : Ev g k' φ φ' (zR a :: As) d (fun _ d' => Fr g e k φ' (pc + 3) ls st d')) : Fr g e k φ pc ls stk d := by
  subst hst
  intro p ee s m args below meth c hC h0 H locs A hH hS hl T hT X
  have hz := hH.size hC h0 hS hT X
  have hcb := zcallN (φ := φ) hC w1 hok hroom
  rw [hr] at hcb
  refine zend_v (k' := k') (Z := fun _ => True) hC h0 h1 hS hl hr (va_runIN (b := gB g + a) (As := As.map (zval g)) ⟨hC.1, hC.2.1, hC.2.2.2.1, hC.2.2.2.2.1, hC.2.2.2.2.2.1⟩ hEv ⟨hcb, hnm, hC.2.2.2.2.2.1 _ hs⟩ ⟨zPc.blind, fun U hU hW => ?_⟩ rfl (by rw [List.length_map]; exact hn) hl.1 ?_ (lv_room (by rw [zcs_of]; exact hW)) hd (zroom_fit hroom h0 h1)) (fun _ _ h => h) T hT X
  · exact zpre (As := zR a :: As) hC hH hS hz h1 U hU hW
  · show List.map (zval g) (As.reverse ++ zR a :: st) = _
    rw [List.map_append, List.map_reverse]
    rfl
theorem zEnd_i {k' : zMk} {φ' : zPhi} {As : List zPV} {Q : Int → zMem → Prop} {ty : FieldType} (h1 : φ.1 ≤ φ'.1) (hr : kret k' = some ty) (h : ∀ v d', Q v d' → Fr g e k φ' (pc + 3) ls (zI v :: st) d') : zEnd g e k k' φ φ' pc ls st As Q :=
  fun hC h0 hS hl hrun => zend_i (Z := fun _ => True) hC h0 h1 hS hl hr hrun h
theorem zEnd_v {k' : zMk} {φ' : zPhi} {As : List zPV} {Q : Int → zMem → Prop} (h1 : φ.1 ≤ φ'.1) (hr : kret k' = none) (h : ∀ v d', Q v d' → Fr g e k φ' (pc + 3) ls st d') : zEnd g e k k' φ φ' pc ls st As Q :=
  fun hC h0 hS hl hrun => zend_v (Z := fun _ => True) hC h0 h1 hS hl hr hrun h
-- Object.<init>
theorem z_objInit {a idx : Nat} (hd : decode (kcode k) pc = .ok (.invokespecial idx, 3)) (w1 : Cond.methodLink (kown k) idx Lib.objectInit ∈ GW) (w2 : Cond.instanceMethod Lib.objectInit ∈ GW) (w3 : Cond.code Lib.objectInit ⟨#[0xb1]⟩ 1 none ∈ GW) (hroom : 1 ≤ e.1.frames ∧ zcs st + 12 ≤ e.1.locals) (hh : Fr g e k φ (pc + 3) ls st d) : Fr g e k φ pc ls (zR a :: st) d := by
  intro p ee s m args below meth c hC h0 H locs A hH hS hl
  have hk := hh p ee s m args below meth c hC h0 H locs A hH hS hl
  exact W.objInit hC.1 hC.2.1 hC.2.2.2.2.1 (hC.2.2.2.2.2.1 _ w1) (hC.2.2.2.2.2.1 _ w2) (hC.2.2.2.2.2.1 _ w3) rfl (hl.1.trans hC.2.2.2.1.symm) rfl hd hroom.1 (by rw [zcs_of]; show 2 * 0 + _ + 12 ≤ _; omega) hk
-- new cells
theorem zsz_at {n : Nat} : zsl (n + 1) = zsl n + zsz n := rfl
def znx (φ : zPhi) : zPhi := (φ.1 + 1, φ.2)
theorem zfv_new {g : zGG} {φ : zPhi} {d : zMem} {a ci i : Nat} (hw : ∀ i, φ.2 a i = false) : zfv g φ (mrow d a (fun _ => 0)) a ci i = defaultValue (tyc ci i) ∨ (isRf (tyc ci i) = false ∧ zfv g φ (mrow d a (fun _ => 0)) a ci i = .int 0) := by
  unfold zfv
  by_cases h : isRf (tyc ci i) = true
  · left
    rw [if_pos h, if_neg (by rw [hw]; exact Bool.false_ne_true)]
    revert h
    cases tyc ci i <;> intro h <;> first | rfl | (simp [isRf] at h)
  · right
    rw [if_neg h, mrow_eq]
    exact ⟨by simpa using h, rfl⟩
theorem tyc_int : ∀ ci, ci < 10 → ∀ fk, fk < ncl ci → isRf (tyc ci fk) = true ∨ tyc ci fk = .int ∨ tyc ci fk = .boolean := by decide +kernel
theorem z_new (ci : Nat) {idx : Nat} (hL : LAY φ.1 = (0, ci)) (hci : ci < 10) (hwi : ∀ i, φ.2 φ.1 i = false) (hd : decode (kcode k) pc = .ok (.new idx, 3)) (w1 : Cond.classLink (kown k) idx (RXc ci) ∈ GW) (w2 : Cond.instantiable (RXc ci) (ncl ci) ∈ GW) (w3 : Cond.initialized (RXc ci) ∈ GW)
    (hroom : φ.1 + 1 - e.2.1.1 ≤ e.1.cells ∧ zsl (φ.1 + 1) - zsl e.2.1.1 ≤ e.1.slots) (hh : Fr g e k (znx φ) (pc + 3) ls (zR φ.1 :: st) (mrow d φ.1 (fun _ => 0))) : Fr g e k φ pc ls st d := by
  intro p ee s m args below meth c hC h0 H locs A hH hS hl T hT X
  have hz := hH.size hC h0 hS hT X
  have hKn := hC.2.2.2.2.2.2.1.1.1 ci _ (cls_at hci)
  have hsz : zsz φ.1 = ncl ci := by unfold zsz; rw [hL]; rfl
  have hm := zsl_mono h0
  have e1 : φ.1 - e.2.1.1 + 1 = (znx φ).1 - e.2.1.1 := by show _ = φ.1 + 1 - _; omega
  have e2 : zsl φ.1 - zsl e.2.1.1 + ncl ci = zsl (znx φ).1 - zsl e.2.1.1 := by show _ = zsl φ.1 + zsz φ.1 - _; omega
  suffices hW : W p (gL g) ee e.1 s m args below meth c H locs (φ.1 - e.2.1.1) (zsl φ.1 - zsl e.2.1.1) (e.2.2 args s below) (F0 m pc A (st.map (zval g))) from hW T hT X
  refine W.newcK (g := F0 m pc A (st.map (zval g))) hC.1 hC.2.1 hC.2.2.2.2.1 (hC.2.2.2.2.2.1 _ w1) (hC.2.2.2.2.2.1 _ w2) (hC.2.2.2.2.2.1 _ w3) rfl hd (by rw [e1]; exact hroom.1) (by rw [e2]; exact hroom.2) hKn.2.1 hz fun H1 kC hkC f1 z1 o1 => ?_
  rw [e1, e2]
  have hsame : ∀ q, q < s.heap.size → ¬ gA g q → H1[q]? = s.heap[q]? := fun q h1 h2 => (o1 q (by have := hS.1; omega)).trans (hS.2.1 q h1 h2)
  refine hh p ee s m args below meth c hC (Nat.le_trans h0 (Nat.le_succ _)) H1 locs A ?_ ⟨by have := hS.1; omega, hsame, hS.2.2⟩ hl
  intro q hq
  rcases Nat.lt_or_ge q φ.1 with hlt | hge
  · rw [zent_congr (φ := φ) (φ' := znx φ) (d := d) (d' := mrow d φ.1 (fun _ => 0)) (k := q) (mrow_ne (Nat.ne_of_lt hlt)) (fun _ => rfl)]
    exact (hH q hlt).kept (o1 _ (by show gB g + q < gB g + φ.1; omega))
  · have hqe : q = φ.1 := by
      have h2 : q < φ.1 + 1 := hq
      omega
    subst hqe
    rw [zent_obj hL]
    refine ⟨_, cls_at hci, (u_born (tyc ci) hC.2.2.2.2.2.1 (ws_GW ci hci) hKn hkC f1 (tyc_ok ci hci)).to (fun j hj => ?_)⟩
    show _ = vp_V _ j
    unfold vp_V
    have hjl : ((List.range (ncl ci)).map (fun i => zfv g (znx φ) (mrow d φ.1 (fun _ => 0)) φ.1 ci i)).getD j .null = zfv g (znx φ) (mrow d φ.1 (fun _ => 0)) φ.1 ci j := by
      have hj' : j < ncl ci := hj
      rw [List.getD_eq_getElem?_getD, List.getElem?_map, List.getElem?_range hj']
      rfl
    rw [hjl]
    rcases zfv_new (g := g) (φ := znx φ) (d := d) (a := φ.1) (ci := ci) (i := j) hwi with h | ⟨h1, h2⟩
    · exact h.symm
    · rw [h2]
      rcases tyc_int ci hci j hj with h | h | h
      · rw [h1] at h; cases h
      · rw [h]; rfl
      · rw [h]; rfl
theorem z_newI {n : Nat} {at' : ArrayType} (hat : newarray.typeOf at' = .int) (hL : LAY φ.1 = (1, n)) (hwi : True) (hn : n < 2 ^ 26) (hd : decode (kcode k) pc = .ok (.newarray at', 2)) (w1 : Cond.arrayClass .int ∈ GW)
    (hroom : φ.1 + 1 - e.2.1.1 ≤ e.1.cells ∧ zsl (φ.1 + 1) - zsl e.2.1.1 ≤ e.1.slots) (hh : Fr g e k (znx φ) (pc + 2) ls (zR φ.1 :: st) (mrow d φ.1 (fun _ => 0))) : Fr g e k φ pc ls (zI (n : Int) :: st) d := by
  intro p ee s m args below meth c hC h0 H locs A hH hS hl T hT X
  have hz := hH.size hC h0 hS hT X
  have hsz : zsz φ.1 = n := by unfold zsz; rw [hL]; rfl
  have hm := zsl_mono h0
  have e1 : φ.1 - e.2.1.1 + 1 = (znx φ).1 - e.2.1.1 := by show _ = φ.1 + 1 - _; omega
  have e2 : zsl φ.1 - zsl e.2.1.1 + n = zsl (znx φ).1 - zsl e.2.1.1 := by show _ = zsl φ.1 + zsz φ.1 - _; omega
  have hr : inR (n : Int) := ⟨by omega, by omega⟩
  have hcl : (Int32.ofInt (n : Int)).toNatClampNeg = n := by rw [Int32.toNatClampNeg_ofInt_of_le (by omega) (by omega)]; rfl
  suffices hW : W p (gL g) ee e.1 s m args below meth c H locs (φ.1 - e.2.1.1) (zsl φ.1 - zsl e.2.1.1) (e.2.2 args s below) (F0 m pc A ((zI (n : Int) :: st).map (zval g))) from hW T hT X
  refine va_newaK (n := Int32.ofInt (n : Int)) (N := n) (g := F0 m pc A ((zI (n : Int) :: st).map (zval g)))  hC.1 hC.2.1 (by rw [hat]; exact hC.2.2.2.2.2.1 _ w1) rfl hd rfl (by rw [Int32.lt_iff_toInt_lt, ti_of hr]; show ¬ ((n : Int) < 0); omega) hcl (by rw [hat]; show n * 4 ≤ 536870912; omega) (by rw [e1]; exact hroom.1) (by rw [e2]; exact hroom.2) hz fun H1 cA f1 z1 o1 hAr hNm => ?_
  rw [e1, e2]
  rw [hat] at hNm f1
  have hcA : cA = gI g := Option.some.inj (hNm.symm.trans (hC.2.2.2.2.2.2.1.1.2 0 (gI g, .int) rfl).2)
  subst hcA
  have hsame : ∀ q, q < s.heap.size → ¬ gA g q → H1[q]? = s.heap[q]? := fun q h1 h2 => (o1 q (by have := hS.1; omega)).trans (hS.2.1 q h1 h2)
  refine hh p ee s m args below meth c hC (Nat.le_trans h0 (Nat.le_succ _)) H1 locs A ?_ ⟨by have := hS.1; omega, hsame, hS.2.2⟩ hl
  intro q hq
  rcases Nat.lt_or_ge q φ.1 with hlt | hge
  · rw [zent_congr (φ := φ) (φ' := znx φ) (d := d) (d' := mrow d φ.1 (fun _ => 0)) (k := q) (mrow_ne (Nat.ne_of_lt hlt)) (fun _ => rfl)]
    exact (hH q hlt).kept (o1 _ (by show gB g + q < gB g + φ.1; omega))
  · have hqe : q = φ.1 := by
      have h2 : q < φ.1 + 1 := hq
      omega
    subst hqe
    rw [zent_int hL, mrow_eq]
    exact f1
theorem z_newZ {n : Nat} {at' : ArrayType} (hat : newarray.typeOf at' = .boolean) (hL : LAY φ.1 = (2, n)) (hwi : True) (hn : n < 2 ^ 26) (hd : decode (kcode k) pc = .ok (.newarray at', 2)) (w1 : Cond.arrayClass .boolean ∈ GW)
    (hroom : φ.1 + 1 - e.2.1.1 ≤ e.1.cells ∧ zsl (φ.1 + 1) - zsl e.2.1.1 ≤ e.1.slots) (hh : Fr g e k (znx φ) (pc + 2) ls (zR φ.1 :: st) (mrow d φ.1 (fun _ => 0))) : Fr g e k φ pc ls (zI (n : Int) :: st) d := by
  intro p ee s m args below meth c hC h0 H locs A hH hS hl T hT X
  have hz := hH.size hC h0 hS hT X
  have hsz : zsz φ.1 = n := by unfold zsz; rw [hL]; rfl
  have hm := zsl_mono h0
  have e1 : φ.1 - e.2.1.1 + 1 = (znx φ).1 - e.2.1.1 := by show _ = φ.1 + 1 - _; omega
  have e2 : zsl φ.1 - zsl e.2.1.1 + n = zsl (znx φ).1 - zsl e.2.1.1 := by show _ = zsl φ.1 + zsz φ.1 - _; omega
  have hr : inR (n : Int) := ⟨by omega, by omega⟩
  have hcl : (Int32.ofInt (n : Int)).toNatClampNeg = n := by rw [Int32.toNatClampNeg_ofInt_of_le (by omega) (by omega)]; rfl
  suffices hW : W p (gL g) ee e.1 s m args below meth c H locs (φ.1 - e.2.1.1) (zsl φ.1 - zsl e.2.1.1) (e.2.2 args s below) (F0 m pc A ((zI (n : Int) :: st).map (zval g))) from hW T hT X
  refine va_newaK (n := Int32.ofInt (n : Int)) (N := n) (g := F0 m pc A ((zI (n : Int) :: st).map (zval g)))  hC.1 hC.2.1 (by rw [hat]; exact hC.2.2.2.2.2.1 _ w1) rfl hd rfl (by rw [Int32.lt_iff_toInt_lt, ti_of hr]; show ¬ ((n : Int) < 0); omega) hcl (by rw [hat]; show n * 1 ≤ 536870912; omega) (by rw [e1]; exact hroom.1) (by rw [e2]; exact hroom.2) hz fun H1 cA f1 z1 o1 hAr hNm => ?_
  rw [e1, e2]
  rw [hat] at hNm f1
  have hcA : cA = gZ g := Option.some.inj (hNm.symm.trans (hC.2.2.2.2.2.2.1.1.2 1 (gZ g, .boolean) rfl).2)
  subst hcA
  have hsame : ∀ q, q < s.heap.size → ¬ gA g q → H1[q]? = s.heap[q]? := fun q h1 h2 => (o1 q (by have := hS.1; omega)).trans (hS.2.1 q h1 h2)
  refine hh p ee s m args below meth c hC (Nat.le_trans h0 (Nat.le_succ _)) H1 locs A ?_ ⟨by have := hS.1; omega, hsame, hS.2.2⟩ hl
  intro q hq
  rcases Nat.lt_or_ge q φ.1 with hlt | hge
  · rw [zent_congr (φ := φ) (φ' := znx φ) (d := d) (d' := mrow d φ.1 (fun _ => 0)) (k := q) (mrow_ne (Nat.ne_of_lt hlt)) (fun _ => rfl)]
    exact (hH q hlt).kept (o1 _ (by show gB g + q < gB g + φ.1; omega))
  · have hqe : q = φ.1 := by
      have h2 : q < φ.1 + 1 := hq
      omega
    subst hqe
    rw [zent_bool hL, mrow_eq]
    exact f1
theorem z_newR {n idx : Nat} (hL : LAY φ.1 = (3, n)) (hwi : ∀ i, φ.2 φ.1 i = false) (hn : n < 2 ^ 26) (hd : decode (kcode k) pc = .ok (.anewarray idx, 3)) (w1 : Cond.classLink (kown k) idx RX7 ∈ GW)
    (hroom : φ.1 + 1 - e.2.1.1 ≤ e.1.cells ∧ zsl (φ.1 + 1) - zsl e.2.1.1 ≤ e.1.slots) (hh : Fr g e k (znx φ) (pc + 3) ls (zR φ.1 :: st) (mrow d φ.1 (fun _ => 0))) : Fr g e k φ pc ls (zI (n : Int) :: st) d := by
  intro p ee s m args below meth c hC h0 H locs A hH hS hl T hT X
  have hz := hH.size hC h0 hS hT X
  have hsz : zsz φ.1 = n := by unfold zsz; rw [hL]; rfl
  have hm := zsl_mono h0
  have e1 : φ.1 - e.2.1.1 + 1 = (znx φ).1 - e.2.1.1 := by show _ = φ.1 + 1 - _; omega
  have e2 : zsl φ.1 - zsl e.2.1.1 + n = zsl (znx φ).1 - zsl e.2.1.1 := by show _ = zsl φ.1 + zsz φ.1 - _; omega
  have hr : inR (n : Int) := ⟨by omega, by omega⟩
  have hcl : (Int32.ofInt (n : Int)).toNatClampNeg = n := by rw [Int32.toNatClampNeg_ofInt_of_le (by omega) (by omega)]; rfl
  suffices hW : W p (gL g) ee e.1 s m args below meth c H locs (φ.1 - e.2.1.1) (zsl φ.1 - zsl e.2.1.1) (e.2.2 args s below) (F0 m pc A ((zI (n : Int) :: st).map (zval g))) from hW T hT X
  refine W.anew (n := Int32.ofInt (n : Int)) (g := F0 m pc A ((zI (n : Int) :: st).map (zval g)))  hC.1 hC.2.1 hC.2.2.2.2.1 (hC.2.2.2.2.2.1 _ w1) (va_AO.use hC.2.2.2.2.2.2.1.2.2.1) rfl hd rfl (by rw [Int32.lt_iff_toInt_lt, ti_of hr]; show ¬ ((n : Int) < 0); omega) (by rw [hcl]; omega) (by rw [e1]; exact hroom.1) (by rw [hcl, e2]; exact hroom.2) fun cA kA comp f1 f2 f3 f4 => ?_
  rw [hcl, e1, e2]
  obtain ⟨kA', comp', g1, g2, g3, g4⟩ := (hC.2.2.2.2.2.2.1.1.2 2 (gR g, .object RX7) rfl).2
  have hcA : cA = gR g := Option.some.inj (f1.symm.trans g4)
  subst hcA
  generalize hH1 : H.push ({ cls := gR g, slots := Array.replicate n .null, vm := .none } : Cell) = H1
  have z1 : H1.size = H.size + 1 := by rw [← hH1, Array.size_push]
  have f1 : H1[H.size]? = some (arrV (gR g) n (fun _ => .null)) := by rw [← hH1, Array.getElem?_push_size, ← arrV_new]
  have o1 : ∀ q : Nat, q < H.size → H1[q]? = H[q]? := fun q hq => by rw [← hH1, Array.getElem?_push, if_neg (Nat.ne_of_lt hq)]
  rw [hz] at f1 z1 o1 ⊢
  have hsame : ∀ q, q < s.heap.size → ¬ gA g q → H1[q]? = s.heap[q]? := fun q h1 h2 => (o1 q (by have := hS.1; omega)).trans (hS.2.1 q h1 h2)
  refine hh p ee s m args below meth c hC (Nat.le_trans h0 (Nat.le_succ _)) H1 locs A ?_ ⟨by have := hS.1; omega, hsame, hS.2.2⟩ hl
  intro q hq
  rcases Nat.lt_or_ge q φ.1 with hlt | hge
  · rw [zent_congr (φ := φ) (φ' := znx φ) (d := d) (d' := mrow d φ.1 (fun _ => 0)) (k := q) (mrow_ne (Nat.ne_of_lt hlt)) (fun _ => rfl)]
    exact (hH q hlt).kept (o1 _ (by show gB g + q < gB g + φ.1; omega))
  · have hqe : q = φ.1 := by
      have h2 : q < φ.1 + 1 := hq
      omega
    subst hqe
    rw [zent_ref hL]
    show H1[gB g + φ.1]? = some (vp_cell _ _)
    rw [vp_cell_q, f1]
    congr 2
    funext j
    show Value.null = va_rf (if φ.2 φ.1 j = true then _ else none)
    rw [hwi j]
    rfl
-- copies
theorem nfw : nativeFrameWords "java/lang/System" "arraycopy" 5 + 11 ≤ 60 := by decide +kernel
def zcp (f h : Int → Int) (sp dp n : Int) : Int → Int := fun i => if dp ≤ i ∧ i < dp + n then f (sp + (i - dp)) else h i
theorem zcp_of {f h : Int → Int} {sp dp n : Int} (h1 : 0 ≤ sp) (h2 : 0 ≤ dp) (h3 : 0 ≤ n) : (fun j : Nat => Int32.ofInt (zcp f h sp dp n (j : Int))) = va_cpy (fun j : Nat => Int32.ofInt (f (j : Int))) (fun j : Nat => Int32.ofInt (h (j : Int))) sp.toNat dp.toNat n.toNat := by
  funext j
  unfold zcp va_cpy
  by_cases hj : dp.toNat ≤ j ∧ j < dp.toNat + n.toNat
  · rw [if_pos (by omega), if_pos hj]
    congr 2
    omega
  · rw [if_neg (by omega), if_neg hj]
theorem z_copy {a b n0 n1 : Nat} {sp dp n : Int} {idx : Nat} (hLa : LAY a = (1, n0)) (hLb : LAY b = (1, n1)) (ha : a < φ.1) (hb : b < φ.1) (hn : n0 < 2 ^ 31 ∧ n1 < 2 ^ 31) (hi : 0 ≤ sp ∧ 0 ≤ dp ∧ 0 ≤ n ∧ sp + n ≤ n0 ∧ dp + n ≤ n1) (hd : decode (kcode k) pc = .ok (.invokestatic idx, 3))
    (w1 : Cond.methodLink (kown k) idx arraycopyName ∈ GW) (w2 : Cond.native arraycopyName ∈ GW) (w3 : Cond.static arraycopyName ∈ GW) (w4 : Cond.initialized "java/lang/System" ∈ GW) (hroom : 1 ≤ e.1.frames ∧ zcs st + 60 ≤ e.1.locals)
    (hh : Fr g e k φ (pc + 3) ls st (mrow d b (zcp (d a) (d b) sp dp n))) : Fr g e k φ pc ls (zI n :: zI dp :: zR b :: zI sp :: zR a :: st) d := by
  intro p ee s m args below meth c hC h0 H locs A hH hS hl
  have ha' := zwl_get (g := g) (d := d) ha
  rw [zent_int hLa] at ha'
  have hb' := zwl_get (g := g) (d := d) hb
  rw [zent_int hLb] at hb'
  obtain ⟨i1, i2, i3, i4, i5⟩ := hi
  have q0 : inR sp := ⟨by omega, by omega⟩
  have q1 : inR dp := ⟨by omega, by omega⟩
  have q2 : inR n := ⟨by omega, by omega⟩
  have c0 : (Int32.ofInt sp).toNatClampNeg = sp.toNat := Int32.toNatClampNeg_ofInt_of_le (by have := q0.1; omega) (by have := q0.2; omega)
  have c1 : (Int32.ofInt dp).toNatClampNeg = dp.toNat := Int32.toNatClampNeg_ofInt_of_le (by have := q1.1; omega) (by have := q1.2; omega)
  have c2 : (Int32.ofInt n).toNatClampNeg = n.toNat := Int32.toNatClampNeg_ofInt_of_le (by have := q2.1; omega) (by have := q2.2; omega)
  have nn : ∀ z : Int, inR z → 0 ≤ z → ¬ Int32.ofInt z < 0 := fun z hz h0 => by
    rw [Int32.lt_iff_toInt_lt, ti_of hz]
    show ¬ (z < 0)
    omega
  refine va_copyi (sp := Int32.ofInt sp) (dp := Int32.ofInt dp) (n := Int32.ofInt n) hC.1 hC.2.1 (hC.2.2.2.1.trans hl.1.symm) hC.2.2.2.2.1 (hC.2.2.2.2.2.1 _ w1) (hC.2.2.2.2.2.1 _ w2) (hC.2.2.2.2.2.1 _ w3) (hC.2.2.2.2.2.1 _ w4) hC.2.2.2.2.2.2.1.1 (zwl_P hH) zwl_D hS a b 0 0 ha' hb' (ty := .int) rfl rfl rfl (nn sp q0 i1) (nn dp q1 i2) (nn n q2 i3) (by rw [c0, c2]; omega) (by rw [c1, c2]; omega) (fun _ _ => rfl) hroom.1 (by rw [zcs_of]; have := nfw; have := hroom.2; omega) hd (fun H1 locs1 hP hD hS1 => ?_)
  refine hh p ee s m args below meth c hC h0 H1 locs1 A (zH_set hb rfl hP ?_ (fun q hq => zent_congr (mrow_ne hq) (fun _ => rfl))) hS1 hl
  rw [zent_int hLb, c0, c1, c2, mrow_eq, zcp_of i1 i2 i3]
end
