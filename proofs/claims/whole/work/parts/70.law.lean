def R_law : String := "OxbowReachesLaw"
def lw_P (b : Addr) (xs : List Int32) (args : Array Value) (s : State) : Prop := args = #[.ref b] ∧ s.IntsAt b xs ∧ xs.length ≤ 2048 ∧ (Jvm.Cond.and given_1 narrow_1).before args s = true
def lw_Q (_ : Array Value) (s : State) (o : Outcome) (t : State) : Prop := o = .returned (some (.int 1)) ∧ Framed s o t [] 600000 7302250
def lw_Z (below : List Frame) (a : Array Value) (s : State) : State → Prop := fun t => ∃ o, t.status = .running ∧ Ended t below o ∧ lw_Q a s o t
/-- the law's own end, with 1 on the stack, nothing written that was there before, its room as the claim has it -/
theorem lw_ret {p : Program} {l : Launch} {e : Env} {s : State} {m : MethodId} {below : List Frame} {meth : Method} {c : Code} {b : Nat} (hx : p.tables.exec = Jvm.exec) (hb : c.code = code) (hr : meth.sig.returnType = ret) (hlocks : meth.locks = false) {pc : Nat} {H : Heap} {ls : Array Slot} (hdg : decode code pc = .ok (.ireturn, 1)) : W p l e room_1 s m #[Value.ref b] below meth c H [] 600000 7302250 (lw_Z below #[Value.ref b] s) (F0 m pc ls [.int 1]) := by
  intro T hT X
  obtain ⟨fs, hret, hrun, hended, hW, hframe⟩ := X.leave (v := some (.int 1)) (hlocks := hlocks) (fun h => by rw [hr] at h; cases h)
  have hmeth' : T.vm.method? m = some meth := X.method'
  refine ⟨T.setFrames fs, ?_, .returned (some (.int 1)), hrun, hended, rfl, ⟨_, rfl⟩, hW, hframe⟩
  jvm_step X.here [X.here.top, hx, hb, hdg, hmeth', hr, ret, narrow_b1]
  (try refine ⟨rfl, ?_⟩); (try refine ⟨rfl, ?_⟩)
  first | (intro acts; rw [hret _ acts rfl rfl rfl]) | rw [hret _ _ rfl rfl rfl]
  exact Steps.refl _
/-- what holds at the law's entry: the machine, the code, the tables' words (any of lw_tbl by 'hts w (by decide +kernel)'), the script of L ints xs at the cell b, what the Statement gives of the start (any of its parts by flat_of_before) -/
def lw_At (p : Program) (s : State) (m : MethodId) (meth : Method) (c : Code) (b L : Nat) (xs : Nat → Int32) : Prop :=
  p.tables.exec = Jvm.exec ∧ c.code = code ∧ meth.sig.returnType = ret ∧ c.maxLocals = 4 ∧ s.vm.findClass R_law = some m.cls ∧ (∀ w ∈ lw_tbl, w.before #[Value.ref b] s = true) ∧ va_X b L xs s s.heap ∧ b < s.heap.size ∧ meth.locks = false ∧ (Jvm.Cond.and given_1 narrow_1).before #[Value.ref b] s = true
-- THE LAW OVER THE PURE MACHINE
def kL (nm : String) : zMk := (⟨RL, nm, "([I)Z"⟩, code, 4, ret, 9, 205)
def phi0 : zPhi := (0, fun _ _ => false)
def eL : zEE := (room_1, phi0, fun args s below => lw_Z below args s)
theorem zsl_176 : zsl 166 ≤ 7302250 := by decide +kernel
theorem zrm_eL {n : Nat} (h : n ≤ 166) : zrm eL n := ⟨by show n - 0 ≤ 600000; omega, by show zsl n - zsl 0 ≤ 7302250; have := zsl_mono h; have := zsl_176; omega⟩
theorem zroom_eL {k' : zMk} {φ2 : zPhi} (h1 : kfr k' + 1 ≤ 11) (h2 : 8 + (kn k' + 11) + klo k' ≤ 410) (h : φ2.1 ≤ 166) : zroom eL k' φ2 := ⟨⟨h1, h2⟩, (zrm_eL h).1, (zrm_eL h).2⟩
/-- the law's own end, whatever its arguments -/
theorem lw_retG {p : Program} {l : Launch} {e : Env} {s : State} {m : MethodId} {args : Array Value} {below : List Frame} {meth : Method} {c : Code} (hx : p.tables.exec = Jvm.exec) (hb : c.code = code) (hr : meth.sig.returnType = ret) (hlocks : meth.locks = false) {pc : Nat} {H : Heap} {ls : Array Slot} (hdg : decode code pc = .ok (.ireturn, 1)) : W p l e room_1 s m args below meth c H [] 600000 7302250 (lw_Z below args s) (F0 m pc ls [.int 1]) := by
  intro T hT X
  obtain ⟨fs, hret, hrun, hended, hW, hframe⟩ := X.leave (v := some (.int 1)) (hlocks := hlocks) (fun h => by rw [hr] at h; cases h)
  have hmeth' : T.vm.method? m = some meth := X.method'
  refine ⟨T.setFrames fs, ?_, .returned (some (.int 1)), hrun, hended, rfl, ⟨_, rfl⟩, hW, hframe⟩
  jvm_step X.here [X.here.top, hx, hb, hdg, hmeth', hr, ret, narrow_b1]
  (try refine ⟨rfl, ?_⟩); (try refine ⟨rfl, ?_⟩)
  first | (intro acts; rw [hret _ acts rfl rfl rfl]) | rw [hret _ _ rfl rfl rfl]
  exact Steps.refl _
section
variable {g : zGG} {k : zMk} {e : zEE} {nm : String} {φ : zPhi} {pc : Nat} {ls : List (Option zPV)} {st : List zPV} {d : zMem}
theorem zlaw_end (hφ : φ.1 ≤ 166) (hd : decode (kcode (kL nm)) pc = .ok (.ireturn, 1)) : Fr g eL (kL nm) φ pc ls [zI 1] d := by
  intro p ee s m args below meth c hC h0 H locs A hH hS hl
  have hz : s.heap.size = gB g + 0 := hC.2.2.2.2.2.2.2.2.1
  refine va_forget (fun q hq => ?_) ?_
  · have := hS.2.2 q hq
    have h2 : gB g ≤ q.base := this
    omega
  · have r := zrm_eL hφ
    refine W.widen (k := 600000) (n := 7302250) r.1 r.2 ?_
    exact lw_retG hC.1 hC.2.1 hC.2.2.1 hC.2.2.2.2.2.2.2.1 hd
theorem z_icmp_self {v off : Int} {tgt : Nat} (hd : decode (kcode k) pc = .ok (.if_icmp .eq off, 3)) (ht : (pc : Int) + off = (tgt : Int)) (hh : Fr g e k φ tgt ls st d) : Fr g e k φ pc ls (zI v :: zI v :: st) d := by
  intro p ee s m args below meth c hC h0 H locs A hH hS hl
  exact lv_icmp_eq hC.1 hC.2.1 hd ht (fun _ => hh p ee s m args below meth c hC h0 H locs A hH hS hl) (fun q => absurd rfl q)
theorem and31 (a : Int32) : 0 ≤ (a &&& 31).toInt ∧ (a &&& 31).toInt < 32 := by
  have e : (a &&& 31).toInt = (a.toBitVec &&& 31#32).toInt := rfl
  have h1 : (a.toBitVec &&& 31#32).toNat ≤ 31 := by
    rw [BitVec.toNat_and]
    exact Nat.and_le_right
  have h2 : (a.toBitVec &&& 31#32).toInt = ((a.toBitVec &&& 31#32).toNat : Int) := by
    rw [BitVec.toInt_eq_toNat_cond, if_pos (by omega)]
  rw [e, h2]
  omega
theorem z_iand31 {x : Int} (hd : decode (kcode k) pc = .ok (.iand, 1)) (hh : ∀ r : Int, 0 ≤ r → r < 32 → Fr g e k φ (pc + 1) ls (zI r :: st) d) : Fr g e k φ pc ls (zI 31 :: zI x :: st) d := by
  intro p ee s m args below meth c hC h0 H locs A hH hS hl
  have b := and31 (Int32.ofInt x)
  have hk := hh _ b.1 b.2 p ee s m args below meth c hC h0 H locs A hH hS hl
  refine lv_iand hC.1 hC.2.1 hd (W.eq ?_ hk)
  show F0 m (pc + 1) A (.int (Int32.ofInt x &&& Int32.ofInt 31) :: List.map (zval g) st) = F0 m (pc + 1) A (.int (Int32.ofInt (Int32.ofInt x &&& 31).toInt) :: List.map (zval g) st)
  rw [Int32.ofInt_toInt]
  rfl
theorem ex64 (v : Int64) : ∃ r : Int, (0 ≤ r ∧ r < 18446744073709551616) ∧ v = Int64.ofInt r := by
  obtain ⟨n, hn, e⟩ := wb_of v
  exact ⟨n, ⟨by omega, by omega⟩, by rw [e, l_nat (by omega), Int.toNat_natCast]⟩
end
-- all pointers set
def needW (k i : Nat) : Bool := match LAY k with
  | (0, ci) => decide (i < ncl ci) && isRf (tyc ci i)
  | (3, n) => decide (i < n)
  | _ => false
def fulW (φ : zPhi) : Prop := φ.1 = 166 ∧ ∀ k, k < 166 → ∀ i, needW k i = true → φ.2 k i = true
theorem arrV_ext {cI : ClassId} {N : Nat} {f f' : Nat → Value} (h : ∀ j, j < N → f j = f' j) : arrV cI N f = arrV cI N f' := by
  have e : (fun j : Fin N => f j.val) = (fun j : Fin N => f' j.val) := funext fun j => h j.val j.isLt
  unfold arrV
  rw [e]
theorem LAY_kind : ∀ k, k < 166 → (LAY k).1 = 0 ∨ (LAY k).1 = 1 ∨ (LAY k).1 = 2 ∨ (LAY k).1 = 3 := by decide +kernel
theorem zH_ful {g : zGG} {φ : zPhi} {d : zMem} {H : Heap} (hw : fulW φ) (h : zH g φ d H) : zH g FUL d H := by
  intro k hk
  have hk' : k < 166 := hk
  have hv := h k (by rw [hw.1]; exact hk')
  have hn := hw.2 k hk'
  unfold needW at hn
  obtain ⟨kd, n⟩ : ∃ kd : Nat × Nat, kd = LAY k := ⟨_, rfl⟩
  rcases hL : LAY k with ⟨q, n'⟩
  rw [hL] at hn
  have hq := LAY_kind k hk'
  rw [hL] at hq
  rcases hq with e | e | e | e
  · have e' : q = 0 := e
    subst e'
    rw [zent_obj hL] at hv ⊢
    have em : (List.range (ncl n')).map (fun i => zfv g FUL d k n' i) = (List.range (ncl n')).map (fun i => zfv g φ d k n' i) := by
      apply List.map_congr_left
      intro i hi
      have hi' := List.mem_range.mp hi
      unfold zfv
      by_cases hr : isRf (tyc n' i) = true
      · have := hn i (by show (decide (i < ncl n') && isRf (tyc n' i)) = true; rw [hr, Bool.and_true]; exact decide_eq_true hi')
        rw [if_pos hr, if_pos hr, if_pos this]
        rfl
      · rw [if_neg hr, if_neg hr]
    rw [em]
    exact hv
  · have e' : q = 1 := e
    subst e'
    rw [zent_int hL] at hv ⊢
    exact hv
  · have e' : q = 2 := e
    subst e'
    rw [zent_bool hL] at hv ⊢
    exact hv
  · have e' : q = 3 := e
    subst e'
    rw [zent_ref hL] at hv ⊢
    show H[gB g + k]? = some (vp_cell _ _)
    have hv' : H[gB g + k]? = some (vp_cell (gR g) (n', .inr (.inr (.inr (.inr (fun i => if φ.2 k i = true then some (gB g + RT k i) else none)))))) := hv
    rw [hv', vp_cell_q, vp_cell_q]
    congr 1
    apply arrV_ext
    intro j hj
    have := hn j (decide_eq_true hj)
    rw [if_pos this]
    rfl
theorem Fr_ful {g : zGG} {e : zEE} {k : zMk} {φ : zPhi} {pc : Nat} {ls : List (Option zPV)} {st : List zPV} {d : zMem} (hw : fulW φ) (h : Fr g e k FUL pc ls st d) : Fr g e k φ pc ls st d := by
  intro p ee s m args below meth c hC h0 H locs A hH hS hl
  have e1 : φ.1 = FUL.1 := hw.1
  have := h p ee s m args below meth c hC (by rw [← e1]; exact h0) H locs A (zH_ful hw hH) hS hl
  rw [← e1] at this
  exact this
def phiL : zPhi := pX9 (znx (pX8 (znx phi0)))
theorem fulL_chk : ∀ k, k < 166 → ∀ i, i < 24 → needW k i = true → phiL.2 k i = true := by decide +kernel
theorem ncl_24 : ∀ ci, ci < 10 → ncl ci ≤ 24 := by decide +kernel
theorem need_24 : ∀ k, k < 166 → (LAY k).1 = 0 ∧ ncl (LAY k).2 ≤ 24 ∨ (LAY k).1 = 3 ∧ (LAY k).2 ≤ 24 ∨ (LAY k).1 = 1 ∨ (LAY k).1 = 2 := by decide +kernel
theorem Zr_0 : Zr phi0 0 := ⟨rfl, fun _ _ _ => rfl⟩
theorem fulL : fulW phiL := by
  refine ⟨(Zr_X9 (Zr_nx (Zr_X8 (Zr_nx Zr_0)))).1, fun k hk i hn => ?_⟩
  have h24 : i < 24 := by
    have h := need_24 k hk
    unfold needW at hn
    rcases hL : LAY k with ⟨q, n'⟩
    rw [hL] at hn h
    rcases h with ⟨e, h⟩ | ⟨e, h⟩ | e | e
    · have e' : q = 0 := e
      subst e'
      have hn' : (decide (i < ncl n') && isRf (tyc n' i)) = true := hn
      rw [Bool.and_eq_true] at hn'
      have := of_decide_eq_true hn'.1
      have h' : ncl n' ≤ 24 := h
      omega
    · have e' : q = 3 := e
      subst e'
      have := of_decide_eq_true (show decide (i < n') = true from hn)
      have h' : n' ≤ 24 := h
      omega
    · have e' : q = 1 := e
      subst e'
      exact absurd hn (by show ¬ (false = true); decide)
    · have e' : q = 2 := e
      subst e'
      exact absurd hn (by show ¬ (false = true); decide)
  exact fulL_chk k hk i h24 hn
-- the first state
theorem J_first {d : zMem} (hR : River d 1 row0) (h1 : d 31 1 = 0) (h2 : d 31 2 = 0) (h32 : ∀ z, d 30 z = 0) (h125 : d 117 2 = 0) (h128 : d 120 2 = -1) (h163 : ∀ j, d 153 j = 0) (h164 : ∀ k, 0 ≤ k → k < 1407 → d 154 k = row0 k) (h168 : ∀ z, d 158 z = 0) : J d := by
  refine ⟨River_same (fun k q0 q1 => h164 k q0 q1) hR, ⟨by rw [h1]; decide, by rw [h163]; decide, rfl, by rw [h2, h163], fun t q0 q1 => by rw [h163] at q1; omega⟩, fun z q0 q1 => ⟨by rw [h32, h168], Or.inl (h168 z), fun e => by rw [h168] at e; exact absurd e (by decide)⟩, ⟨by rw [h125, h163], by rw [h163]; decide, fun k q0 q1 => by rw [h163] at q1; omega⟩, by rw [h128]; decide, by rw [h163]; decide, Or.inl (h163 14)⟩
