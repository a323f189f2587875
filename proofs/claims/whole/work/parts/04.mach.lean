-- THE PURE MACHINE: memory as cell -> place -> Int, cells at fixed offsets from the heap's size at the law's entry
abbrev zMem : Type := Nat → Int → Int
abbrev zPhi : Type := Nat × (Nat → Nat → Bool)
abbrev zPV : Type := Nat × Int
abbrev zGG : Type := Launch × va_G × (ClassId × ClassId × ClassId) × (Nat × Nat × Nat × Nat) × Nat × (Nat → Int32)
def gL (g : zGG) : Launch := g.1
def gD (g : zGG) : va_G := g.2.1
def gI (g : zGG) : ClassId := g.2.2.1.1
def gZ (g : zGG) : ClassId := g.2.2.1.2.1
def gR (g : zGG) : ClassId := g.2.2.1.2.2
def gB (g : zGG) : Nat := g.2.2.2.1.1
def gS1 (g : zGG) : Nat := g.2.2.2.1.2.1
def gS2 (g : zGG) : Nat := g.2.2.2.1.2.2.1
def gX (g : zGG) : Nat := g.2.2.2.1.2.2.2
def gN (g : zGG) : Nat := g.2.2.2.2.1
def gxs (g : zGG) : Nat → Int32 := g.2.2.2.2.2
def gA (g : zGG) : Nat → Prop := fun q => gB g ≤ q
def zI (v : Int) : zPV := (0, v)
def zR (a : Nat) : zPV := (1, (a : Int))
def zN : zPV := (2, 0)
def zX : zPV := (3, 0)
def zS1 : zPV := (4, 0)
def zS2 : zPV := (5, 0)
def zL (n : Int) : zPV := (6, n)
def zval (g : zGG) (v : zPV) : Value := match v.1 with
  | 0 => .int (Int32.ofInt v.2)
  | 1 => .ref (gB g + v.2.toNat)
  | 2 => .null
  | 3 => .ref (gX g)
  | 4 => .ref (gS1 g)
  | 5 => .ref (gS2 g)
  | _ => .long (Int64.ofInt v.2)
theorem zval_I (g : zGG) (v : Int) : zval g (zI v) = .int (Int32.ofInt v) := rfl
theorem zval_R (g : zGG) (a : Nat) : zval g (zR a) = .ref (gB g + a) := rfl
theorem zval_N (g : zGG) : zval g zN = .null := rfl
theorem zval_X (g : zGG) : zval g zX = .ref (gX g) := rfl
theorem zval_S1 (g : zGG) : zval g zS1 = .ref (gS1 g) := rfl
theorem zval_S2 (g : zGG) : zval g zS2 = .ref (gS2 g) := rfl
theorem zval_L (g : zGG) (v : Int) : zval g (zL v) = .long (Int64.ofInt v) := rfl
theorem zval_cat1 (g : zGG) (v : zPV) (h : v.1 < 6) : (zval g v).category = 1 := by
  obtain ⟨t, x⟩ := v
  have ht : t < 6 := h
  rcases (show t = 0 ∨ t = 1 ∨ t = 2 ∨ t = 3 ∨ t = 4 ∨ t = 5 by omega) with rfl | rfl | rfl | rfl | rfl | rfl <;> rfl
abbrev inR (v : Int) : Prop := -2147483648 ≤ v ∧ v ≤ 2147483647
theorem ti_of {v : Int} (h : inR v) : (Int32.ofInt v).toInt = v := Int32.toInt_ofInt_of_le (by have := h.1; omega) (by have := h.2; omega)
theorem ofI_lt {x y : Int} (hx : inR x) (hy : inR y) : Int32.ofInt x < Int32.ofInt y ↔ x < y := by
  rw [Int32.lt_iff_toInt_lt, ti_of hx, ti_of hy]
theorem ofI_le {x y : Int} (hx : inR x) (hy : inR y) : Int32.ofInt x ≤ Int32.ofInt y ↔ x ≤ y := by
  rw [Int32.le_iff_toInt_le, ti_of hx, ti_of hy]
theorem ofI_eq {x y : Int} (hx : inR x) (hy : inR y) : Int32.ofInt x = Int32.ofInt y ↔ x = y := by
  rw [← Int32.toInt_inj, ti_of hx, ti_of hy]
theorem inR0 : inR 0 := ⟨by decide, by decide⟩
-- the land of cells: kind and size of each
def rlay : List (Nat × Nat) := [(0, 7), (1, 4), (0, 1), (1, 150), (1, 240), (0, 4), (1, 240), (1, 12), (1, 12), (1, 12), (1, 240), (1, 240), (1, 480), (1, 8)]
def LAYL : List (Nat × Nat) := [(0, 8)] ++ rlay ++ rlay ++ [(3, 2), (2, 2), (0, 2), (3, 6)] ++ rlay ++ rlay ++ rlay ++ rlay ++ rlay ++ rlay ++ [(0, 5), (1, 64), (1, 150), (0, 6), (0, 0), (0, 3), (0, 0), (0, 3)] ++ rlay ++ rlay ++ [(0, 9), (1, 1407), (1, 1407), (1, 8442), (1, 2814), (2, 2), (1, 64), (1, 150), (1, 150), (2, 240), (1, 150), (2, 480), (1, 150)]
def LAY (k : Nat) : Nat × Nat := LAYL.getD k (9, 0)
abbrev NX : Nat := 166
def RXc (ci : Nat) : String := match ci with
  | 0 => RX0 | 1 => RX1 | 2 => RX2 | 3 => RX3 | 4 => RX4 | 5 => RX5 | 6 => RX6 | 7 => RX7 | 8 => RX8 | _ => RX9
def TXc (ci : Nat) : u_T := match ci with
  | 0 => TX0 | 1 => TX1 | 2 => TX2 | 3 => TX3 | 4 => TX4 | 5 => TX5 | 6 => TX6 | 7 => TX7 | 8 => TX8 | _ => TX9
def ncl (ci : Nat) : Nat := match ci with
  | 0 => 3 | 1 => 3 | 2 => 3 | 3 => 2 | 4 => 5 | 5 => 7 | 6 => 5 | 7 => 11 | 8 => 9 | _ => 24
def tyc (ci : Nat) : Nat → FieldType := match ci with
  | 0 => tyX0 | 1 => tyX1 | 2 => tyX2 | 3 => tyX3 | 4 => tyX4 | 5 => tyX5 | 6 => tyX6 | 7 => tyX7 | 8 => tyX8 | _ => tyX9
def cls : List vw_C := (List.range 10).map (fun ci => (RXc ci, TXc ci, ncl ci))
def isRf : FieldType → Bool
  | .object _ => true
  | .array _ => true
  | _ => false
def RT (k i : Nat) : Nat := match LAY k with
  | (0, 7) => k + (match i with | 0 => 1 | 1 => 2 | 2 => 5 | 3 => 10 | 4 => 11 | 5 => 12 | _ => 13)
  | (0, 8) => (match i with | 0 => 1 | 1 => 15 | 2 => 29 | 3 => 30 | 4 => 31 | 5 => 117 | 6 => 120 | 7 => 123 | _ => 124)
  | (0, 9) => (match i with | 0 => 154 | 1 => 155 | 2 => 156 | 4 => 157 | 5 => 158 | 6 => 159 | 8 => 160 | 9 => 161 | 10 => 162 | 12 => 163 | 18 => 164 | _ => 165)
  | (3, 2) => (match i with | 0 => 125 | _ => 139)
  | (3, _) => 33 + 14 * i
  | _ => k + 1 + i
def zfv (g : zGG) (φ : zPhi) (d : zMem) (k ci i : Nat) : Value := if isRf (tyc ci i) = true then (if φ.2 k i = true then .ref (gB g + RT k i) else .null) else .int (Int32.ofInt (d k (i : Int)))
def zent (g : zGG) (φ : zPhi) (d : zMem) (k : Nat) : va_E := match LAY k with
  | (0, ci) => .inr (ci, (List.range (ncl ci)).map (fun i => zfv g φ d k ci i))
  | (1, n) => .inl (gI g, n, .inl (fun i => Int32.ofInt (d k (i : Int))))
  | (2, n) => .inl (gZ g, n, .inl (fun i => Int32.ofInt (d k (i : Int))))
  | (_, n) => .inl (gR g, n, .inr (.inr (.inr (.inr (fun i => if φ.2 k i = true then some (gB g + RT k i) else none)))))
def zsz (k : Nat) : Nat := match LAY k with
  | (0, ci) => ncl ci
  | (_, n) => n
def zsl : Nat → Nat
  | 0 => 0
  | n + 1 => zsl n + zsz n
theorem zsl_mono {a b : Nat} (h : a ≤ b) : zsl a ≤ zsl b := by
  induction h with
  | refl => exact Nat.le_refl _
  | step _ ih => exact Nat.le_trans ih (Nat.le_add_right _ _)
def zH (g : zGG) (φ : zPhi) (d : zMem) (H : Heap) : Prop := ∀ k, k < φ.1 → va_at (gD g) cls (gB g + k, zent g φ d k) H
-- words
def isNest : Cond → Bool
  | .fieldLinkNest .. => true
  | .methodLinkNest .. => true
  | _ => false
def NW : List Cond := lw_tbl.filter isNest
def GW : List Cond := lw_tbl.filter goodWord
theorem inGW {w : Cond} (i : Nat) (h : lw_tbl[i]? = some w) (h2 : goodWord w = true) : w ∈ GW := List.mem_filter.mpr ⟨List.mem_of_getElem? h, h2⟩
theorem inNW {w : Cond} (i : Nat) (h : lw_tbl[i]? = some w) (h2 : isNest w = true) : w ∈ NW := List.mem_filter.mpr ⟨List.mem_of_getElem? h, h2⟩
theorem good_GW {w : Cond} (h : w ∈ GW) : (w.onTables && w.keeps) = true ∨ ∃ ty, w = .arrayClass ty := good_of_word (List.mem_filter.mp h).2
theorem goodIn_GW {ws : List Cond} (h : ∀ w ∈ ws, w ∈ GW) : GoodIn GW ws := fun w hw => ⟨h w hw, good_GW (h w hw)⟩
theorem NW_warm {s U : State} (hW : s.WarmedH U.vm) (h : ∀ w ∈ NW, va_Nw w s) : ∀ w ∈ NW, va_Nw w U := by
  intro w hw
  have h1 := h w hw
  have h2 := (List.mem_filter.mp hw).2
  cases w <;> first | exact va_Nw.warmF hW h1 | exact va_Nw.warmM hW h1 | (exact absurd h2 (by decide)) | (simp [isNest] at h2)
theorem NW_same {u U : State} (hv : u.vm = U.vm) (h : ∀ w ∈ NW, va_Nw w u) : ∀ w ∈ NW, va_Nw w U := by
  intro w hw
  have h1 := h w hw
  have h2 := (List.mem_filter.mp hw).2
  cases w <;> first | exact va_Nw.same rfl hv h1 | (simp [isNest] at h2)
def f1 (j : Nat) : Int := match j with | 0 => 2 | 1 => 6 | 2 => 3 | _ => 5
def f2 (j : Nat) : Int := match j with | 0 => 9 | 1 => 60 | 2 => 20 | _ => 50
def ztys (g : zGG) : List (ClassId × FieldType) := [(gI g, .int), (gZ g, .boolean), (gR g, .object RX7)]
def zKn (g : zGG) (U : State) : Prop := va_K (gD g) cls (ztys g) U ∧ (∀ w ∈ NW, va_Nw w U) ∧ va_AO RX7 U ∧
  va_Z RX8 "FIRST_SETTINGS" "[I" (.ref (gS1 g)) (gA g) U U.heap ∧ va_T .int (gS1 g) 4 (fun j => .int (Int32.ofInt (f1 j))) (gA g) U U.heap ∧
  va_Z RX8 "HIGHEST_SETTINGS" "[I" (.ref (gS2 g)) (gA g) U U.heap ∧ va_T .int (gS2 g) 4 (fun j => .int (Int32.ofInt (f2 j))) (gA g) U U.heap ∧ va_X (gX g) (gN g) (gxs g) U U.heap ∧ gX g < gB g
theorem zKn.calling {g : zGG} {U : State} (h : zKn g U) (fr : JFrame) (mk : MethodId) (a : Array Value) : zKn g (U.calling fr mk a) := by
  obtain ⟨h1, h2, h3, h4, h5, h6, h7, h8, h9⟩ := h
  refine ⟨va_K.moved (u := U) (Vm.Alike.refl U.vm) h1, NW_same (u := U) rfl h2, va_AO.moved (u := U) (Vm.Alike.refl U.vm) h3, ?_, ?_, ?_, ?_, ?_, h9⟩
  · exact va_Z.moved (u := U) (Vm.Alike.refl U.vm) h4
  · exact va_T.moved (u := U) (Vm.Alike.refl U.vm) h5
  · exact va_Z.moved (u := U) (Vm.Alike.refl U.vm) h6
  · exact va_T.moved (u := U) (Vm.Alike.refl U.vm) h7
  · exact va_X.moved (u := U) (Vm.Alike.refl U.vm) h8
theorem zKn.go {g : zGG} {s U : State} {H : Heap} {locs : List Loc} (h : zKn g s) (hS : va_S (gA g) s.heap H locs) (hU : U.heap = H) (hW : s.WarmedH U.vm) : zKn g U := by
  obtain ⟨h1, h2, h3, h4, h5, h6, h7, h8, h9⟩ := h
  have hq : ∀ a : Nat, a < s.heap.size → ¬ gA g a → U.heap[a]? = s.heap[a]? := fun a ha hn => by rw [hU]; exact hS.2.1 a ha hn
  refine ⟨va_K.moved hW.alike h1, NW_warm hW h2, va_AO.moved hW.alike h3, ?_, ?_, ?_, ?_, ?_, h9⟩
  · exact va_Z.moved hW.alike (h4.kept hq)
  · exact va_T.moved hW.alike (h5.kept hq)
  · exact va_Z.moved hW.alike (h6.kept hq)
  · exact va_T.moved hW.alike (h7.kept hq)
  · obtain ⟨scr, g1, g2⟩ := h8
    exact va_X.moved hW.alike (va_X.kept ⟨scr, g1, g2⟩ (hq _ (Array.getElem?_eq_some_iff.mp g1).1 (Nat.not_le.mpr h9)))
-- locals
def zLs (g : zGG) (n : Nat) (ls : List (Option zPV)) (A : Array Slot) : Prop := A.size = n ∧ lv_wf A ∧ ∀ (i : Nat) (v : zPV), ls[i]? = some (some v) → A[i]? = some (.val (zval g v))
def zla1 (g : zGG) (i : Nat) (x : Option (Option zPV)) : Option (Nat × Value) := match x with
  | some (some v) => some (i, zval g v)
  | _ => none
def zla (g : zGG) (ls : List (Option zPV)) : List (Nat × Value) := (List.range ls.length).filterMap (fun i => zla1 g i ls[i]?)
theorem zla_in {g : zGG} {ls : List (Option zPV)} {i : Nat} {v : zPV} (h : ls[i]? = some (some v)) : (i, zval g v) ∈ zla g ls :=
  List.mem_filterMap.mpr ⟨i, List.mem_range.mpr (List.getElem?_eq_some_iff.mp h).1, by rw [h]; rfl⟩
theorem zLs.has {g : zGG} {n : Nat} {ls : List (Option zPV)} {A : Array Slot} (h : zLs g n ls A) : lv_has A n (zla g ls) := by
  refine ⟨h.1, h.2.1, fun q hq => ?_⟩
  obtain ⟨i, -, h2⟩ := List.mem_filterMap.mp hq
  unfold zla1 at h2
  split at h2
  next v hv => cases h2; exact h.2.2 i v hv
  next => cases h2
def zst1 (i j : Nat) (x : Option (Option zPV)) : Option zPV := match x with
  | some (some w) => if j + 1 = i ∧ 6 ≤ w.1 then none else some w
  | _ => none
def zst (ls : List (Option zPV)) (i : Nat) (v : zPV) : List (Option zPV) := (List.range ls.length).map (fun j => if j = i then some v else zst1 i j ls[j]?)
def zst2 (ls : List (Option zPV)) (i : Nat) (v : zPV) : List (Option zPV) := (List.range ls.length).map (fun j => if j = i then some v else if j = i + 1 then none else zst1 i j ls[j]?)
theorem zval_cat2 {g : zGG} {v : zPV} (h : (zval g v).category = 2) : 6 ≤ v.1 := by
  rcases Nat.lt_or_ge v.1 6 with q | q
  · rw [zval_cat1 g v q] at h; cases h
  · exact q
theorem zst_of {g : zGG} {n i : Nat} {v : zPV} {ls : List (Option zPV)} {A : Array Slot} (h : lv_has A n ((i, zval g v) :: (zla g ls).filter (fun q => !(q.1 == i) && !(q.1 + 1 == i && q.2.category == 2)))) : zLs g n (zst ls i v) A := by
  refine ⟨h.1, h.2.1, fun j w hj => ?_⟩
  unfold zst at hj
  rw [List.getElem?_map] at hj
  cases hr : (List.range ls.length)[j]? with
  | none => rw [hr] at hj; cases hj
  | some j' =>
    rw [hr] at hj
    have e : j' = j := by
      have := List.getElem?_eq_some_iff.mp hr
      obtain ⟨h1, h2⟩ := this
      rw [List.getElem_range] at h2
      exact h2.symm
    subst e
    simp only [Option.map_some, Option.some.injEq] at hj
    by_cases hji : j' = i
    · rw [if_pos hji] at hj
      cases hj
      subst hji
      exact h.2.2 (j', zval g v) List.mem_cons_self
    · rw [if_neg hji] at hj
      unfold zst1 at hj
      split at hj
      next w' hw' =>
        split at hj
        next => cases hj
        next hc =>
          cases hj
          refine h.2.2 (j', zval g w) (List.mem_cons_of_mem _ (List.mem_filter.mpr ⟨zla_in hw', ?_⟩))
          simp only [Bool.and_eq_true, Bool.not_eq_true', beq_eq_false_iff_ne, ne_eq, Bool.and_eq_false_iff]
          refine ⟨hji, ?_⟩
          by_cases h1 : j' + 1 = i
          · refine Or.inr fun h2 => hc ⟨h1, zval_cat2 h2⟩
          · exact Or.inl h1
      next => cases hj
theorem zst2_of {g : zGG} {n i : Nat} {v : zPV} {ls : List (Option zPV)} {A : Array Slot} (h : lv_has A n ((i, zval g v) :: (zla g ls).filter (fun q => !(q.1 == i) && (!(q.1 == i + 1) && !(q.1 + 1 == i && q.2.category == 2))))) : zLs g n (zst2 ls i v) A := by
  refine ⟨h.1, h.2.1, fun j w hj => ?_⟩
  unfold zst2 at hj
  rw [List.getElem?_map] at hj
  cases hr : (List.range ls.length)[j]? with
  | none => rw [hr] at hj; cases hj
  | some j' =>
    rw [hr] at hj
    have e : j' = j := by
      have := List.getElem?_eq_some_iff.mp hr
      obtain ⟨h1, h2⟩ := this
      rw [List.getElem_range] at h2
      exact h2.symm
    subst e
    simp only [Option.map_some, Option.some.injEq] at hj
    by_cases hji : j' = i
    · rw [if_pos hji] at hj
      cases hj
      subst hji
      exact h.2.2 (j', zval g v) List.mem_cons_self
    · rw [if_neg hji] at hj
      by_cases hji2 : j' = i + 1
      · rw [if_pos hji2] at hj
        cases hj
      rw [if_neg hji2] at hj
      unfold zst1 at hj
      split at hj
      next w' hw' =>
        split at hj
        next => cases hj
        next hc =>
          cases hj
          refine h.2.2 (j', zval g w) (List.mem_cons_of_mem _ (List.mem_filter.mpr ⟨zla_in hw', ?_⟩))
          simp only [Bool.and_eq_true, Bool.not_eq_true', beq_eq_false_iff_ne, ne_eq, Bool.and_eq_false_iff]
          refine ⟨hji, hji2, ?_⟩
          by_cases h1 : j' + 1 = i
          · refine Or.inr fun h2 => hc ⟨h1, zval_cat2 h2⟩
          · exact Or.inl h1
      next => cases hj
-- methods
abbrev zMk : Type := MethodName × ByteArray × Nat × Option FieldType × Nat × Nat
def ky (k : zMk) : MethodName := k.1
def kown (k : zMk) : String := (ky k).cls
def kcode (k : zMk) : ByteArray := k.2.1
def kn (k : zMk) : Nat := k.2.2.1
def kret (k : zMk) : Option FieldType := k.2.2.2.1
def kfr (k : zMk) : Nat := k.2.2.2.2.1
def klo (k : zMk) : Nat := k.2.2.2.2.2
def kws (k : zMk) : List Cond := .code (ky k) (kcode k) (kn k) (kret k) :: GW
def krm (k : zMk) (φ φ' : zPhi) : Room := { frames := kfr k, cells := φ'.1 - φ.1, slots := zsl φ'.1 - zsl φ.1, locals := klo k }
abbrev zEE : Type := Room × zPhi × (Array Value → State → List Frame → State → Prop)
def zCx (g : zGG) (e : zEE) (k : zMk) (p : Program) (s : State) (m : MethodId) (args : Array Value) (meth : Method) (c : Code) : Prop :=
  p.tables.exec = Jvm.exec ∧ c.code = kcode k ∧ meth.sig.returnType = kret k ∧ c.maxLocals = kn k ∧ s.vm.findClass (kown k) = some m.cls ∧ (∀ w ∈ GW, w.before args s = true) ∧ zKn g s ∧ meth.locks = false ∧ s.heap.size = gB g + e.2.1.1 ∧ meth.name = (ky k).name
def Fr (g : zGG) (e : zEE) (k : zMk) (φ : zPhi) (pc : Nat) (ls : List (Option zPV)) (st : List zPV) (d : zMem) : Prop :=
  ∀ (p : Program) (ee : Env) (s : State) (m : MethodId) (args : Array Value) (below : List Frame) (meth : Method) (c : Code), zCx g e k p s m args meth c → e.2.1.1 ≤ φ.1 →
  ∀ (H : Heap) (locs : List Loc) (A : Array Slot), zH g φ d H → va_S (gA g) s.heap H locs → zLs g (kn k) ls A →
  W p (gL g) ee e.1 s m args below meth c H locs (φ.1 - e.2.1.1) (zsl φ.1 - zsl e.2.1.1) (e.2.2 args s below) (F0 m pc A (st.map (zval g)))
def zQc (g : zGG) (k : zMk) (φ' : zPhi) (Q : Int → zMem → Prop) : Array Value → State → Outcome → State → Prop := match kret k with
  | none => va_Qv (fun d' : zMem => Q 0 d') (fun d' t => zH g φ' d' t.heap) (gA g)
  | some _ => va_Qi (fun (r : Int32) (d' : zMem) => ∃ v : Int, r = Int32.ofInt v ∧ Q v d') (fun d' t => zH g φ' d' t.heap) (gA g)
def zPc (g : zGG) (φ φ' : zPhi) (args : List zPV) (d : zMem) : Array Value → State → Prop := fun av U => av = (args.map (zval g)).toArray ∧ zKn g U ∧ zH g φ d U.heap ∧ U.heap.size = gB g + φ.1 ∧ φ.1 ≤ φ'.1
def Ev (g : zGG) (k : zMk) (φ φ' : zPhi) (args : List zPV) (d : zMem) (Q : Int → zMem → Prop) : Prop :=
  Met (gL g) (ky k) (kws k) (krm k φ φ') (zPc g φ φ' args d) (zQc g k φ' Q) (φ'.1 - φ.1) (zsl φ'.1 - zsl φ.1) (gA g)
def eM (g : zGG) (k : zMk) (φ φ' : zPhi) (Q : Int → zMem → Prop) : zEE :=
  (krm k φ φ', φ, fun args s below => MQ below (zQc g k φ' Q) args s (φ'.1 - φ.1) (zsl φ'.1 - zsl φ.1) (gA g))
theorem zPc.blind {g : zGG} {φ φ' : zPhi} {args : List zPV} {d : zMem} : FrameBlind (zPc g φ φ' args d) := fun a U fr mk h => ⟨h.1, h.2.1.calling fr mk a, h.2.2.1, h.2.2.2.1, h.2.2.2.2⟩
-- a heap that holds the world has just so many cells
theorem zH.lt {g : zGG} {φ : zPhi} {d : zMem} {H : Heap} (h : zH g φ d H) {k : Nat} (hk : k < φ.1) : gB g + k < H.size := (h k hk).lt
theorem zH.size {g : zGG} {e : zEE} {k : zMk} {φ : zPhi} {d : zMem} {p : Program} {ee : Env} {s : State} {m : MethodId} {args : Array Value} {below : List Frame} {meth : Method} {c : Code} {H : Heap} {locs : List Loc} {T : State} {sl : Nat}
    (hC : zCx g e k p s m args meth c) (h0 : e.2.1.1 ≤ φ.1) (hH : zH g φ d H) (hS : va_S (gA g) s.heap H locs) (hT : T.heap = H) (X : Stand p (gL g) ee e.1 s m args below meth c T locs (φ.1 - e.2.1.1) sl) : H.size = gB g + φ.1 := by
  have h1 := X.heapSize
  rw [hT, hC.2.2.2.2.2.2.2.2.1] at h1
  have h2 := hS.1
  rw [hC.2.2.2.2.2.2.2.2.1] at h2
  rcases Nat.lt_or_ge e.2.1.1 φ.1 with q | q
  · have h3 := hH.lt (k := φ.1 - 1) (by omega)
    omega
  · omega
