-- ROWS: memory, calls, ends, over the pure machine
def rup (r : Int → Int) (i v : Int) : Int → Int := fun j => if j = i then v else r j
def mrow (d : zMem) (a : Nat) (r : Int → Int) : zMem := fun k => if k = a then r else d k
def mu (d : zMem) (a : Nat) (i v : Int) : zMem := mrow d a (rup (d a) i v)
theorem mrow_ne {d : zMem} {a k : Nat} {r : Int → Int} (h : k ≠ a) : mrow d a r k = d k := if_neg h
theorem mrow_eq {d : zMem} {a : Nat} {r : Int → Int} : mrow d a r a = r := if_pos rfl
theorem cls_at {ci : Nat} (h : ci < 10) : cls[ci]? = some (RXc ci, TXc ci, ncl ci) := by simp [cls, h]
theorem TXc_dec : ∀ ci, ci < 10 → ∀ fk, fk < ncl ci → (TXc ci fk).1 = RXc ci := by decide +kernel
theorem tyc_ok : ∀ ci, ci < 10 → ∀ fk, fk < ncl ci → parseFieldDescriptor (TXc ci fk).2.2.1 = some (tyc ci fk) := by decide +kernel
theorem nmc_ok : ∀ ci, ci < 10 → ∀ a, a < ncl ci → ∀ b, b < ncl ci → a ≠ b → (TXc ci a).2.1 ≠ (TXc ci b).2.1 := by decide +kernel
theorem ws_GW : ∀ ci, ci < 10 → ∀ w ∈ u_ws (RXc ci) (TXc ci) (ncl ci), w ∈ GW := by
  have h : ∀ ci, ci < 10 → ∀ w ∈ u_ws (RXc ci) (TXc ci) (ncl ci), w ∈ lw_tbl ∧ goodWord w = true := by decide +kernel
  exact fun ci hci w hw => List.mem_filter.mpr (h ci hci w hw)
theorem zent_congr {g : zGG} {φ φ' : zPhi} {d d' : zMem} {k : Nat} (hd : d' k = d k) (hp : ∀ i, φ'.2 k i = φ.2 k i) : zent g φ' d' k = zent g φ d k := by
  unfold zent zfv
  simp only [hd, hp]
theorem zent_obj {g : zGG} {φ : zPhi} {d : zMem} {a ci : Nat} (h : LAY a = (0, ci)) : zent g φ d a = .inr (ci, (List.range (ncl ci)).map (fun i => zfv g φ d a ci i)) := by
  unfold zent; rw [h]; rfl
theorem zent_int {g : zGG} {φ : zPhi} {d : zMem} {a n : Nat} (h : LAY a = (1, n)) : zent g φ d a = .inl (gI g, n, .inl (fun i => Int32.ofInt (d a (i : Int)))) := by
  unfold zent; rw [h]; rfl
theorem zent_bool {g : zGG} {φ : zPhi} {d : zMem} {a n : Nat} (h : LAY a = (2, n)) : zent g φ d a = .inl (gZ g, n, .inl (fun i => Int32.ofInt (d a (i : Int)))) := by
  unfold zent; rw [h]; rfl
theorem zent_ref {g : zGG} {φ : zPhi} {d : zMem} {a n : Nat} (h : LAY a = (3, n)) : zent g φ d a = .inl (gR g, n, .inr (.inr (.inr (.inr (fun i => if φ.2 a i = true then some (gB g + RT a i) else none))))) := by
  unfold zent; rw [h]; rfl
def zwl (g : zGG) (φ : zPhi) (d : zMem) : va_W := (List.range φ.1).map (fun k => (gB g + k, zent g φ d k))
theorem zwl_get {g : zGG} {φ : zPhi} {d : zMem} {k : Nat} (h : k < φ.1) : (zwl g φ d)[k]? = some (gB g + k, zent g φ d k) := by
  unfold zwl
  rw [List.getElem?_map, List.getElem?_range h]
  rfl
theorem zwl_inv {g : zGG} {φ : zPhi} {d : zMem} {k : Nat} {q : Nat × va_E} (h : (zwl g φ d)[k]? = some q) : k < φ.1 ∧ q = (gB g + k, zent g φ d k) := by
  have h1 : k < φ.1 := by
    have := (List.getElem?_eq_some_iff.mp h).1
    unfold zwl at this
    rwa [List.length_map, List.length_range] at this
  rw [zwl_get h1] at h
  exact ⟨h1, (Option.some.inj h).symm⟩
theorem zwl_P {g : zGG} {φ : zPhi} {d : zMem} {H : Heap} (h : zH g φ d H) : va_P (gD g) cls (zwl g φ d) H := by
  intro k q hk
  obtain ⟨h1, rfl⟩ := zwl_inv hk
  exact h k h1
theorem zwl_D {g : zGG} {φ : zPhi} {d : zMem} : va_D (gA g) (zwl g φ d) := by
  refine ⟨fun i j p q hi hj hpq => ?_, fun k q hk => ?_⟩
  · obtain ⟨-, rfl⟩ := zwl_inv hi
    obtain ⟨-, rfl⟩ := zwl_inv hj
    have : gB g + i = gB g + j := hpq
    omega
  · obtain ⟨-, rfl⟩ := zwl_inv hk
    exact Nat.le_add_right _ _
theorem zH_set {g : zGG} {φ φ' : zPhi} {d d' : zMem} {H : Heap} {a : Nat} {e' : va_E} (ha : a < φ.1) (h1 : φ'.1 = φ.1) (hP : va_P (gD g) cls ((zwl g φ d).set a (gB g + a, e')) H) (he : zent g φ' d' a = e') (ho : ∀ k, k ≠ a → zent g φ' d' k = zent g φ d k) : zH g φ' d' H := by
  intro k hk
  rw [h1] at hk
  by_cases hka : k = a
  · subst hka
    rw [he]
    refine hP k (gB g + k, e') ?_
    rw [List.getElem?_set_self]
    unfold zwl
    rw [List.length_map, List.length_range]
    exact hk
  · rw [ho k hka]
    refine hP k (gB g + k, zent g φ d k) ?_
    rw [List.getElem?_set_ne (Ne.symm hka)]
    exact zwl_get hk
theorem vin_of {i : Int} {n : Nat} (h : 0 ≤ i ∧ i < n) (hn : n < 2 ^ 31) : vp_in (Int32.ofInt i) n ∧ (Int32.ofInt i).toNatClampNeg = i.toNat := by
  have hr : inR i := ⟨by omega, by omega⟩
  refine ⟨vp_in_iff.mpr ?_, Int32.toNatClampNeg_ofInt_of_le (by omega) (by omega)⟩
  rw [ti_of hr]
  exact h
theorem upd_of {r : Int → Int} {i v : Int} (h : 0 ≤ i) : (fun j : Nat => Int32.ofInt (rup r i v (j : Int))) = upd (fun j : Nat => Int32.ofInt (r (j : Int))) i.toNat (Int32.ofInt v) := by
  funext j
  unfold rup upd
  by_cases hj : j = i.toNat
  · rw [if_pos (by omega), if_pos hj]
  · rw [if_neg (by omega), if_neg hj]
section
variable {g : zGG} {e : zEE} {k : zMk} {φ : zPhi} {pc : Nat} {ls : List (Option zPV)} {st : List zPV} {d : zMem}
-- arrays
theorem z_iaload {a n : Nat} {i : Int} (hL : LAY a = (1, n)) (ha : a < φ.1) (hn : n < 2 ^ 31) (hd : decode (kcode k) pc = .ok (.iaload, 1)) (hi : 0 ≤ i ∧ i < n) (hh : Fr g e k φ (pc + 1) ls (zI (d a i) :: st) d) : Fr g e k φ pc ls (zI i :: zR a :: st) d := by
  intro p ee s m args below meth c hC h0 H locs A hH hS hl
  have hk := hh p ee s m args below meth c hC h0 H locs A hH hS hl
  have hv := vin_of hi hn
  have ha' := zwl_get (g := g) (d := d) ha
  rw [zent_int hL] at ha'
  refine va_iald hC.1 hC.2.1 hC.2.2.2.2.2.2.1.1 (zwl_P hH) a 0 ha' rfl hv.1 hd (W.eq ?_ hk)
  show F0 m (pc + 1) A (.int (Int32.ofInt (d a (((Int32.ofInt i).toNatClampNeg : Nat) : Int))) :: _) = _
  rw [hv.2, Int.toNat_of_nonneg hi.1]
  rfl
theorem z_baload {a n : Nat} {i : Int} (hL : LAY a = (2, n)) (ha : a < φ.1) (hn : n < 2 ^ 31) (hd : decode (kcode k) pc = .ok (.baload, 1)) (hi : 0 ≤ i ∧ i < n) (hh : Fr g e k φ (pc + 1) ls (zI (d a i) :: st) d) : Fr g e k φ pc ls (zI i :: zR a :: st) d := by
  intro p ee s m args below meth c hC h0 H locs A hH hS hl
  have hk := hh p ee s m args below meth c hC h0 H locs A hH hS hl
  have hv := vin_of hi hn
  have ha' := zwl_get (g := g) (d := d) ha
  rw [zent_bool hL] at ha'
  refine va_zald hC.1 hC.2.1 hC.2.2.2.2.2.2.1.1 (zwl_P hH) a 1 ha' rfl hv.1 hd (W.eq ?_ hk)
  show F0 m (pc + 1) A (.int (Int32.ofInt (d a (((Int32.ofInt i).toNatClampNeg : Nat) : Int))) :: _) = _
  rw [hv.2, Int.toNat_of_nonneg hi.1]
  rfl
theorem z_aaload {a n : Nat} {i : Int} (hL : LAY a = (3, n)) (ha : a < φ.1) (hn : n < 2 ^ 31) (hd : decode (kcode k) pc = .ok (.aaload, 1)) (hi : 0 ≤ i ∧ i < n) (hw : φ.2 a i.toNat = true) (hh : Fr g e k φ (pc + 1) ls (zR (RT a i.toNat) :: st) d) : Fr g e k φ pc ls (zI i :: zR a :: st) d := by
  intro p ee s m args below meth c hC h0 H locs A hH hS hl
  have hk := hh p ee s m args below meth c hC h0 H locs A hH hS hl
  have hv := vin_of hi hn
  have ha' := zwl_get (g := g) (d := d) ha
  rw [zent_ref hL] at ha'
  refine va_aldq (C := RX7) hC.1 hC.2.1 hC.2.2.2.2.2.2.1.1 (zwl_P hH) a 2 ha' rfl hv.1 hd (W.eq ?_ hk)
  show F0 m (pc + 1) A (va_rf (if φ.2 a (Int32.ofInt i).toNatClampNeg = true then some (gB g + RT a (Int32.ofInt i).toNatClampNeg) else none) :: _) = _
  rw [hv.2, if_pos hw]
  rfl
theorem z_alen {a q n : Nat} (hL : LAY a = (q, n)) (hq : q = 1 ∨ q = 2 ∨ q = 3) (ha : a < φ.1) (hd : decode (kcode k) pc = .ok (.arraylength, 1)) (hh : Fr g e k φ (pc + 1) ls (zI (n : Int) :: st) d) : Fr g e k φ pc ls (zR a :: st) d := by
  intro p ee s m args below meth c hC h0 H locs A hH hS hl
  have hk := hh p ee s m args below meth c hC h0 H locs A hH hS hl
  have ha' := zwl_get (g := g) (d := d) ha
  rcases hq with rfl | rfl | rfl
  · rw [zent_int hL] at ha'
    exact va_alen hC.1 hC.2.1 hC.2.2.2.2.2.2.1.1 (zwl_P hH) a 0 ha' rfl (v := Int32.ofInt (n : Int)) Int32.ofInt_eq_ofNat.symm hd hk
  · rw [zent_bool hL] at ha'
    exact va_alen hC.1 hC.2.1 hC.2.2.2.2.2.2.1.1 (zwl_P hH) a 1 ha' rfl (v := Int32.ofInt (n : Int)) Int32.ofInt_eq_ofNat.symm hd hk
  · rw [zent_ref hL] at ha'
    exact va_alen hC.1 hC.2.1 hC.2.2.2.2.2.2.1.1 (zwl_P hH) a 2 ha' rfl (v := Int32.ofInt (n : Int)) Int32.ofInt_eq_ofNat.symm hd hk
theorem z_iastore {a n : Nat} {i v : Int} (hL : LAY a = (1, n)) (ha : a < φ.1) (hn : n < 2 ^ 31) (hd : decode (kcode k) pc = .ok (.iastore, 1)) (hi : 0 ≤ i ∧ i < n) (hh : Fr g e k φ (pc + 1) ls st (mu d a i v)) : Fr g e k φ pc ls (zI v :: zI i :: zR a :: st) d := by
  intro p ee s m args below meth c hC h0 H locs A hH hS hl
  have hv := vin_of hi hn
  have ha' := zwl_get (g := g) (d := d) ha
  rw [zent_int hL] at ha'
  refine va_iast hC.1 hC.2.1 hC.2.2.2.2.2.2.1.1 (zwl_P hH) zwl_D hS a 0 ha' rfl hv.1 hd (fun H1 locs1 hP hD hS1 => ?_)
  refine hh p ee s m args below meth c hC h0 H1 locs1 A (zH_set ha rfl hP ?_ (fun q hq => zent_congr (mrow_ne hq) (fun _ => rfl))) hS1 hl
  rw [zent_int hL, show (Int32.ofInt (zI i).2).toNatClampNeg = i.toNat from hv.2]
  show Sum.inl (gI g, n, Sum.inl (fun j : Nat => Int32.ofInt (mrow d a (rup (d a) i v) a (j : Int)))) = _
  rw [mrow_eq, upd_of hi.1]
  rfl
theorem nar_bool {v : Int} (hv : v = 0 ∨ v = 1) : vp_nar .boolean (Int32.ofInt v) = Int32.ofInt v := by
  rcases hv with rfl | rfl <;> decide +kernel
theorem z_bastore {a n : Nat} {i v : Int} (hL : LAY a = (2, n)) (ha : a < φ.1) (hn : n < 2 ^ 31) (hd : decode (kcode k) pc = .ok (.bastore, 1)) (hi : 0 ≤ i ∧ i < n) (hb : v = 0 ∨ v = 1) (hh : Fr g e k φ (pc + 1) ls st (mu d a i v)) : Fr g e k φ pc ls (zI v :: zI i :: zR a :: st) d := by
  intro p ee s m args below meth c hC h0 H locs A hH hS hl
  have hv := vin_of hi hn
  have ha' := zwl_get (g := g) (d := d) ha
  rw [zent_bool hL] at ha'
  refine va_zast hC.1 hC.2.1 hC.2.2.2.2.2.2.1.1 (zwl_P hH) zwl_D hS a 1 ha' rfl hv.1 hd (fun H1 locs1 hP hD hS1 => ?_)
  refine hh p ee s m args below meth c hC h0 H1 locs1 A (zH_set ha rfl hP ?_ (fun q hq => zent_congr (mrow_ne hq) (fun _ => rfl))) hS1 hl
  rw [zent_bool hL, show (Int32.ofInt (zI i).2).toNatClampNeg = i.toNat from hv.2]
  show Sum.inl (gZ g, n, Sum.inl (fun j : Nat => Int32.ofInt (mrow d a (rup (d a) i v) a (j : Int)))) = Sum.inl (gZ g, n, Sum.inl (upd _ i.toNat (vp_nar .boolean (Int32.ofInt v))))
  rw [mrow_eq, upd_of hi.1, nar_bool hb]
def zw (φ : zPhi) (a fk : Nat) : zPhi := (φ.1, fun a' i' => (a' == a && i' == fk) || φ.2 a' i')
theorem z_aastore {a n b : Nat} {i : Int} (hL : LAY a = (3, n)) (ha : a < φ.1) (hn : n < 2 ^ 31) (hb : b < φ.1) (hLb : LAY b = (0, 7)) (hd : decode (kcode k) pc = .ok (.aastore, 1)) (hi : 0 ≤ i ∧ i < n) (hr : RT a i.toNat = b) (hh : Fr g e k (zw φ a i.toNat) (pc + 1) ls st d) : Fr g e k φ pc ls (zR b :: zI i :: zR a :: st) d := by
  intro p ee s m args below meth c hC h0 H locs A hH hS hl
  have hv := vin_of hi hn
  have ha' := zwl_get (g := g) (d := d) ha
  rw [zent_ref hL] at ha'
  have hb' := zwl_get (g := g) (d := d) hb
  rw [zent_obj hLb] at hb'
  refine va_astq (r := (RXc 7, TXc 7, ncl 7)) hC.1 hC.2.1 hC.2.2.2.2.2.2.1.1 (zwl_P hH) zwl_D hS a 2 b 7 ha' rfl hb' (cls_at (by decide)) hv.1 hd (fun H1 locs1 hP hD hS1 => ?_)
  refine hh p ee s m args below meth c hC h0 H1 locs1 A (zH_set ha rfl hP ?_ (fun q hq => zent_congr rfl (fun i' => ?_))) hS1 hl
  · rw [zent_ref hL, show (Int32.ofInt (zI i).2).toNatClampNeg = i.toNat from hv.2]
    congr 7
    funext j
    unfold va_up zw
    by_cases hj : j = i.toNat
    · subst hj
      simp [hr]
    · simp [hj]
  · simp [zw, hq]
-- fields
theorem z_getI (ci fk : Nat) {idx a : Nat} (hL : LAY a = (0, ci)) (hci : ci < 10) (hfk : fk < ncl ci) (ht : isRf (tyc ci fk) = false) (ha : a < φ.1) (hw : Cond.fieldLink (kown k) idx (RXc ci) (TXc ci fk).2.1 (TXc ci fk).2.2.1 ∈ GW) (hd : decode (kcode k) pc = .ok (.getfield idx, 3)) (hh : Fr g e k φ (pc + 3) ls (zI (d a (fk : Int)) :: st) d) : Fr g e k φ pc ls (zR a :: st) d := by
  intro p ee s m args below meth c hC h0 H locs A hH hS hl
  have hk := hh p ee s m args below meth c hC h0 H locs A hH hS hl
  have ha' := zwl_get (g := g) (d := d) ha
  rw [zent_obj hL] at ha'
  refine va_get hC.1 hC.2.1 hC.2.2.2.2.2.1 (ws_GW ci hci) hC.2.2.2.2.1 hC.2.2.2.2.2.2.1.1 (zwl_P hH) a ha' (cls_at hci) fk hfk (hC.2.2.2.2.2.1 _ hw) (fun x hx => by rw [← TXc_dec ci hci fk hfk]; exact hx) (v := .int (Int32.ofInt (d a (fk : Int)))) ?_ hd hk
  rw [List.getElem?_map, List.getElem?_range hfk]
  simp [zfv, ht]
theorem z_getR (ci fk : Nat) {idx a b : Nat} (hL : LAY a = (0, ci)) (hci : ci < 10) (hfk : fk < ncl ci) (ht : isRf (tyc ci fk) = true) (ha : a < φ.1) (hwi : φ.2 a fk = true) (hr : RT a fk = b) (hw : Cond.fieldLink (kown k) idx (RXc ci) (TXc ci fk).2.1 (TXc ci fk).2.2.1 ∈ GW) (hd : decode (kcode k) pc = .ok (.getfield idx, 3)) (hh : Fr g e k φ (pc + 3) ls (zR b :: st) d) : Fr g e k φ pc ls (zR a :: st) d := by
  intro p ee s m args below meth c hC h0 H locs A hH hS hl
  have hk := hh p ee s m args below meth c hC h0 H locs A hH hS hl
  have ha' := zwl_get (g := g) (d := d) ha
  rw [zent_obj hL] at ha'
  refine va_get hC.1 hC.2.1 hC.2.2.2.2.2.1 (ws_GW ci hci) hC.2.2.2.2.1 hC.2.2.2.2.2.2.1.1 (zwl_P hH) a ha' (cls_at hci) fk hfk (hC.2.2.2.2.2.1 _ hw) (fun x hx => by rw [← TXc_dec ci hci fk hfk]; exact hx) (v := .ref (gB g + b)) ?_ hd hk
  rw [List.getElem?_map, List.getElem?_range hfk]
  simp [zfv, ht, hwi, hr]
theorem z_getIN (ci fk : Nat) {idx a : Nat} {host : String} (hL : LAY a = (0, ci)) (hci : ci < 10) (hfk : fk < ncl ci) (ht : isRf (tyc ci fk) = false) (ha : a < φ.1) (hw : Cond.fieldLinkNest (kown k) idx (RXc ci) (TXc ci fk).2.1 (TXc ci fk).2.2.1 host ∈ NW) (hd : decode (kcode k) pc = .ok (.getfield idx, 3)) (hh : Fr g e k φ (pc + 3) ls (zI (d a (fk : Int)) :: st) d) : Fr g e k φ pc ls (zR a :: st) d := by
  intro p ee s m args below meth c hC h0 H locs A hH hS hl
  have hk := hh p ee s m args below meth c hC h0 H locs A hH hS hl
  have ha' := zwl_get (g := g) (d := d) ha
  rw [zent_obj hL] at ha'
  refine va_getN hC.1 hC.2.1 hC.2.2.2.2.2.1 (ws_GW ci hci) hC.2.2.2.2.1 hC.2.2.2.2.2.2.1.1 (zwl_P hH) a ha' (cls_at hci) fk hfk (va_Nw.use rfl (hC.2.2.2.2.2.2.1.2.1 _ hw)) (fun x hx => by rw [← TXc_dec ci hci fk hfk]; exact hx) (v := .int (Int32.ofInt (d a (fk : Int)))) ?_ hd hk
  rw [List.getElem?_map, List.getElem?_range hfk]
  simp [zfv, ht]
theorem z_getRN (ci fk : Nat) {idx a b : Nat} {host : String} (hL : LAY a = (0, ci)) (hci : ci < 10) (hfk : fk < ncl ci) (ht : isRf (tyc ci fk) = true) (ha : a < φ.1) (hwi : φ.2 a fk = true) (hr : RT a fk = b) (hw : Cond.fieldLinkNest (kown k) idx (RXc ci) (TXc ci fk).2.1 (TXc ci fk).2.2.1 host ∈ NW) (hd : decode (kcode k) pc = .ok (.getfield idx, 3)) (hh : Fr g e k φ (pc + 3) ls (zR b :: st) d) : Fr g e k φ pc ls (zR a :: st) d := by
  intro p ee s m args below meth c hC h0 H locs A hH hS hl
  have hk := hh p ee s m args below meth c hC h0 H locs A hH hS hl
  have ha' := zwl_get (g := g) (d := d) ha
  rw [zent_obj hL] at ha'
  refine va_getN hC.1 hC.2.1 hC.2.2.2.2.2.1 (ws_GW ci hci) hC.2.2.2.2.1 hC.2.2.2.2.2.2.1.1 (zwl_P hH) a ha' (cls_at hci) fk hfk (va_Nw.use rfl (hC.2.2.2.2.2.2.1.2.1 _ hw)) (fun x hx => by rw [← TXc_dec ci hci fk hfk]; exact hx) (v := .ref (gB g + b)) ?_ hd hk
  rw [List.getElem?_map, List.getElem?_range hfk]
  simp [zfv, ht, hwi, hr]
def okB (ty : FieldType) (v : Int) : Prop := ty = .int ∨ (ty = .boolean ∧ (v = 0 ∨ v = 1))
theorem okB_nar {ty : FieldType} {v : Int} (h : okB ty v) : narrow ty (.int (Int32.ofInt v)) = .int (Int32.ofInt v) ∧ fits ty (.int (Int32.ofInt v)) = true := by
  rcases h with rfl | ⟨rfl, rfl | rfl⟩
  · exact ⟨rfl, rfl⟩
  · exact ⟨by decide +kernel, by decide +kernel⟩
  · exact ⟨by decide +kernel, by decide +kernel⟩
theorem map_set_ext {n fk : Nat} {f f' : Nat → Value} {v : Value} (h1 : f' fk = v) (h2 : ∀ i, i ≠ fk → f' i = f i) : (List.range n).map f' = ((List.range n).map f).set fk v := by
  apply List.ext_getElem?
  intro j
  rw [List.getElem?_map, List.getElem?_set, List.getElem?_map]
  by_cases hj : j < n
  · rw [List.getElem?_range hj]
    by_cases hf : fk = j
    · subst hf
      simp [hj, h1]
    · simp [hf, h2 j (Ne.symm hf)]
  · have : (List.range n)[j]? = none := by simp; omega
    rw [this]
    by_cases hf : fk = j
    · subst hf
      simp [hj]
    · simp [hf]
theorem zent_put {g : zGG} {φ : zPhi} {d : zMem} {a ci fk : Nat} {v : Int} (hL : LAY a = (0, ci)) (ht : isRf (tyc ci fk) = false) : zent g φ (mu d a (fk : Int) v) a = .inr (ci, ((List.range (ncl ci)).map (fun i => zfv g φ d a ci i)).set fk (.int (Int32.ofInt v))) := by
  rw [zent_obj hL]
  congr 2
  refine map_set_ext ?_ (fun i hi => ?_)
  · simp [zfv, ht, mu, mrow, rup]
  · have : ((i : Nat) : Int) ≠ (fk : Int) := by omega
    simp [zfv, mu, mrow, rup, this]
theorem z_putI (ci fk : Nat) {idx a : Nat} {v : Int} (hL : LAY a = (0, ci)) (hci : ci < 10) (hfk : fk < ncl ci) (ht : isRf (tyc ci fk) = false) (ha : a < φ.1) (hf : (TXc ci fk).2.2.2 = false) (hw : Cond.fieldLink (kown k) idx (RXc ci) (TXc ci fk).2.1 (TXc ci fk).2.2.1 ∈ GW) (hd : decode (kcode k) pc = .ok (.putfield idx, 3)) (hv : okB (tyc ci fk) v) (hh : Fr g e k φ (pc + 3) ls st (mu d a (fk : Int) v)) : Fr g e k φ pc ls (zI v :: zR a :: st) d := by
  intro p ee s m args below meth c hC h0 H locs A hH hS hl
  have ha' := zwl_get (g := g) (d := d) ha
  rw [zent_obj hL] at ha'
  refine va_put hC.1 hC.2.1 hC.2.2.2.2.2.1 (ws_GW ci hci) (tyc ci) (tyc_ok ci hci) (nmc_ok ci hci) hC.2.2.2.2.1 hC.2.2.2.2.2.2.1.1 (zwl_P hH) zwl_D hS a ha' (cls_at hci) fk hfk (hC.2.2.2.2.2.1 _ hw) (fun x hx => by rw [← TXc_dec ci hci fk hfk]; exact hx) hf (tyc_ok ci hci fk hfk) (okB_nar hv).1 (okB_nar hv).2 (by rw [List.length_map, List.length_range]; exact hfk) hd (fun H1 locs1 hP hD hS1 => ?_)
  exact hh p ee s m args below meth c hC h0 H1 locs1 A (zH_set ha rfl hP (zent_put hL ht) (fun q hq => zent_congr (mrow_ne hq) (fun _ => rfl))) hS1 hl
theorem z_putIN (ci fk : Nat) {idx a : Nat} {host : String} {v : Int} (hL : LAY a = (0, ci)) (hci : ci < 10) (hfk : fk < ncl ci) (ht : isRf (tyc ci fk) = false) (ha : a < φ.1) (hf : (TXc ci fk).2.2.2 = false) (hw : Cond.fieldLinkNest (kown k) idx (RXc ci) (TXc ci fk).2.1 (TXc ci fk).2.2.1 host ∈ NW) (hd : decode (kcode k) pc = .ok (.putfield idx, 3)) (hv : okB (tyc ci fk) v) (hh : Fr g e k φ (pc + 3) ls st (mu d a (fk : Int) v)) : Fr g e k φ pc ls (zI v :: zR a :: st) d := by
  intro p ee s m args below meth c hC h0 H locs A hH hS hl
  have ha' := zwl_get (g := g) (d := d) ha
  rw [zent_obj hL] at ha'
  refine va_putN hC.1 hC.2.1 hC.2.2.2.2.2.1 (ws_GW ci hci) (tyc ci) (tyc_ok ci hci) (nmc_ok ci hci) hC.2.2.2.2.1 hC.2.2.2.2.2.2.1.1 (zwl_P hH) zwl_D hS a ha' (cls_at hci) fk hfk (va_Nw.use rfl (hC.2.2.2.2.2.2.1.2.1 _ hw)) (fun x hx => by rw [← TXc_dec ci hci fk hfk]; exact hx) hf (tyc_ok ci hci fk hfk) (okB_nar hv).1 (okB_nar hv).2 (by rw [List.length_map, List.length_range]; exact hfk) hd (fun H1 locs1 hP hD hS1 => ?_)
  exact hh p ee s m args below meth c hC h0 H1 locs1 A (zH_set ha rfl hP (zent_put hL ht) (fun q hq => zent_congr (mrow_ne hq) (fun _ => rfl))) hS1 hl
theorem zent_wire {g : zGG} {φ : zPhi} {d : zMem} {a ci fk b : Nat} (hL : LAY a = (0, ci)) (ht : isRf (tyc ci fk) = true) (hr : RT a fk = b) : zent g (zw φ a fk) d a = .inr (ci, ((List.range (ncl ci)).map (fun i => zfv g φ d a ci i)).set fk (.ref (gB g + b))) := by
  rw [zent_obj hL]
  congr 2
  refine map_set_ext ?_ (fun i hi => ?_)
  · simp [zfv, ht, zw, hr]
  · simp [zfv, zw, hi]
theorem fits_ref {ty : FieldType} (h : isRf ty = true) (a : Nat) : narrow ty (.ref a) = .ref a ∧ fits ty (.ref a) = true := by
  cases ty <;> first | exact ⟨rfl, rfl⟩ | (simp [isRf] at h)
theorem z_putR (ci fk : Nat) {idx a b : Nat} (hL : LAY a = (0, ci)) (hci : ci < 10) (hfk : fk < ncl ci) (ht : isRf (tyc ci fk) = true) (ha : a < φ.1) (hf : (TXc ci fk).2.2.2 = true) (hin : (ky k).name = "<init>") (hdc : (TXc ci fk).1 = kown k) (hr : RT a fk = b) (hw : Cond.fieldLink (kown k) idx (RXc ci) (TXc ci fk).2.1 (TXc ci fk).2.2.1 ∈ GW) (hd : decode (kcode k) pc = .ok (.putfield idx, 3)) (hh : Fr g e k (zw φ a fk) (pc + 3) ls st d) : Fr g e k φ pc ls (zR b :: zR a :: st) d := by
  intro p ee s m args below meth c hC h0 H locs A hH hS hl
  have ha' := zwl_get (g := g) (d := d) ha
  rw [zent_obj hL] at ha'
  refine va_putF hC.1 hC.2.1 hC.2.2.2.2.2.1 (ws_GW ci hci) (tyc ci) (tyc_ok ci hci) (nmc_ok ci hci) hC.2.2.2.2.1 hC.2.2.2.2.2.2.1.1 (zwl_P hH) zwl_D hS a ha' (cls_at hci) fk hfk (hC.2.2.2.2.2.1 _ hw) (fun x hx => by rw [← TXc_dec ci hci fk hfk]; exact hx) hf (hC.2.2.2.2.2.2.2.2.2.trans hin) hdc (tyc_ok ci hci fk hfk) (fits_ref ht _).1 (fits_ref ht _).2 (by rw [List.length_map, List.length_range]; exact hfk) hd (fun H1 locs1 hP hD hS1 => ?_)
  exact hh p ee s m args below meth c hC h0 H1 locs1 A (zH_set ha rfl hP (zent_wire hL ht hr) (fun q hq => zent_congr rfl (fun i => by simp [zw, hq]))) hS1 hl
end
