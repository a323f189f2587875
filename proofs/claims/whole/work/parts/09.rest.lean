-- ROWS: statics, Math, longs, the script (wb_, u_tn, g_or are pasted from kit/laws/BITS.to-paste)
theorem wb_tb (n : Nat) : (lN n).toBitVec = BitVec.ofNat 64 n := rfl
theorem wb_inj {a b : Int64} (h : a.toBitVec = b.toBitVec) : a = b := Int64.toBitVec_inj.mp h
theorem wb_tn {n : Nat} (h : n < 2 ^ 64) : (lN n).toBitVec.toNat = n := by rw [wb_tb, BitVec.toNat_ofNat, Nat.mod_eq_of_lt h]
theorem wb_of (x : Int64) : ∃ n, n < 2 ^ 64 ∧ x = lN n := ⟨x.toBitVec.toNat, x.toBitVec.isLt, wb_inj (by rw [wb_tb]; simp)⟩
theorem wb_c : ∀ k, k < 64 → ((nI k).toInt64 &&& 63) = lN k := by decide +kernel
theorem wb_cu : ∀ k, k < 64 → ((nI k).toInt64.toUInt64 &&& Int64.toUInt64 63) = UInt64.ofNat k := by decide +kernel
theorem wb_sm : ∀ k, k < 64 → (BitVec.ofNat 64 k).smod 64 = BitVec.ofNat 64 k := by decide +kernel
theorem wb_pw {a b : Nat} (h : a ≤ b) : 2 ^ b = 2 ^ a * 2 ^ (b - a) := by rw [← Nat.pow_add]; congr 1; omega
theorem wb_lt2 {a b : Nat} (h : a < b) : 2 ^ a < 2 ^ b := Nat.pow_lt_pow_right (by decide) h
theorem wb_mod (n : Nat) : lN n = lN (n % 2 ^ 64) := wb_inj (by rw [wb_tb, wb_tb]; apply BitVec.eq_of_toNat_eq; rw [BitVec.toNat_ofNat, BitVec.toNat_ofNat, Nat.mod_mod])
theorem wb_shr {n k : Nat} (hn : n < 2 ^ 64) (hk : k < 64) : ((lN n).toUInt64 >>> ((nI k).toInt64.toUInt64 &&& Int64.toUInt64 63)).toInt64 = lN (n / 2 ^ k) := by
  rw [wb_cu k hk]
  apply wb_inj
  apply BitVec.eq_of_toNat_eq
  show ((lN n).toUInt64 >>> UInt64.ofNat k).toNat = (BitVec.ofNat 64 _).toNat
  have h1 : (UInt64.ofNat k).toNat = k := by
    show (BitVec.ofNat 64 k).toNat = k
    rw [BitVec.toNat_ofNat, Nat.mod_eq_of_lt (by omega)]
  have h2 : (lN n).toUInt64.toNat = n := wb_tn hn
  rw [UInt64.toNat_shiftRight, h1, h2, Nat.mod_eq_of_lt hk, Nat.shiftRight_eq_div_pow, BitVec.toNat_ofNat, Nat.mod_eq_of_lt (Nat.lt_of_le_of_lt (Nat.div_le_self _ _) hn)]
theorem wb_shl (n : Nat) {k : Nat} (hk : k < 64) : lN n <<< ((nI k).toInt64 &&& 63) = lN (n * 2 ^ k) := by
  rw [wb_c k hk]
  apply wb_inj
  rw [Int64.toBitVec_shiftLeft, wb_tb, wb_tb, wb_tb, wb_sm k hk]
  apply BitVec.eq_of_toNat_eq
  rw [BitVec.shiftLeft_eq', BitVec.toNat_shiftLeft, BitVec.toNat_ofNat, BitVec.toNat_ofNat, BitVec.toNat_ofNat, Nat.mod_eq_of_lt (show k < 2 ^ 64 by omega), Nat.shiftLeft_eq, Nat.mul_mod, Nat.mod_mod, ← Nat.mul_mod]
theorem wb_and {a b : Nat} (ha : a < 2 ^ 64) (hb : b < 2 ^ 64) : lN a &&& lN b = lN (a &&& b) := by
  apply wb_inj
  rw [Int64.toBitVec_and, wb_tb, wb_tb, wb_tb]
  apply BitVec.eq_of_toNat_eq
  rw [BitVec.toNat_and, BitVec.toNat_ofNat, BitVec.toNat_ofNat, BitVec.toNat_ofNat, Nat.mod_eq_of_lt ha, Nat.mod_eq_of_lt hb, Nat.mod_eq_of_lt (Nat.and_lt_two_pow _ hb)]
theorem wb_mask {n k : Nat} (hn : n < 2 ^ 64) (hk : k < 64) : lN n &&& lN (2 ^ k - 1) = lN (n % 2 ^ k) := by
  rw [wb_and hn (by have := wb_lt2 hk; omega), Nat.and_two_pow_sub_one_eq_mod]
theorem u_tn {n : Nat} (h : n < 2 ^ 64) : (UInt64.ofNat n).toNat = n := Nat.mod_eq_of_lt h
theorem g_or {k p a b : Nat} (hp : 2 ^ k = p) (ha : a < p) (h : b * p + a < 2 ^ 64) : lN (b * p) ||| lN a = lN (b * p + a) := by
  subst hp
  have h1 : b * 2 ^ k ||| a = b * 2 ^ k + a := by rw [← Nat.shiftLeft_eq, Nat.shiftLeft_add_eq_or_of_lt ha]
  have h3 : UInt64.ofNat (b * 2 ^ k) ||| UInt64.ofNat a = UInt64.ofNat (b * 2 ^ k + a) := UInt64.toNat_inj.mp (by rw [UInt64.toNat_or, u_tn (by omega), u_tn (by omega), u_tn h, h1])
  have h2 := congrArg UInt64.toInt64 h3
  exact h2
section
variable {g : zGG} {e : zEE} {k : zMk} {φ : zPhi} {pc : Nat} {ls : List (Option zPV)} {st : List zPV} {d : zMem}
theorem z_gets1 {idx : Nat} {host : String} (hd : decode (kcode k) pc = .ok (.getstatic idx, 3)) (w1 : Cond.fieldLinkNest (kown k) idx RX8 "FIRST_SETTINGS" "[I" host ∈ NW) (hh : Fr g e k φ (pc + 3) ls (zS1 :: st) d) : Fr g e k φ pc ls st d := by
  intro p ee s m args below meth c hC h0 H locs A hH hS hl
  have hk := hh p ee s m args below meth c hC h0 H locs A hH hS hl
  exact va_getsN hC.1 hC.2.1 hC.2.2.2.2.2.2.1.2.2.2.1 hS hC.2.2.2.2.1 (va_Nw.use rfl (hC.2.2.2.2.2.2.1.2.1 _ w1)) (fun _ h => h) hd hk
theorem z_gets2 {idx : Nat} (hd : decode (kcode k) pc = .ok (.getstatic idx, 3)) (w1 : Cond.fieldLink (kown k) idx RX8 "HIGHEST_SETTINGS" "[I" ∈ GW) (hh : Fr g e k φ (pc + 3) ls (zS2 :: st) d) : Fr g e k φ pc ls st d := by
  intro p ee s m args below meth c hC h0 H locs A hH hS hl
  have hk := hh p ee s m args below meth c hC h0 H locs A hH hS hl
  exact va_gets hC.1 hC.2.1 hC.2.2.2.2.2.2.1.2.2.2.2.2.1 hS hC.2.2.2.2.1 (hC.2.2.2.2.2.1 _ w1) (fun _ h => h) hd hk
theorem z_len1 (hd : decode (kcode k) pc = .ok (.arraylength, 1)) (hh : Fr g e k φ (pc + 1) ls (zI 4 :: st) d) : Fr g e k φ pc ls (zS1 :: st) d := by
  intro p ee s m args below meth c hC h0 H locs A hH hS hl
  have hk := hh p ee s m args below meth c hC h0 H locs A hH hS hl
  exact va_tlen hC.1 hC.2.1 hC.2.2.2.2.2.2.1.2.2.2.2.1 hS (v := Int32.ofInt 4) rfl hd hk
theorem z_len2 (hd : decode (kcode k) pc = .ok (.arraylength, 1)) (hh : Fr g e k φ (pc + 1) ls (zI 4 :: st) d) : Fr g e k φ pc ls (zS2 :: st) d := by
  intro p ee s m args below meth c hC h0 H locs A hH hS hl
  have hk := hh p ee s m args below meth c hC h0 H locs A hH hS hl
  exact va_tlen hC.1 hC.2.1 hC.2.2.2.2.2.2.1.2.2.2.2.2.2.1 hS (v := Int32.ofInt 4) rfl hd hk
theorem z_ld2 {i : Int} (hd : decode (kcode k) pc = .ok (.iaload, 1)) (hi : 0 ≤ i ∧ i < 4) (hh : Fr g e k φ (pc + 1) ls (zI (f2 i.toNat) :: st) d) : Fr g e k φ pc ls (zI i :: zS2 :: st) d := by
  intro p ee s m args below meth c hC h0 H locs A hH hS hl
  have hk := hh p ee s m args below meth c hC h0 H locs A hH hS hl
  have hv := vin_of (n := 4) hi (by decide)
  exact va_ti hC.1 hC.2.1 hC.2.2.2.2.2.2.1.2.2.2.2.2.2.1 hS hv.1 (v := .int (Int32.ofInt (f2 i.toNat))) (by rw [show (Int32.ofInt (zI i).2).toNatClampNeg = i.toNat from hv.2]) hd hk
theorem z_sld {i : Int} (hd : decode (kcode k) pc = .ok (.iaload, 1)) (hi : 0 ≤ i ∧ i < gN g) (hn : gN g < 2 ^ 31) (hh : Fr g e k φ (pc + 1) ls (zI (gxs g i.toNat).toInt :: st) d) : Fr g e k φ pc ls (zI i :: zX :: st) d := by
  intro p ee s m args below meth c hC h0 H locs A hH hS hl
  have hk := hh p ee s m args below meth c hC h0 H locs A hH hS hl
  have hv := vin_of hi hn
  obtain ⟨hX, hlt⟩ := hC.2.2.2.2.2.2.1.2.2.2.2.2.2.2
  have hbl : gX g < s.heap.size := by
    obtain ⟨scr, h1, -⟩ := hX
    exact (Array.getElem?_eq_some_iff.mp h1).1
  refine va_sld hC.1 hC.2.1 hX hbl (Nat.not_le.mpr hlt) hS hv.1 hd (W.eq ?_ hk)
  rw [show (Int32.ofInt (zI i).2).toNatClampNeg = i.toNat from hv.2, List.map_cons, zval_I, Int32.ofInt_toInt]
theorem z_slen (hd : decode (kcode k) pc = .ok (.arraylength, 1)) (hh : Fr g e k φ (pc + 1) ls (zI (gN g : Int) :: st) d) : Fr g e k φ pc ls (zX :: st) d := by
  intro p ee s m args below meth c hC h0 H locs A hH hS hl
  have hk := hh p ee s m args below meth c hC h0 H locs A hH hS hl
  obtain ⟨hX, hlt⟩ := hC.2.2.2.2.2.2.1.2.2.2.2.2.2.2
  have hbl : gX g < s.heap.size := by
    obtain ⟨scr, h1, -⟩ := hX
    exact (Array.getElem?_eq_some_iff.mp h1).1
  refine va_slen hC.1 hC.2.1 hX hbl (Nat.not_le.mpr hlt) hS hd (W.eq ?_ hk)
  rw [List.map_cons, zval_I, Int32.ofInt_eq_ofNat]
theorem z_max {x y : Int} {idx : Nat} (hr : inR x ∧ inR y) (hd : decode (kcode k) pc = .ok (.invokestatic idx, 3)) (w1 : Cond.methodLink (kown k) idx Lib.Math.max.name ∈ GW) (w2 : Cond.static Lib.Math.max.name ∈ GW) (w3 : Cond.initialized "java/lang/Math" ∈ GW) (w4 : Cond.code Lib.Math.max.name Lib.Math.max.code 2 (some .int) ∈ GW) (hroom : 1 ≤ e.1.frames ∧ zcs st + 13 ≤ e.1.locals ∧ φ.1 - e.2.1.1 ≤ e.1.cells ∧ zsl φ.1 - zsl e.2.1.1 ≤ e.1.slots)
    (hh : Fr g e k φ (pc + 3) ls (zI (max x y) :: st) d) : Fr g e k φ pc ls (zI y :: zI x :: st) d := by
  intro p ee s m args below meth c hC h0 H locs A hH hS hl
  have hk := hh p ee s m args below meth c hC h0 H locs A hH hS hl
  refine va_mmax hC.1 hC.2.1 (hC.2.2.2.1.trans hl.1.symm) hC.2.2.2.2.1 (hC.2.2.2.2.2.1 _ w1) (hC.2.2.2.2.2.1 _ w2) (hC.2.2.2.2.2.1 _ w3) (hC.2.2.2.2.2.1 _ w4) hroom.1 (by rw [zcs_of]; exact hroom.2.1) hroom.2.2.1 hroom.2.2.2 hd (W.eq ?_ hk)
  show F0 m (pc + 3) A (.int (if Int32.ofInt x < Int32.ofInt y then Int32.ofInt y else Int32.ofInt x) :: _) = F0 m (pc + 3) A (.int (Int32.ofInt (max x y)) :: _)
  by_cases h : x < y
  · rw [if_pos ((ofI_lt hr.1 hr.2).mpr h), show max x y = y by omega]
  · rw [if_neg (fun q => h ((ofI_lt hr.1 hr.2).mp q)), show max x y = x by omega]
theorem z_min {x y : Int} {idx : Nat} (hr : inR x ∧ inR y) (hd : decode (kcode k) pc = .ok (.invokestatic idx, 3)) (w1 : Cond.methodLink (kown k) idx Lib.Math.min.name ∈ GW) (w2 : Cond.static Lib.Math.min.name ∈ GW) (w3 : Cond.initialized "java/lang/Math" ∈ GW) (w4 : Cond.code Lib.Math.min.name Lib.Math.min.code 2 (some .int) ∈ GW) (hroom : 1 ≤ e.1.frames ∧ zcs st + 13 ≤ e.1.locals ∧ φ.1 - e.2.1.1 ≤ e.1.cells ∧ zsl φ.1 - zsl e.2.1.1 ≤ e.1.slots)
    (hh : Fr g e k φ (pc + 3) ls (zI (min x y) :: st) d) : Fr g e k φ pc ls (zI y :: zI x :: st) d := by
  intro p ee s m args below meth c hC h0 H locs A hH hS hl
  have hk := hh p ee s m args below meth c hC h0 H locs A hH hS hl
  refine va_mmin hC.1 hC.2.1 (hC.2.2.2.1.trans hl.1.symm) hC.2.2.2.2.1 (hC.2.2.2.2.2.1 _ w1) (hC.2.2.2.2.2.1 _ w2) (hC.2.2.2.2.2.1 _ w3) (hC.2.2.2.2.2.1 _ w4) hroom.1 (by rw [zcs_of]; exact hroom.2.1) hroom.2.2.1 hroom.2.2.2 hd (W.eq ?_ hk)
  show F0 m (pc + 3) A (.int (if Int32.ofInt y < Int32.ofInt x then Int32.ofInt y else Int32.ofInt x) :: _) = F0 m (pc + 3) A (.int (Int32.ofInt (min x y)) :: _)
  by_cases h : y < x
  · rw [if_pos ((ofI_lt hr.2 hr.1).mpr h), show min x y = y by omega]
  · rw [if_neg (fun q => h ((ofI_lt hr.2 hr.1).mp q)), show min x y = x by omega]
theorem z_abs {x : Int} {idx : Nat} (hr : inR x) (hd : decode (kcode k) pc = .ok (.invokestatic idx, 3)) (w1 : Cond.methodLink (kown k) idx Lib.Math.abs.name ∈ GW) (w2 : Cond.static Lib.Math.abs.name ∈ GW) (w3 : Cond.initialized "java/lang/Math" ∈ GW) (w4 : Cond.code Lib.Math.abs.name Lib.Math.abs.code 1 (some .int) ∈ GW) (hroom : 1 ≤ e.1.frames ∧ zcs st + 13 ≤ e.1.locals ∧ φ.1 - e.2.1.1 ≤ e.1.cells ∧ zsl φ.1 - zsl e.2.1.1 ≤ e.1.slots)
    (hh : Fr g e k φ (pc + 3) ls (zI (if 0 ≤ x then x else -x) :: st) d) : Fr g e k φ pc ls (zI x :: st) d := by
  intro p ee s m args below meth c hC h0 H locs A hH hS hl
  have hk := hh p ee s m args below meth c hC h0 H locs A hH hS hl
  refine va_mabs hC.1 hC.2.1 (hC.2.2.2.1.trans hl.1.symm) hC.2.2.2.2.1 (hC.2.2.2.2.2.1 _ w1) (hC.2.2.2.2.2.1 _ w2) (hC.2.2.2.2.2.1 _ w3) (hC.2.2.2.2.2.1 _ w4) hroom.1 (by rw [zcs_of]; exact hroom.2.1) hroom.2.2.1 hroom.2.2.2 hd (W.eq ?_ hk)
  show F0 m (pc + 3) A (.int (if (Int32.ofInt 0) ≤ Int32.ofInt x then Int32.ofInt x else Int32.ofInt 0 - Int32.ofInt x) :: _) = F0 m (pc + 3) A (.int (Int32.ofInt (if 0 ≤ x then x else -x)) :: _)
  by_cases h : 0 ≤ x
  · rw [if_pos ((ofI_le inR0 hr).mpr h), if_pos h]
  · rw [if_neg (fun q => h ((ofI_le inR0 hr).mp q)), if_neg h, ← Int32.ofInt_sub, Int.zero_sub]
-- copy from a static row
theorem z_copyS {b n1 : Nat} {n : Int} {idx : Nat} (hLb : LAY b = (1, n1)) (hb : b < φ.1) (hn : n1 < 2 ^ 31) (hi : 0 ≤ n ∧ n ≤ 4 ∧ n ≤ n1) (hd : decode (kcode k) pc = .ok (.invokestatic idx, 3))
    (w1 : Cond.methodLink (kown k) idx arraycopyName ∈ GW) (w2 : Cond.native arraycopyName ∈ GW) (w3 : Cond.static arraycopyName ∈ GW) (w4 : Cond.initialized "java/lang/System" ∈ GW) (hroom : 1 ≤ e.1.frames ∧ zcs st + 60 ≤ e.1.locals)
    (hh : Fr g e k φ (pc + 3) ls st (mrow d b (zcp (fun i => f1 i.toNat) (d b) 0 0 n))) : Fr g e k φ pc ls (zI n :: zI 0 :: zR b :: zI 0 :: zS1 :: st) d := by
  intro p ee s m args below meth c hC h0 H locs A hH hS hl T hT X
  have hb' := zwl_get (g := g) (d := d) hb
  rw [zent_int hLb] at hb'
  obtain ⟨i1, i2, i3⟩ := hi
  have q2 : inR n := ⟨by omega, by omega⟩
  have c2 : (Int32.ofInt n).toNatClampNeg = n.toNat := Int32.toNatClampNeg_ofInt_of_le (by have := q2.1; omega) (by have := q2.2; omega)
  have c0 : (Int32.ofInt 0).toNatClampNeg = 0 := by decide +kernel
  have nn : ∀ z : Int, inR z → 0 ≤ z → ¬ Int32.ofInt z < 0 := fun z hz h0 => by
    rw [Int32.lt_iff_toInt_lt, ti_of hz]
    show ¬ (z < 0)
    omega
  obtain ⟨scr, hs1, hs2, hs3, hs4, hs4', hs5, hs7⟩ := hC.2.2.2.2.2.2.1.2.2.2.2.1
  have hK := hC.2.2.2.2.2.2.1.1
  have hP := zwl_P hH
  have hc0 : H[gS1 g]? = some scr := by rw [hS.2.1 (gS1 g) (Array.getElem?_eq_some_iff.mp hs1).1 hs7]; exact hs1
  have hc1 : H[gB g + b]? = some (vp_cell (gI g) (n1, .inl (fun i => Int32.ofInt (d b (i : Int))))) := hP b _ hb'
  obtain ⟨hs6, k0, hk0, cm0, hkk0⟩ := hs2
  obtain ⟨-, k1, hk1, cm1, hkk1⟩ := (hK.2 0 (gI g, .int) rfl).1 n1 (fun j => .int (Int32.ofInt (d b (j : Int))))
  obtain ⟨vm', X', step⟩ := X.arraycopy hC.1 hC.2.2.2.2.1 (hC.2.2.2.2.2.1 _ w1) (hC.2.2.2.2.2.1 _ w2) (hC.2.2.2.2.2.1 _ w3) (hC.2.2.2.2.2.1 _ w4) (src := gS1 g) (dst := gB g + b) (cs := scr) (cd := vp_cell (gI g) (n1, .inl (fun i => Int32.ofInt (d b (i : Int))))) (srcPos := Int32.ofInt 0) (destPos := Int32.ofInt 0) (n := Int32.ofInt n) (by rw [hT]; exact hc0) (by rw [hT]; exact hc1)
    hs6 (fun _ h => by cases h) hs3 (fun h => by cases h) hk0 hk1 hkk0 hkk1 (by simp [refKind]) (nn 0 inR0 (by decide)) (nn 0 inR0 (by decide)) (nn n q2 i1)
    (by rw [ti_of inR0, ti_of q2]; omega)
    (by rw [ti_of inR0, ti_of q2]; show ¬ _ > ((arrV (gI g) n1 (fun j => .int (Int32.ofInt (d b (j : Int))))).slots.size : Int); rw [arrV_size]; omega)
    (fun vm₁ _ i hi => by
      rw [c2] at hi
      have e : scr.slots.getD ((Int32.ofInt 0).toNatClampNeg + i) .null = .int (Int32.ofInt (f1 i)) := by
        rw [c0, Nat.zero_add, Array.getD_eq_getD_getElem?, hs5 _ (by omega)]
        rfl
      refine ⟨?_, ?_⟩
      · rw [e]
        rfl
      · rw [e]
        exact trivial)
    (g := F0 m pc A ((zI n :: zI 0 :: zR b :: zI 0 :: zS1 :: st).map (zval g))) rfl (by rw [hC.2.2.2.1]; exact hl.1) (rest := st.map (zval g)) rfl (by rw [hC.2.1]; exact hd) hroom.1 (by show 2 * 0 + _ + _ ≤ _; rw [zcs_of]; have := nfw; have := hroom.2; omega)
  have e1 : copied scr (vp_cell (gI g) (n1, .inl (fun i => Int32.ofInt (d b (i : Int))))) (Int32.ofInt 0) (Int32.ofInt 0) (Int32.ofInt n) = vp_cell (gI g) (n1, .inl (va_cpy (fun j => Int32.ofInt (f1 j)) (fun i => Int32.ofInt (d b (i : Int))) (Int32.ofInt 0).toNatClampNeg (Int32.ofInt 0).toNatClampNeg (Int32.ofInt n).toNatClampNeg)) := va_copiedX (n0 := 4) (n1 := n1) (sp := (Int32.ofInt 0).toNatClampNeg) (dp := (Int32.ofInt 0).toNatClampNeg) (n := (Int32.ofInt n).toNatClampNeg) (fun z => .int z) scr (gI g) (fun j => Int32.ofInt (f1 j)) (fun i => Int32.ofInt (d b (i : Int))) hs5 (by rw [c0, c2]; omega)
  rw [e1, c0, c2] at X' step
  have hl2 : gB g + b < H.size := (Array.getElem?_eq_some_iff.mp hc1).1
  generalize hcell : vp_cell (gI g) (n1, .inl (va_cpy (fun j => Int32.ofInt (f1 j)) (fun i => Int32.ofInt (d b (i : Int))) 0 0 n.toNat)) = cell at X' step
  have hheap : ((T.setVm vm').setCell (gB g + b) cell).heap = H.setIfInBounds (gB g + b) cell := by rw [← hT]; rfl
  have oq : ∀ q : Nat, q ≠ gB g + b → (H.setIfInBounds (gB g + b) cell)[q]? = H[q]? := fun q hq => by simp [Array.getElem?_setIfInBounds, Ne.symm hq]
  have hAb : gA g (gB g + b) := Nat.le_add_right _ _
  obtain ⟨t, a1, b1⟩ := hh p ee s m args below meth c hC h0 (H.setIfInBounds (gB g + b) cell) _ A (by
      intro q hq
      by_cases hqb : q = b
      · subst hqb
        rw [zent_int hLb, mrow_eq]
        show (H.setIfInBounds (gB g + q) cell)[gB g + q]? = some (vp_cell _ _)
        rw [show (fun i : Nat => Int32.ofInt (zcp (fun i => f1 i.toNat) (d q) 0 0 n (i : Int))) = va_cpy (fun j => Int32.ofInt (f1 j)) (fun i => Int32.ofInt (d q (i : Int))) 0 0 n.toNat from zcp_of (f := fun i => f1 i.toNat) (h := d q) (Int.le_refl 0) (Int.le_refl 0) i1, hcell]
        simp [Array.getElem?_setIfInBounds, hl2]
      · rw [zent_congr (φ := φ) (φ' := φ) (d := d) (k := q) (mrow_ne hqb) (fun _ => rfl)]
        exact (hH q hq).kept (oq _ (by show gB g + q ≠ gB g + b; omega)))
    ⟨by rw [Array.size_setIfInBounds]; exact hS.1, fun q g1 g2 => by
      rw [oq q (fun e => g2 (by rw [e]; exact hAb))]
      exact hS.2.1 q g1 g2, fun q hq => by
      rcases List.mem_append.mp hq with h | h
      · exact hS.2.2 q h
      · obtain ⟨z, -, hz⟩ := List.mem_map.mp h
        rw [← hz]
        exact hAb⟩ hl _ hheap X'
  exact ⟨t, step t a1, b1⟩
-- longs
theorem l_nat {n : Int} (h : 0 ≤ n) : Int64.ofInt n = lN n.toNat := by
  obtain ⟨m, rfl⟩ := Int.eq_ofNat_of_zero_le h
  exact Int64.ofInt_eq_ofNat
theorem z_l2i {n : Int} (hd : decode (kcode k) pc = .ok (.l2i, 1)) (hh : Fr g e k φ (pc + 1) ls (zI n :: st) d) : Fr g e k φ pc ls (zL n :: st) d := by
  intro p ee s m args below meth c hC h0 H locs A hH hS hl
  have hk := hh p ee s m args below meth c hC h0 H locs A hH hS hl
  exact lv_l2i hC.1 hC.2.1 hd Int64.toInt32_ofInt hk
theorem z_i2l {n : Int} (hr : inR n) (hd : decode (kcode k) pc = .ok (.i2l, 1)) (hh : Fr g e k φ (pc + 1) ls (zL n :: st) d) : Fr g e k φ pc ls (zI n :: st) d := by
  intro p ee s m args below meth c hC h0 H locs A hH hS hl
  have hk := hh p ee s m args below meth c hC h0 H locs A hH hS hl
  exact lv_i2l hC.1 hC.2.1 hd (Int32.toInt64_ofInt (by have := hr.1; exact this) (by have := hr.2; exact this)) hk
theorem z_ldc2 {idx : Nat} {n : Int} {v : Int64} (hv : v = Int64.ofInt n) (w1 : Cond.constantLong (kown k) idx v ∈ GW) (hd : decode (kcode k) pc = .ok (.ldc2_w idx, 3)) (hh : Fr g e k φ (pc + 3) ls (zL n :: st) d) : Fr g e k φ pc ls st d := by
  subst hv
  intro p ee s m args below meth c hC h0 H locs A hH hS hl
  have hk := hh p ee s m args below meth c hC h0 H locs A hH hS hl
  exact lv_ldc2 hC.1 hC.2.1 hC.2.2.2.2.1 (hC.2.2.2.2.2.1 _ w1) hd hk
theorem l_mask8 {n : Int} (h : 0 ≤ n ∧ n < 18446744073709551616) : Int64.ofInt n &&& Int64.ofInt 255 = Int64.ofInt (n % 256) := by
  rw [show Int64.ofInt 255 = lN (2 ^ 8 - 1) from by decide +kernel, l_nat h.1, l_nat (show 0 ≤ n % 256 by omega), wb_mask (by omega) (by decide)]
  congr 1
  omega
theorem l_mask32 {n : Int} (h : 0 ≤ n ∧ n < 18446744073709551616) : Int64.ofInt n &&& Int64.ofInt 4294967295 = Int64.ofInt (n % 4294967296) := by
  rw [show Int64.ofInt 4294967295 = lN (2 ^ 32 - 1) from by decide +kernel, l_nat h.1, l_nat (show 0 ≤ n % 4294967296 by omega), wb_mask (by omega) (by decide)]
  congr 1
  omega
theorem z_land {x y r : Int} (hr : Int64.ofInt x &&& Int64.ofInt y = Int64.ofInt r) (hd : decode (kcode k) pc = .ok (.land, 1)) (hh : Fr g e k φ (pc + 1) ls (zL r :: st) d) : Fr g e k φ pc ls (zL y :: zL x :: st) d := by
  intro p ee s m args below meth c hC h0 H locs A hH hS hl
  have hk := hh p ee s m args below meth c hC h0 H locs A hH hS hl
  exact lv_land hC.1 hC.2.1 hd (W.eq (by show F0 m (pc + 1) A (.long (Int64.ofInt x &&& Int64.ofInt y) :: _) = _; rw [hr]; rfl) hk)
theorem z_lor {x y r : Int} (hr : Int64.ofInt x ||| Int64.ofInt y = Int64.ofInt r) (hd : decode (kcode k) pc = .ok (.lor, 1)) (hh : Fr g e k φ (pc + 1) ls (zL r :: st) d) : Fr g e k φ pc ls (zL y :: zL x :: st) d := by
  intro p ee s m args below meth c hC h0 H locs A hH hS hl
  have hk := hh p ee s m args below meth c hC h0 H locs A hH hS hl
  exact lv_lor hC.1 hC.2.1 hd (W.eq (by show F0 m (pc + 1) A (.long (Int64.ofInt x ||| Int64.ofInt y) :: _) = _; rw [hr]; rfl) hk)
theorem z_lshl32 {x r : Int} (hr : Int64.ofInt x <<< ((Int32.ofInt 32).toInt64 &&& 63) = Int64.ofInt r) (hd : decode (kcode k) pc = .ok (.lshl, 1)) (hh : Fr g e k φ (pc + 1) ls (zL r :: st) d) : Fr g e k φ pc ls (zI 32 :: zL x :: st) d := by
  intro p ee s m args below meth c hC h0 H locs A hH hS hl
  have hk := hh p ee s m args below meth c hC h0 H locs A hH hS hl
  exact lv_lshl hC.1 hC.2.1 hd hr hk
theorem z_lushr {n s0 : Int} (h : 0 ≤ n ∧ n < 18446744073709551616) (hs : 0 ≤ s0 ∧ s0 < 64) (hd : decode (kcode k) pc = .ok (.lushr, 1)) (hh : Fr g e k φ (pc + 1) ls (zL (n / 2 ^ s0.toNat) :: st) d) : Fr g e k φ pc ls (zI s0 :: zL n :: st) d := by
  intro p ee s m args below meth c hC h0 H locs A hH hS hl
  have hk := hh p ee s m args below meth c hC h0 H locs A hH hS hl
  refine lv_lushr (v := Int64.ofInt (n / 2 ^ s0.toNat)) hC.1 hC.2.1 hd ?_ hk
  obtain ⟨a, rfl⟩ := Int.eq_ofNat_of_zero_le h.1
  obtain ⟨b, rfl⟩ := Int.eq_ofNat_of_zero_le hs.1
  show ((Int64.ofInt (a : Int)).toUInt64 >>> ((Int32.ofInt (b : Int)).toInt64.toUInt64 &&& Int64.toUInt64 63)).toInt64 = _
  have e : ((a : Int) / 2 ^ ((b : Int)).toNat) = (((a / 2 ^ b : Nat)) : Int) := by
    rw [Int.toNat_natCast, Int.natCast_ediv, Int.natCast_pow]
    rfl
  rw [e, Int64.ofInt_eq_ofNat, Int64.ofInt_eq_ofNat, Int32.ofInt_eq_ofNat]
  exact wb_shr (by omega) (by omega)
theorem z_lcmp {x y : Int} (hx : 0 ≤ x ∧ x < 18446744073709551616) (hy : 0 ≤ y ∧ y < 18446744073709551616) (hd : decode (kcode k) pc = .ok (.lcmp, 1)) (hh : (x = y → Fr g e k φ (pc + 1) ls (zI 0 :: st) d) ∧ (x ≠ y → ∀ v : Int, inR v → v ≠ 0 → Fr g e k φ (pc + 1) ls (zI v :: st) d)) : Fr g e k φ pc ls (zL y :: zL x :: st) d := by
  intro p ee s m args below meth c hC h0 H locs A hH hS hl
  by_cases h : x = y
  · subst h
    have hk := hh.1 rfl p ee s m args below meth c hC h0 H locs A hH hS hl
    refine W.lcmp hC.1 hC.2.1 hd (W.eq ?_ hk)
    show F0 m (pc + 1) A (.int (lg_cmp (Int64.ofInt x) (Int64.ofInt x)) :: _) = _
    rw [show lg_cmp (Int64.ofInt x) (Int64.ofInt x) = 0 from by simp [lg_cmp]]
    rfl
  · have hne : Int64.ofInt x ≠ Int64.ofInt y := by
      intro q
      rw [l_nat hx.1, l_nat hy.1] at q
      have := congrArg (fun z : Int64 => z.toBitVec.toNat) q
      simp only [wb_tn (show x.toNat < 2 ^ 64 by omega), wb_tn (show y.toNat < 2 ^ 64 by omega)] at this
      omega
    have hk := hh.2 h (lg_cmp (Int64.ofInt x) (Int64.ofInt y)).toInt ⟨by have := Int32.le_toInt (lg_cmp (Int64.ofInt x) (Int64.ofInt y)); omega, by have := Int32.toInt_lt (lg_cmp (Int64.ofInt x) (Int64.ofInt y)); omega⟩ (by
      unfold lg_cmp
      split
      · decide
      · decide) p ee s m args below meth c hC h0 H locs A hH hS hl
    refine W.lcmp hC.1 hC.2.1 hd (W.eq ?_ hk)
    rw [List.map_cons, zval_I, Int32.ofInt_toInt]
    rfl
end
