-- counting necks
noncomputable def n01 (s : Row) (i j : Int) : Int := @ite Int (neck s i j) (Classical.propDecidable _) 1 0
theorem n01_1 {s : Row} {i j : Int} (h : neck s i j) : n01 s i j = 1 := by unfold n01; rw [if_pos h]
theorem n01_0 {s : Row} {i j : Int} (h : ¬ neck s i j) : n01 s i j = 0 := by unfold n01; rw [if_neg h]
theorem n01_rng (s : Row) (i j : Int) : 0 ≤ n01 s i j ∧ n01 s i j ≤ 1 := by
  unfold n01
  split <;> decide
theorem upto_rng {r : Int → Int} {B : Int} (h : ∀ j, 0 ≤ r j ∧ r j ≤ B) (hB : 0 ≤ B) : ∀ n : Nat, 0 ≤ upto r n ∧ upto r n ≤ B * n
  | 0 => by
    have e : upto r ((0 : Nat) : Int) = 0 := rfl
    rw [e]
    exact ⟨Int.le_refl _, by rw [Int.natCast_zero, Int.mul_zero]; exact Int.le_refl _⟩
  | n + 1 => by
    have ih := upto_rng h hB n
    have hj := h (n : Int)
    have e : upto r ((n + 1 : Nat) : Int) = upto r n + r n := by
      rw [show ((n + 1 : Nat) : Int) = (n : Int) + 1 by omega, upto_succ (by omega)]
    have em : B * ((n + 1 : Nat) : Int) = B * n + B := by rw [show ((n + 1 : Nat) : Int) = (n : Int) + 1 by omega, Int.mul_add, Int.mul_one]
    rw [e, em]
    omega
noncomputable def nRow (s : Row) (i : Int) : Int := upto (n01 s i) 150
theorem nRow_rng (s : Row) (i : Int) : 0 ≤ nRow s i ∧ nRow s i ≤ 150 := by
  have := upto_rng (r := n01 s i) (B := 1) (n01_rng s i) (by decide) 150
  have e : upto (n01 s i) ((150 : Nat) : Int) = nRow s i := rfl
  rw [e] at this
  omega
/-- how many necks stand ahead of (i, j) -/
noncomputable def cN (s : Row) (i j : Int) : Int := upto (nRow s) i + upto (n01 s i) j
theorem cN_step {s : Row} {i j : Int} (h : neck s i j) : cN s i (j + 1) = cN s i j + 1 := by
  have := h.1
  have := h.2.1
  unfold cN
  rw [upto_succ (by omega), n01_1 h]
  omega
theorem cN_flat {s : Row} {i p q : Int} (h0 : 0 ≤ p) (hpq : p ≤ q) (h : ∀ j, p ≤ j → j < q → ¬ neck s i j) : cN s i q = cN s i p := by
  unfold cN
  rw [upto_flat h0 (q - p).toNat q (by omega) (fun j q1 q2 => n01_0 (h j q1 q2))]
theorem cN_next {s : Row} {i : Int} (h0 : 0 ≤ i) : cN s (i + 1) 0 = cN s i 150 := by
  unfold cN
  rw [upto_succ h0, upto_0, Int.add_zero]
  rfl
theorem cN_row {s : Row} {i j : Int} (h0 : 0 ≤ i) (hj : 0 ≤ j) (h4 : s 4 ≤ 150) (h : ∀ j', j ≤ j' → ¬ neck s i j') : cN s (i + 1) 0 = cN s i j := by
  rw [cN_next h0]
  rcases (show j ≤ 150 ∨ 150 ≤ j by omega) with c | c
  · exact cN_flat hj c (fun j' q1 _ => h j' q1)
  · exact (cN_flat (by omega) c (fun j' q1 _ z => by have := z.2.2.1; omega)).symm
theorem cN_mono {s : Row} {i p q : Int} (h0 : 0 ≤ p) (hpq : p ≤ q) : cN s i p ≤ cN s i q := by
  have := upto_mono (r := n01 s i) h0 (fun j => (n01_rng s i j).1) (q - p).toNat q (by omega)
  unfold cN
  omega
theorem cN_mono0 {s : Row} {i i' : Int} (h0 : 0 ≤ i) (h : i ≤ i') : cN s i 0 ≤ cN s i' 0 := by
  have := upto_mono (r := nRow s) h0 (fun j => (nRow_rng s j).1) (i' - i).toNat i' (by omega)
  unfold cN
  rw [upto_0, upto_0]
  omega
theorem cN_rng {s : Row} {i j : Int} (hi : 0 ≤ i ∧ i ≤ 150) (hj : 0 ≤ j ∧ j ≤ 1000) : 0 ≤ cN s i j ∧ cN s i j ≤ 30000 := by
  have a := upto_rng (r := nRow s) (B := 150) (nRow_rng s) (by decide) i.toNat
  have b := upto_rng (r := n01 s i) (B := 1) (n01_rng s i) (by decide) j.toNat
  rw [Int.toNat_of_nonneg hi.1] at a
  rw [Int.toNat_of_nonneg hj.1] at b
  unfold cN
  omega
theorem cN_lt {s : Row} {i j i' j' : Int} (h4 : s 4 ≤ 150) (h : neck s i j) (h' : neck s i' j') (hl : i < i' ∨ (i = i' ∧ j < j')) : cN s i j + 1 ≤ cN s i' j' := by
  obtain ⟨a1, a2, a3, a4⟩ := h
  obtain ⟨b1, b2, b3, b4⟩ := h'
  have e := cN_step (s := s) (i := i) (j := j) ⟨a1, a2, a3, a4⟩
  rcases hl with c | ⟨rfl, c⟩
  · have k1 := cN_mono (s := s) (i := i) (p := j + 1) (q := 150) (by omega) (by omega)
    have k2 := cN_next (s := s) a1
    have k3 := cN_mono0 (s := s) (i := i + 1) (i' := i') (by omega) (by omega)
    have k4 := cN_mono (s := s) (i := i') (p := 0) (q := j') (by omega) (by omega)
    omega
  · have k1 := cN_mono (s := s) (i := i) (p := j + 1) (q := j') (by omega) (by omega)
    omega
theorem cN_inj {s : Row} {i j i' j' : Int} (h4 : s 4 ≤ 150) (h : neck s i j) (h' : neck s i' j') (e : cN s i j = cN s i' j') : i = i' ∧ j = j' := by
  rcases (show (i < i' ∨ (i = i' ∧ j < j')) ∨ (i' < i ∨ (i' = i ∧ j' < j)) ∨ (i = i' ∧ j = j') by omega) with c | c | c
  · have := cN_lt h4 h h' c; omega
  · have := cN_lt h4 h' h c; omega
  · exact c
noncomputable def cNT (s : Row) : Int := cN s (s 4) 0
theorem cN_ltT {s : Row} {i j : Int} (h4 : s 4 ≤ 150) (h : neck s i j) : cN s i j < cNT s := by
  obtain ⟨a1, a2, a3, a4⟩ := h
  have e := cN_step (s := s) (i := i) (j := j) ⟨a1, a2, a3, a4⟩
  have k1 := cN_mono (s := s) (i := i) (p := j + 1) (q := 150) (by omega) (by omega)
  have k2 := cN_next (s := s) a1
  have k3 := cN_mono0 (s := s) (i := i + 1) (i' := s 4) (by omega) (by omega)
  unfold cNT
  omega
theorem cNT_rng {s : Row} (hs : crs s) : 0 ≤ cNT s ∧ cNT s ≤ 30000 := by
  have := hs.1
  exact cN_rng ⟨by omega, by omega⟩ ⟨by decide, by decide⟩
-- the ways that are left
def g01 (ab n : Int) : Int := if ab < n then 1 else 0
theorem g01_mono {ab v n : Int} (h : ab ≤ v) : g01 v n ≤ g01 ab n := by
  unfold g01
  by_cases c : v < n
  · rw [if_pos c, if_pos (by omega)]; exact Int.le_refl _
  · rw [if_neg c]; split <;> decide
theorem g01_rng (ab n : Int) : 0 ≤ g01 ab n ∧ g01 ab n ≤ 1 := by
  unfold g01
  split <;> decide
noncomputable def wLeft (s : Row) (i ab : Int) : Int := g01 ab (nbe s i 0) + g01 ab (nbe s i 1) + g01 ab (nbe s i 2) + g01 ab (nbe s i 3)
theorem wLeft_rng (s : Row) (i ab : Int) : 0 ≤ wLeft s i ab ∧ wLeft s i ab ≤ 4 := by
  have a := g01_rng ab (nbe s i 0)
  have b := g01_rng ab (nbe s i 1)
  have c := g01_rng ab (nbe s i 2)
  have d := g01_rng ab (nbe s i 3)
  unfold wLeft
  omega
theorem wLeft_step {s : Row} {i ab v : Int} (hab : ab < v) (h : ∃ u, 0 ≤ u ∧ u < 4 ∧ nbe s i u = v) : wLeft s i v + 1 ≤ wLeft s i ab := by
  obtain ⟨u, h0, h1, h2⟩ := h
  have a := g01_mono (ab := ab) (v := v) (n := nbe s i 0) (by omega)
  have b := g01_mono (ab := ab) (v := v) (n := nbe s i 1) (by omega)
  have c := g01_mono (ab := ab) (v := v) (n := nbe s i 2) (by omega)
  have d := g01_mono (ab := ab) (v := v) (n := nbe s i 3) (by omega)
  have z1 : g01 v v = 0 := by unfold g01; rw [if_neg (by omega)]
  have z2 : g01 ab v = 1 := by unfold g01; rw [if_pos hab]
  unfold wLeft
  rcases (show u = 0 ∨ u = 1 ∨ u = 2 ∨ u = 3 by omega) with e | e | e | e <;> subst e <;> rw [h2] at * <;> omega
theorem wLeft_0 {s : Row} {i ab : Int} (h : wLeft s i ab ≤ 0) {u : Int} (h0 : 0 ≤ u) (h1 : u < 4) : nbe s i u ≤ ab := by
  have a := g01_rng ab (nbe s i 0)
  have b := g01_rng ab (nbe s i 1)
  have c := g01_rng ab (nbe s i 2)
  have d := g01_rng ab (nbe s i 3)
  have z : ∀ n, g01 ab n = 0 → n ≤ ab := fun n q => by
    unfold g01 at q
    by_cases c : ab < n
    · rw [if_pos c] at q; exact absurd q (by decide)
    · omega
  unfold wLeft at h
  rcases (show u = 0 ∨ u = 1 ∨ u = 2 ∨ u = 3 by omega) with e | e | e | e <;> subst e <;> exact z _ (by omega)
section
variable {g : zGG} {Q : Int → zMem → Prop} {a : Nat} {s : Row}
/-- the class finds the neck with a number -/
theorem l_seekN {d : zMem} {k : Nat} {X : Int} (ha : isRiv a) (hk : isNk k) (hX : 0 ≤ X ∧ inR X) (hC : RC d a s) (hs : crs s)
    (h1 : ∀ i j, neck s i j → cN s i j = X → Q 1 (mu (mu d k 0 i) k 1 j)) (h0 : cNT s ≤ X → Q 0 d) :
    ∀ (n m : Nat) (i ot c t : Int), s 4 - i = n → 4 - t = m → 0 ≤ i → 0 ≤ t → t ≤ 4 → c ≤ X →
    (i < s 4 → i + 2 ≤ ot → ot ≤ 152 → c = cN s i (ot + 1) → wLeft s i ot ≤ 4 - t → Fr g (eM g M_X3_seekNumbered FUL FUL Q) M_X3_seekNumbered FUL 31 [some (zR k), some (zR (a + 2)), some (zI X), some (zI c), some (zI i), some (zI ot), some (zI t)] [] d) ∧ (t = 0 → c = cN s i 0 → Fr g (eM g M_X3_seekNumbered FUL FUL Q) M_X3_seekNumbered FUL 11 [some (zR k), some (zR (a + 2)), some (zI X), some (zI c), some (zI i), none, none] [] d)
  | n, m, i, ot, c, t, hn, hm, hi, ht0, ht4, hcX => by
    have h4 := hs.1
    have main : ∀ ot c, i < s 4 → i + 2 ≤ ot → ot ≤ 152 → c ≤ X → c = cN s i (ot + 1) → wLeft s i ot ≤ 4 - t → Fr g (eM g M_X3_seekNumbered FUL FUL Q) M_X3_seekNumbered FUL 31 [some (zR k), some (zR (a + 2)), some (zI X), some (zI c), some (zI i), some (zI ot), some (zI t)] [] d := by
      intro ot c hi4 ho1 ho2 hcX hc hw
      have nextRow : (∀ u, 0 ≤ u → u < 4 → nbe s i u ≤ ot) → Fr g (eM g M_X3_seekNumbered FUL FUL Q) M_X3_seekNumbered FUL 11 [some (zR k), some (zR (a + 2)), some (zI X), some (zI c), some (zI (i + 1)), none, none] [] d := by
        intro hno
        match n, hn with
        | 0, hn => omega
        | n + 1, hn =>
          refine (l_seekN ha hk hX hC hs h1 h0 n 4 (i + 1) 0 c 0 (by omega) (by omega) (by omega) (by omega) (by omega) hcX).2 rfl ?_
          rw [hc]
          symm
          refine cN_row hi (by omega) (by omega) (fun j' q z => ?_)
          obtain ⟨w, w0, w1, w2⟩ := neck_nbe hs z
          have := hno w w0 w1
          omega
      apply v_X3_seekNumbered_31 hk ha
      match m, hm with
      | 0, hm =>
        refine ⟨⟨by omega, by omega⟩, fun _ => nextRow (fun u u0 u1 => wLeft_0 (by omega) u0 u1), fun q => by omega⟩
      | m + 1, hm =>
        refine ⟨⟨by omega, by omega⟩, fun q => by omega, fun _ => ?_⟩
        apply c_nextBeside ha hC hs ⟨hi, hi4⟩ ⟨by omega, by omega⟩
        intro v hv
        rcases hv with ⟨e, hno⟩ | ⟨hlt, ⟨u, u0, u1, u2⟩, hmin⟩
        · rw [e]
          exact ⟨by decide, fun z => absurd rfl z, fun _ => nextRow hno⟩
        · have hr := nbe_range hs i u
          have hnk : neck s i v := by
            have := nbe_neck (s := s) (i := i) (w := u) hi ⟨u0, u1⟩ (by omega)
            rw [u2] at this
            exact this
          have ecv : cN s i v = c := by
            rw [hc]
            refine cN_flat (by omega) (by omega) (fun j' q1 q2 z => ?_)
            obtain ⟨w, w0, w1, w2⟩ := neck_nbe hs z
            have := hmin w w0 w1 (by omega)
            omega
          have hcr : inR c := by
            have := cN_rng (s := s) (i := i) (j := v) ⟨by omega, by omega⟩ ⟨by omega, by omega⟩
            constructor <;> omega
          refine ⟨⟨by omega, by omega⟩, fun _ => ⟨⟨hcr, hX.2⟩, fun z => ?_, fun z d2 hd2 d3 hd3 => ?_⟩, fun z => by omega⟩
          · refine (l_seekN ha hk hX hC hs h1 h0 n m i v (c + 1) (t + 1) hn (by omega) hi (by omega) (by omega) (by omega)).1 hi4 (by omega) (by omega) ?_ ?_
            · rw [cN_step hnk, ecv]
            · have := wLeft_step (s := s) (i := i) hlt ⟨u, u0, u1, u2⟩
              omega
          · subst hd2
            subst hd3
            exact h1 i v hnk (by rw [ecv, z])
    refine ⟨fun q1 q2 q3 q4 q5 => main ot c q1 q2 q3 hcX q4 q5, fun hw hc => ?_⟩
    apply v_X3_seekNumbered_11 hk ha
    apply e_X1_length ha
    rw [hC.1]
    refine ⟨⟨⟨by omega, by omega⟩, ⟨by omega, by omega⟩⟩, fun q => ?_, fun q => ?_⟩
    · refine h0 ?_
      unfold cNT
      rw [show s 4 = i by omega, ← hc]
      exact hcX
    · subst hw
      refine main _ c q (by omega) (by omega) hcX ?_ ?_
      · rw [hc]
        symm
        exact cN_flat (by omega) (by omega) (fun j' q1 q2 z => by have := z.2.1; omega)
      · have := wLeft_rng s i (i + 3 - 1)
        omega
termination_by n m => (n, m)
end
