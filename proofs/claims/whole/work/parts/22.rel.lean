theorem mu_app (d : zMem) (a : Nat) (i v : Int) (k : Nat) (j : Int) : mu d a i v k j = if k = a then (if j = i then v else d a j) else d k j := by
  unfold mu mrow rup
  by_cases h : k = a
  · rw [if_pos h, if_pos h]
  · rw [if_neg h, if_neg h]
theorem mrow_app (d : zMem) (a : Nat) (r : Int → Int) (k : Nat) (j : Int) : mrow d a r k j = if k = a then r j else d k j := by
  unfold mrow
  by_cases h : k = a
  · rw [if_pos h, if_pos h]
  · rw [if_neg h, if_neg h]
def on (s : Row) (c : Int) : Prop := ∃ i, 0 ≤ i ∧ i < s 4 ∧ s (5 + i) = c
noncomputable def num (s : Row) (c : Int) : Int := @dite Int (on s c) (Classical.propDecidable _) (fun h => Classical.choose h) (fun _ => -1)
def crs (s : Row) : Prop := (2 ≤ s 4 ∧ s 4 ≤ 150) ∧ (∀ i, 0 ≤ i → i < s 4 → 0 ≤ s (5 + i) ∧ s (5 + i) < 240) ∧ (∀ i j, 0 ≤ i → i < s 4 → 0 ≤ j → j < s 4 → s (5 + i) = s (5 + j) → i = j) ∧ (∀ i, 0 ≤ i → i + 1 < s 4 → nbr (s (5 + i)) (s (5 + i + 1)))
theorem num_on {s : Row} {c : Int} (h : on s c) : 0 ≤ num s c ∧ num s c < s 4 ∧ s (5 + num s c) = c := by
  have e : num s c = Classical.choose h := by unfold num; rw [dif_pos h]
  rw [e]
  exact Classical.choose_spec h
theorem num_off {s : Row} {c : Int} (h : ¬ on s c) : num s c = -1 := by unfold num; rw [dif_neg h]
theorem num_at {s : Row} (hs : crs s) {i : Int} (h0 : 0 ≤ i) (h1 : i < s 4) : num s (s (5 + i)) = i := by
  have h : on s (s (5 + i)) := ⟨i, h0, h1, rfl⟩
  obtain ⟨g0, g1, g2⟩ := num_on h
  exact hs.2.2.1 _ _ g0 g1 h0 h1 g2
theorem num_range (s : Row) (hs : crs s) (c : Int) : -1 ≤ num s c ∧ num s c < s 4 := by
  by_cases h : on s c
  · have := num_on h; omega
  · rw [num_off h]; have := hs.1; omega
theorem num_iff {s : Row} {c : Int} : num s c = -1 ↔ ¬ on s c := by
  constructor
  · intro h q
    have := num_on q
    omega
  · exact num_off
def own (x : Int) : Int := if x = -6 then -1 else x
def RC (d : zMem) (a : Nat) (s : Row) : Prop := d (a + 2) 2 = s 4 ∧ (∀ i, 0 ≤ i → i < s 4 → d (a + 3) i = s (5 + i)) ∧ (∀ c, 0 ≤ c → c < 240 → d (a + 4) c = num s c)
def RX (d : zMem) (a : Nat) (s : Row) : Prop := (∀ c, 0 ≤ c → c < 240 → d (a + 6) c = own (s (1115 + c))) ∧ d (a + 5) 4 = s 1355 ∧ (∀ o, 0 ≤ o → o < s 1355 → d (a + 8) o = s (1356 + 3 * o) ∧ d (a + 9) o = s (1356 + 3 * o + 1) ∧ d (a + 7) o = s (1356 + 3 * o + 2))
def RS (d : zMem) (a : Nat) (s : Row) : Prop := ∀ k, 0 ≤ k → k < 4 → d (a + 1) k = s k
def RW (d : zMem) (a : Nat) (s : Row) : Prop := (∀ c, 0 ≤ c → c < 240 → d (a + 10) c = s (155 + c) ∧ d (a + 11) c = s (395 + c)) ∧ (∀ k, 0 ≤ k → k < 480 → d (a + 12) k = s (635 + k))
def RF (d : zMem) (a : Nat) (s : Row) : Prop := d a 7 = s 1395 ∧ (∀ k, 0 ≤ k → k < s 1395 → d (a + 13) k = s (1396 + k)) ∧ d a 8 = s 1404 ∧ d a 9 = s 1405 ∧ d a 10 = s 1406
def Rel (d : zMem) (a : Nat) (s : Row) : Prop := RS d a s ∧ RC d a s ∧ RX d a s ∧ RW d a s ∧ RF d a s
-- the class's course, read
section
variable {g : zGG} {Q : Int → zMem → Prop} {d : zMem} {a : Nat} {s : Row}
theorem c_cellOf {x : Int} (ha : isRiv a) (hR : RC d a s) (hs : crs s) (hx : inR x) (h : Q (if 0 ≤ x ∧ x < s 4 then s (5 + x) else -1) d) : Ev g M_X1_cellOf FUL FUL [zR (a + 2), zI x] d Q := by
  apply s_cellOf ha hx (by rw [hR.1]; have := hs.1; omega)
  rw [hR.1]
  by_cases hc : 0 ≤ x ∧ x < s 4
  · rw [if_pos hc] at h ⊢
    rw [hR.2.1 x hc.1 hc.2]
    exact h
  · rw [if_neg hc] at h ⊢
    exact h
theorem s_numberOf {x : Int} (ha : isRiv a) (hx : inR x) (h : Q (if 0 ≤ x ∧ x < 240 then d (a + 4) x else -1) d) : Ev g M_X1_numberOf FUL FUL [zR (a + 2), zI x] d Q := by
  apply e_X1_numberOf ha
  apply s_isOnLand hx
  grind
theorem c_numberOf {x : Int} (ha : isRiv a) (hR : RC d a s) (hx : inR x) (h : Q (if 0 ≤ x ∧ x < 240 then num s x else -1) d) : Ev g M_X1_numberOf FUL FUL [zR (a + 2), zI x] d Q := by
  apply s_numberOf ha hx
  by_cases hc : 0 ≤ x ∧ x < 240
  · rw [if_pos hc] at h ⊢
    rw [hR.2.2 x hc.1 hc.2]
    exact h
  · rw [if_neg hc] at h ⊢
    exact h
/-- the number of the cell beside the cell of a number, or -1 -/
noncomputable def nbe (s : Row) (i w : Int) : Int := if stp (s (5 + i)) w = -1 then -1 else num s (stp (s (5 + i)) w)
theorem inR_cell {s : Row} (hs : crs s) {i : Int} (h0 : 0 ≤ i) (h1 : i < s 4) : inR (s (5 + i)) := by have := hs.2.1 i h0 h1; constructor <;> omega
theorem c_numberBeside {x w : Int} (ha : isRiv a) (hR : RC d a s) (hs : crs s) (hx : 0 ≤ x ∧ x < s 4) (hw : inR w) (h : Q (nbe s x w) d) : Ev g M_X1_numberBeside FUL FUL [zR (a + 2), zI x, zI w] d Q := by
  apply e_X1_numberBeside ha
  have h4 := hs.1
  apply c_cellOf ha hR hs ⟨by omega, by omega⟩
  rw [if_pos hx]
  apply s_beside (inR_cell hs hx.1 hx.2) hw
  have hr := stp_range (s (5 + x)) w
  apply c_numberOf ha hR ⟨by omega, by omega⟩
  unfold nbe at h
  by_cases hc : stp (s (5 + x)) w = -1
  · rw [if_pos hc] at h
    rw [if_neg (by omega)]
    exact h
  · rw [if_neg hc] at h
    rw [if_pos (by omega)]
    exact h
theorem c_wayFrom {x : Int} (ha : isRiv a) (hR : RC d a s) (hs : crs s) (hx : -1000 ≤ x ∧ x ≤ 1000) (h : Q (if 0 ≤ x ∧ x < s 4 - 1 then way s x else -1) d) : Ev g M_X1_wayFrom FUL FUL [zR (a + 2), zI x] d Q := by
  apply e_X1_wayFrom ha
  have h4 := hs.1
  apply c_cellOf ha hR hs ⟨by omega, by omega⟩
  apply c_cellOf ha hR hs ⟨by omega, by omega⟩
  by_cases hc : 0 ≤ x ∧ x < s 4 - 1
  · rw [if_pos hc] at h
    rw [if_pos (by omega), if_pos (by omega)]
    have c1 := hs.2.1 x (by omega) (by omega)
    have c2 := hs.2.1 (x + 1) (by omega) (by omega)
    unfold way wayd at h
    rw [show 5 + (x + 1) = 5 + x + 1 by omega] at c2 ⊢
    generalize s (5 + x + 1) = p at *
    generalize s (5 + x) = q at *
    grind
  · rw [if_neg hc] at h
    by_cases h1 : 0 ≤ x ∧ x < s 4
    · rw [if_pos h1, if_neg (by omega)]
      have c1 := hs.2.1 x (by omega) (by omega)
      generalize s (5 + x) = q at *
      grind
    · rw [if_neg h1]
      grind
end
