-- THE ROW OF NUMBERS s (as the reference holds it) and what the document's words are of it
abbrev Row : Type := Int → Int
def wayd (δ : Int) : Int := if δ = 1 then 0 else if δ = 20 then 1 else if δ = -1 then 2 else 3
def way (s : Row) (i : Int) : Int := wayd (s (5 + i + 1) - s (5 + i))
theorem wayd_range (δ : Int) : 0 ≤ wayd δ ∧ wayd δ < 4 := by unfold wayd; grind
theorem way_range (s : Row) (i : Int) : 0 ≤ way s i ∧ way s i < 4 := wayd_range _
theorem stp_range (c w : Int) : -1 ≤ stp c w ∧ stp c w < 240 := by unfold stp; grind
theorem stp_wayd {c w : Int} (hw : 0 ≤ w ∧ w < 4) (h : stp c w ≠ -1) : wayd (stp c w - c) = w := by
  unfold stp at h ⊢; unfold wayd; grind
theorem stp_inj {c w w' : Int} (h : stp c w ≠ -1) (hh : stp c w = stp c w') (hw : 0 ≤ w ∧ w < 4) (hw' : 0 ≤ w' ∧ w' < 4) : w = w' := by
  unfold stp at h hh; grind
theorem stp_back {c w : Int} (hc : 0 ≤ c ∧ c < 240) (hw : 0 ≤ w ∧ w < 4) (h : stp c w ≠ -1) : stp (stp c w) ((w + 2) % 4) = c := by
  have : (w = 0 ∨ w = 1 ∨ w = 2 ∨ w = 3) := by omega
  rcases this with rfl | rfl | rfl | rfl <;> (unfold stp at h ⊢; grind)
theorem stp_inj2 {c c' w : Int} (hc : 0 ≤ c ∧ c < 240) (hc' : 0 ≤ c' ∧ c' < 240) (hw : 0 ≤ w ∧ w < 4) (h : stp c w ≠ -1) (hh : stp c w = stp c' w) : c = c' := by
  have h1 := stp_back hc hw h
  have h2 := stp_back hc' hw (by rw [← hh]; exact h)
  rw [← h1, ← h2, hh]
/-- neighbours -/
def nbr (c c' : Int) : Prop := stp c (wayd (c' - c)) = c' ∧ c' ≠ -1
theorem nbr_of {c w : Int} (hw : 0 ≤ w ∧ w < 4) (h : stp c w ≠ -1) : nbr c (stp c w) := by
  unfold nbr
  rw [stp_wayd hw h]
  exact ⟨rfl, h⟩
theorem nbr_symm {c c' : Int} (hc : 0 ≤ c ∧ c < 240) (h : nbr c c') : nbr c' c := by
  unfold nbr at h ⊢
  have hw := wayd_range (c' - c)
  have h1 := stp_back hc hw (by rw [h.1]; exact h.2)
  rw [h.1] at h1
  refine ⟨?_, by omega⟩
  have h2 : wayd (c - c') = (wayd (c' - c) + 2) % 4 := by
    have := stp_wayd (c := c') (w := (wayd (c' - c) + 2) % 4) (by omega) (by rw [h1]; omega)
    rw [h1] at this
    exact this
  rw [h2]
  exact h1
theorem sq_key : ∀ n, n < 39 → ∀ m, m < 23 → ((((n : Nat) : Int) - 19) * ((n : Int) - 19) + (((m : Nat) : Int) - 11) * ((m : Int) - 11) = 1 ↔ (((n : Int) - 19 = 0 ∧ ((m : Int) - 11 = 1 ∨ (m : Int) - 11 = -1)) ∨ ((m : Int) - 11 = 0 ∧ ((n : Int) - 19 = 1 ∨ (n : Int) - 19 = -1)))) := by decide +kernel
theorem wayd_cases (δ : Int) : (δ = 1 ∧ wayd δ = 0) ∨ (δ = 20 ∧ wayd δ = 1) ∨ (δ = -1 ∧ wayd δ = 2) ∨ (δ ≠ 1 ∧ δ ≠ 20 ∧ δ ≠ -1 ∧ wayd δ = 3) := by unfold wayd; grind
theorem stp0 {c : Int} (hc : 0 ≤ c ∧ c < 240) : stp c 0 = if c % 20 < 19 then c + 1 else -1 := by unfold stp; rw [if_pos hc]; rfl
theorem stp1 {c : Int} (hc : 0 ≤ c ∧ c < 240) : stp c 1 = if c + 20 < 240 then c + 20 else -1 := by unfold stp; rw [if_pos hc]; rfl
theorem stp2 {c : Int} (hc : 0 ≤ c ∧ c < 240) : stp c 2 = if 0 < c % 20 then c - 1 else -1 := by unfold stp; rw [if_pos hc]; rfl
theorem stp3 {c : Int} (hc : 0 ≤ c ∧ c < 240) : stp c 3 = if 20 ≤ c then c - 20 else -1 := by unfold stp; rw [if_pos hc]; rfl
theorem nbr_cases {a b : Int} (ha : 0 ≤ a ∧ a < 240) (hb : 0 ≤ b ∧ b < 240) : nbr a b ↔ ((b = a + 1 ∧ a % 20 < 19) ∨ b = a + 20 ∨ (b = a - 1 ∧ 0 < a % 20) ∨ b = a - 20) := by
  unfold nbr
  rcases wayd_cases (b - a) with ⟨h1, h2⟩ | ⟨h1, h2⟩ | ⟨h1, h2⟩ | ⟨h1, h1', h1'', h2⟩ <;> rw [h2]
  · rw [stp0 ha]; split <;> omega
  · rw [stp1 ha]; split <;> omega
  · rw [stp2 ha]; split <;> omega
  · rw [stp3 ha]; split <;> omega
theorem nbr_iff {a b : Int} (ha : 0 ≤ a ∧ a < 240) (hb : 0 ≤ b ∧ b < 240) : nbr a b ↔ (a % 20 - b % 20) * (a % 20 - b % 20) + (a / 20 - b / 20) * (a / 20 - b / 20) = 1 := by
  have key := sq_key (a % 20 - b % 20 + 19).toNat (by omega) (a / 20 - b / 20 + 11).toNat (by omega)
  rw [Int.toNat_of_nonneg (by omega), Int.toNat_of_nonneg (by omega)] at key
  simp only [Int.add_sub_cancel] at key
  rw [key, nbr_cases ha hb]
  omega
