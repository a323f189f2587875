-- counting
theorem sig_snoc {r : Int → Int} : ∀ (n : Nat) (k v : Int), sig r (n + 1) k v = sig r n k v + r (k + n)
  | 0, k, v => by show v + r k = v + r (k + ((0 : Nat) : Int)); rw [Int.natCast_zero, Int.add_zero]
  | n + 1, k, v => by
    show sig r (n + 1) (k + 1) (v + r k) = sig r n (k + 1) (v + r k) + r (k + ((n + 1 : Nat) : Int))
    rw [sig_snoc n (k + 1) (v + r k), show k + 1 + (n : Int) = k + ((n + 1 : Nat) : Int) by omega]
/-- the sum of a row's numbers before a place -/
def upto (r : Int → Int) (p : Int) : Int := sig r p.toNat 0 0
theorem upto_0 {r : Int → Int} : upto r 0 = 0 := rfl
theorem upto_succ {r : Int → Int} {p : Int} (h : 0 ≤ p) : upto r (p + 1) = upto r p + r p := by
  unfold upto
  rw [show (p + 1).toNat = p.toNat + 1 by omega, sig_snoc, show (0 : Int) + (p.toNat : Int) = p by omega]
theorem upto_flat {r : Int → Int} {p : Int} (h0 : 0 ≤ p) : ∀ (n : Nat) (q : Int), q - p = n → (∀ j, p ≤ j → j < q → r j = 0) → upto r q = upto r p
  | 0, q, hn, _ => by rw [show q = p by omega]
  | n + 1, q, hn, h => by
    have := upto_flat (r := r) h0 n (q - 1) (by omega) (fun j q1 q2 => h j q1 (by omega))
    rw [show q = (q - 1) + 1 by omega, upto_succ (by omega), this, h (q - 1) (by omega) (by omega), Int.add_zero]
theorem upto_mono {r : Int → Int} {p : Int} (h0 : 0 ≤ p) (hr : ∀ j, 0 ≤ r j) : ∀ (n : Nat) (q : Int), q - p = n → upto r p ≤ upto r q
  | 0, q, hn => by rw [show q = p by omega]; exact Int.le_refl _
  | n + 1, q, hn => by
    have := upto_mono (r := r) h0 hr n (q - 1) (by omega)
    have h2 := hr (q - 1)
    rw [show q = (q - 1) + 1 by omega, upto_succ (by omega)]
    omega
noncomputable def b01 (s : Row) (i : Int) : Int := @ite Int (∃ l, bd s i l) (Classical.propDecidable _) 1 0
theorem b01_1 {s : Row} {i l : Int} (h : bd s i l) : b01 s i = 1 := by unfold b01; rw [if_pos ⟨l, h⟩]
theorem b01_0 {s : Row} {i : Int} (h : ∀ l, ¬ bd s i l) : b01 s i = 0 := by unfold b01; rw [if_neg (fun ⟨l, z⟩ => h l z)]
theorem b01_pos (s : Row) (j : Int) : 0 ≤ b01 s j := by
  unfold b01
  split <;> decide
/-- how many bends begin before a place -/
noncomputable def cB (s : Row) (p : Int) : Int := upto (b01 s) p
theorem cB_step {s : Row} {f l : Int} (h : bd s f l) : cB s (f + 1) = cB s f + 1 := by
  have := h.1
  unfold cB
  rw [upto_succ (by omega), b01_1 h]
theorem cB_flat {s : Row} {p q : Int} (h0 : 0 ≤ p) (hpq : p ≤ q) (h : ∀ j, p ≤ j → j < q → ∀ l, ¬ bd s j l) : cB s q = cB s p :=
  upto_flat h0 (q - p).toNat q (by omega) (fun j q1 q2 => b01_0 (h j q1 q2))
theorem cB_mono {s : Row} {p q : Int} (h0 : 0 ≤ p) (hpq : p ≤ q) : cB s p ≤ cB s q := upto_mono h0 (b01_pos s) (q - p).toNat q (by omega)
theorem cB_inj {s : Row} {f f' l l' : Int} (h : bd s f l) (h' : bd s f' l') (e : cB s f = cB s f') : f = f' := by
  have a := h.1
  have a' := h'.1
  rcases (show f < f' ∨ f = f' ∨ f' < f by omega) with c | c | c
  · have := cB_mono (s := s) (p := f + 1) (q := f') (by omega) (by omega)
    rw [cB_step h] at this
    omega
  · exact c
  · have := cB_mono (s := s) (p := f' + 1) (q := f) (by omega) (by omega)
    rw [cB_step h'] at this
    omega
/-- the reference's list has the bends under their numbers -/
theorem Bends_num {d : zMem} {s : Row} (hB : Bends d s) : ∀ (n : Nat), (n : Int) < d 153 11 → cB s (d 160 n) = n
  | 0, hn => by
    have h0 := (hB.2.1 0 (by omega) (by omega)).1
    have : cB s (d 160 ((0 : Nat) : Int)) = cB s 0 := cB_flat (by omega) (by show 0 ≤ d 160 0; omega) (fun j q1 q2 l z => by
      obtain ⟨b', k1, k2, k3⟩ := hB.2.2.2.1 j l z
      have q2' : j < d 160 0 := q2
      rcases (show b' = 0 ∨ 0 < b' by omega) with c | c
      · subst c; omega
      · have := hB.2.2.1 0 b' (by omega) c k2; omega)
    rw [this]; rfl
  | n + 1, hn => by
    have ih := Bends_num hB n (by omega)
    have hb := hB.2.1 n (by omega) (by omega)
    have hlt := hB.2.2.1 n ((n + 1 : Nat) : Int) (by omega) (by omega) hn
    have b1 := hb.1
    have : cB s (d 160 ((n + 1 : Nat) : Int)) = cB s (d 160 n + 1) := cB_flat (by omega) (by omega) (fun j q1 q2 l z => by
      obtain ⟨b', k1, k2, k3⟩ := hB.2.2.2.1 j l z
      rcases (show b' ≤ n ∨ b' = ((n + 1 : Nat) : Int) ∨ ((n + 1 : Nat) : Int) < b' by omega) with c | c | c
      · rcases (show b' = n ∨ b' < n by omega) with c2 | c2
        · subst c2; omega
        · have := hB.2.2.1 b' n k1 c2 (by omega); omega
      · subst c; omega
      · have := hB.2.2.1 ((n + 1 : Nat) : Int) b' (by omega) c k2; omega)
    rw [this, cB_step hb, ih]
    omega
