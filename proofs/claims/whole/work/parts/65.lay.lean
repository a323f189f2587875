section
variable {g : zGG} {Q : Int → zMem → Prop} {a : Nat} {φ : zPhi}
theorem s_clear1 {d : zMem} (ha : isRiv a) (h0 : a + 4 < φ.1) (hw0 : φ.2 (a + 2) 0 = true) (hw1 : φ.2 (a + 2) 1 = true) (hQ : ∀ d', (∀ q, q ≠ a + 2 → q ≠ a + 4 → d' q = d q) → d' (a + 2) 2 = 0 → (∀ c, 0 ≤ c → c < 240 → d' (a + 4) c = -1) → Q 0 d') : Ev g M_X1_clear φ φ [zR (a + 2)] d Q := by
  apply e_X1_clear ha h0 hw0 hw1
  intro d1 e1
  apply s_fill (rl4 ha) h0 (by omega)
  intro d2 b2 v2
  exact hQ d2 (fun q q0 q1 => by rw [b2 q q1, e1, mu_ne q0]) (by rw [b2 (a + 2) (by omega), e1, mu_get]) (fun c c0 c1 => v2 c c0 (by omega))
theorem s_clear4 {d : zMem} (ha : isRiv a) (h0 : a + 9 < φ.1) (hw0 : φ.2 (a + 5) 0 = true) (hQ : ∀ d', (∀ q, q ≠ a + 5 → q ≠ a + 6 → d' q = d q) → d' (a + 5) 4 = 0 → (∀ c, 0 ≤ c → c < 240 → d' (a + 6) c = -1) → Q 0 d') : Ev g M_X4_clear φ φ [zR (a + 5)] d Q := by
  apply e_X4_clear ha h0 hw0
  intro d1 e1
  apply s_fill (rl6 ha) (by omega) (by omega)
  intro d2 b2 v2
  exact hQ d2 (fun q q0 q1 => by rw [b2 q q1, e1, mu_ne q0]) (by rw [b2 (a + 5) (by omega), e1, mu_get]) (fun c c0 c1 => v2 c c0 (by omega))
theorem s_append {d : zMem} {x len : Int} (ha : isRiv a) (h0 : a + 4 < φ.1) (hw0 : φ.2 (a + 2) 0 = true) (hw1 : φ.2 (a + 2) 1 = true) (hx : inR x) (hl : d (a + 2) 2 = len) (hlr : 0 ≤ len ∧ len ≤ 150) (hn : 0 ≤ x → x < 240 → inR (d (a + 4) x))
    (h1 : (0 ≤ x ∧ x < 240) → d (a + 4) x = -1 → len < 150 → Q 1 (mu (mu (mu d (a + 3) len x) (a + 4) x len) (a + 2) 2 (len + 1))) (hF : ¬ ((0 ≤ x ∧ x < 240) ∧ d (a + 4) x = -1 ∧ len < 150) → Q 0 d) : Ev g M_X1_append φ φ [zR (a + 2), zI x] d Q := by
  apply e_X1_append ha h0 hw0 hw1
  apply s_isOnLand hx
  by_cases c : 0 ≤ x ∧ x < 240
  · rw [if_pos c, hl]
    refine ⟨by decide, fun z => absurd z (by decide), fun _ => ⟨c, ⟨hn c.1 c.2, fun q => hF (fun z => q z.2.1), fun q => ⟨⟨by omega, by omega⟩, fun z => by omega, fun _ => ⟨⟨by omega, by omega⟩, fun q2 => ⟨⟨hlr.1, q2⟩, fun d2 e2 => ⟨c, fun d3 e3 d4 e4 => ?_⟩⟩, fun q2 => hF (fun z => by omega)⟩⟩⟩⟩⟩
    subst e2
    subst e3
    subst e4
    exact h1 c q q2
  · rw [if_neg c]
    exact ⟨by decide, fun _ => hF (fun z => c z.1), fun z => absurd rfl z⟩
end
/-- m cells of the course are laid in the river a -/
def LI (d : zMem) (a : Nat) (c0 : Int) (ws : Int → Int) (m : Nat) : Prop := d (a + 2) 2 = m ∧ (∀ k : Nat, k < m → d (a + 3) k = cel c0 ws k ∧ d (a + 4) (cel c0 ws k) = k) ∧ ∀ c, 0 ≤ c → c < 240 → (∀ k : Nat, k < m → cel c0 ws k ≠ c) → d (a + 4) c = -1
theorem LI_range {d : zMem} {a m : Nat} {c0 : Int} {ws : Int → Int} (hm : m ≤ 150) (h : LI d a c0 ws m) (c : Int) (h0 : 0 ≤ c) (h1 : c < 240) : -1 ≤ d (a + 4) c ∧ d (a + 4) c < 150 := by
  by_cases e : ∃ k : Nat, k < m ∧ cel c0 ws k = c
  · obtain ⟨k, k0, k1⟩ := e
    have := (h.2.1 k k0).2
    rw [k1] at this
    rw [this]
    constructor <;> omega
  · have := h.2.2 c h0 h1 (fun k k0 k1 => e ⟨k, k0, k1⟩)
    rw [this]
    constructor <;> decide
theorem LI_step {d : zMem} {a m : Nat} {c0 x : Int} {ws : Int → Int} (h : LI d a c0 ws m) (hx : x = cel c0 ws m) (hn : ∀ k : Nat, k < m → cel c0 ws k ≠ cel c0 ws m) : LI (mu (mu (mu d (a + 3) m x) (a + 4) x m) (a + 2) 2 ((m : Int) + 1)) a c0 ws (m + 1) := by
  refine ⟨by rw [mu_get]; omega, fun k hk => ⟨?_, ?_⟩, fun c c0' c1 hc => ?_⟩
  · rw [mu_ne (by omega), mu_ne (by omega), mu_app, if_pos rfl]
    by_cases c : (k : Int) = m
    · rw [if_pos c, hx, show k = m by omega]
    · rw [if_neg c]
      exact (h.2.1 k (by omega)).1
  · rw [mu_ne (by omega), mu_app, if_pos rfl]
    by_cases c : k = m
    · rw [if_pos (by rw [hx, c]), c]
    · rw [if_neg (by rw [hx]; exact hn k (by omega)), mu_ne (by omega)]
      exact (h.2.1 k (by omega)).2
  · rw [mu_ne (by omega), mu_app, if_pos rfl, if_neg (by rw [hx]; exact fun e => hc m (by omega) e.symm), mu_ne (by omega)]
    exact h.2.2 c c0' c1 (fun k hk => hc k (by omega))
theorem LI_free {d : zMem} {a m : Nat} {c0 : Int} {ws : Int → Int} (hm : m ≤ 150) (h : LI d a c0 ws m) {c : Int} (h0 : 0 ≤ c) (h1 : c < 240) : d (a + 4) c = -1 ↔ ∀ k : Nat, k < m → cel c0 ws k ≠ c := by
  constructor
  · intro e k hk hc
    have := (h.2.1 k hk).2
    rw [hc, e] at this
    omega
  · exact h.2.2 c h0 h1
section
variable {g : zGG} {Q : Int → zMem → Prop} {a : Nat} {ws : Int → Int} {n : Nat}
theorem l_lay {d0 : zMem} {c0 : Int} (ha : isRiv a) (hc0 : 0 ≤ c0 ∧ c0 < 240) (hn : n + 1 ≤ 150) (h6 : d0 117 6 = n) (hws : ∀ k : Nat, k < n → d0 119 k = ws k ∧ 0 ≤ ws k ∧ ws k < 4)
    (h1 : lay c0 ws (n + 1) → ∀ d', but3 d0 d' a → LI d' a c0 ws (n + 1) → Q 1 d') (h0 : ¬ lay c0 ws (n + 1) → ∀ d', but3 d0 d' a → Q 0 d') :
    ∀ (r k : Nat) (d : zMem), n - k = r → k ≤ n → but3 d0 d a → lay c0 ws (k + 1) → LI d a c0 ws (k + 1) →
    Fr g (eM g M_X5_layCourse FUL FUL Q) M_X5_layCourse FUL 21 [some (zR 117), some (zR (a + 2)), some (zI (cel c0 ws k)), some (zI 1), some (zI (k : Int))] [] d := by
  have h125 : 117 < a ∨ a + 14 ≤ 117 := by unfold isRiv at ha; omega
  have h127 : 119 < a ∨ a + 14 ≤ 119 := by unfold isRiv at ha; omega
  intro r
  induction r with
  | zero =>
    intro k d hr hk hd hl hL
    have e : k = n := by omega
    subst e
    apply v_X5_layCourse_21 ha
    rw [hd 117 (by omega) (by omega) (by omega), h6]
    exact ⟨by decide, fun z => absurd z (by decide), fun _ => ⟨⟨⟨by omega, by omega⟩, ⟨by omega, by omega⟩⟩, fun _ => ⟨Or.inr rfl, h1 hl d hd hL⟩, fun z => by omega⟩⟩
  | succ r ih =>
    intro k d hr hk hd hl hL
    obtain ⟨w1, w2⟩ := hws k (by omega)
    have cr := cel_rng (ws := ws) hc0 k
    have hcn := (hl k (by omega)).1
    have sr := stp_range (cel c0 ws k) (ws k)
    have es : stp (cel c0 ws k) (ws k) = cel c0 ws (k + 1) := rfl
    apply v_X5_layCourse_21 ha
    rw [hd 117 (by omega) (by omega) (by omega), h6, hd 119 (by omega) (by omega) (by omega), w1]
    refine ⟨by decide, fun z => absurd z (by decide), fun _ => ⟨⟨⟨by omega, by omega⟩, ⟨by omega, by omega⟩⟩, fun z => by omega, fun _ => ⟨⟨by omega, by omega⟩, fun z => by omega, fun _ => ⟨⟨by omega, by omega⟩, ?_⟩⟩⟩⟩
    apply s_beside ⟨by omega, by omega⟩ ⟨by omega, by omega⟩
    rw [es]
    rw [es] at sr
    apply s_append ha (rlt4 ha) rfl rfl ⟨by omega, by omega⟩ hL.1 ⟨by omega, by omega⟩ (fun q0 q1 => by have := LI_range (by omega) hL _ q0 q1; constructor <;> omega)
    · intro q1 q2 q3
      have nf := (LI_free (by omega) hL q1.1 q1.2).mp q2
      have hl2 : lay c0 ws (k + 1 + 1) := lay_step.mpr ⟨hl, by omega, nf⟩
      rw [show (k : Int) + 1 = ((k + 1 : Nat) : Int) by omega]
      exact ih (k + 1) _ (by omega) (by omega) (fun q z2 z3 z4 => by rw [mu_ne z2, mu_ne z4, mu_ne z3, hd q z2 z3 z4]) hl2 (LI_step hL rfl nf)
    · intro hno
      have nl : ¬ lay c0 ws (n + 1) := by
        intro z
        have z1 := (z (k + 1) (by omega)).1
        have z2 := (z (k + 1) (by omega)).2
        exact hno ⟨⟨by omega, by omega⟩, (LI_free (by omega) hL (by omega) (by omega)).mpr (fun k' hk' => z2 k' hk'), by omega⟩
      apply v_X5_layCourse_21 ha
      exact ⟨by decide, fun _ => ⟨Or.inl rfl, h0 nl d hd⟩, fun z => absurd rfl z⟩
theorem c_layCourse {d : zMem} {x0 y0 : Int} (ha : isRiv a) (hx : 0 ≤ x0 ∧ x0 < 20) (hy : 0 ≤ y0 ∧ y0 < 12) (hn : n + 1 ≤ 150) (h4 : d 117 4 = x0) (h5 : d 117 5 = y0) (h6 : d 117 6 = n) (hws : ∀ k : Nat, k < n → d 119 k = ws k ∧ 0 ≤ ws k ∧ ws k < 4) (hlen : d (a + 2) 2 = 0) (hnum : ∀ c, 0 ≤ c → c < 240 → d (a + 4) c = -1)
    (h1 : lay (20 * y0 + x0) ws (n + 1) → ∀ d', but3 d d' a → LI d' a (20 * y0 + x0) ws (n + 1) → Q 1 d') (h0 : ¬ lay (20 * y0 + x0) ws (n + 1) → ∀ d', but3 d d' a → Q 0 d') : Ev g M_X5_layCourse FUL FUL [zR 117, zR (a + 2)] d Q := by
  have h125 : 117 < a ∨ a + 14 ≤ 117 := by unfold isRiv at ha; omega
  have h127 : 119 < a ∨ a + 14 ≤ 119 := by unfold isRiv at ha; omega
  apply e_X5_layCourse ha
  rw [h4, h5]
  apply s_cellAt ⟨by omega, by omega⟩ ⟨by omega, by omega⟩
  rw [if_pos (by omega), show y0 * 20 + x0 = 20 * y0 + x0 by omega]
  generalize hc : 20 * y0 + x0 = c0 at *
  have hc0 : 0 ≤ c0 ∧ c0 < 240 := by omega
  have L0 : LI d a c0 ws 0 := ⟨by rw [hlen]; rfl, fun k hk => by omega, fun c q0 q1 _ => hnum c q0 q1⟩
  apply s_append ha (rlt4 ha) rfl rfl ⟨by omega, by omega⟩ hlen ⟨by omega, by omega⟩ (fun q0 q1 => by rw [hnum _ q0 q1]; decide)
  · intro q1 q2 q3
    have l1 : lay c0 ws (0 + 1) := lay_step.mpr ⟨fun k hk => by omega, by show c0 ≠ -1; omega, fun k hk => by omega⟩
    have L1 := LI_step (x := c0) L0 rfl (fun k hk => by omega)
    exact l_lay (d0 := d) ha hc0 hn h6 hws h1 h0 n 0 _ rfl (by omega) (fun q z2 z3 z4 => by rw [mu_ne z2, mu_ne z4, mu_ne z3]) l1 L1
  · intro hno
    exact absurd ⟨hc0, hnum _ hc0.1 hc0.2, by omega⟩ hno
end
-- the row after a text is read
def f_read (s : Row) (c0 : Int) (ws : Int → Int) (n : Nat) : Row := fun k => if k < 4 then s k else if k = 4 then (n : Int) + 1 else if k < 5 + ((n : Int) + 1) then cel c0 ws (k - 5).toNat else if 1115 ≤ k ∧ k < 1355 then -6 else 0
section
variable {s : Row} {c0 : Int} {ws : Int → Int} {n : Nat}
theorem read_4 : f_read s c0 ws n 4 = (n : Int) + 1 := by unfold f_read; rw [if_neg (by omega), if_pos rfl]
theorem read_lo {k : Int} (h : k < 4) : f_read s c0 ws n k = s k := by unfold f_read; rw [if_pos h]
theorem read_c {k : Int} (h0 : 0 ≤ k) (h1 : k < (n : Int) + 1) : f_read s c0 ws n (5 + k) = cel c0 ws k.toNat := by
  unfold f_read
  rw [if_neg (by omega), if_neg (by omega), if_pos (by omega), show 5 + k - 5 = k by omega]
theorem read_o {k : Int} (hn : n + 1 ≤ 150) (h0 : 1115 ≤ k) (h1 : k < 1355) : f_read s c0 ws n k = -6 := by
  unfold f_read
  rw [if_neg (by omega), if_neg (by omega), if_neg (by omega), if_pos ⟨h0, h1⟩]
theorem read_z {k : Int} (hn : n + 1 ≤ 150) (h0 : 155 ≤ k) (h1 : k < 1115 ∨ 1355 ≤ k) : f_read s c0 ws n k = 0 := by
  unfold f_read
  rw [if_neg (by omega), if_neg (by omega), if_neg (by omega), if_neg (by omega)]
theorem read_crs (hc0 : 0 ≤ c0 ∧ c0 < 240) (h1 : 1 ≤ n) (hn : n + 1 ≤ 150) (hws : ∀ k : Nat, k < n → 0 ≤ ws k ∧ ws k < 4) (hl : lay c0 ws (n + 1)) : crs (f_read s c0 ws n) := by
  refine ⟨by rw [read_4]; omega, fun i i0 i1 => ?_, fun i j i0 i1 j0 j1 he => ?_, fun i i0 i1 => ?_⟩
  · rw [read_4] at i1
    rw [read_c i0 i1]
    have := cel_rng (ws := ws) hc0 i.toNat
    have := (hl i.toNat (by omega)).1
    omega
  · rw [read_4] at i1 j1
    rw [read_c i0 i1, read_c j0 j1] at he
    rcases (show i < j ∨ i = j ∨ j < i by omega) with c | c | c
    · exact absurd he ((hl j.toNat (by omega)).2 i.toNat (by omega))
    · exact c
    · exact absurd he.symm ((hl i.toNat (by omega)).2 j.toNat (by omega))
  · rw [read_4] at i1
    rw [show 5 + i + 1 = 5 + (i + 1) by omega, read_c i0 (by omega), read_c (by omega) i1, show (i + 1).toNat = i.toNat + 1 by omega]
    have hz := (hl (i.toNat + 1) (by omega)).1
    have e : cel c0 ws (i.toNat + 1) = stp (cel c0 ws i.toNat) (ws i.toNat) := rfl
    rw [e] at hz ⊢
    exact nbr_of (hws i.toNat (by omega)) hz
theorem read_Inv (hS : IS s) (hc0 : 0 ≤ c0 ∧ c0 < 240) (h1 : 1 ≤ n) (hn : n + 1 ≤ 150) (hws : ∀ k : Nat, k < n → 0 ≤ ws k ∧ ws k < 4) (hl : lay c0 ws (n + 1)) : Inv (f_read s c0 ws n) := by
  have z : ∀ k, 155 ≤ k → (k < 1115 ∨ 1355 ≤ k) → f_read s c0 ws n k = 0 := fun k q0 q1 => read_z hn q0 q1
  refine ⟨read_crs hc0 h1 hn hws hl, ⟨by rw [z 1355 (by omega) (by omega)]; decide, fun c q0 q1 => Or.inl (read_o hn (by omega) (by omega)), fun o q0 q1 => ?_⟩, fun o q0 q1 => ?_, ⟨fun c q0 q1 => ?_, fun k q0 q1 => ?_⟩, IS_same (fun k _ q1 => read_lo q1) hS, ⟨by rw [z 1395 (by omega) (by omega)]; decide, fun k q0 q1 => ?_, fun k k' q0 q1 => ?_, by rw [z 1404 (by omega) (by omega)]; decide⟩⟩
  · rw [z 1355 (by omega) (by omega)] at q1; omega
  · rw [z 1355 (by omega) (by omega)] at q1; omega
  · rw [z (155 + c) (by omega) (by omega), z (395 + c) (by omega) (by omega)]
    decide
  · rw [z (635 + k) (by omega) (by omega), z 1404 (by omega) (by omega)]
    decide
  · rw [z 1395 (by omega) (by omega)] at q1; omega
  · rw [z 1395 (by omega) (by omega)] at q1; omega
theorem read_RC {d : zMem} {a : Nat} (hc : crs (f_read s c0 ws n)) (h : LI d a c0 ws (n + 1)) : RC d a (f_read s c0 ws n) := by
  refine ⟨by rw [h.1, read_4]; omega, fun i i0 i1 => ?_, fun c q0 q1 => ?_⟩
  · rw [read_4] at i1
    rw [read_c i0 i1]
    have := (h.2.1 i.toNat (by omega)).1
    rw [Int.toNat_of_nonneg i0] at this
    exact this
  · by_cases e : ∃ k : Nat, k < n + 1 ∧ cel c0 ws k = c
    · obtain ⟨k, k0, k1⟩ := e
      have e1 := (h.2.1 k k0).2
      rw [k1] at e1
      have e2 := num_at hc (i := (k : Int)) (by omega) (by rw [read_4]; omega)
      rw [read_c (by omega) (by omega), Int.toNat_natCast, k1] at e2
      rw [e1, e2]
    · rw [h.2.2 c q0 q1 (fun k k0 k1 => e ⟨k, k0, k1⟩)]
      symm
      rw [num_iff]
      rintro ⟨i, i0, i1, i2⟩
      rw [read_4] at i1
      rw [read_c i0 i1] at i2
      exact e ⟨i.toNat, by omega, i2⟩
end
