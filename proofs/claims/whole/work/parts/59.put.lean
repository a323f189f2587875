-- characters in a number
def sh (n : Int) : Nat → Int
  | 0 => n
  | k + 1 => sh n k / 256
theorem sh_pow (n : Int) : ∀ k : Nat, sh n k = n / 2 ^ (8 * k)
  | 0 => by show n = n / 1; rw [Int.ediv_one]
  | k + 1 => by
    show sh n k / 256 = _
    rw [sh_pow n k, Int.ediv_ediv_of_nonneg (Int.pow_nonneg (by decide)), show 8 * (k + 1) = 8 * k + 8 by omega, Int.pow_add]
    rfl
theorem sh_int {n k : Int} (hk : 0 ≤ k) : n / 2 ^ (8 * k).toNat = sh n k.toNat := by
  rw [sh_pow, show (8 * k).toNat = 8 * k.toNat by omega]
theorem sh_rng {n : Int} (h : 0 ≤ n ∧ n < 18446744073709551616) : ∀ k : Nat, 0 ≤ sh n k ∧ sh n k ≤ n
  | 0 => ⟨h.1, Int.le_refl _⟩
  | k + 1 => by
    have := sh_rng h k
    show 0 ≤ sh n k / 256 ∧ sh n k / 256 ≤ n
    omega
theorem sh_8 {n : Int} (h : 0 ≤ n ∧ n < 18446744073709551616) : sh n 8 = 0 := by
  have e : sh n 8 = n / 256 / 256 / 256 / 256 / 256 / 256 / 256 / 256 := rfl
  rw [e]
  omega
theorem sh_z {n : Int} {m : Nat} (h : sh n m = 0) : ∀ j : Nat, sh n (m + j) = 0
  | 0 => h
  | j + 1 => by
    show sh n (m + j) / 256 = 0
    rw [sh_z h j]
    rfl
def byt (n : Int) (k : Nat) : Int := sh n k % 256
def okb (v : Int) : Prop := 33 ≤ v ∧ v ≤ 126
/-- the number holds just m characters -/
def hol (n : Int) (m : Nat) : Prop := (1 ≤ m ∧ m ≤ 8) ∧ (∀ k, k < m → okb (byt n k)) ∧ sh n m = 0
theorem hol_no {n : Int} {k : Nat} (h1 : ¬ okb (byt n k)) (h0 : k = 0 ∨ sh n k ≠ 0) (m : Nat) : ¬ hol n m := by
  rintro ⟨⟨a, b⟩, c, e⟩
  rcases Nat.lt_or_ge k m with q | q
  · exact h1 (c k q)
  · rcases h0 with z | z
    · omega
    · exact z (by have := sh_z e (k - m); rwa [show m + (k - m) = k by omega] at this)
theorem hol_uniq {n : Int} {m m' : Nat} (h : hol n m) (h' : hol n m') : m = m' := by
  have key : ∀ {m m' : Nat}, hol n m → hol n m' → ¬ m < m' := by
    intro m m' ⟨a, b, c⟩ ⟨a', b', c'⟩ q
    have := (b' m q).1
    unfold byt at this
    rw [c] at this
    exact absurd this (by decide)
  have := key h h'
  have := key h' h
  omega
theorem byt_rng (n : Int) (k : Nat) : 0 ≤ byt n k ∧ byt n k < 256 := by
  unfold byt
  omega
section
variable {g : zGG} {Q : Int → zMem → Prop}
theorem l_sizeOf {d : zMem} {n : Int} (hn : 0 ≤ n ∧ n < 18446744073709551616) (h1 : ∀ m : Nat, hol n m → Q m d) (h0 : (∀ m, ¬ hol n m) → Q 0 d) :
    ∀ (r k : Nat), 8 - k = r → k ≤ 8 → (∀ j, j < k → okb (byt n j)) →
    Fr g (eM g M_X5_sizeOf FUL FUL Q) M_X5_sizeOf FUL 4 [some (zL n), none, some (zI (k : Int)), some (zL (sh n k)), none, none] [] d := by
  intro r
  induction r with
  | zero =>
    intro k hr hk hv
    have : k = 8 := by omega
    subst this
    apply v_X5_sizeOf_4
    have e := sh_8 hn
    refine ⟨⟨by omega, by omega⟩, fun _ => ⟨⟨by omega, by omega⟩, fun _ => ?_, fun z => absurd e z⟩, fun z => by omega⟩
    exact h1 8 ⟨⟨by omega, by omega⟩, hv, e⟩
  | succ r ih =>
    intro k hr hk hv
    have hs := sh_rng hn k
    have hb := byt_rng n k
    apply v_X5_sizeOf_4
    refine ⟨⟨by omega, by omega⟩, fun z => by omega, fun _ => ⟨⟨by omega, by omega⟩, ⟨⟨by omega, by omega⟩, fun z => ?_, fun z => ?_⟩⟩⟩
    · refine ⟨⟨by omega, by omega⟩, fun q => ?_, fun q => ?_⟩
      · rcases Nat.eq_zero_or_pos k with c | c
        · subst c
          refine h0 (fun m => hol_no (k := 0) (fun w => ?_) (Or.inl rfl) m)
          have := w.1
          unfold byt at this
          omega
        · exact h1 k ⟨⟨c, hk⟩, hv, q⟩
      · refine h0 (fun m => hol_no (k := k) (fun w => ?_) (Or.inr q) m)
        have := w.1
        unfold byt at this
        omega
    · have hnz : sh n k ≠ 0 := fun q => z (by rw [q]; rfl)
      have bad : ¬ okb (byt n k) → Q 0 d := fun w => h0 (fun m => hol_no w (Or.inr hnz) m)
      have eb : sh n k % 256 = byt n k := rfl
      rw [eb]
      refine ⟨⟨by omega, by omega⟩, ⟨⟨by omega, by omega⟩, fun q => bad (fun w => by have := w.1; omega), fun q => ⟨⟨by omega, by omega⟩, fun q2 => ⟨⟨by omega, by omega⟩, ?_⟩, fun q2 => bad (fun w => by have := w.2; omega)⟩⟩⟩
      have e8 : sh n k / 2 ^ Int.toNat 8 = sh n (k + 1) := rfl
      rw [e8, show (k : Int) + 1 = ((k + 1 : Nat) : Int) by omega]
      refine ih (k + 1) (by omega) (by omega) (fun j hj => ?_)
      rcases (show j < k ∨ j = k by omega) with c | c
      · exact hv j c
      · subst c; exact ⟨q, q2⟩
theorem c_sizeOf {d : zMem} {n : Int} (hn : 0 ≤ n ∧ n < 18446744073709551616) (h1 : ∀ m : Nat, hol n m → Q m d) (h0 : (∀ m, ¬ hol n m) → Q 0 d) : Ev g M_X5_sizeOf FUL FUL [zL n] d Q := by
  apply e_X5_sizeOf
  exact l_sizeOf hn h1 h0 8 0 rfl (by omega) (fun j hj => by omega)
theorem l_append {d0 : zMem} {n L : Int} {m : Nat} (hn : 0 ≤ n ∧ n < 18446744073709551616) (hL : d0 117 2 = L) (hr : 0 ≤ L ∧ L + m ≤ 64) (hQ : ∀ d', but d0 d' 118 → (∀ p, d' 118 p = if L ≤ p ∧ p < L + m then byt n (L + m - 1 - p).toNat else d0 118 p) → ∀ d2, d2 = mu d' 117 2 (L + m) → Q 0 d2) :
    ∀ (r k : Nat) (d : zMem), m - k = r → k ≤ m → but d0 d 118 → (∀ p, d 118 p = if L + m - k ≤ p ∧ p < L + m then byt n (L + m - 1 - p).toNat else d0 118 p) →
    Fr g (eM g M_X5_append FUL FUL Q) M_X5_append FUL 13 [some (zR 117), some (zL n), none, some (zI (m : Int)), some (zL (sh n k)), none, some (zI (L + m - 1 - k))] [] d := by
  intro r
  induction r with
  | zero =>
    intro k d hk hkm hd hv
    have e : k = m := by omega
    subst e
    apply v_X5_append_13
    have e2 : d 117 2 = L := by rw [hd 117 (by omega), hL]
    rw [e2]
    refine ⟨⟨⟨by omega, by omega⟩, ⟨by omega, by omega⟩⟩, fun _ d1 hd1 => hQ d hd (fun p => ?_) d1 hd1, fun z => by omega⟩
    rw [hv p, show L + (k : Int) - k = L by omega]
  | succ r ih =>
    intro k d hk hkm hd hv
    have hs := sh_rng hn k
    apply v_X5_append_13
    have e2 : d 117 2 = L := by rw [hd 117 (by omega), hL]
    rw [e2]
    refine ⟨⟨⟨by omega, by omega⟩, ⟨by omega, by omega⟩⟩, fun z => by omega, fun _ => ⟨⟨by omega, by omega⟩, fun z => by omega, fun _ => ⟨⟨by omega, by omega⟩, fun z => by omega, fun _ => ⟨⟨by omega, by omega⟩, ⟨by omega, by omega⟩, fun d2 hd2 => ⟨⟨by omega, by omega⟩, ?_⟩⟩⟩⟩⟩
    have e8 : sh n k / 2 ^ Int.toNat 8 = sh n (k + 1) := rfl
    rw [e8, show L + (m : Int) - 1 - k + (-1) = L + m - 1 - ((k + 1 : Nat) : Int) by omega]
    refine ih (k + 1) d2 (by omega) (by omega) (hd2 ▸ but_mu hd) (fun p => ?_)
    rw [hd2, mu_app, if_pos rfl]
    by_cases c : p = L + m - 1 - k
    · rw [if_pos c, if_pos (by omega), c, show (L + (m : Int) - 1 - (L + m - 1 - k)).toNat = k by omega]
      rfl
    · rw [if_neg c, hv p]
      by_cases c2 : L + m - k ≤ p ∧ p < L + m
      · rw [if_pos c2, if_pos (by omega)]
      · rw [if_neg c2, if_neg (by omega)]
theorem c_append {d : zMem} {n L : Int} {m : Nat} (hn : 0 ≤ n ∧ n < 18446744073709551616) (hL : d 117 2 = L) (hr : 0 ≤ L ∧ L + m ≤ 64) (hQ : ∀ d', but d d' 118 → (∀ p, d' 118 p = if L ≤ p ∧ p < L + m then byt n (L + m - 1 - p).toNat else d 118 p) → ∀ d2, d2 = mu d' 117 2 (L + m) → Q 0 d2) : Ev g M_X5_append FUL FUL [zR 117, zL n, zI (m : Int)] d Q := by
  apply e_X5_append
  rw [hL]
  have := l_append (g := g) (d0 := d) hn hL hr hQ m 0 d (by omega) (by omega) but_rfl (fun p => by rw [if_neg (by omega)])
  rw [show L + (m : Int) - 1 - ((0 : Nat) : Int) = L + m - 1 by omega] at this
  exact this
-- the reference
/-- after k characters: none ended it yet, or it ended, or it is bad -/
def pI (n : Int) (k : Nat) (many bad : Int) : Prop := (bad = 0 ∧ many = k ∧ ∀ j, j < k → okb (byt n j)) ∨ (bad = 0 ∧ ∃ m : Nat, hol n m ∧ many = m ∧ m ≤ k) ∨ (bad = 1 ∧ ∀ m, ¬ hol n m)
theorem pI_bad {n : Int} {k : Nat} {many bad : Int} (h : pI n k many bad) : bad = 0 ∨ bad = 1 := by
  rcases h with ⟨a, _⟩ | ⟨a, _⟩ | ⟨a, _⟩
  · exact Or.inl a
  · exact Or.inl a
  · exact Or.inr a
/-- one more character that is no end -/
theorem pI_1 {n : Int} {k : Nat} {many bad : Int} (h : pI n k many bad) (h0 : k = 0 ∨ sh n k ≠ 0) : (bad ≠ 0 → ∀ v, pI n (k + 1) v 1) ∧ (bad = 0 → okb (byt n k) → pI n (k + 1) (many + 1) 0) ∧ (bad = 0 → ¬ okb (byt n k) → ∀ v, pI n (k + 1) v 1) := by
  have hm : ∀ m : Nat, hol n m → m ≤ k → False := fun m ⟨a, b, c⟩ q => by
    rcases h0 with z | z
    · omega
    · exact z (by have := sh_z c (k - m); rwa [show m + (k - m) = k by omega] at this)
  refine ⟨fun q v => ?_, fun q w => ?_, fun q w v => Or.inr (Or.inr ⟨rfl, fun m => hol_no w h0 m⟩)⟩
  · rcases h with ⟨a, _⟩ | ⟨a, _⟩ | ⟨a, b⟩
    · exact absurd a q
    · exact absurd a q
    · exact Or.inr (Or.inr ⟨rfl, b⟩)
  · rcases h with ⟨a, b, c⟩ | ⟨a, m, b, c, e⟩ | ⟨a, b⟩
    · refine Or.inl ⟨rfl, by omega, fun j hj => ?_⟩
      rcases (show j < k ∨ j = k by omega) with z | z
      · exact c j z
      · subst z; exact w
    · exact absurd (hm m b e) id
    · omega
theorem pI_0 {n : Int} {k : Nat} {many bad : Int} (h : pI n k many bad) (h8 : k ≤ 8) (hk : 0 < k) (h0 : sh n k = 0) : pI n (k + 1) (many + 0) bad := by
  rcases h with ⟨a, b, c⟩ | ⟨a, m, b, c, e⟩ | ⟨a, b⟩
  · exact Or.inr (Or.inl ⟨a, k, ⟨⟨hk, h8⟩, c, h0⟩, by omega, by omega⟩)
  · exact Or.inr (Or.inl ⟨a, m, b, by omega, by omega⟩)
  · exact Or.inr (Or.inr ⟨a, b⟩)
theorem l_rput1 {d : zMem} {n : Int} (hn : 0 ≤ n ∧ n < 18446744073709551616) (h0 : (∀ m, ¬ hol n m) → Q (-2) d) (h1 : ∀ m : Nat, hol n m → (inR (d 153 7 + m)) ∧ (d 153 7 + m ≤ 64 → Fr g (eM g M_X9_put FUL FUL Q) M_X9_put FUL 126 [some (zR 153), some (zL n), none, some (zI (m : Int)), some (zI 0), some (zI 0), none, none] [] d) ∧ (64 < d 153 7 + m → Q (-4) d)) :
    ∀ (r k : Nat) (many bad : Int), 8 - k = r → k ≤ 8 → pI n k many bad →
    Fr g (eM g M_X9_put FUL FUL Q) M_X9_put FUL 8 [some (zR 153), some (zL n), none, some (zI many), some (zI bad), some (zI (k : Int)), none, none] [] d := by
  intro r
  induction r with
  | zero =>
    intro k many bad hr hk hv
    have e : k = 8 := by omega
    subst e
    have hb := pI_bad hv
    have hbr : inR bad := by rcases hb with e | e <;> rw [e] <;> decide
    apply v_X9_put_8
    refine ⟨⟨by omega, by omega⟩, fun _ => ⟨hbr, fun q => ?_, fun q => ?_⟩, fun z => by omega⟩
    · rcases hv with ⟨a, b, c⟩ | ⟨a, m, b, c, e⟩ | ⟨a, b⟩
      · have := h1 8 ⟨⟨by omega, by omega⟩, c, sh_8 hn⟩
        rw [b, q]
        exact this
      · rw [c, q]
        exact h1 m b
      · omega
    · rcases hv with ⟨a, b, c⟩ | ⟨a, m, b, c, e⟩ | ⟨a, b⟩
      · exact absurd a q
      · exact absurd a q
      · exact h0 b
  | succ r ih =>
    intro k many bad hr hk hv
    have hs := sh_rng hn k
    have hb := pI_bad hv
    have hbr : inR bad := by rcases hb with e | e <;> rw [e] <;> decide
    have hy := byt_rng n k
    have esh : n / 2 ^ (8 * (k : Int)).toNat = sh n k := by rw [sh_int (by omega), Int.toNat_natCast]
    have eb : sh n k % 256 = byt n k := rfl
    have ek : (k : Int) + 1 = ((k + 1 : Nat) : Int) := by omega
    apply v_X9_put_8
    rw [esh, eb, ek]
    have look : (k = 0 ∨ sh n k ≠ 0) → ((inR bad) ∧ (bad ≠ 0 → (Fr g (eM g M_X9_put FUL FUL Q) M_X9_put FUL 8 [some (zR 153), some (zL n), none, some (zI (many + 1)), some (zI 1), some (zI ((k + 1 : Nat) : Int)), none, none] [] d)) ∧ (bad = 0 → Ev g M_X9_in FUL FUL [zI (byt n k), zI 33, zI 126] d (fun v1 d1 => ((inR v1) ∧ (v1 ≠ 0 → (Fr g (eM g M_X9_put FUL FUL Q) M_X9_put FUL 8 [some (zR 153), some (zL n), none, some (zI (many + 1)), some (zI 0), some (zI ((k + 1 : Nat) : Int)), none, none] [] d1)) ∧ (v1 = 0 → (Fr g (eM g M_X9_put FUL FUL Q) M_X9_put FUL 8 [some (zR 153), some (zL n), none, some (zI (many + 1)), some (zI 1), some (zI ((k + 1 : Nat) : Int)), none, none] [] d1)))))) := by
      intro hz
      obtain ⟨p1, p2, p3⟩ := pI_1 hv hz
      refine ⟨hbr, fun q => ih (k + 1) _ _ (by omega) (by omega) (p1 q _), fun q => ?_⟩
      apply s_in ⟨by omega, by omega⟩ (by decide) (by decide)
      by_cases c : 33 ≤ byt n k ∧ byt n k ≤ 126
      · rw [if_pos c]
        exact ⟨by decide, fun _ => ih (k + 1) _ _ (by omega) (by omega) (p2 q c), fun z => absurd z (by decide)⟩
      · rw [if_neg c]
        exact ⟨by decide, fun z => absurd rfl z, fun _ => ih (k + 1) _ _ (by omega) (by omega) (p3 q c _)⟩
    refine ⟨⟨by omega, by omega⟩, fun z => by omega, fun _ => ⟨⟨⟨by omega, by omega⟩, by omega, by omega⟩, ⟨by omega, by omega⟩, ⟨⟨by omega, by omega⟩, fun q => look (Or.inl (by omega)), fun q => ⟨⟨⟨by omega, by omega⟩, by omega, by omega⟩, ⟨⟨by omega, by omega⟩, fun q2 => ⟨hbr, fun q3 => ?_, fun q3 => ?_⟩, fun q2 => look (Or.inr q2)⟩⟩⟩⟩⟩
    · have := pI_0 hv (by omega) (by omega) q2
      rw [show bad = 1 by omega] at this
      exact ih (k + 1) _ _ (by omega) (by omega) this
    · have := pI_0 hv (by omega) (by omega) q2
      rw [q3] at this
      exact ih (k + 1) _ _ (by omega) (by omega) this
theorem l_rput2 {d0 : zMem} {n L x4 : Int} {m : Nat} (hn : 0 ≤ n ∧ n < 18446744073709551616) (hL : d0 153 7 = L) (hr : 0 ≤ L ∧ L + m ≤ 64) (hm : m ≤ 8) (hQ : ∀ d', but d0 d' 159 → (∀ p, d' 159 p = if L ≤ p ∧ p < L + m then byt n (L + m - 1 - p).toNat else d0 159 p) → ∀ d2, d2 = mu d' 153 7 (L + m) → Q (L + m) d2) :
    ∀ (r k : Nat) (d : zMem), m - k = r → k ≤ m → but d0 d 159 → (∀ p, d 159 p = if L + m - k ≤ p ∧ p < L + m then byt n (L + m - 1 - p).toNat else d0 159 p) →
    Fr g (eM g M_X9_put FUL FUL Q) M_X9_put FUL 126 [some (zR 153), some (zL n), none, some (zI (m : Int)), some (zI x4), some (zI (k : Int)), none, none] [] d := by
  intro r
  induction r with
  | zero =>
    intro k d hk hkm hd hv
    have e : k = m := by omega
    subst e
    apply v_X9_put_126
    have e2 : d 153 7 = L := by rw [hd 153 (by omega), hL]
    rw [e2]
    refine ⟨⟨⟨by omega, by omega⟩, ⟨by omega, by omega⟩⟩, fun _ d1 hd1 => hQ d hd (fun p => ?_) d1 hd1, fun z => by omega⟩
    rw [hv p, show L + (k : Int) - k = L by omega]
  | succ r ih =>
    intro k d hk hkm hd hv
    have hs := sh_rng hn k
    have esh : n / 2 ^ (8 * (k : Int)).toNat = sh n k := by rw [sh_int (by omega), Int.toNat_natCast]
    apply v_X9_put_126
    have e2 : d 153 7 = L := by rw [hd 153 (by omega), hL]
    rw [e2, esh, show (k : Int) + 1 = ((k + 1 : Nat) : Int) by omega]
    refine ⟨⟨⟨by omega, by omega⟩, ⟨by omega, by omega⟩⟩, fun z => by omega, fun _ => ⟨⟨⟨by omega, by omega⟩, by omega, by omega⟩, ⟨by omega, by omega⟩, ⟨by omega, by omega⟩, fun d2 hd2 => ?_⟩⟩
    refine ih (k + 1) d2 (by omega) (by omega) (hd2 ▸ but_mu hd) (fun p => ?_)
    rw [hd2, mu_app, if_pos rfl]
    by_cases c : p = L + m - 1 - k
    · rw [if_pos c, if_pos (by omega), c, show (L + (m : Int) - 1 - (L + m - 1 - k)).toNat = k by omega]
      rfl
    · rw [if_neg c, hv p]
      by_cases c2 : L + m - k ≤ p ∧ p < L + m
      · rw [if_pos c2, if_pos (by omega)]
      · rw [if_neg c2, if_neg (by omega)]
end
/-- J where only the pad and what has to do with reading it is not as it was -/
theorem J_text {d d' : zMem} (h : J d) (hb : ∀ q, q ≠ 117 → q ≠ 118 → q ≠ 119 → q ≠ 153 → q ≠ 159 → q ≠ 165 → (q < 15 ∨ 29 ≤ q) → d' q = d q) (h3 : d' 153 3 = d 153 3) (h13 : d' 153 13 = d 153 13) (h14 : d' 153 14 = d 153 14) (hP : JP d') : J d' := by
  obtain ⟨j1, j2, j3, j4, w1, w2, w3⟩ := h
  refine ⟨?_, ?_, ?_, hP, ⟨?_, ?_, ?_⟩⟩
  · rw [hb 154 (by omega) (by omega) (by omega) (by omega) (by omega) (by omega) (by omega)]
    exact River_keep j1 (fun q q1 q2 => hb q (by omega) (by omega) (by omega) (by omega) (by omega) (by omega) (by omega))
  · have eb : bRow d' = bRow d := by unfold bRow; rw [hb 156 (by omega) (by omega) (by omega) (by omega) (by omega) (by omega) (by omega)]
    have e33 : d' 31 = d 31 := hb 31 (by omega) (by omega) (by omega) (by omega) (by omega) (by omega) (by omega)
    rw [eb, h3, e33]
    exact JH_keep j2 e33 (fun q q1 q2 => hb q (by omega) (by omega) (by omega) (by omega) (by omega) (by omega) (by omega))
  · exact JS_keep j3 (hb _ (by omega) (by omega) (by omega) (by omega) (by omega) (by omega) (by omega)) (hb _ (by omega) (by omega) (by omega) (by omega) (by omega) (by omega) (by omega)) (hb _ (by omega) (by omega) (by omega) (by omega) (by omega) (by omega) (by omega)) (fun q q1 q2 => hb q (by omega) (by omega) (by omega) (by omega) (by omega) (by omega) (by omega))
  · rw [hb 120 (by omega) (by omega) (by omega) (by omega) (by omega) (by omega) (by omega)]; exact w1
  · rw [h13]; exact w2
  · rw [h14]; exact w3
section
variable {g : zGG} {Q : Int → Int → zMem → Prop}
theorem p_put {d : zMem} {n : Int} (hJ : J d) (hn : 0 ≤ n ∧ n < 18446744073709551616) (hQ : ∀ v d', J d' → Q v v d') : Ev g M_X8_put FUL FUL [zR 0, zL n] d (fun v1 d1 => Ev g M_X9_put FUL FUL [zR 153, zL n] d1 (fun v2 d2 => Q v1 v2 d2)) := by
  obtain ⟨p1, p2, p3⟩ := hJ.2.2.2.1
  have rc : ∀ {Qr : Int → zMem → Prop} {d1 : zMem}, d1 153 7 = d 153 7 → ((∀ m, ¬ hol n m) → Qr (-2) d1) → (∀ m : Nat, hol n m → (d1 153 7 + m ≤ 64 → Fr g (eM g M_X9_put FUL FUL Qr) M_X9_put FUL 126 [some (zR 153), some (zL n), none, some (zI (m : Int)), some (zI 0), some (zI 0), none, none] [] d1) ∧ (64 < d1 153 7 + m → Qr (-4) d1)) → Ev g M_X9_put FUL FUL [zR 153, zL n] d1 Qr := by
    intro Qr d1 e7 a0 a1
    apply e_X9_put
    exact l_rput1 hn a0 (fun m hm => ⟨by have := hm.1; rw [e7]; constructor <;> omega, a1 m hm⟩) 8 0 0 0 rfl (by omega) (Or.inl ⟨rfl, rfl, fun j hj => by omega⟩)
  apply e_X8_put
  apply c_sizeOf hn
  · intro m hm
    have hm1 := hm.1
    refine ⟨⟨by omega, by omega⟩, fun _ => ?_, fun z => by omega⟩
    apply e_X5_hasRoomFor
    rw [p1]
    refine ⟨⟨by omega, by omega⟩, fun q => ?_, fun q => ?_⟩
    · refine ⟨by decide, fun z => absurd rfl z, fun _ => ?_⟩
      refine rc rfl (fun z => absurd hm (z m)) (fun m' hm' => ?_)
      have e := hol_uniq hm hm'
      subst e
      exact ⟨fun z => by omega, fun _ => hQ _ d hJ⟩
    · refine ⟨by decide, fun _ => ?_, fun z => absurd z (by decide)⟩
      apply c_append hn p1 ⟨p2.1, q⟩
      intro d1 b1 v1 d2 hd2
      apply e_X5_length
      rw [hd2, mu_get, ← hd2]
      have b2 : ∀ p, p ≠ 117 → p ≠ 118 → d2 p = d p := fun p h0 h1 => by rw [hd2, mu_ne h0, b1 p h1]
      refine rc (by rw [b2 153 (by omega) (by omega)]) (fun z => absurd hm (z m)) (fun m' hm' => ?_)
      have e := hol_uniq hm hm'
      subst e
      have e163 : d2 153 = d 153 := b2 153 (by omega) (by omega)
      rw [e163]
      refine ⟨fun _ => ?_, fun z => by omega⟩
      refine l_rput2 (d0 := d2) hn (by rw [e163]) ⟨p2.1, q⟩ hm1.2 (fun d3 b3 v3 d4 hd4 => ?_) m 0 d2 (by omega) (by omega) but_rfl (fun p => by rw [if_neg (by omega)])
      have b4 : ∀ p, p ≠ 153 → p ≠ 159 → d4 p = d2 p := fun p h0 h1 => by rw [hd4, mu_ne h0, b3 p h1]
      have e4 : ∀ j, j ≠ 7 → d4 153 j = d 153 j := fun j hj => by rw [hd4, mu_ni hj, b3 153 (by omega), e163]
      have e7 : d4 153 7 = d 153 7 + m := by rw [hd4, mu_get]
      refine hQ _ d4 (J_text hJ (fun p h0 h1 h2 h3 h4 _ _ => by rw [b4 p h3 h4, b2 p h0 h1]) (e4 3 (by omega)) (e4 13 (by omega)) (e4 14 (by omega)) ⟨?_, ?_, fun k k0 k1 => ?_⟩)
      · rw [e7, b4 117 (by omega) (by omega), hd2, mu_get]
      · rw [e7]; omega
      · rw [e7] at k1
        have x1 : d4 118 k = if d 153 7 ≤ k ∧ k < d 153 7 + m then byt n (d 153 7 + m - 1 - k).toNat else d 118 k := by rw [b4 118 (by omega) (by omega), hd2, mu_ne (by omega), v1 k]
        have x2 : d4 159 k = if d 153 7 ≤ k ∧ k < d 153 7 + m then byt n (d 153 7 + m - 1 - k).toNat else d 159 k := by rw [hd4, mu_ne (by omega), v3 k, b2 159 (by omega) (by omega)]
        rw [x1, x2]
        by_cases c : d 153 7 ≤ k ∧ k < d 153 7 + m
        · rw [if_pos c, if_pos c]
          have := hm.2.1 (d 153 7 + m - 1 - k).toNat (by omega)
          exact ⟨rfl, this.1, this.2⟩
        · rw [if_neg c, if_neg c]
          exact p3 k k0 (by omega)
  · intro hno
    refine ⟨by decide, fun z => absurd rfl z, fun _ => ?_⟩
    exact rc rfl (fun _ => hQ _ d hJ) (fun m hm => absurd hm (hno m))
end
