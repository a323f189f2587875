section
variable {g : zGG} {Q : Int → zMem → Prop} {p : Int → Int} {L : Int}
/-- the reference's pad holds the text -/
def TR (d : zMem) (p : Int → Int) (L : Int) : Prop := d 153 7 = L ∧ ∀ k, 0 ≤ k → k < L → d 159 k = p k
/-- the reference stands at a, and all was right (f = 0) -/
def rAt (d d' : zMem) (a f : Int) : Prop := but d d' 153 ∧ (∀ j, j ≠ 19 → j ≠ 20 → d' 153 j = d 153 j) ∧ d' 153 19 = a ∧ d' 153 20 = f
theorem rAt_trans {d d1 d2 : zMem} {a f a2 f2 : Int} (h : rAt d d1 a f) (h2 : rAt d1 d2 a2 f2) : rAt d d2 a2 f2 := ⟨fun q hq => by rw [h2.1 q hq, h.1 q hq], fun j h0 h1 => by rw [h2.2.1 j h0 h1, h.2.1 j h0 h1], h2.2.2.1, h2.2.2.2⟩
theorem TR_rAt {d d' : zMem} {a f : Int} (hT : TR d p L) (h : rAt d d' a f) : TR d' p L := by
  unfold TR
  rw [h.2.1 7 (by omega) (by omega), h.1 159 (by omega)]
  exact hT
theorem r_sign {d : zMem} {lo hi a f : Int} (hT : TR d p L) (hP : PT p L) (ha : d 153 19 = a) (hf : d 153 20 = f) (har : 0 ≤ a ∧ a ≤ 1000) (hf01 : f = 0 ∨ f = 1) (hlo : 0 < lo ∧ lo ≤ 1000) (hhi : 0 ≤ hi ∧ hi ≤ 1000)
    (h1 : f = 0 → lo ≤ chr p L a → chr p L a ≤ hi → ∀ d', rAt d d' (a + 1) 0 → Q (chr p L a) d') (h0 : ¬ (f = 0 ∧ lo ≤ chr p L a ∧ chr p L a ≤ hi) → ∀ d', rAt d d' a 1 → Q (chr p L a) d') : Ev g M_X9_sign FUL FUL [zR 153, zI lo, zI hi] d Q := by
  have hL := hP.1
  have mk : ∀ (v x : Int) (d1 d2 : zMem), d1 = mu d 153 20 v → d2 = mu d1 153 19 (a + x) → rAt d d2 (a + x) v := by
    intro v x d1 d2 e1 e2
    exact ⟨fun q hq => by rw [e2, mu_ne hq, e1, mu_ne hq], fun j q0 q1 => by rw [e2, mu_ni q0, e1, mu_ni q1], by rw [e2, mu_get], by rw [e2, mu_ni (by omega), e1, mu_get]⟩
  have mk0 : ∀ (v : Int) (d1 d2 : zMem), d1 = mu d 153 20 v → d2 = mu d1 153 19 (a + 0) → rAt d d2 a v := by
    intro v d1 d2 e1 e2
    have := mk v 0 d1 d2 e1 e2
    rw [Int.add_zero] at this
    exact this
  apply e_X9_sign
  rw [ha, hf, hT.1]
  have hfr : inR f := by rcases hf01 with e | e <;> rw [e] <;> decide
  refine ⟨⟨⟨by omega, by omega⟩, ⟨by omega, by omega⟩⟩, fun q => ?_, fun q => ?_⟩
  · have ec : chr p L a = 0 := by unfold chr; rw [if_neg (by omega)]
    rw [ec] at h0 h1
    refine ⟨hfr, fun z d1 hd1 d2 hd2 => h0 (fun w => by omega) d2 (mk0 1 d1 d2 hd1 hd2), fun z => ?_⟩
    apply s_in (by decide) ⟨by omega, by omega⟩ ⟨by omega, by omega⟩
    rw [if_neg (by omega)]
    refine ⟨by decide, fun w => absurd rfl w, fun _ d1 hd1 d2 hd2 => h0 (fun w => by omega) d2 ?_⟩
    rw [ha] at hd2
    exact mk0 1 d1 d2 hd1 hd2
  · have ec : d 159 a = chr p L a := by unfold chr; rw [if_pos q, hT.2 a har.1 q]
    have cr := chr_rng hP har.1
    rw [ec]
    refine ⟨⟨by omega, by omega⟩, ⟨hfr, fun z d1 hd1 d2 hd2 => h0 (fun w => by omega) d2 (mk0 1 d1 d2 hd1 hd2), fun z => ?_⟩⟩
    apply s_in ⟨by omega, by omega⟩ ⟨by omega, by omega⟩ ⟨by omega, by omega⟩
    by_cases c : lo ≤ chr p L a ∧ chr p L a ≤ hi
    · rw [if_pos c]
      refine ⟨by decide, fun _ d1 hd1 d2 hd2 => ?_, fun w => absurd w (by decide)⟩
      rw [ha] at hd2
      exact h1 z c.1 c.2 d2 (mk 0 1 d1 d2 hd1 hd2)
    · rw [if_neg c]
      refine ⟨by decide, fun w => absurd rfl w, fun _ d1 hd1 d2 hd2 => ?_⟩
      rw [ha] at hd2
      exact h0 (fun w => c w.2) d2 (mk0 1 d1 d2 hd1 hd2)
theorem r_isNext {d : zMem} {lo hi a f : Int} (hT : TR d p L) (hP : PT p L) (ha : d 153 19 = a) (hf : d 153 20 = f) (har : 0 ≤ a ∧ a ≤ 1000) (hf01 : f = 0 ∨ f = 1) (hlo : 0 < lo ∧ lo ≤ 1000) (hhi : 0 ≤ hi ∧ hi ≤ 1000)
    (h1 : f = 0 → lo ≤ chr p L a → chr p L a ≤ hi → Q 1 d) (h0 : ¬ (f = 0 ∧ lo ≤ chr p L a ∧ chr p L a ≤ hi) → Q 0 d) : Ev g M_X9_isNext FUL FUL [zR 153, zI lo, zI hi] d Q := by
  have hL := hP.1
  apply e_X9_isNext
  rw [ha, hf, hT.1]
  have hfr : inR f := by rcases hf01 with e | e <;> rw [e] <;> decide
  refine ⟨hfr, fun z => h0 (fun w => by omega), fun z => ⟨⟨⟨by omega, by omega⟩, ⟨by omega, by omega⟩⟩, fun q => ?_, fun q => ?_⟩⟩
  · have ec : chr p L a = 0 := by unfold chr; rw [if_neg (by omega)]
    exact h0 (fun w => by omega)
  · have ec : d 159 a = chr p L a := by unfold chr; rw [if_pos q, hT.2 a har.1 q]
    have cr := chr_rng hP har.1
    rw [ec]
    refine ⟨⟨by omega, by omega⟩, ?_⟩
    apply s_in ⟨by omega, by omega⟩ ⟨by omega, by omega⟩ ⟨by omega, by omega⟩
    by_cases c : lo ≤ chr p L a ∧ chr p L a ≤ hi
    · rw [if_pos c]
      exact ⟨by decide, fun w => absurd w (by decide), fun _ => h1 z c.1 c.2⟩
    · rw [if_neg c]
      exact ⟨by decide, fun _ => h0 (fun w => c w.2), fun w => absurd rfl w⟩
theorem r_number {d : zMem} {hi a f : Int} (hT : TR d p L) (hP : PT p L) (ha : d 153 19 = a) (hf : d 153 20 = f) (har : 0 ≤ a ∧ a ≤ 900) (hf01 : f = 0 ∨ f = 1) (hh : 9 ≤ hi ∧ hi ≤ 100)
    (hF : (f = 1 ∨ dgt p L a = -1) → ∀ v d', -1000 ≤ v → v ≤ 1000 → rAt d d' a 1 → Q v d') (hO : f = 0 → dgt p L a ≠ -1 → ∀ d', rAt d d' (snA p L a hi) 0 → Q (snV p L a hi) d') : Ev g M_X9_number FUL FUL [zR 153, zI hi] d Q := by
  have hL := hP.1
  have d1r := dgt_rng p L a
  have d2r := dgt_rng p L (a + 1)
  have cr := chr_rng hP har.1
  apply e_X9_number
  apply r_sign hT hP ha hf ⟨by omega, by omega⟩ hf01 (by decide) (by decide)
  · intro z c1 c2 d1 u1
    have T1 := TR_rAt hT u1
    have dne : dgt p L a ≠ -1 := by omega
    have ed : chr p L a - 48 = dgt p L a := by omega
    rw [ed]
    have one : ¬ two p L a hi → Q (dgt p L a) d1 := by
      intro hn
      rw [← (sn_1 hn).2]
      exact hO z dne d1 (by rw [(sn_1 hn).1]; exact u1)
    refine ⟨⟨by omega, by omega⟩, fun q => one (fun w => by have := w.2.1; omega), fun q => ?_⟩
    have cr1 := chr_rng hP (k := a + 1) (by omega)
    apply r_isNext T1 hP u1.2.2.1 u1.2.2.2 ⟨by omega, by omega⟩ (Or.inl rfl) (by decide) (by decide)
    · intro _ k1 k2
      have hin : a + 1 < L := by omega
      have e9 : d1 159 (a + 1) = chr p L (a + 1) := by unfold chr; rw [if_pos hin, T1.2 _ (by omega) hin]
      have ed2 : dgt p L (a + 1) = chr p L (a + 1) - 48 := by omega
      rw [u1.2.2.1, e9]
      refine ⟨by decide, fun w => absurd w (by decide), fun _ => ⟨⟨by omega, by omega⟩, ⟨⟨by constructor <;> omega, by constructor <;> omega⟩, fun w => one (fun y => by have := y.2.2; omega), fun w => ?_⟩⟩⟩
      have tw : two p L a hi := ⟨by omega, q, by omega⟩
      apply r_sign T1 hP u1.2.2.1 u1.2.2.2 ⟨by omega, by omega⟩ (Or.inl rfl) (by decide) (by decide)
      · intro _ _ _ d2 u2
        have := hO z dne d2 (by rw [(sn_2 tw).1, show a + 2 = a + 1 + 1 by omega]; exact rAt_trans u1 u2)
        rw [(sn_2 tw).2] at this
        rw [show 10 * dgt p L a + chr p L (a + 1) - 48 = dgt p L a * 10 + dgt p L (a + 1) by omega]
        exact this
      · intro w
        exact absurd ⟨rfl, k1, k2⟩ w
    · intro w
      exact ⟨by decide, fun _ => one (fun y => w ⟨rfl, by have := y.1; omega, by have := y.1; omega⟩), fun y => absurd rfl y⟩
  · intro w d1 u1
    have T1 := TR_rAt hT u1
    have bad : f = 1 ∨ dgt p L a = -1 := by omega
    refine ⟨by constructor <;> omega, fun q => hF bad _ d1 (by omega) (by omega) u1, fun q => ?_⟩
    apply r_isNext T1 hP u1.2.2.1 u1.2.2.2 ⟨by omega, by omega⟩ (Or.inr rfl) (by decide) (by decide)
    · intro y; exact absurd y (by decide)
    · intro _
      exact ⟨by decide, fun _ => hF bad _ d1 (by omega) (by omega) u1, fun y => absurd rfl y⟩
end
-- the cells of a course that is told
def cel (c0 : Int) (ws : Int → Int) : Nat → Int
  | 0 => c0
  | k + 1 => stp (cel c0 ws k) (ws k)
theorem cel_cong {c0 : Int} {ws ws' : Int → Int} : ∀ (k : Nat), (∀ j : Int, 0 ≤ j → j < k → ws j = ws' j) → cel c0 ws k = cel c0 ws' k
  | 0, _ => rfl
  | k + 1, h => by
    show stp (cel c0 ws k) (ws k) = stp (cel c0 ws' k) (ws' k)
    rw [cel_cong k (fun j q1 q2 => h j q1 (by omega)), h k (by omega) (by omega)]
/-- m cells can lie so -/
def lay (c0 : Int) (ws : Int → Int) (m : Nat) : Prop := ∀ k : Nat, k < m → cel c0 ws k ≠ -1 ∧ ∀ k' : Nat, k' < k → cel c0 ws k' ≠ cel c0 ws k
theorem lay_cong {c0 : Int} {ws ws' : Int → Int} {m : Nat} (h : ∀ j : Int, 0 ≤ j → j + 1 < m → ws j = ws' j) (hl : lay c0 ws m) : lay c0 ws' m := by
  have e : ∀ k, k < m → cel c0 ws k = cel c0 ws' k := fun k hk => cel_cong k (fun j q1 q2 => h j q1 (by omega))
  intro k hk
  rw [← e k hk]
  refine ⟨(hl k hk).1, fun k' hk' => ?_⟩
  rw [← e k' (by omega)]
  exact (hl k hk).2 k' hk'
theorem cel_rng {c0 : Int} {ws : Int → Int} (h0 : 0 ≤ c0 ∧ c0 < 240) (k : Nat) : -1 ≤ cel c0 ws k ∧ cel c0 ws k < 240 := by
  cases k with
  | zero => exact ⟨by show -1 ≤ c0; omega, h0.2⟩
  | succ k => exact stp_range _ _
theorem lay_step {c0 : Int} {ws : Int → Int} {m : Nat} : lay c0 ws (m + 1) ↔ lay c0 ws m ∧ cel c0 ws m ≠ -1 ∧ ∀ k, k < m → cel c0 ws k ≠ cel c0 ws m := by
  constructor
  · intro h
    exact ⟨fun k hk => h k (by omega), (h m (by omega)).1, (h m (by omega)).2⟩
  · rintro ⟨h1, h2, h3⟩ k hk
    rcases (show k < m ∨ k = m by omega) with c | c
    · exact h1 k c
    · subst c; exact ⟨h2, h3⟩
section
variable {g : zGG} {Q : Int → zMem → Prop}
/-- a cell is told: what of it is wrong -/
def tolE (d : zMem) (x T : Int) : Prop := ∃ k, 0 ≤ k ∧ k < T ∧ k < 150 ∧ d 165 k = x
def tol (d : zMem) (x T : Int) : Prop := d 153 23 = 1 ∨ x = -6 ∨ tolE d x T
theorem l_tell {d0 : zMem} {x T : Int} (hx : inR x) (hT : d0 153 22 = T) (hTr : 0 ≤ T ∧ T ≤ 3000) (hf : d0 153 23 = 0 ∨ d0 153 23 = 1) (hrow : d0 153 23 = 0 → ∀ k, 0 ≤ k → k < T → k < 150 → inR (d0 165 k))
    (hQ : ∀ d', (∀ q, q ≠ 153 → q ≠ 165 → d' q = d0 q) → (∀ j, j ≠ 22 → j ≠ 23 → d' 153 j = d0 153 j) → d' 153 22 = T + 1 → (tol d0 x T → d' 153 23 = 1 ∧ d' 165 = d0 165) → (¬ tol d0 x T → d' 153 23 = 0 ∧ ∀ k, d' 165 k = if k = T ∧ T < 150 then x else d0 165 k) → Q 0 d') :
    ∀ (n : Nat) (y : Int) (d : zMem), (min T 150 - y).toNat = n → 0 ≤ y → y ≤ min T 150 → but1 d0 d 153 23 → (d 153 23 = 0 ∧ d0 153 23 = 0 ∧ (∀ k, 0 ≤ k → k < y → d0 165 k ≠ x) ∨ (d 153 23 = 1 ∧ (d0 153 23 = 1 ∨ tolE d0 x T))) →
    Fr g (eM g M_X9_tell FUL FUL Q) M_X9_tell FUL 2 [some (zR 153), some (zI x), some (zI y)] [] d := by
  intro n
  induction n with
  | zero =>
    intro y d hn hy hyT hd hv
    have e22 : d 153 22 = T := by rw [hd.2 22 (by omega), hT]
    have e175 : d 165 = d0 165 := hd.1 165 (by omega)
    have hfr : inR (d 153 23) := by rcases hv with ⟨e, _⟩ | ⟨e, _⟩ <;> rw [e] <;> decide
    -- behind the loop
    have fin1 : tol d0 x T → ∀ d1 d2 : zMem, d1 = mu d 153 23 1 → d2 = mu d1 153 22 (T + 1) → Q 0 d2 := by
      intro ht d1 d2 e1 e2
      exact hQ d2 (fun q h0 _ => by rw [e2, mu_ne h0, e1, mu_ne h0, hd.1 q h0]) (fun j h0 h1 => by rw [e2, mu_ni h0, e1, mu_ni h1, hd.2 j h1]) (by rw [e2, mu_get]) (fun _ => ⟨by rw [e2, mu_ni (by omega), e1, mu_get], by rw [e2, mu_ne (by omega), e1, mu_ne (by omega), e175]⟩) (fun z => absurd ht z)
    have tail : ((inR (d 153 23)) ∧ ((d 153 23) ≠ 0 → ∀ d1, d1 = mu d 153 23 1 → ∀ d2, d2 = mu d1 153 22 (T + 1) → Q 0 d2) ∧ ((d 153 23) = 0 → ((inR x) ∧ (x ≠ (-6) → ∀ d3, d3 = mu d 153 23 0 → ((inR T) ∧ (150 ≤ T → ∀ d4, d4 = mu d3 153 22 (T + 1) → Q 0 d4) ∧ (T < 150 → (0 ≤ T ∧ T < 150) ∧ ∀ d5, d5 = mu d3 165 T x → ∀ d6, d6 = mu d5 153 22 (T + 1) → Q 0 d6))) ∧ (x = (-6) → ∀ d7, d7 = mu d 153 23 1 → ∀ d8, d8 = mu d7 153 22 (T + 1) → Q 0 d8)))) := by
      rcases hv with ⟨v1, v2, v3⟩ | ⟨v1, v2⟩
      · refine ⟨hfr, fun z => absurd v1 z, fun _ => ⟨hx, fun hx6 d3 hd3 => ?_, fun hx6 d7 hd7 d8 hd8 => fin1 (Or.inr (Or.inl hx6)) d7 d8 hd7 hd8⟩⟩
        have nt : ¬ tol d0 x T := by
          rintro (z | z | ⟨k, k0, k1, k2, k3⟩)
          · omega
          · exact hx6 z
          · exact v3 k k0 (by omega) k3
        have e3 : but1 d0 d3 153 23 := hd3 ▸ but1_mu hd
        refine ⟨⟨by omega, by omega⟩, fun h150 d4 hd4 => ?_, fun h150 => ⟨⟨hTr.1, h150⟩, fun d5 hd5 d6 hd6 => ?_⟩⟩
        · refine hQ d4 (fun q h0 _ => by rw [hd4, mu_ne h0, e3.1 q h0]) (fun j h0 h1 => by rw [hd4, mu_ni h0, e3.2 j h1]) (by rw [hd4, mu_get]) (fun z => absurd z nt) (fun _ => ⟨by rw [hd4, mu_ni (by omega), hd3, mu_get], fun k => ?_⟩)
          rw [if_neg (by omega), hd4, mu_ne (by omega), e3.1 165 (by omega)]
        · refine hQ d6 (fun q h0 h1 => by rw [hd6, mu_ne h0, hd5, mu_ne h1, e3.1 q h0]) (fun j h0 h1 => by rw [hd6, mu_ni h0, hd5, mu_ne (by omega), e3.2 j h1]) (by rw [hd6, mu_get]) (fun z => absurd z nt) (fun _ => ⟨by rw [hd6, mu_ni (by omega), hd5, mu_ne (by omega), hd3, mu_get], fun k => ?_⟩)
          rw [hd6, mu_ne (by omega), hd5, mu_app, if_pos rfl]
          by_cases c : k = T
          · rw [if_pos c, if_pos ⟨c, h150⟩]
          · rw [if_neg c, if_neg (fun z => c z.1), e3.1 165 (by omega)]
      · have ht : tol d0 x T := by
          rcases v2 with z | z
          · exact Or.inl z
          · exact Or.inr (Or.inr z)
        exact ⟨hfr, fun _ d1 hd1 d2 hd2 => fin1 ht d1 d2 hd1 hd2, fun z => by omega⟩
    apply v_X9_tell_2
    rw [e22]
    by_cases c : T ≤ y
    · refine ⟨⟨⟨by omega, by omega⟩, ⟨by omega, by omega⟩⟩, fun _ => tail, fun z => by omega⟩
    · refine ⟨⟨⟨by omega, by omega⟩, ⟨by omega, by omega⟩⟩, fun z => absurd z c, fun _ => ⟨⟨by omega, by omega⟩, fun _ => tail, fun z => by omega⟩⟩
  | succ n ih =>
    intro y d hn hy hyT hd hv
    have e22 : d 153 22 = T := by rw [hd.2 22 (by omega), hT]
    have e175 : d 165 = d0 165 := hd.1 165 (by omega)
    have hfr : inR (d 153 23) := by rcases hv with ⟨e, _⟩ | ⟨e, _⟩ <;> rw [e] <;> decide
    apply v_X9_tell_2
    rw [e22, e175]
    refine ⟨⟨⟨by omega, by omega⟩, ⟨by omega, by omega⟩⟩, fun z => by omega, fun _ => ⟨⟨by omega, by omega⟩, fun z => by omega, fun _ => ⟨hfr, fun z d17 hd17 => ?_, fun z => ⟨⟨by omega, by omega⟩, ⟨⟨?_, hx⟩, fun q d18 hd18 => ?_, fun q d19 hd19 => ?_⟩⟩⟩⟩⟩
    · rcases hv with ⟨v1, _⟩ | ⟨v1, v2⟩
      · exact absurd v1 z
      · exact ih (y + 1) d17 (by omega) (by omega) (by omega) (hd17 ▸ but1_mu hd) (Or.inr ⟨by rw [hd17, mu_get], v2⟩)
    · rcases hv with ⟨v1, v2, v3⟩ | ⟨v1, v2⟩
      · exact hrow v2 y hy (by omega) (by omega)
      · omega
    · rcases hv with ⟨v1, v2, v3⟩ | ⟨v1, v2⟩
      · refine ih (y + 1) d18 (by omega) (by omega) (by omega) (hd18 ▸ but1_mu hd) (Or.inl ⟨by rw [hd18, mu_get], v2, fun k k0 k1 => ?_⟩)
        rcases (show k < y ∨ k = y by omega) with w | w
        · exact v3 k k0 w
        · subst w; exact q
      · omega
    · exact ih (y + 1) d19 (by omega) (by omega) (by omega) (hd19 ▸ but1_mu hd) (Or.inr ⟨by rw [hd19, mu_get], Or.inr ⟨y, hy, by omega, by omega, q⟩⟩)
theorem r_tell {d : zMem} {x T : Int} (hx : inR x) (hT : d 153 22 = T) (hTr : 0 ≤ T ∧ T ≤ 3000) (hf : d 153 23 = 0 ∨ d 153 23 = 1) (hrow : d 153 23 = 0 → ∀ k, 0 ≤ k → k < T → k < 150 → inR (d 165 k))
    (hQ : ∀ d', (∀ q, q ≠ 153 → q ≠ 165 → d' q = d q) → (∀ j, j ≠ 22 → j ≠ 23 → d' 153 j = d 153 j) → d' 153 22 = T + 1 → (tol d x T → d' 153 23 = 1 ∧ d' 165 = d 165) → (¬ tol d x T → d' 153 23 = 0 ∧ ∀ k, d' 165 k = if k = T ∧ T < 150 then x else d 165 k) → Q 0 d') : Ev g M_X9_tell FUL FUL [zR 153, zI x] d Q := by
  apply e_X9_tell
  refine l_tell (d0 := d) hx hT hTr hf hrow hQ (min T 150 - 0).toNat 0 d rfl (by omega) (by omega) but1_rfl ?_
  rcases hf with z | z
  · exact Or.inl ⟨z, z, fun k k0 k1 => by omega⟩
  · exact Or.inr ⟨z, Or.inl z⟩
/-- what the reference has told after n steps -/
def TI (d : zMem) (c0 : Int) (ws : Int → Int) (n : Int) : Prop := d 153 22 = n + 1 ∧ (d 153 23 = 0 ∨ d 153 23 = 1) ∧ (d 153 23 = 0 → ∀ k : Nat, (k : Int) ≤ n → k < 150 → d 165 k = cel c0 ws k ∧ cel c0 ws k ≠ -1) ∧ (n + 1 ≤ 150 → (d 153 23 = 0 ↔ lay c0 ws (n + 1).toNat))
theorem TI_keep {d d' : zMem} {c0 n : Int} {ws ws' : Int → Int} (h : TI d c0 ws n) (h163 : ∀ j, (j = 22 ∨ j = 23) → d' 153 j = d 153 j) (h175 : d' 165 = d 165) (hw : ∀ j, 0 ≤ j → j < n → ws j = ws' j) : TI d' c0 ws' n := by
  obtain ⟨h1, h2, h3, h4⟩ := h
  unfold TI
  rw [h163 22 (Or.inl rfl), h163 23 (Or.inr rfl), h175]
  refine ⟨h1, h2, fun z k k0 k1 => ?_, fun z => ?_⟩
  · rw [← cel_cong (ws := ws) (ws' := ws') k (fun j q1 q2 => hw j q1 (by omega))]
    exact h3 z k k0 k1
  · rw [h4 z]
    constructor
    · exact lay_cong (fun j q1 q2 => hw j q1 (by omega))
    · exact lay_cong (fun j q1 q2 => (hw j q1 (by omega)).symm)
/-- one more step is told -/
theorem TI_next {d d' : zMem} {c0 n w x : Int} {ws ws' : Int → Int} (hn : 0 ≤ n) (h : TI d c0 ws n) (hw : ∀ j, 0 ≤ j → j < n → ws j = ws' j) (hwn : ws' n = w)
    (hx : (d 153 23 = 1 ∨ 150 < n + 1) → x = -6) (hx2 : d 153 23 = 0 → n + 1 ≤ 150 → x = if stp (cel c0 ws n.toNat) w = -1 then -6 else stp (cel c0 ws n.toNat) w)
    (e22 : d' 153 22 = n + 1 + 1) (e1 : tol d x (n + 1) → d' 153 23 = 1 ∧ d' 165 = d 165) (e0 : ¬ tol d x (n + 1) → d' 153 23 = 0 ∧ ∀ k, d' 165 k = if k = n + 1 ∧ n + 1 < 150 then x else d 165 k) : TI d' c0 ws' (n + 1) := by
  obtain ⟨h1, h2, h3, h4⟩ := h
  have ec : ∀ k : Nat, (k : Int) ≤ n → cel c0 ws k = cel c0 ws' k := fun k hk => cel_cong k (fun j q1 q2 => hw j q1 (by omega))
  have en : cel c0 ws' (n.toNat + 1) = stp (cel c0 ws n.toNat) w := by
    show stp (cel c0 ws' n.toNat) (ws' n.toNat) = _
    rw [← ec n.toNat (by omega), Int.toNat_of_nonneg hn, hwn]
  have el : n + 1 ≤ 150 → (lay c0 ws (n + 1).toNat ↔ lay c0 ws' (n + 1).toNat) := fun z => ⟨lay_cong (fun j q1 q2 => hw j q1 (by omega)), lay_cong (fun j q1 q2 => (hw j q1 (by omega)).symm)⟩
  have es : (n + 1 + 1).toNat = (n + 1).toNat + 1 := by omega
  have es2 : (n + 1).toNat = n.toNat + 1 := by omega
  by_cases c : tol d x (n + 1)
  · obtain ⟨f1, f2⟩ := e1 c
    refine ⟨e22, Or.inr f1, fun z => by omega, fun z => ?_⟩
    constructor
    · intro y; omega
    · intro y
      rw [es, lay_step, es2, en] at y
      rw [← es2] at y
      obtain ⟨y1, y2, y3⟩ := y
      have f0 : d 153 23 = 0 := (h4 (by omega)).mpr ((el (by omega)).mpr y1)
      have hxx := hx2 f0 (by omega)
      rw [if_neg y2] at hxx
      rcases c with c | c | ⟨k, k0, k1, k2, k3⟩
      · omega
      · have := stp_range (cel c0 ws n.toNat) w
        omega
      · have hk := h3 f0 k.toNat (by omega) (by omega)
        rw [Int.toNat_of_nonneg k0] at hk
        refine absurd ?_ (y3 k.toNat (by omega))
        rw [← ec k.toNat (by omega), ← hk.1, k3, hxx]
  · obtain ⟨f1, f2⟩ := e0 c
    have f0 : d 153 23 = 0 := by
      rcases h2 with z | z
      · exact z
      · exact absurd (Or.inl z) c
    have hn6 : x ≠ -6 := fun z => c (Or.inr (Or.inl z))
    have h150 : n + 1 ≤ 150 := by
      rcases (show n + 1 ≤ 150 ∨ 150 < n + 1 by omega) with z | z
      · exact z
      · exact absurd (hx (Or.inr z)) hn6
    have hxx := hx2 f0 h150
    have hne : stp (cel c0 ws n.toNat) w ≠ -1 := fun z => by rw [if_pos z] at hxx; exact hn6 hxx
    rw [if_neg hne] at hxx
    refine ⟨e22, Or.inl f1, fun _ k k0 k1 => ?_, fun z => ⟨fun _ => ?_, fun _ => f1⟩⟩
    · rcases (show (k : Int) ≤ n ∨ (k : Int) = n + 1 by omega) with y | y
      · rw [f2, if_neg (by omega), ← ec k y]
        exact h3 f0 k y k1
      · have ek : k = n.toNat + 1 := by omega
        rw [f2, if_pos ⟨y, by omega⟩, ek, en, hxx]
        exact ⟨rfl, hne⟩
    · rw [es, lay_step, es2, en]
      rw [← es2]
      refine ⟨(el h150).mp ((h4 h150).mp f0), hne, fun k hk e => ?_⟩
      have hk3 := h3 f0 k (by omega) (by omega)
      refine c (Or.inr (Or.inr ⟨k, by omega, by omega, by omega, ?_⟩))
      rw [hk3.1, ec k (by omega), e, hxx]
end
