theorem sq_bd {u : Int} (h : -19 ≤ u ∧ u ≤ 19) : 0 ≤ u * u ∧ u * u ≤ 361 := by
  have key : ∀ n, n < 39 → 0 ≤ (((n : Nat) : Int) - 19) * ((n : Int) - 19) ∧ (((n : Nat) : Int) - 19) * ((n : Int) - 19) ≤ 361 := by decide +kernel
  have := key (u + 19).toNat (by omega)
  rw [Int.toNat_of_nonneg (by omega)] at this
  simp only [Int.add_sub_cancel] at this
  exact this
theorem nbr_diff {a b : Int} (ha : 0 ≤ a ∧ a < 240) (hb : 0 ≤ b ∧ b < 240) (h : nbr a b) : a - b = 1 ∨ b - a = 1 ∨ a - b = 20 ∨ b - a = 20 := by
  have := (nbr_cases ha hb).mp h
  omega
theorem mu_self {d : zMem} {k : Nat} {i : Int} : mu d k i (d k i) = d := by
  funext q j
  rw [mu_app]
  by_cases h : q = k
  · rw [if_pos h]
    by_cases h2 : j = i
    · rw [if_pos h2, h, h2]
    · rw [if_neg h2, h]
  · rw [if_neg h]
section
variable {g : zGG} {Q : Int → zMem → Prop} {s : Row}
-- growths of a year
theorem l_rgrowAll {w : Int} {r : GS} (hw : inR w) {d0 : zMem} (hw0 : d0 153 13 = w) (hQ : ∀ d', rF d0 d' → d' 154 = r.1 → d' 153 14 = r.2.2 → Q 0 d') :
    ∀ (N : Nat) (fm fr : Int) (d : zMem) (t : Row), 150 - fm = N → 0 ≤ fm → fr ≤ fm → rF d0 d → d 154 = t → Inv t → (d 153 14 = 0 ∨ d 153 14 = 1) → itg (growStep w) (150 - fm).toNat fm (t, fr, d 153 14) = r →
    Fr g (eM g M_X9_growAll FUL FUL Q) M_X9_growAll FUL 4 [some (zR 153), some (zI fm), some (zI 1), none] [] d := by
  intro N
  induction N using Nat.strongRecOn with
  | ind N ih =>
    intro fm fr d t hN hfm hfr hd h164 hI hfl ht
    apply v_X9_growAll_4
    refine ⟨by decide, fun q => absurd q (by decide), fun _ => ?_⟩
    apply r_findBends hI.1 h164
    intro d1 f1 h1 j1 hB1
    have e14 : d1 153 14 = d 153 14 := j1 14 (by omega)
    have fd1 : rF d0 d1 := rF_trans hd f1
    have h4 := hI.1.1
    have inner : ∀ (n : Nat) (b p : Int), d1 153 11 - b = n → 0 ≤ b → fm ≤ p → p ≤ 150 → (∀ b', b ≤ b' → b' < d1 153 11 → fm ≤ d1 160 b' → p ≤ d1 160 b') → (∀ b', 0 ≤ b' → b' < b → d1 160 b' < p) → itg (growStep w) (150 - p).toNat p (t, fr, d1 153 14) = r →
        Fr g (eM g M_X9_growAll FUL FUL Q) M_X9_growAll FUL 16 [some (zR 153), some (zI fm), some (zI 0), some (zI b)] [] d1 := by
      have hB11 := hB1.1
      intro n
      induction n with
      | zero =>
        intro b p hn hb hp hp2 p1 p2 hr
        apply v_X9_growAll_16
        refine ⟨⟨⟨by omega, by omega⟩, ⟨by omega, by omega⟩⟩, fun _ => ?_, fun q => by omega⟩
        have hr' : (t, fr, d1 153 14) = r := by
          rw [itg_skip' hp2 (Int.le_refl _) (fun j q1 q2 => growStep_no (fun l z => by
            obtain ⟨b', k1, k2, k3⟩ := hB1.2.2.2.1 j l z
            have := p2 b' k1 (by omega)
            omega))] at hr
          exact hr
        apply v_X9_growAll_4
        exact ⟨by decide, fun _ => hQ d1 fd1 (by rw [← hr']; exact h1) (by rw [← hr']), fun q => absurd rfl q⟩
      | succ n ihn =>
        intro b p hn hb hp hp2 p1 p2 hr
        have hbd := hB1.2.1 b hb (by omega)
        have b1 := hbd.1
        have b2 := hbd.2.1
        have b3 := hbd.2.2.1
        apply v_X9_growAll_16
        refine ⟨⟨⟨by omega, by omega⟩, ⟨by omega, by omega⟩⟩, fun q => by omega, fun _ => ⟨by decide, fun q => absurd rfl q, fun _ => ⟨⟨hb, by omega⟩, ⟨⟨⟨by omega, by omega⟩, ⟨by omega, by omega⟩⟩, fun q => ?_, fun q => ?_⟩⟩⟩⟩
        · exact ihn (b + 1) p (by omega) (by omega) hp hp2 (fun b' q1 q2 => p1 b' (by omega) q2) (fun b' q1 q2 => by
            rcases (show b' < b ∨ b' = b by omega) with c | c
            · exact p2 b' q1 c
            · rw [c]; omega) hr
        · have hpf := p1 b (Int.le_refl _) (by omega) q
          have hr1 : itg (growStep w) (150 - (d1 160 b + 1)).toNat (d1 160 b + 1) (growStep w (t, fr, d1 153 14) (d1 160 b)) = r := by
            rw [← itg_one (by omega), ← itg_skip' hpf (by omega) (fun j q1 q2 => growStep_no (fun l z => by
              obtain ⟨b', k1, k2, k3⟩ := hB1.2.2.2.1 j l z
              rcases (show b' < b ∨ b' = b ∨ b < b' by omega) with c | c | c
              · have := p2 b' k1 c; omega
              · subst c; omega
              · have := hB1.2.2.1 b b' hb c k2; omega))]
            exact hr
          apply r_canGrow h1 hI.1 hI.2.2.2.1 hI.2.2.2.2.1 hB1 ⟨hb, by omega⟩ rfl rfl
          · intro hg
            refine ⟨by decide, fun q => absurd q (by decide), fun _ => ?_⟩
            rw [growStep_of (by omega) hbd hg] at hr1
            have e13 : d1 153 13 = w := by rw [j1 13 (by omega), hd.2 13 (by omega) (by omega) (by omega) (by omega) (by omega), hw0]
            apply r_grow hI h1 ⟨hb, by omega⟩ rfl rfl hbd hg (by rw [e13]; exact hw) (by rw [e14]; exact hfl)
            intro d2 f2 h211 h2 h214
            rw [e13] at h214
            rw [itg_skip' (y := d1 161 b + 2) (by omega) (by omega) (fun j q1 q2 => growStep_lo q2)] at hr1
            have next := ih (150 - (d1 161 b + 2)).toNat (by omega) (d1 161 b + 2) (d1 161 b + 2) d2 _ (by omega) (by omega) (Int.le_refl _) (rF_trans fd1 f2) h2 (grow_Inv hI hbd hg).2.2 (by rw [h214]; exact hitN_01 (by rw [e14]; exact hfl)) (by rw [h214]; exact hr1)
            apply v_X9_growAll_16
            refine ⟨⟨⟨by omega, by omega⟩, ⟨by omega, by omega⟩⟩, fun _ => next, fun _ => ⟨by decide, fun _ => next, fun q => absurd q (by decide)⟩⟩
          · intro hg
            refine ⟨by decide, fun _ => ?_, fun q => absurd rfl q⟩
            rw [growStep_no (fun l' z => bd_uniq hbd z ▸ hg)] at hr1
            exact ihn (b + 1) (d1 160 b + 1) (by omega) (by omega) (by omega) (by omega) (fun b' q1 q2 _ => by have := hB1.2.2.1 b b' hb (by omega) q2; omega) (fun b' q1 q2 => by
              rcases (show b' < b ∨ b' = b by omega) with c | c
              · have := hB1.2.2.1 b' b q1 c (by omega); omega
              · rw [c]; omega) hr1
    have hB11 := hB1.1
    by_cases c150 : fm ≤ 150
    · exact inner (d1 153 11).toNat 0 fm (by omega) (by omega) (Int.le_refl _) c150 (fun b' _ _ q => q) (fun b' q1 q2 => by omega) (by rw [e14]; exact ht)
    · omega
theorem r_growAll {d : zMem} (h164 : d 154 = s) (hI : Inv s) (hw : inR (d 153 13)) (hfl : d 153 14 = 0 ∨ d 153 14 = 1) (hQ : ∀ d', rF d d' → d' 154 = (growAll (d 153 13) (d 153 14) s).1 → d' 153 14 = (growAll (d 153 13) (d 153 14) s).2.2 → Q 0 d') : Ev g M_X9_growAll FUL FUL [zR 153] d Q := by
  apply e_X9_growAll
  exact l_rgrowAll (d0 := d) (r := growAll (d 153 13) (d 153 14) s) hw rfl hQ 150 0 0 d s (by omega) (by omega) (by omega) rF_rfl h164 hI hfl rfl
-- neighbours
theorem r_nbr {d : zMem} {x y : Int} (hx : 0 ≤ x ∧ x < 240) (hy : 0 ≤ y ∧ y < 240) (h1 : nbr x y → Q 1 d) (h0 : ¬ nbr x y → Q 0 d) : Ev g M_X9_areNeighbours FUL FUL [zI x, zI y] d Q := by
  apply e_X9_areNeighbours
  have s1 := sq_bd (u := x % 20 - y % 20) (by omega)
  have s2 := sq_bd (u := x / 20 - y / 20) (by omega)
  have k := nbr_iff hx hy
  exact ⟨⟨by omega, ⟨by omega, by omega⟩⟩, ⟨by omega, ⟨by omega, by omega⟩⟩, ⟨by omega, ⟨by omega, by omega⟩⟩, ⟨by omega, ⟨by omega, by omega⟩⟩, ⟨⟨by omega, by omega⟩, fun q => h0 (fun z => q (k.mp z)), fun q => h1 (k.mpr q)⟩⟩
theorem r_pair {d : zMem} {x y : Int} (hx : 0 ≤ x ∧ x < 240) (hy : 0 ≤ y ∧ y < 240) (hn : nbr x y) (h : Q (635 + pr x y) d) : Ev g M_X9_pair FUL FUL [zI x, zI y] d Q := by
  apply e_X9_pair
  have hd := nbr_diff hx hy hn
  have rx : inR x := ⟨by omega, by omega⟩
  have ry : inR y := ⟨by omega, by omega⟩
  have r1 : inR (x - y) := ⟨by omega, by omega⟩
  have r2 : inR (y - x) := ⟨by omega, by omega⟩
  have fin : ∀ v : Int, v = 635 + pr x y → Q v d := fun v hv => hv ▸ h
  unfold pr at fin
  refine ⟨⟨rx, ry⟩, fun q1 => ⟨⟨rx, ry⟩, fun q2 => ⟨r1, fun q3 => fin _ ?_, fun q3 => fin _ ?_⟩, fun q2 => by omega⟩, fun q1 => ⟨⟨rx, ry⟩, fun q2 => by omega, fun q2 => ⟨r2, fun q3 => fin _ ?_, fun q3 => fin _ ?_⟩⟩⟩
  · rw [if_pos (by omega)]; omega
  · rw [if_neg (by omega)]; omega
  · rw [if_pos (by omega)]; omega
  · rw [if_neg (by omega)]; omega
-- ages
def rS (i j i' j' : Int) : Prop := i' < i ∨ (i' = i ∧ j' < j)
def rP (s : Row) (i j k : Int) : Prop := ∃ i' j', rS i j i' j' ∧ neck s i' j' ∧ pr (s (5 + i')) (s (5 + j')) = k
def raI (d : zMem) (s : Row) (i j : Int) : Prop := ∀ k, 0 ≤ k → k < 480 → (rP s i j k → d 164 k = 1) ∧ (¬ rP s i j k → d 164 k = 0)
theorem raI_cong {d : zMem} {i j i' j' : Int} (h : raI d s i j) (hk : ∀ k, rP s i' j' k ↔ rP s i j k) : raI d s i' j' := fun k q1 q2 => ⟨fun z => (h k q1 q2).1 ((hk k).mp z), fun z => (h k q1 q2).2 (fun y => z ((hk k).mpr y))⟩
theorem l_rage3 {d0 : zMem} (h164 : d0 154 = s) (hI : Inv s) (hy : s 1404 ≤ 4000) (hQ : ∀ d', rF d0 d' → d' 153 = d0 153 → d' 154 = f_age s → Q 0 d') (h174 : ∀ k, 0 ≤ k → k < 480 → (isPr s k → d0 164 k = 1) ∧ (¬ isPr s k → d0 164 k = 0)) :
    ∀ (n : Nat) (x : Int) (d : zMem), 480 - x = n → 0 ≤ x → but d0 d 154 → (∀ p, d 154 p = if 635 ≤ p ∧ p < 635 + x then f_age s p else s p) →
    Fr g (eM g M_X9_age FUL FUL Q) M_X9_age FUL 113 [some (zR 153), some (zI x), none] [] d := by
  intro n
  induction n with
  | zero =>
    intro x d hn hx hd hv
    apply v_X9_age_113
    refine ⟨⟨by omega, by omega⟩, fun _ => hQ d (rF_but rF_rfl (by omega) hd) (hd 153 (by omega)) ?_, fun q => by omega⟩
    funext p
    rw [hv]
    by_cases c : 635 ≤ p ∧ p < 635 + x
    · rw [if_pos c]
    · rw [if_neg c, age_out (by omega)]
  | succ n ih =>
    intro x d hn hx hd hv
    have hw := hI.2.2.2.1.2 x hx (by omega)
    apply v_X9_age_113
    have e : d 154 (635 + x) = s (635 + x) := by rw [hv, if_neg (by omega)]
    rw [e, hd 164 (by omega)]
    have step : ∀ (v : Int) (d2 : zMem), v = f_age s (635 + x) → d2 = mu d 154 (635 + x) v → Fr g (eM g M_X9_age FUL FUL Q) M_X9_age FUL 113 [some (zR 153), some (zI (x + 1)), none] [] d2 := by
      intro v d2 hv2 hd2
      refine ih (x + 1) d2 (by omega) (by omega) (hd2 ▸ but_mu hd) (fun p => ?_)
      rw [hd2, mu_app, if_pos rfl]
      by_cases c : p = 635 + x
      · rw [if_pos c, if_pos (show 635 ≤ p ∧ p < 635 + (x + 1) by omega), hv2, c]
      · rw [if_neg c, hv p]
        by_cases c2 : 635 ≤ p ∧ p < 635 + x
        · rw [if_pos c2, if_pos (show 635 ≤ p ∧ p < 635 + (x + 1) by omega)]
        · rw [if_neg c2, if_neg (show ¬ (635 ≤ p ∧ p < 635 + (x + 1)) by omega)]
    have ev : ∀ v : Int, (isPr s x → v = s (635 + x) + 1) → (¬ isPr s x → v = 0) → v = f_age s (635 + x) := by
      intro v h1 h0
      unfold f_age
      rw [if_pos (by omega), show 635 + x - 635 = x by omega]
      by_cases c : isPr s x
      · rw [if_pos c]; exact h1 c
      · rw [if_neg c]; exact h0 c
    have hx4 := h174 x hx (by omega)
    refine ⟨⟨by omega, by omega⟩, fun q => by omega, fun _ => ⟨⟨by omega, by omega⟩, ⟨?_, fun q => ⟨⟨by omega, by omega⟩, fun d2 hd2 => step _ d2 (ev _ (fun z => ?_) (fun _ => rfl)) hd2⟩, fun q => ⟨⟨by omega, by omega⟩, ⟨by omega, by omega⟩, fun d2 hd2 => step _ d2 (ev _ (fun _ => rfl) (fun z => ?_)) hd2⟩⟩⟩⟩
    · by_cases c : isPr s x
      · rw [hx4.1 c]; decide
      · rw [hx4.2 c]; decide
    · rw [hx4.1 z] at q; exact absurd q (by decide)
    · exact absurd (hx4.2 z) q
theorem l_rage2 {d0 : zMem} (h164 : d0 154 = s) (hI : Inv s) (hy : s 1404 ≤ 4000) (hQ : ∀ d', rF d0 d' → d' 153 = d0 153 → d' 154 = f_age s → Q 0 d') : ∀ (n m : Nat) (i j : Int) (d : zMem), s 4 - i = n → (s 4 + 3 - j).toNat = m → 0 ≤ i → i + 3 ≤ j → j ≤ s 4 + 3 → but d0 d 164 → raI d s i j →
    (i < s 4 → Fr g (eM g M_X9_age FUL FUL Q) M_X9_age FUL 38 [some (zR 153), some (zI i), some (zI j)] [] d) ∧ (j = i + 3 → Fr g (eM g M_X9_age FUL FUL Q) M_X9_age FUL 24 [some (zR 153), some (zI i), none] [] d)
  | n, m, i, j, d, hn, hm, hi, hj, hj3', hd, hv => by
    have hs := hI.1
    have h4 := hs.1
    have hr : d 154 = s := (hd 154 (by omega)).trans h164
    have main : i < s 4 → Fr g (eM g M_X9_age FUL FUL Q) M_X9_age FUL 38 [some (zR 153), some (zI i), some (zI j)] [] d := by
      intro hi4
      apply v_X9_age_38
      rw [hr]
      by_cases hj4 : s 4 ≤ j
      · refine ⟨⟨?_, ⟨by omega, by omega⟩⟩, fun _ => ?_, fun q => by omega⟩
        · constructor <;> omega
        · refine (l_rage2 h164 hI hy hQ (n - 1) (s 4 + 3 - (i + 1 + 3)).toNat (i + 1) (i + 1 + 3) d (by omega) rfl (by omega) (by omega) (by omega) hd (raI_cong hv (fun k => ?_))).2 rfl
          constructor
          · rintro ⟨i', j', h1, h2, h3⟩
            refine ⟨i', j', ?_, h2, h3⟩
            have := h2.2.1
            have := h2.2.2.1
            unfold rS at h1 ⊢
            omega
          · rintro ⟨i', j', h1, h2, h3⟩
            refine ⟨i', j', ?_, h2, h3⟩
            unfold rS at h1 ⊢
            omega
      · have c1 := hs.2.1 i hi hi4
        have c2 := hs.2.1 j (by omega) (by omega)
        refine ⟨⟨⟨by omega, by omega⟩, ⟨by omega, by omega⟩⟩, fun q => by omega, fun _ => ⟨⟨by omega, by omega⟩, ⟨by omega, by omega⟩, ?_⟩⟩
        have next : ∀ d2, but d0 d2 164 → raI d2 s i (j + 1) → Fr g (eM g M_X9_age FUL FUL Q) M_X9_age FUL 38 [some (zR 153), some (zI i), some (zI (j + 1))] [] d2 := fun d2 k1 k2 =>
          (l_rage2 h164 hI hy hQ n (m - 1) i (j + 1) d2 hn (by omega) hi (by omega) (by omega) k1 k2).1 hi4
        apply r_nbr c1 c2
        · intro hnb
          have hnk : neck s i j := ⟨hi, hj, by omega, hnb⟩
          have pr1 := pr_range c1 c2
          refine ⟨by decide, fun q => absurd q (by decide), fun _ => ⟨⟨by omega, by omega⟩, ⟨by omega, by omega⟩, ?_⟩⟩
          rw [hr]
          apply r_pair c1 c2 hnb
          rw [show 635 + pr (s (5 + i)) (s (5 + j)) - 635 = pr (s (5 + i)) (s (5 + j)) by omega]
          refine ⟨pr1, fun d2 hd2 => next d2 (hd2 ▸ but_mu hd) (fun k q1 q2 => ⟨fun z => ?_, fun z => ?_⟩)⟩
          · rw [hd2, mu_app, if_pos rfl]
            by_cases hk : k = pr (s (5 + i)) (s (5 + j))
            · rw [if_pos hk]
            · rw [if_neg hk]
              refine (hv k q1 q2).1 ?_
              obtain ⟨i', j', h1, h2, h3⟩ := z
              refine ⟨i', j', ?_, h2, h3⟩
              rcases (show rS i j i' j' ∨ (i' = i ∧ j' = j) by unfold rS at h1 ⊢; omega) with y | ⟨rfl, rfl⟩
              · exact y
              · exact absurd h3.symm hk
          · rw [hd2, mu_app, if_pos rfl]
            by_cases hk : k = pr (s (5 + i)) (s (5 + j))
            · exact absurd ⟨i, j, Or.inr ⟨rfl, by omega⟩, hnk, hk.symm⟩ z
            · rw [if_neg hk]
              refine (hv k q1 q2).2 (fun ⟨i', j', h1, h2, h3⟩ => z ⟨i', j', ?_, h2, h3⟩)
              unfold rS at h1 ⊢
              omega
        · intro hnb
          refine ⟨by decide, fun _ => next d hd (raI_cong hv (fun k => ?_)), fun q => absurd rfl q⟩
          constructor
          · rintro ⟨i', j', h1, h2, h3⟩
            refine ⟨i', j', ?_, h2, h3⟩
            rcases (show rS i j i' j' ∨ (i' = i ∧ j' = j) by unfold rS at h1 ⊢; omega) with y | ⟨rfl, rfl⟩
            · exact y
            · exact absurd h2.2.2.2 hnb
          · rintro ⟨i', j', h1, h2, h3⟩
            refine ⟨i', j', ?_, h2, h3⟩
            unfold rS at h1 ⊢
            omega
    refine ⟨main, fun hj3 => ?_⟩
    apply v_X9_age_24
    rw [hr]
    refine ⟨⟨⟨by omega, by omega⟩, ⟨by omega, by omega⟩⟩, fun q => ?_, fun q => ?_⟩
    · refine l_rage3 (d0 := d) hr hI hy (fun d' k1 k2 k3 => hQ d' (rF_trans (rF_but rF_rfl (by omega) hd) k1) (by rw [k2, hd 153 (by omega)]) k3) (fun k q1 q2 => ?_) 480 0 d (by omega) (by omega) but_rfl (fun p => by rw [if_neg (by omega), hr])
      have eq : rP s i j k ↔ isPr s k := by
        constructor
        · rintro ⟨i', j', h1, h2, h3⟩
          exact ⟨i', j', h2, h3⟩
        · rintro ⟨i', j', h2, h3⟩
          exact ⟨i', j', Or.inl (by have := h2.2.1; have := h2.2.2.1; omega), h2, h3⟩
      exact ⟨fun z => (hv k q1 q2).1 (eq.mpr z), fun z => (hv k q1 q2).2 (fun y => z (eq.mp y))⟩
    · rw [← hj3]; exact main q
termination_by n m => (n, m)
theorem l_rage1 {d0 : zMem} (h164 : d0 154 = s) (hI : Inv s) (hy : s 1404 ≤ 4000) (hQ : ∀ d', rF d0 d' → d' 153 = d0 153 → d' 154 = f_age s → Q 0 d') : ∀ (n : Nat) (x : Int) (d : zMem), 480 - x = n → 0 ≤ x → but d0 d 164 → (∀ k, 0 ≤ k → k < x → d 164 k = 0) →
    Fr g (eM g M_X9_age FUL FUL Q) M_X9_age FUL 2 [some (zR 153), some (zI x), none] [] d := by
  have h4 := hI.1.1
  intro n
  induction n with
  | zero =>
    intro x d hn hx hd hv
    apply v_X9_age_2
    refine ⟨⟨by omega, by omega⟩, fun _ => ?_, fun q => by omega⟩
    exact (l_rage2 h164 hI hy hQ (s 4).toNat _ 0 3 d (by omega) rfl (by omega) (by omega) (by omega) hd (fun k q1 q2 => ⟨fun ⟨i', j', h1, h2, _⟩ => by have := h2.1; have := h2.2.1; unfold rS at h1; omega, fun _ => hv k q1 (by omega)⟩)).2 rfl
  | succ n ih =>
    intro x d hn hx hd hv
    apply v_X9_age_2
    refine ⟨⟨by omega, by omega⟩, fun q => by omega, fun _ => ⟨⟨by omega, by omega⟩, fun d1 hd1 => ih (x + 1) d1 (by omega) (by omega) (hd1 ▸ but_mu hd) (fun k q1 q2 => ?_)⟩⟩
    rw [hd1, mu_app, if_pos rfl]
    by_cases c : k = x
    · rw [if_pos c]
    · rw [if_neg c]; exact hv k q1 (by omega)
theorem r_age {d : zMem} (h164 : d 154 = s) (hI : Inv s) (hy : s 1404 ≤ 4000) (hQ : ∀ d', rF d d' → d' 153 = d 153 → d' 154 = f_age s → Q 0 d') : Ev g M_X9_age FUL FUL [zR 153] d Q := by
  apply e_X9_age
  exact l_rage1 (d0 := d) h164 hI hy hQ 480 0 d (by omega) (by omega) but_rfl (fun _ _ _ => by omega)
-- the neck cut next
theorem l_rwid {d0 : zMem} {old : Int} (ho : inR old) (h164 : d0 154 = s) (hs : crs s) (hA : ∀ k, 0 ≤ k → k < 480 → 0 ≤ s (635 + k) ∧ s (635 + k) ≤ 5000)
    (h1 : ∀ d' i j, rF d0 d' → (∀ j, j ≠ 15 → j ≠ 16 → j ≠ 17 → d' 153 j = d0 153 j) → d' 154 = s → wid s old i j → d' 153 15 = i → d' 153 16 = j → Q 1 d') (h0 : ∀ d', rF d0 d' → (∀ j, j ≠ 15 → j ≠ 16 → j ≠ 17 → d' 153 j = d0 153 j) → d' 154 = s → (∀ i j, ¬ cand s old i j) → Q 0 d') :
    ∀ (n m : Nat) (i j c x : Int) (d : zMem), s 4 - i = n → (s 4 + 3 - j).toNat = m → 0 ≤ i → i + 3 ≤ j → j ≤ s 4 + 3 → rF d0 d → (∀ j, j ≠ 15 → j ≠ 16 → j ≠ 17 → d 153 j = d0 153 j) → d 154 = s → 0 ≤ x → bst s old (-6) (rS i j) i (max x 2) (d 153 15) (d 153 16) →
    (i < s 4 → Fr g (eM g M_X9_findNeck FUL FUL Q) M_X9_findNeck FUL 31 [some (zR 153), some (zI (-1)), some (zI old), some (zI c), some (zI x), some (zI i), some (zI j), none] [] d) ∧ (j = i + 3 → Fr g (eM g M_X9_findNeck FUL FUL Q) M_X9_findNeck FUL 14 [some (zR 153), some (zI (-1)), some (zI old), some (zI c), some (zI x), some (zI i), none, none] [] d)
  | n, m, i, j, c, x, d, hn, hm, hi, hj, hj3', hd, hj1, hr, hx, hv => by
    have h4 := hs.1
    have hx3 : x ≤ 150 := by
      rcases hv with ⟨q1, q2, q3⟩ | ⟨q1, q2, q3, q4⟩
      · omega
      · have := q1.1.1; have := q1.1.2.2.1; omega
    have main : i < s 4 → Fr g (eM g M_X9_findNeck FUL FUL Q) M_X9_findNeck FUL 31 [some (zR 153), some (zI (-1)), some (zI old), some (zI c), some (zI x), some (zI i), some (zI j), none] [] d := by
      intro hi4
      apply v_X9_findNeck_31
      rw [hr]
      by_cases hj4 : s 4 ≤ j
      · refine ⟨⟨⟨by omega, by omega⟩, ⟨by omega, by omega⟩⟩, fun _ => ?_, fun q => by omega⟩
        refine (l_rwid ho h164 hs hA h1 h0 (n - 1) (s 4 + 3 - (i + 1 + 3)).toNat (i + 1) (i + 1 + 3) c x d (by omega) rfl (by omega) (by omega) (by omega) hd hj1 hr hx (bst_mono hv (by omega) (fun i' j' q z => ?_))).2 rfl
        have := z.1.2.1
        have := z.1.2.2.1
        unfold rS at q ⊢
        omega
      · have c1 := hs.2.1 i hi hi4
        have c2 := hs.2.1 j (by omega) (by omega)
        have cover : ∀ i' j', rS i (j + 1) i' j' → cand s old i' j' → rS i j i' j' ∨ (i' = i ∧ j' = j) := fun i' j' q _ => by unfold rS at q ⊢; omega
        refine ⟨⟨⟨by omega, by omega⟩, ⟨by omega, by omega⟩⟩, fun q => by omega, fun _ => ⟨⟨by omega, by omega⟩, ⟨by omega, by omega⟩, ?_⟩⟩
        have next : ∀ (c' x' : Int) (d2 : zMem), rF d0 d2 → (∀ j, j ≠ 15 → j ≠ 16 → j ≠ 17 → d2 153 j = d0 153 j) → d2 154 = s → 0 ≤ x' → bst s old (-6) (rS i (j + 1)) i (max x' 2) (d2 153 15) (d2 153 16) → Fr g (eM g M_X9_findNeck FUL FUL Q) M_X9_findNeck FUL 31 [some (zR 153), some (zI (-1)), some (zI old), some (zI c'), some (zI x'), some (zI i), some (zI (j + 1)), none] [] d2 := fun c' x' d2 k1 k2 k3 k4 k5 =>
          (l_rwid ho h164 hs hA h1 h0 n (m - 1) i (j + 1) c' x' d2 hn (by omega) hi (by omega) (by omega) k1 k2 k3 k4 k5).1 hi4
        apply r_nbr c1 c2
        · intro hnb
          have hnk : neck s i j := ⟨hi, hj, by omega, hnb⟩
          have pr1 := pr_range c1 c2
          have hag := hA _ pr1.1 pr1.2
          refine ⟨by decide, fun q => absurd q (by decide), fun _ => ⟨by decide, fun q => absurd q (by decide), fun _ => ⟨⟨⟨by omega, by omega⟩, ⟨by omega, by omega⟩⟩, fun q d6 hd6 d7 hd7 => ?_, fun q => ⟨⟨by omega, by omega⟩, ⟨by omega, by omega⟩, ?_⟩⟩⟩⟩
          · rw [mu_self] at hd6
            subst hd6
            rw [mu_self] at hd7
            subst hd7
            exact next _ x _ hd hj1 hr hx (bst_skip hv cover (fun _ => by omega))
          · rw [hr]
            apply r_pair c1 c2 hnb
            rw [hr]
            refine ⟨⟨by omega, by omega⟩, ⟨⟨⟨by omega, by omega⟩, ho⟩, fun q2 d9 hd9 d10 hd10 => ?_, fun q2 d11 hd11 d12 hd12 => ?_⟩⟩
            · rw [mu_self] at hd9
              subst hd9
              rw [mu_self] at hd10
              subst hd10
              exact next _ x _ hd hj1 hr hx (bst_skip hv cover (fun z => by have := z.2; unfold age at this; omega))
            · have e15 : d12 153 15 = i := by rw [hd12, mu_ni (by omega), hd11, mu_get]
              have e16 : d12 153 16 = j := by rw [hd12, mu_get]
              refine next _ (j - i) d12 (hd12 ▸ rF_mu (hd11 ▸ rF_mu hd (by omega)) (by omega)) (fun j' k1 k2 k3 => by rw [hd12, mu_ni k2, hd11, mu_ni k1]; exact hj1 j' k1 k2 k3) (by rw [hd12, hd11]; funext z; rw [mu_na (by omega), mu_na (by omega), hr]) (by omega) ?_
              rw [e15, e16, show max (j - i) 2 = j - i by omega]
              exact bst_take hv cover ⟨hnk, q2⟩ (by omega)
        · intro hnb
          exact ⟨by decide, fun _ => next _ x _ hd hj1 hr hx (bst_skip hv cover (fun z => absurd z.1.2.2.2 hnb)), fun q => absurd rfl q⟩
    refine ⟨main, fun hj3 => ?_⟩
    apply v_X9_findNeck_14
    rw [hr]
    refine ⟨⟨⟨by omega, by omega⟩, ⟨by omega, by omega⟩⟩, fun q d1 hd1 => ?_, fun q => ?_⟩
    · have hb : inR (d 153 15) := by
        rcases hv with ⟨q1, q2, q3⟩ | ⟨q1, q2, q3, q4⟩
        · constructor <;> omega
        · have := q1.1.1; constructor <;> omega
      have f1 : rF d0 d1 := hd1 ▸ rF_mu hd (by omega)
      have r1 : d1 154 = s := by rw [hd1]; funext z; rw [mu_na (by omega), hr]
      have j1 : ∀ j, j ≠ 15 → j ≠ 16 → j ≠ 17 → d1 153 j = d0 153 j := fun j' k1 k2 k3 => by rw [hd1, mu_ni k3]; exact hj1 j' k1 k2 k3
      rcases bst_end (by omega) hv (fun i' j' z => Or.inl (by have := z.1.2.1; have := z.1.2.2.1; omega)) with ⟨e1, e2⟩ | ⟨e1, e2⟩
      · exact ⟨hb, fun _ => h0 d1 f1 j1 r1 e2, fun z => absurd e1 z⟩
      · exact ⟨hb, fun z => by omega, fun _ => h1 d1 _ _ f1 j1 r1 e2 (by rw [hd1, mu_ni (by omega)]) (by rw [hd1, mu_ni (by omega)])⟩
    · rw [← hj3]; exact main q
termination_by n m => (n, m)
theorem r_widest {d : zMem} {old : Int} (ho : inR old) (h164 : d 154 = s) (hs : crs s) (hA : ∀ k, 0 ≤ k → k < 480 → 0 ≤ s (635 + k) ∧ s (635 + k) ≤ 5000)
    (h1 : ∀ d' i j, rF d d' → (∀ j, j ≠ 15 → j ≠ 16 → j ≠ 17 → d' 153 j = d 153 j) → d' 154 = s → wid s old i j → d' 153 15 = i → d' 153 16 = j → Q 1 d') (h0 : ∀ d', rF d d' → (∀ j, j ≠ 15 → j ≠ 16 → j ≠ 17 → d' 153 j = d 153 j) → d' 154 = s → (∀ i j, ¬ cand s old i j) → Q 0 d') : Ev g M_X9_findNeck FUL FUL [zR 153, zI (-1), zI old] d Q := by
  have h4 := hs.1
  apply e_X9_findNeck
  intro d1 hd1
  refine (l_rwid (d0 := d) ho h164 hs hA h1 h0 (s 4).toNat _ 0 3 0 0 d1 (by omega) rfl (by omega) (by omega) (by omega) (hd1 ▸ rF_mu rF_rfl (by omega)) (fun j k1 _ _ => by rw [hd1, mu_ni k1]) (by rw [hd1]; funext z; rw [mu_na (by omega), h164]) (by omega) (Or.inl ⟨by rw [hd1, mu_get], by omega, fun i' j' q z => ?_⟩)).2 rfl
  have := z.1.1
  have := z.1.2.1
  unfold rS at q
  omega
end
