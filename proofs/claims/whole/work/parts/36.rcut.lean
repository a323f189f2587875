theorem sq_bd {u : Int} (h : -19 ≤ u ∧ u ≤ 19) : 0 ≤ u * u ∧ u * u ≤ 361 := by
  have key : ∀ n, n < 39 → 0 ≤ (((n : Nat) : Int) - 19) * ((n : Int) - 19) ∧ (((n : Nat) : Int) - 19) * ((n : Int) - 19) ≤ 361 := by decide +kernel
  have := key (u + 19).toNat (by omega)
  rw [Int.toNat_of_nonneg (by omega)] at this
  simp only [Int.add_sub_cancel] at this
  exact this
theorem nbr_diff {a b : Int} (ha : 0 ≤ a ∧ a < 240) (hb : 0 ≤ b ∧ b < 240) (h : nbr a b) : a - b = 1 ∨ b - a = 1 ∨ a - b = 20 ∨ b - a = 20 := by
  have := (nbr_cases ha hb).mp h
  omega
theorem mu_self {d : zMem} {k : Nat} {i : Int} : mu d k i (d k i) = d := by
  funext q j
  rw [mu_app]
  by_cases h : q = k
  · rw [if_pos h]
    by_cases h2 : j = i
    · rw [if_pos h2, h, h2]
    · rw [if_neg h2, h]
  · rw [if_neg h]
section
variable {g : zGG} {Q : Int → zMem → Prop} {s : Row}
-- growths of a year
theorem l_rgrowAll {w : Int} {r : GS} (hw : inR w) {d0 : zMem} (hw0 : d0 163 13 = w) (hQ : ∀ d', rF d0 d' → d' 164 = r.1 → d' 163 14 = r.2.2 → Q 0 d') :
    ∀ (N : Nat) (fm fr : Int) (d : zMem) (t : Row), 150 - fm = N → 0 ≤ fm → fr ≤ fm → rF d0 d → d 164 = t → Inv t → (d 163 14 = 0 ∨ d 163 14 = 1) → itg (growStep w) (150 - fm).toNat fm (t, fr, d 163 14) = r →
    Fr g (eM g M_X9_growAll FUL FUL Q) M_X9_growAll FUL 4 [some (zR 163), some (zI fm), some (zI 1), none] [] d := by
  intro N
  induction N using Nat.strongRecOn with
  | ind N ih =>
    intro fm fr d t hN hfm hfr hd h164 hI hfl ht
    apply v_X9_growAll_4
    refine ⟨by decide, fun q => absurd q (by decide), fun _ => ?_⟩
    apply r_findBends hI.1 h164
    intro d1 f1 h1 j1 hB1
    have e14 : d1 163 14 = d 163 14 := j1 14 (by omega)
    have fd1 : rF d0 d1 := rF_trans hd f1
    have h4 := hI.1.1
    have inner : ∀ (n : Nat) (b p : Int), d1 163 11 - b = n → 0 ≤ b → fm ≤ p → p ≤ 150 → (∀ b', b ≤ b' → b' < d1 163 11 → fm ≤ d1 170 b' → p ≤ d1 170 b') → (∀ b', 0 ≤ b' → b' < b → d1 170 b' < p) → itg (growStep w) (150 - p).toNat p (t, fr, d1 163 14) = r →
        Fr g (eM g M_X9_growAll FUL FUL Q) M_X9_growAll FUL 16 [some (zR 163), some (zI fm), some (zI 0), some (zI b)] [] d1 := by
      have hB11 := hB1.1
      intro n
      induction n with
      | zero =>
        intro b p hn hb hp hp2 p1 p2 hr
        apply v_X9_growAll_16
        refine ⟨⟨⟨by omega, by omega⟩, ⟨by omega, by omega⟩⟩, fun _ => ?_, fun q => by omega⟩
        have hr' : (t, fr, d1 163 14) = r := by
          rw [itg_skip' hp2 (Int.le_refl _) (fun j q1 q2 => growStep_no (fun l z => by
            obtain ⟨b', k1, k2, k3⟩ := hB1.2.2.2.1 j l z
            have := p2 b' k1 (by omega)
            omega))] at hr
          exact hr
        apply v_X9_growAll_4
        exact ⟨by decide, fun _ => hQ d1 fd1 (by rw [← hr']; exact h1) (by rw [← hr']), fun q => absurd rfl q⟩
      | succ n ihn =>
        intro b p hn hb hp hp2 p1 p2 hr
        have hbd := hB1.2.1 b hb (by omega)
        have b1 := hbd.1
        have b2 := hbd.2.1
        have b3 := hbd.2.2.1
        apply v_X9_growAll_16
        refine ⟨⟨⟨by omega, by omega⟩, ⟨by omega, by omega⟩⟩, fun q => by omega, fun _ => ⟨by decide, fun q => absurd rfl q, fun _ => ⟨⟨hb, by omega⟩, ⟨⟨⟨by omega, by omega⟩, ⟨by omega, by omega⟩⟩, fun q => ?_, fun q => ?_⟩⟩⟩⟩
        · exact ihn (b + 1) p (by omega) (by omega) hp hp2 (fun b' q1 q2 => p1 b' (by omega) q2) (fun b' q1 q2 => by
            rcases (show b' < b ∨ b' = b by omega) with c | c
            · exact p2 b' q1 c
            · rw [c]; omega) hr
        · have hpf := p1 b (Int.le_refl _) (by omega) q
          have hr1 : itg (growStep w) (150 - (d1 170 b + 1)).toNat (d1 170 b + 1) (growStep w (t, fr, d1 163 14) (d1 170 b)) = r := by
            rw [← itg_one (by omega), ← itg_skip' hpf (by omega) (fun j q1 q2 => growStep_no (fun l z => by
              obtain ⟨b', k1, k2, k3⟩ := hB1.2.2.2.1 j l z
              rcases (show b' < b ∨ b' = b ∨ b < b' by omega) with c | c | c
              · have := p2 b' k1 c; omega
              · subst c; omega
              · have := hB1.2.2.1 b b' hb c k2; omega))]
            exact hr
          apply r_canGrow h1 hI.1 hI.2.2.2.1 hI.2.2.2.2.1 hB1 ⟨hb, by omega⟩ rfl rfl
          · intro hg
            refine ⟨by decide, fun q => absurd q (by decide), fun _ => ?_⟩
            rw [growStep_of (by omega) hbd hg] at hr1
            have e13 : d1 163 13 = w := by rw [j1 13 (by omega), hd.2 13 (by omega) (by omega) (by omega) (by omega) (by omega), hw0]
            apply r_grow hI h1 ⟨hb, by omega⟩ rfl rfl hbd hg (by rw [e13]; exact hw) (by rw [e14]; exact hfl)
            intro d2 f2 h211 h2 h214
            rw [e13] at h214
            rw [itg_skip' (y := d1 171 b + 2) (by omega) (by omega) (fun j q1 q2 => growStep_lo q2)] at hr1
            have next := ih (150 - (d1 171 b + 2)).toNat (by omega) (d1 171 b + 2) (d1 171 b + 2) d2 _ (by omega) (by omega) (Int.le_refl _) (rF_trans fd1 f2) h2 (grow_Inv hI hbd hg).2.2 (by rw [h214]; exact hitN_01 (by rw [e14]; exact hfl)) (by rw [h214]; exact hr1)
            apply v_X9_growAll_16
            refine ⟨⟨⟨by omega, by omega⟩, ⟨by omega, by omega⟩⟩, fun _ => next, fun _ => ⟨by decide, fun _ => next, fun q => absurd q (by decide)⟩⟩
          · intro hg
            refine ⟨by decide, fun _ => ?_, fun q => absurd rfl q⟩
            rw [growStep_no (fun l' z => bd_uniq hbd z ▸ hg)] at hr1
            exact ihn (b + 1) (d1 170 b + 1) (by omega) (by omega) (by omega) (by omega) (fun b' q1 q2 _ => by have := hB1.2.2.1 b b' hb (by omega) q2; omega) (fun b' q1 q2 => by
              rcases (show b' < b ∨ b' = b by omega) with c | c
              · have := hB1.2.2.1 b' b q1 c (by omega); omega
              · rw [c]; omega) hr1
    have hB11 := hB1.1
    by_cases c150 : fm ≤ 150
    · exact inner (d1 163 11).toNat 0 fm (by omega) (by omega) (Int.le_refl _) c150 (fun b' _ _ q => q) (fun b' q1 q2 => by omega) (by rw [e14]; exact ht)
    · omega
end
