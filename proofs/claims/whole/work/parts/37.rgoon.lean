-- a cut: the row with the new oxbow's three numbers
noncomputable def ct0 (s : Row) (i j : Int) : Row := fun k => if k = 1356 + 3 * f_full s 1355 then j - i - 1 else if k = 1356 + 3 * f_full s 1355 + 1 then 0 else if k = 1356 + 3 * f_full s 1355 + 2 then s (5 + i + 1) else f_full s k
noncomputable def ct1 (s : Row) (i j x : Int) : Row := fun k => @ite Int (1115 ≤ k ∧ k < 1355 ∧ btw s i x (k - 1115)) (Classical.propDecidable _) (f_full s 1355) (ct0 s i j k)
noncomputable def ct2 (s : Row) (i j : Int) : Row := fun k => if k = 4 then s 4 - (j - i - 1) else if k = 1355 then f_full s 1355 + 1 else ct1 s i j j k
section
variable {g : zGG} {Q : Int → zMem → Prop} {s : Row}
theorem ct0_out {i j k : Int} (hF : 0 ≤ f_full s 1355) (hk : k < 1356) : ct0 s i j k = f_full s k := by
  unfold ct0
  rw [if_neg (by omega), if_neg (by omega), if_neg (by omega)]
theorem ct1_out {i j x k : Int} (hF : 0 ≤ f_full s 1355) (hk : k < 1115 ∨ k = 1355) : ct1 s i j x k = f_full s k := by
  unfold ct1
  rw [if_neg (by omega), ct0_out hF (by omega)]
theorem l_rcut3 {d0 : zMem} {i j o : Int} (hs : crs s) (hX : IX s) (hn : neck s i j) (hQ : ∀ d', but d0 d' 154 → d' 154 = f_cut s i j → Q 0 d') :
    ∀ (n : Nat) (x : Int) (d : zMem), s 4 - (j - i - 1) - x = n → i + 1 ≤ x → but d0 d 154 → (∀ p, d 154 p = if 5 + i < p ∧ p < 5 + x then s (p + (j - i - 1)) else ct2 s i j p) →
    Fr g (eM g M_X9_cutNeck FUL FUL Q) M_X9_cutNeck FUL 162 [some (zR 153), some (zI o), some (zI (j - i - 1)), some (zI x)] [] d := by
  have h4 := hs.1
  obtain ⟨n1, n2, n3, n4⟩ := hn
  have hF := IX_full hX
  have hF0 := hF.1.1
  intro n
  induction n with
  | zero =>
    intro x d hn hx hd hv
    apply v_X9_cutNeck_162
    have e4 : d 154 4 = s 4 - (j - i - 1) := by rw [hv, if_neg (by omega)]; unfold ct2; rw [if_pos rfl]
    rw [e4]
    have hxx : x = s 4 - (j - i - 1) := by omega
    subst hxx
    refine ⟨⟨⟨by omega, by omega⟩, ⟨by omega, by omega⟩⟩, fun _ d1 hd1 => hQ d1 (hd1 ▸ but_mu hd) ?_, fun q => by omega⟩
    have e5 : d 154 1405 = s 1405 := by
      rw [hv, if_neg (by omega)]
      unfold ct2 ct1 ct0
      rw [if_neg (by omega), if_neg (by omega), if_neg (by omega), if_neg (by omega), if_neg (by omega), if_neg (by omega), f_full_out hX (by omega)]
    funext p
    rw [hd1, mu_app, if_pos rfl, e5]
    unfold f_cut
    by_cases c0 : p = 1405
    · rw [if_pos c0, if_neg (show ¬ p = 4 by omega), if_neg (show ¬ (5 + i < p ∧ p < 5 + (s 4 - (j - i - 1))) by omega), if_neg (show ¬ (1115 ≤ p ∧ p < 1355) by omega), if_neg (show ¬ p = 1355 by omega), if_neg (show ¬ p = 1356 + 3 * f_full s 1355 by omega), if_neg (show ¬ p = 1356 + 3 * f_full s 1355 + 1 by omega), if_neg (show ¬ p = 1356 + 3 * f_full s 1355 + 2 by omega), if_pos c0]
    · rw [if_neg c0, hv p]
      by_cases c1 : p = 4
      · rw [if_pos c1, if_neg (show ¬ (5 + i < p ∧ p < 5 + (s 4 - (j - i - 1))) by omega)]
        unfold ct2
        rw [if_pos c1]
      · rw [if_neg c1]
        by_cases c2 : 5 + i < p ∧ p < 5 + (s 4 - (j - i - 1))
        · rw [if_pos c2, if_pos c2]
        · rw [if_neg c2, if_neg c2]
          unfold ct2
          rw [if_neg c1]
          by_cases c3 : p = 1355
          · rw [if_pos c3, if_neg (show ¬ (1115 ≤ p ∧ p < 1355) by omega), if_pos c3]
          · rw [if_neg c3]
            unfold ct1
            by_cases c4 : 1115 ≤ p ∧ p < 1355
            · rw [if_pos c4]
              by_cases c5 : btw s i j (p - 1115)
              · rw [if_pos c5, if_pos ⟨c4.1, c4.2, c5⟩]
              · rw [if_neg c5, if_neg (fun z => c5 z.2.2), ct0_out (by omega) (by omega)]
            · rw [if_neg (fun z => c4 ⟨z.1, z.2.1⟩), if_neg c4, if_neg c3, if_neg c0]
              rfl
  | succ n ih =>
    intro x d hn hx hd hv
    apply v_X9_cutNeck_162
    have e4 : d 154 4 = s 4 - (j - i - 1) := by rw [hv, if_neg (by omega)]; unfold ct2; rw [if_pos rfl]
    rw [e4]
    refine ⟨⟨⟨by omega, by omega⟩, ⟨by omega, by omega⟩⟩, fun q => by omega, fun _ => ⟨⟨by omega, by omega⟩, ⟨by omega, by omega⟩, fun d2 hd2 => ih (x + 1) d2 (by omega) (by omega) (hd2 ▸ but_mu hd) (fun p => ?_)⟩⟩
    have e : d 154 (5 + x + (j - i - 1)) = s (5 + x + (j - i - 1)) := by
      rw [hv, if_neg (by omega)]
      unfold ct2
      rw [if_neg (by omega), if_neg (by omega), ct1_out (by omega) (by omega), f_full_out hX (by omega)]
    rw [hd2, mu_app, if_pos rfl, e]
    by_cases c : p = 5 + x
    · rw [if_pos c, if_pos (show 5 + i < p ∧ p < 5 + (x + 1) by omega), c]
    · rw [if_neg c, hv p]
      by_cases c2 : 5 + i < p ∧ p < 5 + x
      · rw [if_pos c2, if_pos (show 5 + i < p ∧ p < 5 + (x + 1) by omega)]
      · rw [if_neg c2, if_neg (show ¬ (5 + i < p ∧ p < 5 + (x + 1)) by omega)]
theorem l_rcut2 {d0 : zMem} {i j : Int} (hs : crs s) (hX : IX s) (hn : neck s i j) (h15 : d0 153 15 = i) (h16 : d0 153 16 = j) (hQ : ∀ d', but d0 d' 154 → d' 154 = f_cut s i j → Q 0 d') :
    ∀ (n : Nat) (x : Int) (d : zMem), j - x = n → i + 1 ≤ x → but d0 d 154 → d 154 = ct1 s i j x →
    Fr g (eM g M_X9_cutNeck FUL FUL Q) M_X9_cutNeck FUL 101 [some (zR 153), some (zI (f_full s 1355)), some (zI (j - i - 1)), some (zI x)] [] d := by
  have h4 := hs.1
  have hn' := hn
  obtain ⟨n1, n2, n3, n4⟩ := hn'
  have hF := IX_full hX
  have hF0 := hF.1.1
  intro n
  induction n with
  | zero =>
    intro x d hn0 hx hd hv
    apply v_X9_cutNeck_101
    rw [hd 153 (by omega), h15, h16]
    have hxx : x = j := by omega
    subst hxx
    have e55 : d 154 1355 = f_full s 1355 := by rw [hv, ct1_out (by omega) (by omega)]
    have e4 : d 154 4 = s 4 := by rw [hv, ct1_out (by omega) (by omega), f_full_out hX (by omega)]
    refine ⟨⟨⟨by omega, by omega⟩, ⟨by omega, by omega⟩⟩, fun _ d1 hd1 d2 hd2 => ?_, fun q => by omega⟩
    refine l_rcut3 (d0 := d2) hs hX hn (fun d' k1 k2 => hQ d' (fun q hq => ?_) k2) (s 4 - (x - i - 1) - (i + 1)).toNat (i + 1) d2 (by omega) (Int.le_refl _) but_rfl (fun p => ?_)
    · rw [k1 q hq, hd2, hd1]; funext z; rw [mu_na hq, mu_na hq, hd q hq]
    · rw [if_neg (by omega), hd2, mu_app, if_pos rfl, hd1, mu_ni (by omega), mu_app, if_pos rfl, e4, e55]
      unfold ct2
      by_cases c1 : p = 4
      · rw [if_pos c1, if_pos c1]
      · rw [if_neg c1, if_neg c1]
        by_cases c2 : p = 1355
        · rw [if_pos c2, if_pos c2]
        · rw [if_neg c2, if_neg c2, hv]
  | succ n ih =>
    intro x d hn0 hx hd hv
    apply v_X9_cutNeck_101
    rw [hd 153 (by omega), h15, h16]
    have hcx := hs.2.1 x (by omega) (by omega)
    have e5 : d 154 (5 + x) = s (5 + x) := by rw [hv, ct1_out (by omega) (by omega), f_full_out hX (by omega)]
    rw [e5]
    refine ⟨⟨⟨by omega, by omega⟩, ⟨by omega, by omega⟩⟩, fun q => by omega, fun _ => ⟨⟨by omega, by omega⟩, ⟨by omega, by omega⟩, fun d3 hd3 => ih (x + 1) d3 (by omega) (by omega) (hd3 ▸ but_mu hd) ?_⟩⟩
    funext p
    rw [hd3, mu_app, if_pos rfl, hv]
    unfold ct1
    by_cases c : p = 1115 + s (5 + x)
    · rw [if_pos c, if_pos ⟨by omega, by omega, x, by omega, by omega, by omega⟩]
    · rw [if_neg c]
      by_cases c2 : 1115 ≤ p ∧ p < 1355 ∧ btw s i x (p - 1115)
      · obtain ⟨m, q1, q2, q3⟩ := c2.2.2
        rw [if_pos c2, if_pos ⟨c2.1, c2.2.1, m, q1, by omega, q3⟩]
      · rw [if_neg c2, if_neg (fun z => by
          obtain ⟨z1, z2, m, q1, q2, q3⟩ := z
          rcases (show m < x ∨ m = x by omega) with y | rfl
          · exact c2 ⟨z1, z2, m, q1, y, q3⟩
          · omega)]
theorem r_cutNeck {d : zMem} {i j : Int} (h164 : d 154 = s) (hs : crs s) (hX : IX s) (hn : neck s i j) (h15 : d 153 15 = i) (h16 : d 153 16 = j) (hQ : ∀ d', but d d' 154 → d' 154 = f_cut s i j → Q 0 d') : Ev g M_X9_cutNeck FUL FUL [zR 153] d Q := by
  have h4 := hs.1
  have hn' := hn
  obtain ⟨n1, n2, n3, n4⟩ := hn'
  have hF := IX_full hX
  have hF0 := hF.1.1
  have hX1 := hX.1
  have hF11 := hF.2
  have main : ∀ d1, but d d1 154 → d1 154 = f_full s → (0 ≤ (1356 + (3 * (d1 154 1355))) ∧ (1356 + (3 * (d1 154 1355))) < 1407) ∧ ∀ d5, d5 = mu d1 154 (1356 + (3 * (d1 154 1355))) (((d1 153 16) - (d1 153 15)) - 1) → (0 ≤ ((1356 + (3 * (d1 154 1355))) + 1) ∧ ((1356 + (3 * (d1 154 1355))) + 1) < 1407) ∧ ∀ d6, d6 = mu d5 154 ((1356 + (3 * (d1 154 1355))) + 1) 0 → (0 ≤ ((5 + (d1 153 15)) + 1) ∧ ((5 + (d1 153 15)) + 1) < 1407) ∧ (0 ≤ ((1356 + (3 * (d1 154 1355))) + 2) ∧ ((1356 + (3 * (d1 154 1355))) + 2) < 1407) ∧ ∀ d7, d7 = mu d6 154 ((1356 + (3 * (d1 154 1355))) + 2) (d6 154 ((5 + (d1 153 15)) + 1)) → (Fr g (eM g M_X9_cutNeck FUL FUL Q) M_X9_cutNeck FUL 101 [some (zR 153), some (zI (d1 154 1355)), some (zI (((d1 153 16) - (d1 153 15)) - 1)), some (zI ((d1 153 15) + 1))] [] d7) := by
    intro d1 hb1 h1
    rw [hb1 153 (by omega), h15, h16, h1]
    refine ⟨⟨by omega, by omega⟩, fun d5 hd5 => ⟨⟨by omega, by omega⟩, fun d6 hd6 => ⟨⟨by omega, by omega⟩, ⟨by omega, by omega⟩, fun d7 hd7 => ?_⟩⟩⟩
    have b7 : but d d7 154 := hd7 ▸ but_mu (hd6 ▸ but_mu (hd5 ▸ but_mu hb1))
    refine l_rcut2 (d0 := d) hs hX hn h15 h16 hQ (j - (i + 1)).toNat (i + 1) d7 (by omega) (Int.le_refl _) b7 ?_
    have e6 : d6 154 (5 + i + 1) = s (5 + i + 1) := by
      rw [hd6, mu_ni (by omega), hd5, mu_ni (by omega), h1, f_full_out hX (by omega)]
    funext p
    rw [hd7, mu_app, if_pos rfl, e6, hd6, mu_app, if_pos rfl, hd5, mu_app, if_pos rfl, h1]
    have hno : ¬ (1115 ≤ p ∧ p < 1355 ∧ btw s i (i + 1) (p - 1115)) := fun ⟨z1, z2, m, q1, q2, q3⟩ => by omega
    have e1 : ct1 s i j (i + 1) p = ct0 s i j p := by unfold ct1; rw [if_neg hno]
    rw [e1]
    unfold ct0
    by_cases c1 : p = 1356 + 3 * f_full s 1355 + 2
    · rw [if_pos c1, if_neg (show ¬ p = 1356 + 3 * f_full s 1355 by omega), if_neg (show ¬ p = 1356 + 3 * f_full s 1355 + 1 by omega), if_pos c1]
    · rw [if_neg c1]
      by_cases c2 : p = 1356 + 3 * f_full s 1355 + 1
      · rw [if_pos c2, if_neg (show ¬ p = 1356 + 3 * f_full s 1355 by omega), if_pos c2]
      · rw [if_neg c2]
        by_cases c3 : p = 1356 + 3 * f_full s 1355
        · rw [if_pos c3, if_pos c3]
        · rw [if_neg c3, if_neg c3, if_neg c2, if_neg c1]
  apply e_X9_cutNeck
  have hfe : s 1355 ≠ 12 → f_full s = s := fun q => by unfold f_full; rw [if_neg q]
  have hfd : s 1355 = 12 → f_full s = f_drop s 0 := fun q => by unfold f_full; rw [if_pos q]
  refine ⟨by rw [h164]; exact ⟨by omega, by omega⟩, fun q => ?_, fun q => ?_⟩
  · rw [h164] at q
    exact main d but_rfl (by rw [h164, hfe q])
  · rw [h164] at q
    apply r_drop h164 hX (by omega) (by omega)
    intro d1 hb1 h1
    exact main d1 hb1 (by rw [h1, hfd q])
-- a year
theorem l_rox {d0 : zMem} {x1 x2 silt : Int} (hs : 1 ≤ silt ∧ silt ≤ 50) : ∀ (n : Nat) (d : zMem) (t : Row), but d0 d 154 → d 154 = t → t 3 = silt → IX t → IY t → (n : Int) ≤ t 1355 → (∀ d', but d0 d' 154 → d' 154 = oxRun silt n t → ∀ d1, d1 = mu d' 154 1404 (d' 154 1404 + 1) → Q (x1 - d1 154 4) d1) →
    Fr g (eM g M_X9_goOn FUL FUL Q) M_X9_goOn FUL 72 [some (zR 153), some (zI x1), some (zI x2), some (zI ((n : Int) - 1))] [] d
  | 0, d, t, hb, hr, h3, hX, hY, hn, hQ => by
    apply v_X9_goOn_72
    exact ⟨⟨by omega, by omega⟩, fun _ d1 hd1 => hQ d hb hr d1 hd1, fun q => by omega⟩
  | n + 1, d, t, hb, hr, h3, hX, hY, hn, hQ => by
    have hX1 := hX.1
    have hy0 := (hX.2.2 n (by omega) (by omega)).1
    have hi := f_inc_IX (o := n) hX hY (by omega) (by omega)
    have e : f_inc t n 1355 = t 1355 := by unfold f_inc; rw [if_neg (by omega)]
    obtain ⟨g1, g2, g3, g4⟩ := oxStep_ok (silt := silt) (o := n) hX hY hs (by omega) (by omega)
    apply v_X9_goOn_72
    rw [show ((n + 1 : Nat) : Int) - 1 = n by omega]
    refine ⟨⟨by omega, by omega⟩, fun q => by omega, fun _ => ⟨⟨by omega, by omega⟩, ⟨by omega, by omega⟩, fun d2 hd2 => ?_⟩⟩
    have r2 : d2 154 = f_inc t n := by
      funext p
      rw [hd2, mu_app, if_pos rfl, hr]
      unfold f_inc
      by_cases c : p = 1356 + 3 * (n : Int) + 1
      · rw [if_pos c, if_pos c, c]
      · rw [if_neg c, if_neg c]
    have b2 : but d0 d2 154 := hd2 ▸ but_mu hb
    have ev : f_inc t n (1356 + 3 * (n : Int) + 1) = t (1356 + 3 * (n : Int) + 1) + 1 := by unfold f_inc; rw [if_pos rfl]
    have e3 : f_inc t n 3 = silt := by unfold f_inc; rw [if_neg (by omega)]; exact h3
    rw [r2, ev, e3]
    refine ⟨⟨by omega, by omega⟩, ⟨⟨⟨by omega, by omega⟩, ⟨by omega, by omega⟩⟩, fun c => ?_, fun c => ?_⟩⟩
    · have hst : oxStep silt t n = f_inc t n := by unfold oxStep; rw [if_neg (by omega)]
      rw [show (n : Int) + (-1) = (n : Int) - 1 by omega]
      exact l_rox hs n d2 (f_inc t n) b2 r2 e3 (hst ▸ g1) (hst ▸ g2) (hst ▸ g3) (fun d' q1 q2 => hQ d' q1 (by show d' 154 = oxRun silt n (oxStep silt t n); rw [hst]; exact q2))
    · have hst : oxStep silt t n = f_drop (f_inc t n) n := by unfold oxStep; rw [if_pos (by omega)]
      apply r_drop r2 hi (by omega) (by rw [e]; omega)
      intro d3 hb3 h3r
      rw [show (n : Int) + (-1) = (n : Int) - 1 by omega]
      exact l_rox hs n d3 _ (fun q hq => by rw [hb3 q hq, b2 q hq]) h3r (by rw [← hst, g4 3 (by omega)]; exact h3) (hst ▸ g1) (hst ▸ g2) (hst ▸ g3) (fun d' q1 q2 => hQ d' q1 (by show d' 154 = oxRun silt n (oxStep silt t n); rw [hst]; exact q2))
theorem l_rcuts {d0 : zMem} {x1 old : Int} (s0 : Row) (ho : inR old) (hQ : ∀ d', rF d0 d' → d' 153 14 = d0 153 14 → d' 154 = cutRun old 150 s0 → Fr g (eM g M_X9_goOn FUL FUL Q) M_X9_goOn FUL 72 [some (zR 153), some (zI x1), some (zI old), some (zI (d' 154 1355 - 1))] [] d') :
    ∀ (n : Nat) (d : zMem) (t : Row), rF d0 d → d 153 14 = d0 153 14 → d 154 = t → cI t → t 4 ≤ n → cutRun old n t = cutRun old 150 s0 →
    Fr g (eM g M_X9_goOn FUL FUL Q) M_X9_goOn FUL 45 [some (zR 153), some (zI x1), some (zI old), none] [] d := by
  intro n
  induction n with
  | zero =>
    intro d t hd h14 hr hI hn ht
    have := hI.1.1
    omega
  | succ n ih =>
    intro d t hd h14 hr hI hn ht
    have hI' := hI
    obtain ⟨hs, hX, hY, h8, hA⟩ := hI'
    have h4 := hs.1
    apply v_X9_goOn_45
    apply r_widest ho hr hs hA
    · intro d1 i j f1 j1 r1 hw e15 e16
      refine ⟨by decide, fun q => absurd q (by decide), fun _ => ?_⟩
      apply r_cutNeck r1 hs hX hw.1.1 e15 e16
      intro d2 hb2 h2
      have hc := cut_at hX hw.1.1 h4.2
      have := hw.1.1.2.1
      refine ih d2 _ (rF_but (rF_trans hd f1) (by omega) hb2) (by rw [hb2 153 (by omega), j1 14 (by omega) (by omega) (by omega), h14]) h2 (cI_cut hI hw.1.1) (by rw [hc.1]; omega) ?_
      rw [← ht, ← cutStep_of hw]
      rfl
    · intro d1 f1 j1 r1 hno
      refine ⟨by decide, fun _ => hQ d1 (rF_trans hd f1) (by rw [j1 14 (by omega) (by omega) (by omega), h14]) ?_, fun q => absurd rfl q⟩
      rw [r1, ← ht]
      exact (cutRun_none hno (n + 1)).symm
theorem flN_same {s t : Row} (h : same s t 1395 1404) (h8 : s 1395 ≤ 8) (y : Int) : flN t y = flN s y := by
  have e := h 1395 (by omega) (by omega)
  have key : isFl t y ↔ isFl s y := by
    unfold isFl
    rw [e]
    constructor
    · rintro ⟨k, q1, q2, q3⟩
      exact ⟨k, q1, q2, by rw [← h _ (by omega) (by omega)]; exact q3⟩
    · rintro ⟨k, q1, q2, q3⟩
      exact ⟨k, q1, q2, by rw [h _ (by omega) (by omega)]; exact q3⟩
  by_cases c : isFl s y
  · rw [flN_1 c, flN_1 (key.mpr c)]
  · rw [flN_0 c, flN_0 (fun z => c (key.mp z))]
theorem r_goOn {d : zMem} (h164 : d 154 = s) (hI : Inv s) (hy : s 1404 ≤ 4000) (hw : inR (d 153 13)) (hfl : d 153 14 = 0 ∨ d 153 14 = 1) (hQ : ∀ d', rF d d' → d' 154 = f_year s → d' 153 14 = tkn (d 153 13) (d 153 14) s → Q (less s) d') : Ev g M_X9_goOn FUL FUL [zR 153] d Q := by
  obtain ⟨pw, pg, pa, pc, pf, o1, o2, o3, o4, o5⟩ := year_parts hI hy
  have hIF := hI.2.2.2.2.2
  have hIS := hI.2.2.2.2.1
  have hS2 := hIS.2.2.1
  have hF1 := hIF.1
  apply e_X9_goOn
  apply r_wear h164 hI hy
  intro d1 f1 j1 r1
  apply r_growAll r1 pw (by rw [j1 13 (by omega)]; exact hw) (by rw [j1 14 (by omega)]; exact hfl)
  intro d2 f2 r2 h214
  have eg : (growAll (d1 153 13) (d1 153 14) (wearAll (more s) s)).1 = (yGrow 0 0 s).1 := yGrow_w _ _ s
  rw [eg] at r2
  apply r_age r2 pg (by rw [o1 1404 (by omega)]; exact hy)
  intro d3 f3 e163 r3
  have r3' : d3 154 = yAge s := r3
  have hAf : IF (yAge s) := IF_same (s := s) (fun k q1 q2 => o2 k (by omega)) hIF
  rw [r3']
  apply r_isFloodYear r3' hAf ⟨by rw [o2 1404 (by omega)]; have := hIF.2.2.2; omega, by rw [o2 1404 (by omega)]; omega⟩
  rw [o2 1404 (by omega), flN_same (s := s) (fun k q1 q2 => o2 k (by omega)) hF1.2, r3', o2 2 (by omega)]
  have f03 : rF d d3 := rF_trans f1 (rF_trans f2 f3)
  have h314 : d3 153 14 = tkn (d 153 13) (d 153 14) s := by
    rw [e163, h214, j1 13 (by omega), j1 14 (by omega)]; rfl
  have hold : old s = (if flN s (s 1404) = 0 then s 2 else 0) := rfl
  have hor : inR (old s) := by rw [hold]; split <;> constructor <;> omega
  have h44 := pa.1.1
  have go : Fr g (eM g M_X9_goOn FUL FUL Q) M_X9_goOn FUL 45 [some (zR 153), some (zI (yAge s 4)), some (zI (old s)), none] [] d3 := by
    refine l_rcuts (d0 := d3) (yAge s) hor ?_ 150 d3 (yAge s) rF_rfl rfl r3' pa (by omega) rfl
    intro d4 f4 h414 r4
    have r4' : d4 154 = yCut s := r4
    have hX1 := pc.2.1.1
    rw [r4']
    have en : yCut s 1355 - 1 = (((yCut s 1355).toNat : Nat) : Int) - 1 := by omega
    rw [en]
    refine l_rox (d0 := d4) (silt := s 3) hIS.2.2.2 (yCut s 1355).toNat d4 (yCut s) but_rfl r4' (o3 3 (by omega)) pc.2.1 pc.2.2.1 (by omega) ?_
    intro d5 b5 r5 d6 hd6
    have r5' : d5 154 = yOx s := r5
    have r6 : d6 154 = f_year s := by
      funext p
      rw [hd6, mu_app, if_pos rfl, r5', o4 1404 (by omega), o3 1404 (by omega)]
      unfold f_year ru
      by_cases c : p = 1404
      · rw [if_pos c]
      · rw [if_neg c]
    have hless : yAge s 4 - d6 154 4 = less s := by
      rw [r6]
      unfold f_year less
      rw [ru_ne (by omega), o4 4 (by omega)]
    rw [hless]
    exact hQ d6 (rF_trans f03 (rF_trans f4 (hd6 ▸ rF_mu (rF_but rF_rfl (by omega) b5) (by omega)))) r6 (by rw [hd6, mu_na (by omega), b5 153 (by omega), h414, h314])
  rcases flN_01 s (s 1404) with e | e
  · rw [e]
    rw [hold, e, if_pos rfl] at go
    exact ⟨by decide, fun _ => go, fun q => absurd rfl q⟩
  · rw [e]
    rw [hold, e, if_neg (by decide)] at go
    exact ⟨by decide, fun q => absurd q (by decide), fun _ => go⟩
end
