-- growths of a year: the row, where the next one may begin, whether the cell w was taken
def itg {α : Type} (f : α → Int → α) : Nat → Int → α → α
  | 0, _, s => s
  | n + 1, k, s => itg f n (k + 1) (f s k)
theorem itg_skip {α : Type} {f : α → Int → α} {t : α} : ∀ (m n : Nat) (k : Int), (∀ j, k ≤ j → j < k + m → f t j = t) → itg f (m + n) k t = itg f n (k + m) t
  | 0, n, k, h => by rw [Nat.zero_add, Int.natCast_zero, Int.add_zero]
  | m + 1, n, k, h => by
    rw [show m + 1 + n = (m + n) + 1 by omega]
    show itg f (m + n) (k + 1) (f t k) = _
    rw [h k (by omega) (by omega), itg_skip m n (k + 1) (fun j q1 q2 => h j (by omega) (by omega)), show k + 1 + (m : Int) = k + ((m + 1 : Nat) : Int) by omega]
theorem itg_skip' {α : Type} {f : α → Int → α} {t : α} {x y : Int} (hxy : x ≤ y) (hy : y ≤ 150) (h : ∀ j, x ≤ j → j < y → f t j = t) : itg f (150 - x).toNat x t = itg f (150 - y).toNat y t := by
  have := itg_skip (f := f) (t := t) (y - x).toNat (150 - y).toNat x (fun j q1 q2 => h j q1 (by omega))
  rw [show (150 - x).toNat = (y - x).toNat + (150 - y).toNat by omega, this, show x + ((y - x).toNat : Int) = y by omega]
theorem itg_one {α : Type} {f : α → Int → α} {t : α} {x : Int} (hx : x < 150) : itg f (150 - x).toNat x t = itg f (150 - (x + 1)).toNat (x + 1) (f t x) := by
  rw [show (150 - x).toNat = (150 - (x + 1)).toNat + 1 by omega]
  rfl
def hit (s : Row) (f l w : Int) : Prop := ∃ m, f ≤ m ∧ m ≤ l ∧ bk s f m = w
noncomputable def hitN (s : Row) (f l w fl : Int) : Int := @ite Int (hit s f l w) (Classical.propDecidable _) 1 fl
abbrev GS : Type := Row × Int × Int
noncomputable def growStep (w : Int) (p : GS) (k : Int) : GS := @dite GS (p.2.1 ≤ k ∧ ∃ l, bd p.1 k l ∧ grows p.1 k l) (Classical.propDecidable _) (fun h => (f_grow p.1 k (Classical.choose h.2), Classical.choose h.2 + 2, hitN p.1 k (Classical.choose h.2) w p.2.2)) (fun _ => p)
theorem growStep_of {w fr fl k l : Int} {s : Row} (h0 : fr ≤ k) (hb : bd s k l) (hg : grows s k l) : growStep w (s, fr, fl) k = (f_grow s k l, l + 2, hitN s k l w fl) := by
  have e : (s, fr, fl).2.1 ≤ k ∧ ∃ l, bd (s, fr, fl).1 k l ∧ grows (s, fr, fl).1 k l := ⟨h0, l, hb, hg⟩
  have := bd_uniq hb (Classical.choose_spec e.2).1
  unfold growStep
  rw [dif_pos e, ← this]
theorem growStep_no {w fr fl k : Int} {s : Row} (h : ∀ l, bd s k l → ¬ grows s k l) : growStep w (s, fr, fl) k = (s, fr, fl) := by
  unfold growStep
  rw [dif_neg]
  rintro ⟨h0, l, h1, h2⟩
  exact h l h1 h2
theorem growStep_lo {w fr fl k : Int} {s : Row} (h : k < fr) : growStep w (s, fr, fl) k = (s, fr, fl) := by
  unfold growStep
  rw [dif_neg]
  rintro ⟨h0, l, h1, h2⟩
  have h0' : fr ≤ k := h0
  omega
noncomputable def growAll (w fl : Int) (s : Row) : GS := itg (growStep w) 150 0 (s, 0, fl)
/-- what the cell watched is, is nothing to the row -/
theorem grow_w {w w' : Int} : ∀ (n : Nat) (k : Int) (s : Row) (fr fl fl' : Int), (itg (growStep w) n k (s, fr, fl)).1 = (itg (growStep w') n k (s, fr, fl')).1
  | 0, k, s, fr, fl, fl' => rfl
  | n + 1, k, s, fr, fl, fl' => by
    show (itg (growStep w) n (k + 1) (growStep w (s, fr, fl) k)).1 = (itg (growStep w') n (k + 1) (growStep w' (s, fr, fl') k)).1
    by_cases e : fr ≤ k ∧ ∃ l, bd s k l ∧ grows s k l
    · obtain ⟨h0, l, h1, h2⟩ := e
      rw [growStep_of h0 h1 h2, growStep_of h0 h1 h2]
      exact grow_w n _ _ _ _ _
    · have e1 : growStep w (s, fr, fl) k = (s, fr, fl) := by unfold growStep; rw [dif_neg e]
      have e2 : growStep w' (s, fr, fl') k = (s, fr, fl') := by unfold growStep; rw [dif_neg e]
      rw [e1, e2]
      exact grow_w n _ _ _ _ _
theorem grow_out {s : Row} {f l k : Int} (hI : Inv s) (hb : bd s f l) (hg : grows s f l) (hk : k < 4 ∨ (395 ≤ k ∧ k < 1115) ∨ (1395 ≤ k ∧ k ≠ 1406)) : f_grow s f l k = s k := by
  obtain ⟨g1, -, -⟩ := grow_Inv hI hb hg
  have b1 := hb.1
  have b2 := hb.2.1
  rw [grow_at, if_neg (by omega)]
  by_cases h : k < 155
  · rw [if_pos h]
    unfold crsG
    rw [if_neg (by omega), if_neg (by omega), if_neg (by omega)]
  · rw [if_neg h, g1 k (by omega)]
theorem growN_Inv {w : Int} : ∀ (n : Nat) (k : Int) (s : Row) (fr fl : Int), Inv s → Inv (itg (growStep w) n k (s, fr, fl)).1 ∧ ∀ i, (i < 4 ∨ (395 ≤ i ∧ i < 1115) ∨ (1395 ≤ i ∧ i ≠ 1406)) → (itg (growStep w) n k (s, fr, fl)).1 i = s i
  | 0, k, s, fr, fl, h => ⟨h, fun _ _ => rfl⟩
  | n + 1, k, s, fr, fl, h => by
    show Inv (itg (growStep w) n (k + 1) (growStep w (s, fr, fl) k)).1 ∧ ∀ i, _ → (itg (growStep w) n (k + 1) (growStep w (s, fr, fl) k)).1 i = s i
    by_cases e : fr ≤ k ∧ ∃ l, bd s k l ∧ grows s k l
    · obtain ⟨h0, l, h1, h2⟩ := e
      rw [growStep_of h0 h1 h2]
      obtain ⟨k1, k2⟩ := growN_Inv (w := w) n (k + 1) _ (l + 2) (hitN s k l w fl) (grow_Inv h h1 h2).2.2
      exact ⟨k1, fun i hi => (k2 i hi).trans (grow_out h h1 h2 hi)⟩
    · have e1 : growStep w (s, fr, fl) k = (s, fr, fl) := by unfold growStep; rw [dif_neg e]
      rw [e1]
      exact growN_Inv n _ _ _ _ h
-- floods
def isFl (s : Row) (y : Int) : Prop := ∃ k, 0 ≤ k ∧ k < s 1395 ∧ s (1396 + k) = y
noncomputable def flN (s : Row) (y : Int) : Int := @ite Int (isFl s y) (Classical.propDecidable _) 1 0
theorem flN_01 (s : Row) (y : Int) : flN s y = 0 ∨ flN s y = 1 := by
  unfold flN
  by_cases h : isFl s y
  · rw [if_pos h]; exact Or.inr rfl
  · rw [if_neg h]; exact Or.inl rfl
theorem flN_1 {s : Row} {y : Int} (h : isFl s y) : flN s y = 1 := by unfold flN; rw [if_pos h]
theorem flN_0 {s : Row} {y : Int} (h : ¬ isFl s y) : flN s y = 0 := by unfold flN; rw [if_neg h]
-- a year
noncomputable def more (s : Row) : Int := s 0 * (if flN s (s 1404) = 0 then 1 else 2)
noncomputable def yGrow (w fl : Int) (s : Row) : GS := growAll w fl (wearAll (more s) s)
noncomputable def yAge (s : Row) : Row := f_age (yGrow 0 0 s).1
noncomputable def old (s : Row) : Int := if flN s (s 1404) = 0 then s 2 else 0
noncomputable def yCut (s : Row) : Row := cutRun (old s) 150 (yAge s)
noncomputable def yOx (s : Row) : Row := oxRun (s 3) (yCut s 1355).toNat (yCut s)
noncomputable def f_year (s : Row) : Row := ru (yOx s) 1404 (s 1404 + 1)
noncomputable def less (s : Row) : Int := yAge s 4 - yCut s 4
noncomputable def tkn (w fl : Int) (s : Row) : Int := (yGrow w fl s).2.2
theorem yGrow_w (w fl : Int) (s : Row) : (yGrow w fl s).1 = (yGrow 0 0 s).1 := grow_w _ _ _ _ _ _
theorem more_rng {s : Row} (h : Inv s) : 0 ≤ more s ∧ more s ≤ 1000 := by
  have hS := h.2.2.2.2.1.1
  unfold more
  split <;> omega
theorem year_parts {s : Row} (h : Inv s) (hy : s 1404 ≤ 4000) : Inv (wearAll (more s) s) ∧ Inv (yGrow 0 0 s).1 ∧ cI (yAge s) ∧ cI (yCut s) ∧ Inv (f_year s)
    ∧ (∀ k, (k < 4 ∨ (395 ≤ k ∧ k < 1115) ∨ (1395 ≤ k ∧ k ≠ 1406)) → (yGrow 0 0 s).1 k = s k) ∧ (∀ k, (k < 4 ∨ (395 ≤ k ∧ k < 635) ∨ (1395 ≤ k ∧ k ≠ 1406)) → yAge s k = s k) ∧ (∀ k, (k < 4 ∨ (395 ≤ k ∧ k < 635) ∨ (1395 ≤ k ∧ k < 1405)) → yCut s k = s k) ∧ (∀ k, (k < 1115 ∨ 1395 ≤ k) → yOx s k = yCut s k) ∧ IX (yOx s) := by
  obtain ⟨w1, w2⟩ := wearAll_Inv (more_rng h).1 150 0 s h
  obtain ⟨g1, g2⟩ := growN_Inv (w := 0) 150 0 (wearAll (more s) s) 0 0 w1
  have g2' : ∀ k, (k < 4 ∨ (395 ≤ k ∧ k < 1115) ∨ (1395 ≤ k ∧ k ≠ 1406)) → (yGrow 0 0 s).1 k = s k := fun k hk => (g2 k hk).trans (w2 k (by omega))
  have hG : Inv (yGrow 0 0 s).1 := g1
  have hA' : ∀ k, (k < 4 ∨ (395 ≤ k ∧ k < 635) ∨ (1395 ≤ k ∧ k ≠ 1406)) → yAge s k = s k := fun k hk => by
    unfold yAge
    rw [age_out (by omega)]
    exact g2' k (by omega)
  have ages : ∀ k, 0 ≤ k → k < 480 → 0 ≤ yAge s (635 + k) ∧ yAge s (635 + k) ≤ s 1404 + 1 := by
    intro k q1 q2
    have hw := hG.2.2.2.1.2 k q1 q2
    rw [g2' 1404 (by omega)] at hw
    unfold yAge f_age
    rw [if_pos (by omega)]
    split <;> omega
  have hAge : cI (yAge s) := by
    obtain ⟨hs, hX, hY, hW, hS, hF⟩ := hG
    refine ⟨crs_same (fun k _ _ => age_out (by omega)) hs, IX_same (fun k _ _ => age_out (by omega)) hX, IY_same (fun k _ _ => age_out (by omega)) hX hY, ?_, fun k q1 q2 => ?_⟩
    · unfold yAge
      rw [age_out (by omega)]; exact hF.1.2
    · have := ages k q1 q2
      omega
  obtain ⟨c1, c2⟩ := cutRun_cI (old := old s) 150 (yAge s) hAge
  have hC : cI (yCut s) := c1
  have hC' : ∀ k, (k < 4 ∨ (395 ≤ k ∧ k < 635) ∨ (1395 ≤ k ∧ k < 1405)) → yCut s k = s k := fun k hk => (c2 k (by omega)).trans (hA' k (by omega))
  have hS3 := h.2.2.2.2.1.2.2.2
  obtain ⟨o1, o2, o3⟩ := oxRun_ok (silt := s 3) hS3 (yCut s 1355).toNat (yCut s) hC.2.1 hC.2.2.1 (by have := hC.2.1.1; omega)
  have hO : ∀ k, (k < 1115 ∨ 1395 ≤ k) → yOx s k = yCut s k := o3
  refine ⟨w1, hG, hAge, hC, ?_, g2', hA', hC', hO, o1⟩
  have hf : ∀ k, k ≠ 1404 → f_year s k = yOx s k := fun k hk => by unfold f_year; rw [ru_ne hk]
  have hf4 : f_year s 1404 = s 1404 + 1 := by unfold f_year; rw [ru_at]
  have hlo : ∀ k, (k < 4 ∨ (395 ≤ k ∧ k < 635) ∨ (1395 ≤ k ∧ k < 1404)) → f_year s k = s k := fun k hk => by rw [hf k (by omega), hO k (by omega), hC' k (by omega)]
  obtain ⟨hs, hX, hY, hW, hS, hF⟩ := h
  refine ⟨crs_same (s := yCut s) (fun k q1 q2 => by rw [hf k (by omega), hO k (by omega)]) hC.1, IX_same (s := yOx s) (fun k q1 q2 => hf k (by omega)) o1, IY_same (s := yOx s) (fun k q1 q2 => hf k (by omega)) o1 o2, ⟨fun c q1 q2 => ⟨?_, ?_⟩, fun k q1 q2 => ?_⟩, IS_same (s := s) (fun k q1 q2 => hlo k (by omega)) hS, ?_⟩
  · rw [hf _ (by omega), hO _ (by omega)]
    have e1 : yCut s (155 + c) = yAge s (155 + c) := c2 _ (by omega)
    have e2 : yAge s (155 + c) = (yGrow 0 0 s).1 (155 + c) := by unfold yAge; rw [age_out (by omega)]
    rw [e1, e2]
    exact (hG.2.2.2.1.1 c q1 q2).1
  · rw [hlo _ (by omega)]; exact (hW.1 c q1 q2).2
  · rw [hf4, hf _ (by omega), hO _ (by omega)]
    have e1 : yCut s (635 + k) = yAge s (635 + k) := c2 _ (by omega)
    rw [e1]
    exact ages k q1 q2
  · obtain ⟨f1, f2, f3, f4⟩ := hF
    have e := hlo 1395 (by omega)
    refine ⟨by rw [e]; exact f1, fun k q1 q2 => ?_, fun k k' q1 q2 q3 q4 he => ?_, by rw [hf4]; omega⟩
    · rw [e] at q2
      rw [hlo _ (by omega)]; exact f2 k q1 q2
    · rw [e] at q2 q4
      rw [hlo _ (by omega), hlo _ (by omega)] at he
      exact f3 k k' q1 q2 q3 q4 he
theorem year_1404 (s : Row) : f_year s 1404 = s 1404 + 1 := by unfold f_year; rw [ru_at]
section
variable {g : zGG} {Q : Int → zMem → Prop} {a : Nat} {s : Row}
theorem l_hasFlood {d : zMem} {y : Int} (ha : isRiv a) (hR : RF d a s) (hF : IF s) (hy : inR y) (hQ : Q (flN s y) d) : ∀ (n : Nat) (x : Int), s 1395 - x = n → 0 ≤ x → (∀ k, 0 ≤ k → k < x → s (1396 + k) ≠ y) →
    Fr g (eM g M_X7_hasFlood FUL FUL Q) M_X7_hasFlood FUL 2 [some (zR a), some (zI y), some (zI x)] [] d
  | 0, x, hn, hx, hv => by
    have hF1 := hF.1
    apply v_X7_hasFlood_2 ha
    rw [hR.1]
    refine ⟨⟨⟨by omega, by omega⟩, ⟨by omega, by omega⟩⟩, fun _ => ?_, fun q => by omega⟩
    rw [flN_0 (fun ⟨k, q1, q2, q3⟩ => hv k q1 (by omega) q3)] at hQ
    exact hQ
  | n + 1, x, hn, hx, hv => by
    have hF1 := hF.1
    have hF2 := hF.2.1 x hx (by omega)
    apply v_X7_hasFlood_2 ha
    rw [hR.1, hR.2.1 x hx (by omega)]
    refine ⟨⟨⟨by omega, by omega⟩, ⟨by omega, by omega⟩⟩, fun q => by omega, fun _ => ⟨⟨by omega, by omega⟩, fun q => by omega, fun _ => ⟨⟨by omega, by omega⟩, ⟨⟨⟨by omega, by omega⟩, hy⟩, fun q => ?_, fun q => ?_⟩⟩⟩⟩
    · exact l_hasFlood ha hR hF hy hQ n (x + 1) (by omega) (by omega) (fun k q1 q2 => by
        rcases (show k < x ∨ k = x by omega) with z | rfl
        · exact hv k q1 z
        · exact q)
    · rw [flN_1 ⟨x, hx, by omega, q⟩] at hQ
      exact hQ
theorem c_hasFlood {d : zMem} {y : Int} (ha : isRiv a) (hR : RF d a s) (hF : IF s) (hy : inR y) (hQ : Q (flN s y) d) : Ev g M_X7_hasFlood FUL FUL [zR a, zI y] d Q := by
  have hF1 := hF.1
  apply e_X7_hasFlood ha
  exact l_hasFlood ha hR hF hy hQ (s 1395).toNat 0 (by omega) (by omega) (fun k _ _ => by omega)
-- a growth is noted
theorem l_noteTaken {d0 : zMem} {f l : Int} (ha : isRiv a) (hC : RC d0 a s) (hs : crs s) (hb : bd s f l) (hB : hB d0 121 s f l) (hw : inR (d0 120 2)) (hQ : ∀ d', but d0 d' 120 → (∀ j, j ≠ 3 → d' 120 j = d0 120 j) → d' 120 3 = hitN s f l (d0 120 2) (d0 120 3) → Q 0 d') :
    ∀ (n : Nat) (x : Int) (d : zMem), l + 1 - x = n → f ≤ x → but d0 d 120 → (∀ j, j ≠ 3 → d 120 j = d0 120 j) → ((∃ m, f ≤ m ∧ m < x ∧ bk s f m = d0 120 2) → d 120 3 = 1) → ((¬ ∃ m, f ≤ m ∧ m < x ∧ bk s f m = d0 120 2) → d 120 3 = d0 120 3) →
    Fr g (eM g M_X6_noteTaken FUL FUL Q) M_X6_noteTaken FUL 8 [some (zR 120), some (zR a), some (zI x)] [] d
  | 0, x, d, hn, hx, hd, hj, hv1, hv0 => by
    have h4 := hs.1
    have b1 := hb.1
    have b3 := hb.2.2.1
    apply v_X6_noteTaken_8 ha
    rw [hd 121 (by omega), hB.2.1]
    refine ⟨⟨⟨by omega, by omega⟩, ⟨by omega, by omega⟩⟩, fun _ => hQ d hd hj ?_, fun q => by omega⟩
    unfold hitN
    by_cases c : hit s f l (d0 120 2)
    · rw [if_pos c]
      obtain ⟨m, q1, q2, q3⟩ := c
      exact hv1 ⟨m, q1, by omega, q3⟩
    · rw [if_neg c]
      exact hv0 (fun ⟨m, q1, q2, q3⟩ => c ⟨m, q1, by omega, q3⟩)
  | n + 1, x, d, hn, hx, hd, hj, hv1, hv0 => by
    have h4 := hs.1
    have b1 := hb.1
    have b3 := hb.2.2.1
    have h128 := riv128 ha
    apply v_X6_noteTaken_8 ha
    have eb := hd 121 (by omega)
    rw [eb, hB.2.1]
    refine ⟨⟨⟨by omega, by omega⟩, ⟨by omega, by omega⟩⟩, fun q => by omega, fun _ => ?_⟩
    apply c_bankCell ha (Or.inl rfl) (RC_keep hC hs (fun q hq => hd q (by omega)) (fun _ _ _ => rfl)) hs (hB_but hB eb) ⟨by omega, by omega⟩
    rw [hj 2 (by omega)]
    refine ⟨⟨inR_bk, hw⟩, fun q => ?_, fun q d2 hd2 => ?_⟩
    · refine l_noteTaken ha hC hs hb hB hw hQ n (x + 1) d (by omega) (by omega) hd hj (fun ⟨m, q1, q2, q3⟩ => hv1 ⟨m, q1, ?_, q3⟩) (fun z => hv0 (fun ⟨m, q1, q2, q3⟩ => z ⟨m, q1, by omega, q3⟩))
      rcases (show m < x ∨ m = x by omega) with z | rfl
      · exact z
      · exact absurd q3 q
    · refine l_noteTaken ha hC hs hb hB hw hQ n (x + 1) d2 (by omega) (by omega) (hd2 ▸ but_mu hd) (fun j hj3 => by rw [hd2, mu_ni hj3, hj j hj3]) (fun _ => by rw [hd2, mu_get]) (fun z => absurd ⟨x, hx, by omega, q⟩ z)
theorem c_noteTaken {d : zMem} {f l : Int} (ha : isRiv a) (hC : RC d a s) (hs : crs s) (hb : bd s f l) (hB : hB d 121 s f l) (hw : inR (d 120 2)) (hQ : ∀ d', but d d' 120 → (∀ j, j ≠ 3 → d' 120 j = d 120 j) → d' 120 3 = hitN s f l (d 120 2) (d 120 3) → Q 0 d') : Ev g M_X6_noteTaken FUL FUL [zR 120, zR a] d Q := by
  have b2 := hb.2.1
  apply e_X6_noteTaken ha
  rw [hB.1]
  exact l_noteTaken ha hC hs hb hB hw hQ (l + 1 - f).toNat f d (by omega) (Int.le_refl _) but_rfl (fun _ _ => rfl) (fun ⟨m, q1, q2, _⟩ => by omega) (fun _ => rfl)
/-- outside of a river and of what passing takes for itself -/
def butP (d0 d : zMem) (a : Nat) : Prop := ∀ q, (q < a ∨ a + 14 ≤ q) → q ≠ 120 → q ≠ 121 → q ≠ 122 → d q = d0 q
theorem butP_trans {d0 d1 d2 : zMem} (h : butP d0 d1 a) (h2 : butP d1 d2 a) : butP d0 d2 a := fun q q1 q2 q3 q4 => (h2 q q1 q2 q3 q4).trans (h q q1 q2 q3 q4)
theorem l_growBends {d0 : zMem} {w : Int} {r : GS} (ha : isRiv a) (hw : inR w) (hQ : ∀ d', butP d0 d' a → d' 120 2 = w → (∀ j, j ≠ 3 → d' 120 j = d0 120 j) → d' 120 3 = r.2.2 → Rel d' a r.1 → Q 0 d') :
    ∀ (n : Nat) (x y : Int) (d : zMem) (t : Row) (fr : Int), 150 - x = n → 0 ≤ x → x ≤ y → y ≤ 150 → fr ≤ y → butP d0 d a → d 120 2 = w → (∀ j, j ≠ 3 → d 120 j = d0 120 j) → Rel d a t → Inv t → itg (growStep w) (150 - y).toNat y (t, fr, d 120 3) = r →
    Fr g (eM g M_X6_growBends FUL FUL Q) M_X6_growBends FUL 4 [some (zR 120), some (zR a), some (zI y), some (zI x)] [] d
  | 0, x, y, d, t, fr, hn, hx, hxy, hy, hfr, hd, hdw, hj, hR, hI, ht => by
    apply v_X6_growBends_4 ha
    rw [show (150 - y).toNat = 0 by omega] at ht
    have ht' : (t, fr, d 120 3) = r := ht
    exact ⟨⟨by omega, by omega⟩, fun _ => hQ d hd hdw hj (by rw [← ht']) (by rw [← ht']; exact hR), fun q => by omega⟩
  | n + 1, x, y, d, t, fr, hn, hx, hxy, hy, hfr, hd, hdw, hj, hR, hI, ht => by
    have hI' := hI
    have hR' := hR
    obtain ⟨hs, hX, hY, hW, hS, hF⟩ := hI'
    obtain ⟨rS, rC, rX, rW, rF⟩ := hR'
    have h4 := hs.1
    have hab := rivBd ha (show isBd 121 from Or.inl rfl)
    have h128 := riv128 ha
    apply v_X6_growBends_4 ha
    refine ⟨⟨by omega, by omega⟩, fun q => by omega, fun _ => ?_⟩
    apply c_seekFrom ha (Or.inl rfl) rC hs ⟨by omega, by omega⟩
    · intro d1 f l hb1 hbd hB hyf hno
      have b1 := hbd.1
      have b2 := hbd.2.1
      have b3 := hbd.2.2.1
      have hR1 := Rel_keep hR hI (fun q q1 q2 => hb1 q (by omega))
      have hd1 : butP d0 d1 a := fun q h0 h1 h2 h3 => by rw [hb1 q h2, hd q h0 h1 h2 h3]
      have e128 := hb1 120 (by omega)
      have hr1 : itg (growStep w) (150 - (f + 1)).toNat (f + 1) (growStep w (t, fr, d 120 3) f) = r := by
        rw [← itg_one (by omega), ← itg_skip' hyf (by omega) (fun j q1 q2 => growStep_no (fun l' z => absurd z (hno j l' q1 q2)))]
        exact ht
      refine ⟨by decide, fun q => absurd q (by decide), fun _ => ?_⟩
      apply c_canGrow ha (Or.inl rfl) hR1.2.1 hR1.2.2.2.1 hR1.1 hs hW hS hbd hB
      · intro hg
        refine ⟨by decide, fun q => absurd q (by decide), fun _ => ?_⟩
        rw [growStep_of (by omega) hbd hg] at hr1
        apply c_noteTaken ha hR1.2.1 hs hbd hB (by rw [e128, hdw]; exact hw)
        intro d2 hb2 hj2 h32
        apply c_growBend ha (Or.inl rfl) (Rel_keep hR1 hI (fun q q1 q2 => hb2 q (by omega))) hI hbd hg (hB_but hB (hb2 121 (by omega)))
        intro d3 hb3 hR3
        have e128' : d3 120 = d2 120 := hb3 120 (by omega)
        rw [hb3 121 (by omega), hb2 121 (by omega), hB.2.1]
        refine l_growBends ha hw hQ n (x + 1) (l + 2) d3 _ (l + 2) (by omega) (by omega) (by omega) (by omega) (Int.le_refl _) (fun q h0 h1 h2 h3 => by rw [hb3 q h0, hb2 q h1, hd1 q h0 h1 h2 h3]) (by rw [e128', hj2 2 (by omega), e128, hdw]) (fun j hj3 => by rw [e128', hj2 j hj3, e128, hj j hj3]) hR3 (grow_Inv hI hbd hg).2.2 ?_
        rw [e128', h32, e128, hdw]
        rw [itg_skip' (y := l + 2) (by omega) (by omega) (fun j q1 q2 => growStep_lo q2)] at hr1
        exact hr1
      · intro hg
        refine ⟨by decide, fun _ => ?_, fun q => absurd rfl q⟩
        rw [growStep_no (fun l' z => bd_uniq hbd z ▸ hg)] at hr1
        rw [hB.1]
        exact l_growBends ha hw hQ n (x + 1) (f + 1) d1 t fr (by omega) (by omega) (by omega) (by omega) (by omega) hd1 (by rw [e128]; exact hdw) (fun j hj3 => by rw [e128]; exact hj j hj3) hR1 hI (by rw [e128]; exact hr1)
    · intro hno
      have ht' : (t, fr, d 120 3) = r := by
        rw [itg_skip' hy (Int.le_refl _) (fun j q1 q2 => growStep_no (fun l' z => absurd z (hno j l' q1)))] at ht
        exact ht
      exact ⟨by decide, fun _ => hQ d hd hdw hj (by rw [← ht']) (by rw [← ht']; exact hR), fun q => absurd rfl q⟩
theorem c_growBends {d : zMem} (ha : isRiv a) (hR : Rel d a s) (hI : Inv s) (hw : inR (d 120 2)) (hQ : ∀ d', butP d d' a → (∀ j, j ≠ 3 → d' 120 j = d 120 j) → d' 120 3 = (growAll (d 120 2) (d 120 3) s).2.2 → Rel d' a (growAll (d 120 2) (d 120 3) s).1 → Q 0 d') : Ev g M_X6_growBends FUL FUL [zR 120, zR a] d Q := by
  apply e_X6_growBends ha
  exact l_growBends (d0 := d) (r := growAll (d 120 2) (d 120 3) s) ha hw (fun d' h1 _ h3 h4 h5 => hQ d' h1 h3 h4 h5) 150 0 0 d s 0 (by omega) (by omega) (by omega) (by omega) (by omega) (fun _ _ _ _ _ => rfl) rfl (fun _ _ => rfl) hR hI rfl
theorem c_passYear {d : zMem} (ha : isRiv a) (hR : Rel d a s) (hI : Inv s) (hy : s 1404 ≤ 4000) (hw : inR (d 120 2)) (hQ : ∀ d', butP d d' a → (∀ j, j ≠ 3 → j ≠ 4 → d' 120 j = d 120 j) → d' 120 3 = tkn (d 120 2) (d 120 3) s → d' 120 4 = less s → Rel d' a (f_year s) → Q 0 d') : Ev g M_X6_passYear FUL FUL [zR 120, zR a] d Q := by
  obtain ⟨pw, pg, pa, pc, pf, o1, o2, o3, o4, o5⟩ := year_parts hI hy
  have hIF := hI.2.2.2.2.2
  have hIS := hI.2.2.2.2.1
  have hab := rivBd ha (show isBd 121 from Or.inl rfl)
  have h128 := riv128 ha
  apply e_X6_passYear ha
  rw [hR.2.2.2.2.2.2.1]
  apply c_hasFlood ha hR.2.2.2.2 hIF ⟨by have := hIF.2.2.2; omega, by omega⟩
  apply c_wearBanks ha hR hI (flN_01 s _)
  intro d1 hb1 hR1
  have e1 : d1 120 = d 120 := hb1 120 (by omega) (by omega)
  apply c_growBends ha hR1 pw (by rw [e1]; exact hw)
  intro d2 hb2 hj2 h32 hR2
  have eg : (growAll (d1 120 2) (d1 120 3) (wearAll (s 0 * (if flN s (s 1404) = 0 then 1 else 2)) s)).1 = (yGrow 0 0 s).1 := yGrow_w _ _ s
  rw [eg] at hR2
  apply c_agePairs ha hR2 pg.1 pg.2.1 pg.2.2.2.2.2.1.2
  intro d3 hb3 hR3
  have hR3' : Rel d3 a (yAge s) := hR3
  have eo : (if flN s (s 1404) = 0 then yAge s 2 else 0) = old s := by unfold old; rw [o2 2 (by omega)]
  apply c_cutNecks ha hR3' pa (IS_same (s := s) (fun k q1 q2 => o2 k (by omega)) hIS) (flN_01 s _)
  intro d4 hb4 hj4 hR4 h44
  rw [eo] at hR4 h44
  have hR4' : Rel d4 a (yCut s) := hR4
  apply c_setting ha hR4'.1 (by decide)
  rw [o3 3 (by omega)]
  apply c_oxYear ha hIS.2.2.2 hR4'.2.2.1 pc.2.1 pc.2.2.1
  intro d5 hb5 hX5 d6 hd6
  have b6 : ∀ q, q ≠ a → d6 q = d5 q := fun q hq => by rw [hd6]; funext z; rw [mu_na hq]
  have b64 : ∀ q, q ≠ a → (q < a + 5 ∨ a + 10 ≤ q) → d6 q = d4 q := fun q h0 h1 => by rw [b6 q h0, hb5 q h1]
  have e6 : d6 120 = d4 120 := b64 120 (by omega) (by omega)
  have e3 : d3 120 = d2 120 := hb3 120 (by omega)
  have fy : ∀ k, k ≠ 1404 → f_year s k = yOx s k := fun k hk => by unfold f_year; rw [ru_ne hk]
  have fy2 : ∀ k, (k < 1115 ∨ 1395 ≤ k) → k ≠ 1404 → f_year s k = yCut s k := fun k h0 h1 => by rw [fy k h1, o4 k h0]
  refine hQ d6 (fun q h0 h1 h2 h3 => ?_) (fun j h3 h4 => ?_) ?_ ?_ ⟨?_, ?_, ?_, ?_, ?_⟩
  · rw [b64 q (by omega) (by omega), hb4 q h0 h3 h1, hb3 q h0, hb2 q h0 h1 h2 h3, hb1 q h0 h2]
  · rw [e6, hj4 j h4, e3, hj2 j h3, e1]
  · rw [e6, hj4 3 (by omega), e3, h32, e1]; rfl
  · rw [e6, h44]; rfl
  · exact RS_keep hR4'.1 (b64 _ (by omega) (by omega)) (fun k _ _ => fy2 k (by omega) (by omega))
  · exact RC_keep hR4'.2.1 pc.1 (fun q hq => b64 q (by omega) (by omega)) (fun k _ _ => fy2 k (by omega) (by omega))
  · exact RX_keep hX5 o5 (fun q hq => b6 q (by omega)) (fun k _ _ => fy k (by omega))
  · exact RW_keep hR4'.2.2.2.1 (fun q hq => b64 q (by omega) (by omega)) (fun k _ _ => fy2 k (by omega) (by omega))
  · obtain ⟨f1, f2, f3, f4, f5⟩ := hR4'.2.2.2.2
    have ea : d5 a = d4 a := hb5 a (by omega)
    have c13 := pc.2.2.2.1
    refine ⟨?_, fun k q1 q2 => ?_, ?_, ?_, ?_⟩
    · rw [hd6, mu_ni (by omega), ea, f1, fy2 _ (by omega) (by omega)]
    · rw [fy2 _ (by omega) (by omega)] at q2
      rw [b64 _ (by omega) (by omega), f2 k q1 q2, fy2 _ (by omega) (by omega)]
    · rw [hd6, mu_get, ea, f3, year_1404, o3 _ (by omega)]
    · rw [hd6, mu_ni (by omega), ea, f4, fy2 _ (by omega) (by omega)]
    · rw [hd6, mu_ni (by omega), ea, f5, fy2 _ (by omega) (by omega)]
end
