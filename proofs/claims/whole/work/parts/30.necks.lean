-- the neck that is cut next
def age (s : Row) (i j : Int) : Int := s (635 + pr (s (5 + i)) (s (5 + j)))
def cand (s : Row) (old i j : Int) : Prop := neck s i j ∧ old ≤ age s i j
def wid (s : Row) (old i j : Int) : Prop := cand s old i j ∧ ∀ i' j', cand s old i' j' → j' - i' ≤ j - i ∧ (j' - i' = j - i → i ≤ i')
theorem wid_uniq {s : Row} {old i j i' j' : Int} (h : wid s old i j) (h' : wid s old i' j') : i = i' ∧ j = j' := by
  have a := h.2 i' j' h'.1
  have b := h'.2 i j h.1
  omega
/-- the best of those seen -/
def bst (s : Row) (old no : Int) (S : Int → Int → Prop) (i x bi bj : Int) : Prop :=
  (bi = no ∧ x = 2 ∧ ∀ i' j', S i' j' → ¬ cand s old i' j') ∨ (cand s old bi bj ∧ x = bj - bi ∧ bi ≤ i ∧ ∀ i' j', S i' j' → cand s old i' j' → j' - i' ≤ x ∧ (j' - i' = x → bi ≤ i'))
theorem bst_mono {s : Row} {old no i i2 x bi bj : Int} {S S' : Int → Int → Prop} (h : bst s old no S i x bi bj) (hi : i ≤ i2) (hS : ∀ i' j', S' i' j' → cand s old i' j' → S i' j') : bst s old no S' i2 x bi bj := by
  rcases h with ⟨h1, h2, h3⟩ | ⟨h1, h2, h3, h4⟩
  · exact Or.inl ⟨h1, h2, fun i' j' q z => h3 i' j' (hS i' j' q z) z⟩
  · exact Or.inr ⟨h1, h2, by omega, fun i' j' q z => h4 i' j' (hS i' j' q z) z⟩
theorem bst_x {s : Row} {old no i x bi bj : Int} {S : Int → Int → Prop} (h : bst s old no S i x bi bj) : 2 ≤ x := by
  rcases h with ⟨h1, h2, h3⟩ | ⟨h1, h2, h3, h4⟩
  · omega
  · have := h1.1.2.1; omega
theorem bst_skip {s : Row} {old no i j x bi bj : Int} {S S' : Int → Int → Prop} (h : bst s old no S i x bi bj) (hS : ∀ i' j', S' i' j' → cand s old i' j' → S i' j' ∨ (i' = i ∧ j' = j)) (hn : cand s old i j → j - i ≤ x) : bst s old no S' i x bi bj := by
  rcases h with ⟨h1, h2, h3⟩ | ⟨h1, h2, h3, h4⟩
  · refine Or.inl ⟨h1, h2, fun i' j' q z => ?_⟩
    rcases hS i' j' q z with y | ⟨rfl, rfl⟩
    · exact h3 i' j' y z
    · have := hn z
      have := z.1.2.1
      omega
  · refine Or.inr ⟨h1, h2, h3, fun i' j' q z => ?_⟩
    rcases hS i' j' q z with y | ⟨rfl, rfl⟩
    · exact h4 i' j' y z
    · have := hn z
      exact ⟨this, fun _ => h3⟩
theorem bst_take {s : Row} {old no i j x bi bj : Int} {S S' : Int → Int → Prop} (h : bst s old no S i x bi bj) (hS : ∀ i' j', S' i' j' → cand s old i' j' → S i' j' ∨ (i' = i ∧ j' = j)) (hc : cand s old i j) (hx : x < j - i) : bst s old no S' i (j - i) i j := by
  refine Or.inr ⟨hc, rfl, Int.le_refl _, fun i' j' q z => ?_⟩
  rcases hS i' j' q z with y | ⟨rfl, rfl⟩
  · rcases h with ⟨h1, h2, h3⟩ | ⟨h1, h2, h3, h4⟩
    · exact absurd z (h3 i' j' y)
    · have := (h4 i' j' y z).1
      omega
  · omega
theorem bst_end {s : Row} {old no i x bi bj : Int} {S : Int → Int → Prop} (hno : no < 0) (h : bst s old no S i x bi bj) (hS : ∀ i' j', cand s old i' j' → S i' j') : (bi = no ∧ ∀ i' j', ¬ cand s old i' j') ∨ (0 ≤ bi ∧ wid s old bi bj) := by
  rcases h with ⟨h1, h2, h3⟩ | ⟨h1, h2, h3, h4⟩
  · exact Or.inl ⟨h1, fun i' j' z => h3 i' j' (hS i' j' z) z⟩
  · exact Or.inr ⟨h1.1.1, h1, fun i' j' z => by rw [← h2]; exact h4 i' j' (hS i' j' z) z⟩
noncomputable def cutStep (old : Int) (s : Row) : Row := @dite Row (∃ p : Int × Int, wid s old p.1 p.2) (Classical.propDecidable _) (fun h => f_cut s (Classical.choose h).1 (Classical.choose h).2) (fun _ => s)
theorem cutStep_of {s : Row} {old i j : Int} (h : wid s old i j) : cutStep old s = f_cut s i j := by
  have e : ∃ p : Int × Int, wid s old p.1 p.2 := ⟨(i, j), h⟩
  have u := wid_uniq h (Classical.choose_spec e)
  unfold cutStep
  rw [dif_pos e, ← u.1, ← u.2]
theorem cutStep_none {s : Row} {old : Int} (h : ∀ i j, ¬ cand s old i j) : cutStep old s = s := by
  unfold cutStep
  rw [dif_neg (fun e => e.elim (fun p hp => h _ _ hp.1))]
noncomputable def cutRun (old : Int) : Nat → Row → Row
  | 0, s => s
  | n + 1, s => cutRun old n (cutStep old s)
theorem cutRun_none {s : Row} {old : Int} (h : ∀ i j, ¬ cand s old i j) : ∀ n, cutRun old n s = s
  | 0 => rfl
  | n + 1 => by
    show cutRun old n (cutStep old s) = s
    rw [cutStep_none h]
    exact cutRun_none h n
/-- what holds while cuts go on -/
def cI (s : Row) : Prop := crs s ∧ IX s ∧ IY s ∧ s 1395 ≤ 8 ∧ ∀ k, 0 ≤ k → k < 480 → 0 ≤ s (635 + k) ∧ s (635 + k) ≤ 5000
theorem cI_cut {s : Row} {i j : Int} (h : cI s) (hn : neck s i j) : cI (f_cut s i j) := by
  obtain ⟨hs, hX, hY, h8, hA⟩ := h
  obtain ⟨cX, cY⟩ := cut_IX hs hX hY hn
  have h4 := hs.1
  refine ⟨cut_crs hs hX hn, cX, cY, by rw [cut_out hX hn h4.2 (by omega)]; exact h8, fun k q1 q2 => by rw [cut_out hX hn h4.2 (by omega)]; exact hA k q1 q2⟩
theorem cutStep_cI {s : Row} {old : Int} (h : cI s) : cI (cutStep old s) ∧ ∀ k, (k < 4 ∨ (155 ≤ k ∧ k < 1115) ∨ (1395 ≤ k ∧ k ≠ 1405)) → cutStep old s k = s k := by
  by_cases e : ∃ p : Int × Int, wid s old p.1 p.2
  · obtain ⟨p, hp⟩ := e
    rw [cutStep_of hp]
    exact ⟨cI_cut h hp.1.1, fun k hk => cut_out h.2.1 hp.1.1 h.1.1.2 hk⟩
  · unfold cutStep
    rw [dif_neg e]
    exact ⟨h, fun _ _ => rfl⟩
theorem cutRun_cI {old : Int} : ∀ (n : Nat) (s : Row), cI s → cI (cutRun old n s) ∧ ∀ k, (k < 4 ∨ (155 ≤ k ∧ k < 1115) ∨ (1395 ≤ k ∧ k ≠ 1405)) → cutRun old n s k = s k
  | 0, s, h => ⟨h, fun _ _ => rfl⟩
  | n + 1, s, h => by
    obtain ⟨h1, h2⟩ := cutStep_cI (old := old) h
    obtain ⟨k1, k2⟩ := cutRun_cI n _ h1
    exact ⟨k1, fun k hk => (k2 k hk).trans (h2 k hk)⟩
/-- those seen by the class before the way w of the number i -/
def cS (s : Row) (i w i' j' : Int) : Prop := i' < i ∨ (i' = i ∧ ∃ w', 0 ≤ w' ∧ w' < w ∧ nbe s i w' = j')
section
variable {g : zGG} {Q : Int → zMem → Prop} {a : Nat} {s : Row}
theorem l_widest {d0 : zMem} {k : Nat} {old : Int} (ha : isRiv a) (hk : isNk k) (ho : inR old) (hC : RC d0 a s) (hs : crs s) (hW : RW d0 a s) (hA : ∀ k, 0 ≤ k → k < 480 → 0 ≤ s (635 + k) ∧ s (635 + k) ≤ 5000)
    (h1 : ∀ d' i j, but d0 d' k → wid s old i j → d' k 0 = i → d' k 1 = j → Q 1 d') (h0 : ∀ d', but d0 d' k → (∀ i j, ¬ cand s old i j) → Q 0 d') :
    ∀ (n m : Nat) (i w x : Int) (d : zMem), s 4 - i = n → 4 - w = m → 0 ≤ i → 0 ≤ w → but d0 d k → bst s old (-1) (cS s i w) i x (d k 0) (d k 1) →
    (i < s 4 → Fr g (eM g M_X3_seekWidest FUL FUL Q) M_X3_seekWidest FUL 34 [some (zR k), some (zR a), some (zI old), some (zI x), some (zR (a + 2)), some (zI i), some (zI w), none] [] d) ∧ (w = 0 → Fr g (eM g M_X3_seekWidest FUL FUL Q) M_X3_seekWidest FUL 21 [some (zR k), some (zR a), some (zI old), some (zI x), some (zR (a + 2)), some (zI i), none, none] [] d)
  | n, m, i, w, x, d, hn, hm, hi, hw0, hd, hv => by
    have h4 := hs.1
    have hak := rivNk ha hk
    have hC' : RC d a s := RC_keep hC hs (fun q hq => hd q (by omega)) (fun _ _ _ => rfl)
    have hW' : RW d a s := RW_keep hW (fun q hq => hd q (by omega)) (fun _ _ _ => rfl)
    have hx2 := bst_x hv
    have hx3 : x ≤ 150 := by
      rcases hv with ⟨q1, q2, q3⟩ | ⟨q1, q2, q3, q4⟩
      · omega
      · have := q1.1.1; have := q1.1.2.2.1; omega
    have cover : 0 ≤ w → w < 4 → ∀ i' j', cS s i (w + 1) i' j' → cand s old i' j' → cS s i w i' j' ∨ (i' = i ∧ j' = nbe s i w) := by
      intro _ _ i' j' q z
      rcases q with q | ⟨rfl, w', q1, q2, q3⟩
      · exact Or.inl (Or.inl q)
      · rcases (show w' < w ∨ w' = w by omega) with y | rfl
        · exact Or.inl (Or.inr ⟨rfl, w', q1, y, q3⟩)
        · exact Or.inr ⟨rfl, q3.symm⟩
    have main : i < s 4 → Fr g (eM g M_X3_seekWidest FUL FUL Q) M_X3_seekWidest FUL 34 [some (zR k), some (zR a), some (zI old), some (zI x), some (zR (a + 2)), some (zI i), some (zI w), none] [] d := by
      intro hi4
      apply v_X3_seekWidest_34 hk ha
      match m, hm with
      | 0, hm =>
        refine ⟨⟨by omega, by omega⟩, fun _ => ?_, fun q => by omega⟩
        match n, hn with
        | 0, hn => omega
        | n + 1, hn =>
          refine (l_widest ha hk ho hC hs hW hA h1 h0 n 4 (i + 1) 0 x d (by omega) (by omega) (by omega) (by omega) hd (bst_mono hv (by omega) (fun i' j' q z => ?_))).2 rfl
          rcases q with q | ⟨rfl, w', q1, q2, q3⟩
          · rcases (show i' < i ∨ i' = i by omega) with y | rfl
            · exact Or.inl y
            · obtain ⟨w', r1, r2, r3⟩ := neck_nbe hs z.1
              exact Or.inr ⟨rfl, w', r1, by omega, r3⟩
          · omega
      | m + 1, hm =>
        refine ⟨⟨by omega, by omega⟩, fun q => by omega, fun _ => ?_⟩
        apply c_numberBeside ha hC' hs ⟨hi, hi4⟩ ⟨by omega, by omega⟩
        have hr := nbe_range hs i w
        refine ⟨⟨⟨by omega, by omega⟩, ⟨by omega, by omega⟩⟩, fun q => ?_, fun q => ?_⟩
        · exact (l_widest ha hk ho hC hs hW hA h1 h0 n m i (w + 1) x d (by omega) (by omega) (by omega) (by omega) hd (bst_skip hv (cover hw0 (by omega)) (fun _ => q))).1 hi4
        · have hnk := nbe_neck (s := s) (i := i) (w := w) hi ⟨hw0, by omega⟩ (by omega)
          apply c_ageOf ha hC' hs hW' ⟨hi, hi4⟩ ⟨by omega, by omega⟩
          have pr1 := pr_range (hs.2.1 i hi hi4) (hs.2.1 (nbe s i w) (by omega) (by omega))
          have hag := hA _ pr1.1 pr1.2
          refine ⟨⟨⟨by omega, by omega⟩, ho⟩, fun q2 => ?_, fun q2 d1 hd1 d2 hd2 => ?_⟩
          · exact (l_widest ha hk ho hC hs hW hA h1 h0 n m i (w + 1) x d (by omega) (by omega) (by omega) (by omega) hd (bst_skip hv (cover hw0 (by omega)) (fun z => by have := z.2; unfold age at this; omega))).1 hi4
          · have e0 : d2 k 0 = i := by rw [hd2, mu_ni (by omega), hd1, mu_get]
            have e1 : d2 k 1 = nbe s i w := by rw [hd2, mu_get]
            refine (l_widest ha hk ho hC hs hW hA h1 h0 n m i (w + 1) _ d2 (by omega) (by omega) (by omega) (by omega) (hd2 ▸ but_mu (hd1 ▸ but_mu hd)) ?_).1 hi4
            rw [e0, e1]
            exact bst_take hv (cover hw0 (by omega)) ⟨hnk, q2⟩ q
    refine ⟨main, fun hw => ?_⟩
    apply v_X3_seekWidest_21 hk ha
    apply e_X1_length ha
    rw [hC'.1]
    refine ⟨⟨⟨by omega, by omega⟩, ⟨by omega, by omega⟩⟩, fun q => ?_, fun q => ?_⟩
    · have : i = s 4 := by omega
      subst this
      have hb : inR (d k 0) := by
        rcases hv with ⟨q1, q2, q3⟩ | ⟨q1, q2, q3, q4⟩
        · constructor <;> omega
        · have := q1.1.1; constructor <;> omega
      rcases bst_end (by omega) hv (fun i' j' z => Or.inl (by have := z.1.2.1; have := z.1.2.2.1; omega)) with ⟨e1, e2⟩ | ⟨e1, e2⟩
      · exact ⟨hb, fun _ => h0 d hd e2, fun z => absurd e1 z⟩
      · exact ⟨hb, fun z => by omega, fun _ => h1 d _ _ hd e2 rfl rfl⟩
    · subst hw
      exact main q
termination_by n m => (n, m)
theorem c_widest {d : zMem} {k : Nat} {old : Int} (ha : isRiv a) (hk : isNk k) (ho : inR old) (hC : RC d a s) (hs : crs s) (hW : RW d a s) (hA : ∀ k, 0 ≤ k → k < 480 → 0 ≤ s (635 + k) ∧ s (635 + k) ≤ 5000)
    (h1 : ∀ d' i j, but d d' k → wid s old i j → d' k 0 = i → d' k 1 = j → Q 1 d') (h0 : ∀ d', but d d' k → (∀ i j, ¬ cand s old i j) → Q 0 d') : Ev g M_X3_seekWidest FUL FUL [zR k, zR a, zI old] d Q := by
  have h4 := hs.1
  have hak := rivNk ha hk
  apply e_X3_seekWidest hk ha
  intro d1 hd1 d2 hd2
  have b2 : but d d2 k := hd2 ▸ but_mu (hd1 ▸ but_mu but_rfl)
  refine (l_widest (d0 := d) ha hk ho hC hs hW hA h1 h0 (s 4).toNat 4 0 0 2 d2 (by omega) (by omega) (by omega) (by omega) b2 (Or.inl ⟨?_, rfl, fun i' j' q z => ?_⟩)).2 rfl
  · rw [hd2, mu_ni (by omega), hd1, mu_get]
  · have := z.1.1
    rcases q with q | ⟨rfl, w', q1, q2, q3⟩ <;> omega
theorem l_cutNecks {d0 : zMem} {old x2 : Int} (ha : isRiv a) (ho : inR old) {lo : Int} (s0 : Row) (hQ : ∀ d', (∀ q, (q < a ∨ a + 14 ≤ q) → q ≠ 122 → d' q = d0 q) → Rel d' a (cutRun old 150 s0) → ∀ d2, d2 = mu d' 120 4 (lo - cutRun old 150 s0 4) → Q 0 d2) :
    ∀ (n : Nat) (x : Int) (d : zMem) (t : Row), 150 - x = n → 0 ≤ x → (∀ q, (q < a ∨ a + 14 ≤ q) → q ≠ 122 → d q = d0 q) → Rel d a t → cI t → cutRun old n t = cutRun old 150 s0 →
    Fr g (eM g M_X6_cutNecks FUL FUL Q) M_X6_cutNecks FUL 26 [some (zR 120), some (zR a), some (zI x2), some (zI old), some (zI lo), some (zI x)] [] d
  | 0, x, d, t, hn, hx, hd, hR, hI, ht => by
    apply v_X6_cutNecks_26 ha
    have ht' : t = cutRun old 150 s0 := ht
    refine ⟨⟨by omega, by omega⟩, fun _ => ?_, fun q => by omega⟩
    apply e_X1_length ha
    intro d2 hd2
    rw [hR.2.1.1] at hd2
    exact hQ d hd (ht' ▸ hR) d2 (ht' ▸ hd2)
  | n + 1, x, d, t, hn, hx, hd, hR, hI, ht => by
    have hak := rivNk ha (show isNk 122 from Or.inl rfl)
    have hI' := hI
    obtain ⟨hs, hX, hY, h8, hA⟩ := hI'
    obtain ⟨rS, rC, rX, rW, rF⟩ := hR
    apply v_X6_cutNecks_26 ha
    refine ⟨⟨by omega, by omega⟩, fun q => by omega, fun _ => ?_⟩
    have keep : ∀ d1, but d d1 122 → Rel d1 a t := fun d1 h1 => ⟨RS_keep rS (h1 _ (by omega)) (fun _ _ _ => rfl), RC_keep rC hs (fun q hq => h1 q (by omega)) (fun _ _ _ => rfl), RX_keep rX hX (fun q hq => h1 q (by omega)) (fun _ _ _ => rfl), RW_keep rW (fun q hq => h1 q (by omega)) (fun _ _ _ => rfl), RF_keep rF h8 (fun q hq => h1 q (by omega)) (fun _ _ _ => rfl)⟩
    apply c_widest ha (Or.inl rfl) ho rC hs rW hA
    · intro d1 i j hb hw e0 e1
      have hR1 := keep d1 hb
      refine ⟨by decide, fun q => absurd q (by decide), fun _ => ?_⟩
      rw [e0, e1]
      apply c_cutBetween ha hR1 hs hX hY h8 hw.1.1
      intro d2 hb2 hR2
      refine l_cutNecks ha ho s0 hQ n (x + 1) d2 _ (by omega) (by omega) (fun q h0 h1 => by rw [hb2 q h0, hb q h1, hd q h0 h1]) hR2 (cI_cut hI hw.1.1) ?_
      rw [← ht, ← cutStep_of hw]
      rfl
    · intro d1 hb hno
      have hR1 := keep d1 hb
      refine ⟨by decide, fun _ => ?_, fun q => absurd rfl q⟩
      apply e_X1_length ha
      intro d2 hd2
      rw [hR1.2.1.1] at hd2
      have ht' : t = cutRun old 150 s0 := by rw [← ht]; exact (cutRun_none hno (n + 1)).symm
      exact hQ d1 (fun q h0 h1 => by rw [hb q h1, hd q h0 h1]) (ht' ▸ hR1) d2 (ht' ▸ hd2)
theorem c_cutNecks {d : zMem} {fl : Int} (ha : isRiv a) (hR : Rel d a s) (hI : cI s) (hS : IS s) (hf : fl = 0 ∨ fl = 1) (hQ : ∀ d', (∀ q, (q < a ∨ a + 14 ≤ q) → q ≠ 122 → q ≠ 120 → d' q = d q) → (∀ j, j ≠ 4 → d' 120 j = d 120 j) → Rel d' a (cutRun (if fl = 0 then s 2 else 0) 150 s) → d' 120 4 = s 4 - cutRun (if fl = 0 then s 2 else 0) 150 s 4 → Q 0 d') : Ev g M_X6_cutNecks FUL FUL [zR 120, zR a, zI fl] d Q := by
  have hak := riv128 ha
  have hS2 := hS.2.2.1
  have key : ∀ old : Int, old = (if fl = 0 then s 2 else 0) → ∀ d', (∀ q, (q < a ∨ a + 14 ≤ q) → q ≠ 122 → d' q = d q) → Rel d' a (cutRun old 150 s) → ∀ d2, d2 = mu d' 120 4 (s 4 - cutRun old 150 s 4) → Q 0 d2 := by
    intro old ho d1 hd1 hR1 d2 hd2
    obtain ⟨rS, rC, rX, rW, rF⟩ := hR1
    obtain ⟨⟨hs, hX, hY, h8, hA⟩, -⟩ := cutRun_cI (old := old) 150 s hI
    have h1 : but d1 d2 120 := hd2 ▸ but_mu but_rfl
    refine hQ d2 (fun q h0 h2 h3 => by rw [h1 q h3, hd1 q h0 h2]) (fun j hj => by rw [hd2, mu_ni hj, hd1 120 (by omega) (by omega)]) (ho ▸ ⟨RS_keep rS (h1 _ (by omega)) (fun _ _ _ => rfl), RC_keep rC hs (fun q hq => h1 q (by omega)) (fun _ _ _ => rfl), RX_keep rX hX (fun q hq => h1 q (by omega)) (fun _ _ _ => rfl), RW_keep rW (fun q hq => h1 q (by omega)) (fun _ _ _ => rfl), RF_keep rF h8 (fun q hq => h1 q (by omega)) (fun _ _ _ => rfl)⟩) ?_
    rw [hd2, mu_get, ho]
  have go : ∀ old : Int, old = (if fl = 0 then s 2 else 0) → inR old → Fr g (eM g M_X6_cutNecks FUL FUL Q) M_X6_cutNecks FUL 26 [some (zR 120), some (zR a), some (zI fl), some (zI old), some (zI (s 4)), some (zI 0)] [] d := fun old ho hi => l_cutNecks (d0 := d) ha hi s (key old ho) 150 0 d s (by omega) (by omega) (fun _ _ _ => rfl) hR hI rfl
  apply e_X6_cutNecks ha
  refine ⟨by rcases hf with rfl | rfl <;> decide, fun q => ?_, fun q => ?_⟩
  · apply c_setting ha hR.1 (by decide)
    apply e_X1_length ha
    rw [hR.2.1.1]
    exact go _ (by rw [if_pos q]) ⟨by omega, by omega⟩
  · apply e_X1_length ha
    rw [hR.2.1.1]
    exact go _ (by rw [if_neg q]) ⟨by omega, by omega⟩
end
