-- THE REFERENCE: its row of numbers is d 154
section
variable {g : zGG} {Q : Int → zMem → Prop}
theorem r_way {d : zMem} {i : Int} (hs : crs (d 154)) (hi : 0 ≤ i ∧ i + 1 < d 154 4) (h : Q (way (d 154) i) d) : Ev g M_X9_way FUL FUL [zR 153, zI i] d Q := by
  have h4 := hs.1
  have c1 := hs.2.1 i hi.1 (by omega)
  have c2 := hs.2.1 (i + 1) (by omega) hi.2
  rw [show 5 + (i + 1) = 5 + i + 1 by omega] at c2
  apply e_X9_way
  unfold way wayd at h
  generalize d 154 (5 + i + 1) = p at *
  generalize d 154 (5 + i) = q at *
  refine ⟨⟨by omega, by omega⟩, ⟨by omega, by omega⟩, ⟨⟨by omega, by omega⟩, fun e1 => ⟨⟨by omega, by omega⟩, fun e2 => ⟨⟨by omega, by omega⟩, fun e3 => ?_, fun e3 => ?_⟩, fun e2 => ?_⟩, fun e1 => ?_⟩⟩
  · rw [if_neg e1, if_neg e2, if_neg e3] at h; exact h
  · rw [if_neg e1, if_neg e2, if_pos e3] at h; exact h
  · rw [if_neg e1, if_pos e2] at h; exact h
  · rw [if_pos e1] at h; exact h
theorem l_rnumberOf {d : zMem} {c : Int} (hs : crs (d 154)) (hc : inR c) (h : Q (if num (d 154) c = -1 then -6 else num (d 154) c) d) : ∀ (n : Nat) (x v : Int), d 154 4 - x = n → 0 ≤ x → ((v = -6 ∧ ∀ k, 0 ≤ k → k < x → d 154 (5 + k) ≠ c) ∨ (0 ≤ v ∧ v < d 154 4 ∧ d 154 (5 + v) = c)) →
    Fr g (eM g M_X9_numberOf FUL FUL Q) M_X9_numberOf FUL 5 [some (zR 153), some (zI c), some (zI v), some (zI x)] [] d
  | 0, x, v, hn, hx, hv => by
    have h4 := hs.1
    apply v_X9_numberOf_5
    refine ⟨⟨⟨by omega, by omega⟩, ⟨by omega, by omega⟩⟩, fun _ => ?_, fun q => by omega⟩
    rcases hv with ⟨rfl, hv⟩ | ⟨h0, h1, rfl⟩
    · rw [if_pos (num_off (fun ⟨k, q1, q2, q3⟩ => hv k q1 (by omega) q3))] at h
      exact h
    · rw [num_at hs h0 h1, if_neg (by omega)] at h
      exact h
  | n + 1, x, v, hn, hx, hv => by
    have h4 := hs.1
    apply v_X9_numberOf_5
    refine ⟨⟨⟨by omega, by omega⟩, ⟨by omega, by omega⟩⟩, fun q => by omega, fun _ => ⟨⟨by omega, by omega⟩, ⟨⟨inR_cell hs hx (by omega), hc⟩, fun q => ?_, fun q => ?_⟩⟩⟩
    · refine l_rnumberOf hs hc h n (x + 1) v (by omega) (by omega) ?_
      rcases hv with ⟨e, hv⟩ | hv
      · refine Or.inl ⟨e, fun k q1 q2 => ?_⟩
        rcases (show k < x ∨ k = x by omega) with z | rfl
        · exact hv k q1 z
        · exact q
      · exact Or.inr hv
    · exact l_rnumberOf hs hc h n (x + 1) x (by omega) (by omega) (Or.inr ⟨hx, by omega, q⟩)
theorem r_numberOf {d : zMem} {c : Int} (hs : crs (d 154)) (hc : inR c) (h : Q (if num (d 154) c = -1 then -6 else num (d 154) c) d) : Ev g M_X9_numberOf FUL FUL [zR 153, zI c] d Q := by
  have h4 := hs.1
  apply e_X9_numberOf
  exact l_rnumberOf hs hc h (d 154 4).toNat 0 (-6) (by omega) (by omega) (Or.inl ⟨rfl, fun k _ _ => by omega⟩)
end
/-- all bends found, in their order; the cells of the course marked -/
def Bends (d : zMem) (s : Row) : Prop := (0 ≤ d 153 11 ∧ d 153 11 < 150) ∧ (∀ b, 0 ≤ b → b < d 153 11 → bd s (d 160 b) (d 161 b)) ∧ (∀ b b', 0 ≤ b → b < b' → b' < d 153 11 → d 160 b < d 160 b') ∧ (∀ f l, bd s f l → ∃ b, 0 ≤ b ∧ b < d 153 11 ∧ d 160 b = f) ∧ (∀ c, 0 ≤ c → c < 240 → (on s c → d 162 c = 1) ∧ (¬ on s c → d 162 c = 0))
/-- what is as it was: all but the row, what has to do with bends and necks, and whether the cell was taken -/
def rF (d0 d : zMem) : Prop := (∀ q, (q < 153 ∨ (154 < q ∧ q < 160) ∨ 164 < q) → d q = d0 q) ∧ ∀ j, j ≠ 11 → j ≠ 14 → j ≠ 15 → j ≠ 16 → j ≠ 17 → d 153 j = d0 153 j
theorem rF_rfl {d : zMem} : rF d d := ⟨fun _ _ => rfl, fun _ _ _ _ _ _ => rfl⟩
theorem rF_trans {d0 d1 d2 : zMem} (h : rF d0 d1) (h2 : rF d1 d2) : rF d0 d2 := ⟨fun q hq => (h2.1 q hq).trans (h.1 q hq), fun j a b c e f => (h2.2 j a b c e f).trans (h.2 j a b c e f)⟩
theorem rF_but {d0 d1 d2 : zMem} {k : Nat} (h : rF d0 d1) (hk : k = 154 ∨ (160 ≤ k ∧ k ≤ 164)) (hb : but d1 d2 k) : rF d0 d2 := ⟨fun q hq => (hb q (by omega)).trans (h.1 q hq), fun j a b c e f => by rw [hb 153 (by omega)]; exact h.2 j a b c e f⟩
theorem rF_mu {d0 d1 : zMem} {k : Nat} {i v : Int} (h : rF d0 d1) (hk : (k = 154 ∨ (160 ≤ k ∧ k ≤ 164)) ∨ (k = 153 ∧ (i = 11 ∨ (14 ≤ i ∧ i ≤ 17)))) : rF d0 (mu d1 k i v) := by
  rcases hk with hk | ⟨rfl, hk⟩
  · exact rF_but h hk (but_mu but_rfl)
  · refine ⟨fun q hq => ?_, fun j a b c e f => ?_⟩
    · rw [← h.1 q hq]; funext z; rw [mu_na (by omega)]
    · rw [mu_ni (by omega)]; exact h.2 j a b c e f
def fbI (s : Row) (d : zMem) (fr k : Int) : Prop := (0 ≤ fr ∧ fr < k ∧ k ≤ s 4 - 1) ∧ (fr = 0 ∨ way s fr ≠ way s (fr - 1)) ∧ (∀ j, fr ≤ j → j < k → way s j = way s fr) ∧ (0 ≤ d 153 11 ∧ d 153 11 ≤ fr) ∧ (∀ b, 0 ≤ b → b < d 153 11 → bd s (d 160 b) (d 161 b) ∧ d 160 b < fr) ∧ (∀ b b', 0 ≤ b → b < b' → b' < d 153 11 → d 160 b < d 160 b') ∧ (∀ f l, bd s f l → l < k → ∃ b, 0 ≤ b ∧ b < d 153 11 ∧ d 160 b = f)
section
variable {g : zGG} {Q : Int → zMem → Prop} {s : Row}
theorem l_findBends3 {d0 : zMem} (hs : crs s) (h164 : d0 154 = s) (hon : ∀ c, 0 ≤ c → c < 240 → (on s c → d0 162 c = 1) ∧ (¬ on s c → d0 162 c = 0)) (hQ : ∀ d', rF d0 d' → d' 154 = s → (∀ j, j ≠ 11 → d' 153 j = d0 153 j) → Bends d' s → Q 0 d') :
    ∀ (n : Nat) (k fr : Int) (d : zMem), s 4 - 1 - k = n → rF d0 d → d 154 = s → d 162 = d0 162 → (∀ j, j ≠ 11 → d 153 j = d0 153 j) → fbI s d fr k →
    Fr g (eM g M_X9_findBends FUL FUL Q) M_X9_findBends FUL 63 [some (zR 153), some (zI fr), some (zI k)] [] d
  | 0, k, fr, d, hn, hd, hr, h172, hj, hv => by
    have h4 := hs.1
    obtain ⟨v1, v2, v3, v4, v5, v6, v7⟩ := hv
    apply v_X9_findBends_63
    rw [hr]
    refine ⟨⟨⟨by omega, by omega⟩, ⟨by omega, by omega⟩⟩, fun _ => hQ d hd hr hj ⟨by omega, fun b q1 q2 => (v5 b q1 q2).1, v6, fun f l q => v7 f l q (by have := q.2.2.1; omega), fun c q1 q2 => by rw [h172]; exact hon c q1 q2⟩, fun q => by omega⟩
  | n + 1, k, fr, d, hn, hd, hr, h172, hj, hv => by
    have h4 := hs.1
    have hv' := hv
    obtain ⟨v1, v2, v3, v4, v5, v6, v7⟩ := hv
    apply v_X9_findBends_63
    rw [hr]
    refine ⟨⟨⟨by omega, by omega⟩, ⟨by omega, by omega⟩⟩, fun q => by omega, fun _ => ?_⟩
    have hs' : crs (d 154) := hr ▸ hs
    have e4 : d 154 4 = s 4 := by rw [hr]
    have wr : ∀ i, inR (way s i) := fun i => by have := way_range s i; constructor <;> omega
    apply r_way hs' ⟨by omega, by omega⟩
    apply r_way hs' ⟨by omega, by omega⟩
    rw [hr]
    refine ⟨⟨wr _, wr _⟩, fun q => ?_, fun q => ⟨⟨by omega, by omega⟩, fun q2 => ?_, fun q2 => ?_⟩⟩
    · refine l_findBends3 hs h164 hon hQ n (k + 1) fr d (by omega) hd hr h172 hj ⟨⟨by omega, by omega, by omega⟩, v2, fun j q1 q2 => ?_, v4, v5, v6, fun f l b bl => ?_⟩
      · rcases (show j < k ∨ j = k by omega) with z | rfl
        · exact v3 j q1 z
        · rw [q]; exact v3 (j - 1) (by omega) (by omega)
      · rcases (show l < k ∨ l = k by omega) with z | rfl
        · exact v7 f l b z
        · obtain ⟨b1, b2, b3, b4, b5, b6, b7⟩ := b
          exact absurd (by rw [q]; exact b4 (l - 1) (by omega) (by omega)) b5
    · have : fr = 0 := by omega
      subst this
      refine l_findBends3 hs h164 hon hQ n (k + 1) k d (by omega) hd hr h172 hj ⟨⟨by omega, by omega, by omega⟩, Or.inr q, fun j q1 q2 => by rw [show j = k by omega], by omega, fun b q1 q2 => by omega, v6, fun f l b bl => ?_⟩
      rcases (show l < k ∨ l = k by omega) with z | rfl
      · exact v7 f l b z
      · obtain ⟨b1, b2, b3, b4, b5, b6, b7⟩ := b
        exact absurd (by rw [v3 (f - 1) (by omega) (by omega), v3 f (by omega) (by omega)]) b6
    · have hfr : fr ≠ 0 := by omega
      have hch : way s fr ≠ way s (fr - 1) := v2.resolve_left hfr
      have only : ∀ f l, bd s f l → l = k → f = fr := by
        rintro f l ⟨b1, b2, b3, b4, b5, b6, b7⟩ rfl
        rcases (show f < fr ∨ f = fr ∨ fr < f by omega) with z | z | z
        · exact absurd ((b4 fr (by omega) (by omega)).trans (b4 (fr - 1) (by omega) (by omega)).symm) hch
        · exact z
        · exact absurd (by rw [v3 (f - 1) (by omega) (by omega), v3 f (by omega) (by omega)]) b6
      have hkne : way s k ≠ way s fr := by rw [← v3 (k - 1) (by omega) (by omega)]; exact q
      apply r_way hs' ⟨by omega, by omega⟩
      apply r_way hs' ⟨by omega, by omega⟩
      rw [hr]
      have w0 := way_range s (fr - 1)
      refine ⟨⟨by omega, ⟨by omega, by omega⟩⟩, ⟨⟨wr _, ⟨by omega, by omega⟩⟩, fun q3 => ?_, fun q3 => ⟨⟨by omega, by omega⟩, fun d5 hd5 => ⟨⟨by omega, by omega⟩, fun d6 hd6 d7 hd7 => ?_⟩⟩⟩⟩
      · refine l_findBends3 hs h164 hon hQ n (k + 1) k d (by omega) hd hr h172 hj ⟨⟨by omega, by omega, by omega⟩, Or.inr q, fun j q1 q2 => by rw [show j = k by omega], by omega, fun b q1 q2 => ⟨(v5 b q1 q2).1, by have := (v5 b q1 q2).2; omega⟩, v6, fun f l b bl => ?_⟩
        rcases (show l < k ∨ l = k by omega) with z | z
        · exact v7 f l b z
        · have hf := only f l b z
          subst z; subst hf
          exact absurd b.2.2.2.2.2.2 q3
      · have e11 : d7 153 11 = d 153 11 + 1 := by rw [hd7, mu_get]
        have e170 : ∀ b, d7 160 b = if b = d 153 11 then fr else d 160 b := fun b => by
          rw [hd7, mu_na (by omega), hd6, mu_na (by omega), hd5, mu_app, if_pos rfl]
        have e171 : ∀ b, d7 161 b = if b = d 153 11 then k else d 161 b := fun b => by
          rw [hd7, mu_na (by omega), hd6, mu_app, if_pos rfl, hd5]
          split
          · rfl
          · rw [mu_na (by omega)]
        have o163 : ∀ j, j ≠ 11 → d7 153 j = d0 153 j := fun j hj11 => by
          rw [hd7, mu_ni hj11, hd6, mu_na (by omega), hd5, mu_na (by omega)]; exact hj j hj11
        refine l_findBends3 hs h164 hon hQ n (k + 1) k d7 (by omega) (hd7 ▸ rF_mu (hd6 ▸ rF_mu (hd5 ▸ rF_mu hd (by omega)) (by omega)) (by omega)) ?_ ?_ o163 ⟨⟨by omega, by omega, by omega⟩, Or.inr q, fun j q1 q2 => by rw [show j = k by omega], by omega, fun b q1 q2 => ?_, fun b b' q1 q2 q4 => ?_, fun f l b bl => ?_⟩
        · rw [hd7, hd6, hd5]; funext z; rw [mu_na (by omega), mu_na (by omega), mu_na (by omega), hr]
        · rw [hd7, hd6, hd5]; funext z; rw [mu_na (by omega), mu_na (by omega), mu_na (by omega), h172]
        · rw [e11] at q2
          rw [e170, e171]
          by_cases hb : b = d 153 11
          · rw [if_pos hb, if_pos hb]
            exact ⟨⟨by omega, by omega, by omega, v3, hkne, fun z => hch z.symm, q3⟩, by omega⟩
          · rw [if_neg hb, if_neg hb]
            have := v5 b q1 (by omega)
            exact ⟨this.1, by omega⟩
        · rw [e11] at q4
          rw [e170, e170, if_neg (by omega)]
          by_cases hb : b' = d 153 11
          · rw [if_pos hb]
            exact (v5 b q1 (by omega)).2
          · rw [if_neg hb]
            exact v6 b b' q1 q2 (by omega)
        · rcases (show l < k ∨ l = k by omega) with z | z
          · obtain ⟨b0, p1, p2, p3⟩ := v7 f l b z
            refine ⟨b0, p1, by omega, ?_⟩
            rw [e170, if_neg (by omega)]; exact p3
          · have hf := only f l b z
            refine ⟨d 153 11, by omega, by omega, ?_⟩
            rw [e170, if_pos rfl]; exact hf.symm
theorem l_findBends2 {d0 : zMem} (hs : crs s) (h164 : d0 154 = s) (hQ : ∀ d', rF d0 d' → d' 154 = s → (∀ j, j ≠ 11 → d' 153 j = d0 153 j) → Bends d' s → Q 0 d') :
    ∀ (n : Nat) (k : Int) (d : zMem), s 4 - k = n → 0 ≤ k → but d0 d 162 → (∀ c, 0 ≤ c → c < 240 → ((∃ i, 0 ≤ i ∧ i < k ∧ s (5 + i) = c) → d 162 c = 1) ∧ ((¬ ∃ i, 0 ≤ i ∧ i < k ∧ s (5 + i) = c) → d 162 c = 0)) →
    Fr g (eM g M_X9_findBends FUL FUL Q) M_X9_findBends FUL 24 [some (zR 153), some (zI k), none] [] d
  | 0, k, d, hn, hk, hd, hv => by
    have h4 := hs.1
    apply v_X9_findBends_24
    have hr : d 154 = s := (hd 154 (by omega)).trans h164
    rw [hr]
    refine ⟨⟨⟨by omega, by omega⟩, ⟨by omega, by omega⟩⟩, fun _ d1 hd1 => ?_, fun q => by omega⟩
    have f1 : rF d0 d1 := hd1 ▸ rF_mu (rF_but rF_rfl (by omega) hd) (by omega)
    have e11 : d1 153 11 = 0 := by rw [hd1, mu_get]
    have oth : ∀ q, q ≠ 153 → d1 q = d q := fun q hq => by rw [hd1]; funext z; rw [mu_na hq]
    have hk4 : k = s 4 := by omega
    refine l_findBends3 (d0 := d1) hs (by rw [oth _ (by omega), hr]) (fun c q1 q2 => ?_) (fun d' a b c e => hQ d' (rF_trans f1 a) b (fun j hj => by rw [c j hj, hd1, mu_ni hj, hd 153 (by omega)]) e) (s 4 - 1 - 1).toNat 1 0 d1 (by omega) rF_rfl (by rw [oth _ (by omega), hr]) rfl (fun _ _ => rfl) ⟨⟨by omega, by omega, by omega⟩, Or.inl rfl, fun j q1 q2 => by rw [show j = 0 by omega], by omega, fun b q1 q2 => by omega, fun b b' q1 q2 q3 => by omega, fun f l b bl => by have := b.1; have := b.2.1; omega⟩
    rw [oth _ (by omega)]
    subst hk4
    exact hv c q1 q2
  | n + 1, k, d, hn, hk, hd, hv => by
    have h4 := hs.1
    apply v_X9_findBends_24
    have hr : d 154 = s := (hd 154 (by omega)).trans h164
    rw [hr]
    have hc := hs.2.1 k hk (by omega)
    refine ⟨⟨⟨by omega, by omega⟩, ⟨by omega, by omega⟩⟩, fun q => by omega, fun _ => ⟨⟨by omega, by omega⟩, hc, fun d2 hd2 => ?_⟩⟩
    refine l_findBends2 hs h164 hQ n (k + 1) d2 (by omega) (by omega) (hd2 ▸ but_mu hd) (fun c q1 q2 => ⟨fun ⟨i, i1, i2, i3⟩ => ?_, fun z => ?_⟩)
    · rw [hd2, mu_app, if_pos rfl]
      by_cases hcc : c = s (5 + k)
      · rw [if_pos hcc]
      · rw [if_neg hcc]
        refine (hv c q1 q2).1 ⟨i, i1, ?_, i3⟩
        rcases (show i < k ∨ i = k by omega) with y | rfl
        · exact y
        · exact absurd i3.symm hcc
    · rw [hd2, mu_app, if_pos rfl, if_neg (fun e => z ⟨k, hk, by omega, e.symm⟩)]
      exact (hv c q1 q2).2 (fun ⟨i, i1, i2, i3⟩ => z ⟨i, i1, by omega, i3⟩)
theorem l_findBends1 {d0 : zMem} (hs : crs s) (h164 : d0 154 = s) (hQ : ∀ d', rF d0 d' → d' 154 = s → (∀ j, j ≠ 11 → d' 153 j = d0 153 j) → Bends d' s → Q 0 d') :
    ∀ (n : Nat) (k : Int) (d : zMem), 240 - k = n → 0 ≤ k → but d0 d 162 → (∀ c, 0 ≤ c → c < k → d 162 c = 0) →
    Fr g (eM g M_X9_findBends FUL FUL Q) M_X9_findBends FUL 2 [some (zR 153), some (zI k), none] [] d
  | 0, k, d, hn, hk, hd, hv => by
    have h4 := hs.1
    apply v_X9_findBends_2
    refine ⟨⟨by omega, by omega⟩, fun _ => ?_, fun q => by omega⟩
    exact l_findBends2 hs h164 hQ (s 4).toNat 0 d (by omega) (by omega) hd (fun c q1 q2 => ⟨fun ⟨i, i1, i2, _⟩ => by omega, fun _ => hv c q1 (by omega)⟩)
  | n + 1, k, d, hn, hk, hd, hv => by
    apply v_X9_findBends_2
    refine ⟨⟨by omega, by omega⟩, fun q => by omega, fun _ => ⟨⟨by omega, by omega⟩, fun d1 hd1 => ?_⟩⟩
    refine l_findBends1 hs h164 hQ n (k + 1) d1 (by omega) (by omega) (hd1 ▸ but_mu hd) (fun c q1 q2 => ?_)
    rw [hd1, mu_app, if_pos rfl]
    by_cases hcc : c = k
    · rw [if_pos hcc]
    · rw [if_neg hcc]; exact hv c q1 (by omega)
theorem r_findBends {d : zMem} (hs : crs s) (h164 : d 154 = s) (hQ : ∀ d', rF d d' → d' 154 = s → (∀ j, j ≠ 11 → d' 153 j = d 153 j) → Bends d' s → Q 0 d') : Ev g M_X9_findBends FUL FUL [zR 153] d Q := by
  apply e_X9_findBends
  exact l_findBends1 (d0 := d) hs h164 hQ 240 0 d (by omega) (by omega) but_rfl (fun _ _ _ => by omega)
end
