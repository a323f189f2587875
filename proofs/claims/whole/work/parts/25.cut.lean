section
variable {g : zGG} {Q : Int → zMem → Prop} {a : Nat} {s : Row}
def but3 (d0 d : zMem) (a : Nat) : Prop := ∀ q, q ≠ a + 2 → q ≠ a + 3 → q ≠ a + 4 → d q = d0 q
/-- shorten's shift -/
def shf (d0 d : zMem) (a : Nat) (i gap x : Int) : Prop := but d0 d (a + 3) ∧ ∀ m, d (a + 3) m = if i < m ∧ m < x - gap then d0 (a + 3) (m + gap) else d0 (a + 3) m
theorem l_shorten {d0 : zMem} {i j gap : Int} (ha : isRiv a) (hi : 0 ≤ i) (hij : i < j) (hg : gap = j - i - 1) (hj : j < d0 (a + 2) 2) (hl : d0 (a + 2) 2 ≤ 150)
    (hQ : ∀ d', shf d0 d' a i gap (d0 (a + 2) 2) → ∀ d1, d1 = mu d' (a + 2) 2 (d0 (a + 2) 2 - gap) → Ev g M_X1_numberAgain FUL FUL [zR (a + 2), zI i] d1 (fun _ d2 => Q 0 d2)) :
    ∀ (n : Nat) (x : Int) (d : zMem), d0 (a + 2) 2 - x = n → j ≤ x → shf d0 d a i gap x →
    Fr g (eM g M_X1_shorten FUL FUL Q) M_X1_shorten FUL 43 [some (zR (a + 2)), some (zI i), some (zI j), some (zI gap), some (zI x)] [] d
  | 0, x, d, hn, h0, hv => by
    apply v_X1_shorten_43 ha
    have e2 : d (a + 2) = d0 (a + 2) := hv.1 _ (by omega)
    rw [e2]
    have : x = d0 (a + 2) 2 := by omega
    subst this
    exact ⟨⟨⟨by omega, by omega⟩, ⟨by omega, by omega⟩⟩, fun _ => hQ d hv, fun q => by omega⟩
  | n + 1, x, d, hn, h0, hv => by
    apply v_X1_shorten_43 ha
    have e2 : d (a + 2) = d0 (a + 2) := hv.1 _ (by omega)
    rw [e2]
    refine ⟨⟨⟨by omega, by omega⟩, ⟨by omega, by omega⟩⟩, fun q => by omega, fun q => ⟨⟨by omega, by omega⟩, ⟨by omega, by omega⟩, fun d3 hd3 => ?_⟩⟩
    refine l_shorten ha hi hij hg hj hl hQ n (x + 1) d3 (by omega) (by omega) ?_
    subst hd3
    refine ⟨but_mu hv.1, fun m => ?_⟩
    rw [mu_app, if_pos rfl]
    by_cases hm : m = x - gap
    · subst hm
      rw [if_pos rfl, hv.2 x, if_neg (by omega), if_pos (by omega), show x - gap + gap = x by omega]
    · rw [if_neg hm, hv.2 m]
      by_cases hc : i < m ∧ m < x - gap
      · rw [if_pos hc, if_pos (by omega)]
      · rw [if_neg hc, if_neg (by omega)]
theorem c_shorten {d : zMem} {i j : Int} {t : Row} (ha : isRiv a) (hR : RC d a s) (hs : crs s) (hi : 0 ≤ i) (hij : i + 3 ≤ j) (hj : j < s 4) (ht : crs t) (t4 : t 4 = s 4 - (j - i - 1)) (tlo : ∀ m, 0 ≤ m → m ≤ i → t (5 + m) = s (5 + m)) (thi : ∀ m, i < m → m < s 4 - (j - i - 1) → t (5 + m) = s (5 + m + (j - i - 1)))
    (hQ : ∀ d', but3 d d' a → RC d' a t → Q 0 d') : Ev g M_X1_shorten FUL FUL [zR (a + 2), zI i, zI j] d Q := by
  obtain ⟨r2, r3, r4⟩ := hR
  have h4 := hs.1
  apply e_X1_shorten ha
  rw [r2]
  refine ⟨⟨by omega, by omega⟩, fun q => by omega, fun _ => ⟨⟨⟨by omega, by omega⟩, ⟨by omega, by omega⟩⟩, fun q => by omega, fun _ => ⟨⟨⟨by omega, by omega⟩, ⟨by omega, by omega⟩⟩, fun q => by omega, fun _ => ⟨⟨by omega, by omega⟩, fun _ => ?_, fun q => by omega⟩⟩⟩⟩
  apply s_leaveBetween ha ⟨hi, by omega⟩ (by rw [r2]; omega) (by omega) (fun m h0 h1 => by rw [r3 m h0 (by omega)]; exact hs.2.1 m h0 (by omega))
  intro d1 ⟨b1, lv1, lv2⟩
  have e12 : d1 (a + 2) = d (a + 2) := b1 _ (by omega)
  have e13 : d1 (a + 3) = d (a + 3) := b1 _ (by omega)
  refine l_shorten (d0 := d1) ha hi (by omega) rfl (by rw [e12, r2]; exact hj) (by rw [e12, r2]; omega) ?_ (d1 (a + 2) 2 - j).toNat j d1 (by rw [e12, r2]; omega) (Int.le_refl _) ⟨but_rfl, fun m => by rw [if_neg (by omega)]⟩
  intro d2 ⟨b2, sh⟩ d3 hd3
  have e22 : d2 (a + 2) = d (a + 2) := (b2 _ (by omega)).trans e12
  rw [e12, r2] at sh hd3
  have l3 : d3 (a + 2) 2 = s 4 - (j - i - 1) := by rw [hd3, mu_get]
  have c3 : ∀ m, 0 ≤ m → m < s 4 - (j - i - 1) → d3 (a + 3) m = t (5 + m) := by
    intro m q1 q2
    rw [hd3, mu_na (by omega), sh m, e13]
    by_cases hc : i < m
    · rw [if_pos (by omega), r3 _ (by omega) (by omega), thi m hc q2]
      congr 1; omega
    · rw [if_neg (by omega), r3 _ (by omega) (by omega), tlo m q1 (by omega)]
  have n3 : d3 (a + 4) = d1 (a + 4) := by
    rw [hd3]; funext c
    rw [mu_na (by omega), b2 _ (by omega)]
  apply s_numberAgain ha ⟨hi, by rw [l3]; omega⟩ (by rw [l3]; omega) (fun m q1 q2 => by rw [l3] at q2; rw [c3 m q1 q2]; exact ht.2.1 m q1 (by omega)) (fun m m' q1 q2 q3 q4 he => by
    rw [l3] at q2 q4
    rw [c3 m q1 q2, c3 m' q3 q4] at he
    exact ht.2.2.1 m m' q1 (by omega) q3 (by omega) he)
  intro d4 ⟨b4, na1, na2⟩
  rw [l3] at na1 na2
  refine hQ d4 (fun q q1 q2 q3 => ?_) ⟨?_, fun m q1 q2 => ?_, fun c q1 q2 => ?_⟩
  · rw [b4 q q3, hd3]
    funext z
    rw [mu_na q1, b2 q q2, b1 q q3]
  · rw [b4 _ (by omega), l3, t4]
  · rw [b4 _ (by omega), c3 m q1 (by omega)]
  · by_cases hon : ∃ m, i ≤ m ∧ m < s 4 - (j - i - 1) ∧ d3 (a + 3) m = c
    · obtain ⟨m, q3, q4, q5⟩ := hon
      rw [← q5, na1 m q3 q4, c3 m (by omega) q4, num_at ht (by omega) (by omega)]
    · rw [na2 c (fun m q3 q4 q5 => hon ⟨m, q3, q4, q5⟩), n3]
      by_cases hbt : ∃ m, i < m ∧ m < j ∧ d (a + 3) m = c
      · obtain ⟨m, q3, q4, q5⟩ := hbt
        rw [← q5, lv1 m q3 q4]
        symm
        rw [num_iff]
        rintro ⟨p, p1, p2, p3⟩
        rw [t4] at p2
        rw [r3 m (by omega) (by omega)] at p3
        rcases (show p ≤ i ∨ i < p by omega) with z | z
        · rw [tlo p p1 z] at p3
          have := hs.2.2.1 _ _ p1 (by omega) (by omega) (by omega) p3
          omega
        · rw [thi p z p2, show 5 + p + (j - i - 1) = 5 + (p + (j - i - 1)) by omega] at p3
          have := hs.2.2.1 _ _ (by omega) (by omega) (by omega) (by omega) p3
          omega
      · rw [lv2 c (fun m q3 q4 q5 => hbt ⟨m, q3, q4, q5⟩), r4 c q1 q2]
        by_cases hos : on s c
        · obtain ⟨p1, p2, p3⟩ := num_on hos
          generalize hp : num s c = p at p1 p2 p3
          have hpi : p < i := by
            rcases (show p < i ∨ p = i ∨ (i < p ∧ p < j) ∨ j ≤ p by omega) with z | z | z | z
            · exact z
            · subst z
              exact absurd ⟨p, Int.le_refl _, by omega, by rw [c3 p p1 (by omega), tlo p p1 (Int.le_refl _)]; exact p3⟩ hon
            · exact absurd ⟨p, z.1, z.2, by rw [r3 p p1 p2]; exact p3⟩ hbt
            · refine absurd ⟨p - (j - i - 1), by omega, by omega, ?_⟩ hon
              rw [c3 _ (by omega) (by omega), thi _ (by omega) (by omega), show 5 + (p - (j - i - 1)) + (j - i - 1) = 5 + p by omega]
              exact p3
          rw [← p3, ← tlo p p1 (by omega), num_at ht p1 (by omega)]
        · rw [num_off hos]
          symm
          rw [num_iff]
          rintro ⟨p, p1, p2, p3⟩
          rw [t4] at p2
          rcases (show p ≤ i ∨ i < p by omega) with z | z
          · exact hos ⟨p, p1, by omega, by rw [← tlo p p1 z]; exact p3⟩
          · refine hos ⟨p + (j - i - 1), by omega, by omega, ?_⟩
            rw [show 5 + (p + (j - i - 1)) = 5 + p + (j - i - 1) by omega, ← thi p z p2]
            exact p3
/-- bulge: first the cells behind, then the bank -/
def blg (d0 d : zMem) (a : Nat) (l x : Int) : Prop := but d0 d (a + 3) ∧ ∀ m, d (a + 3) m = if x + 2 < m ∧ m < d0 (a + 2) 2 + 2 then d0 (a + 3) (m - 2) else d0 (a + 3) m
theorem l_bulge1 {d0 : zMem} {f l w : Int} (ha : isRiv a) (hf : 0 ≤ f) (hfl : f < l) (hl : l < d0 (a + 2) 2) (h148 : d0 (a + 2) 2 ≤ 148)
    (hQ : ∀ d', blg d0 d' a l (l - 1) → Fr g (eM g M_X1_bulge FUL FUL Q) M_X1_bulge FUL 75 [some (zR (a + 2)), some (zI f), some (zI l), some (zI w), some (zI l)] [] d') :
    ∀ (n : Nat) (x : Int) (d : zMem), x - l + 1 = n → x < d0 (a + 2) 2 → blg d0 d a l x →
    Fr g (eM g M_X1_bulge FUL FUL Q) M_X1_bulge FUL 44 [some (zR (a + 2)), some (zI f), some (zI l), some (zI w), some (zI x)] [] d
  | 0, x, d, hn, h0, hv => by
    apply v_X1_bulge_44 ha
    have : x = l - 1 := by omega
    subst this
    exact ⟨⟨⟨by omega, by omega⟩, ⟨by omega, by omega⟩⟩, fun _ => hQ d hv, fun q => by omega⟩
  | n + 1, x, d, hn, h0, hv => by
    apply v_X1_bulge_44 ha
    refine ⟨⟨⟨by omega, by omega⟩, ⟨by omega, by omega⟩⟩, fun q => by omega, fun q => ⟨⟨by omega, by omega⟩, ⟨by omega, by omega⟩, fun d1 hd1 => ?_⟩⟩
    refine l_bulge1 ha hf hfl hl h148 hQ n (x + (-1)) d1 (by omega) (by omega) ?_
    subst hd1
    refine ⟨but_mu hv.1, fun m => ?_⟩
    rw [mu_app, if_pos rfl]
    by_cases hm : m = x + 2
    · subst hm
      rw [if_pos rfl, hv.2 x, if_neg (by omega), if_pos (by omega), show x + 2 - 2 = x by omega]
    · rw [if_neg hm, hv.2 m]
      by_cases hc : x + 2 < m ∧ m < d0 (a + 2) 2 + 2
      · rw [if_pos hc, if_pos (by omega)]
      · rw [if_neg hc, if_neg (by omega)]
def bl2 (d0 d : zMem) (a : Nat) (l w x : Int) : Prop := but d0 d (a + 3) ∧ ∀ m, d (a + 3) m = if x + 1 < m ∧ m ≤ l + 1 then stp (d0 (a + 3) (m - 1)) w else d0 (a + 3) m
theorem l_bulge2 {d0 : zMem} {f l w : Int} (ha : isRiv a) (hf : 0 ≤ f) (hfl : f < l) (hl : l < 150) (hw : inR w) (hc : ∀ m, f ≤ m → m ≤ l → inR (d0 (a + 3) m)) (hl2 : l + 1 < 150)
    (hQ : ∀ d', bl2 d0 d' a l w (f - 1) → ∀ d1, d1 = mu d' (a + 2) 2 (d0 (a + 2) 2 + 2) → Ev g M_X1_numberAgain FUL FUL [zR (a + 2), zI f] d1 (fun _ d2 => Q 0 d2)) :
    ∀ (n : Nat) (x : Int) (d : zMem), x - f + 1 = n → x ≤ l → bl2 d0 d a l w x →
    Fr g (eM g M_X1_bulge FUL FUL Q) M_X1_bulge FUL 75 [some (zR (a + 2)), some (zI f), some (zI l), some (zI w), some (zI x)] [] d
  | 0, x, d, hn, h0, hv => by
    apply v_X1_bulge_75 ha
    have : x = f - 1 := by omega
    subst this
    have e2 : d (a + 2) = d0 (a + 2) := hv.1 _ (by omega)
    rw [e2]
    exact ⟨⟨⟨by omega, by omega⟩, ⟨by omega, by omega⟩⟩, fun _ => hQ d hv, fun q => by omega⟩
  | n + 1, x, d, hn, h0, hv => by
    apply v_X1_bulge_75 ha
    have ex : d (a + 3) x = d0 (a + 3) x := by rw [hv.2 x, if_neg (by omega)]
    refine ⟨⟨⟨by omega, by omega⟩, ⟨by omega, by omega⟩⟩, fun q => by omega, fun q => ⟨⟨by omega, by omega⟩, ?_⟩⟩
    rw [ex]
    apply s_beside (hc x (by omega) h0) hw
    refine ⟨⟨by omega, by omega⟩, fun d4 hd4 => ?_⟩
    refine l_bulge2 ha hf hfl hl hw hc hl2 hQ n (x + (-1)) d4 (by omega) (by omega) ?_
    subst hd4
    refine ⟨but_mu hv.1, fun m => ?_⟩
    rw [mu_app, if_pos rfl]
    by_cases hm : m = x + 1
    · subst hm
      rw [if_pos rfl, if_pos (by omega), show x + 1 - 1 = x by omega]
    · rw [if_neg hm, hv.2 m]
      by_cases hc : x + 1 < m ∧ m ≤ l + 1
      · rw [if_pos hc, if_pos (by omega)]
      · rw [if_neg hc, if_neg (by omega)]
theorem c_bulge {d : zMem} {f l : Int} (ha : isRiv a) (hR : RC d a s) (hs : crs s) (hb : bd s f l) (hf : ¬ firm s f l) (h148 : s 4 ≤ 148) (hQ : ∀ d', but3 d d' a → RC d' a (crsG s f l) → Q 0 d') : Ev g M_X1_bulge FUL FUL [zR (a + 2), zI f, zI l, zI (way s (f - 1))] d Q := by
  have ht := crsG_crs hs hb hf h148
  obtain ⟨b1, b2, b3, b4, b5, b6, b7⟩ := hb
  obtain ⟨t4, tlo, tmi, thi⟩ := crsG_at b1 b2 b3
  obtain ⟨r2, r3, r4⟩ := hR
  have h4 := hs.1
  have wr := way_range s (f - 1)
  apply e_X1_bulge ha
  rw [r2]
  refine ⟨⟨by omega, by omega⟩, fun q => by omega, fun _ => ⟨⟨⟨by omega, by omega⟩, ⟨by omega, by omega⟩⟩, fun q => by omega, fun _ => ⟨⟨⟨by omega, by omega⟩, ⟨by omega, by omega⟩⟩, fun q => by omega, fun _ => ⟨⟨by omega, by omega⟩, fun _ => ?_, fun q => by omega⟩⟩⟩⟩
  apply s_leaveBetween ha ⟨by omega, by omega⟩ (by rw [r2]; omega) (by omega) (fun m h0 h1 => by rw [r3 m h0 (by omega)]; exact hs.2.1 m h0 (by omega))
  intro d1 ⟨bb1, lv1, lv2⟩
  have e12 : d1 (a + 2) = d (a + 2) := bb1 _ (by omega)
  have e13 : d1 (a + 3) = d (a + 3) := bb1 _ (by omega)
  rw [e12, r2]
  refine l_bulge1 (d0 := d1) ha (by omega) b2 (by rw [e12, r2]; omega) (by rw [e12, r2]; exact h148) ?_ (s 4 - 1 - l + 1).toNat (s 4 - 1) d1 (by omega) (by rw [e12, r2]; omega) ⟨but_rfl, fun m => by rw [e12, r2, if_neg (by omega)]⟩
  intro d2 ⟨bb2, sh⟩
  rw [e12, r2, e13] at sh
  have e22 : d2 (a + 2) = d (a + 2) := (bb2 _ (by omega)).trans e12
  have c2 : ∀ m, f ≤ m → m ≤ l → d2 (a + 3) m = s (5 + m) := fun m q1 q2 => by rw [sh m, if_neg (by omega), r3 m (by omega) (by omega)]
  refine l_bulge2 (d0 := d2) ha (by omega) b2 (by omega) ⟨by omega, by omega⟩ (fun m q1 q2 => by rw [c2 m q1 q2]; exact inR_cell hs (by omega) (by omega)) (by omega) ?_ (l - f + 1).toNat l d2 (by omega) (Int.le_refl _) ⟨but_rfl, fun m => by rw [if_neg (by omega)]⟩
  intro d3 ⟨bb3, sh3⟩ d4 hd4
  rw [e22, r2] at hd4
  have l4 : d4 (a + 2) 2 = s 4 + 2 := by rw [hd4, mu_get]
  have c4 : ∀ m, 0 ≤ m → m < s 4 + 2 → d4 (a + 3) m = crsG s f l (5 + m) := by
    intro m q1 q2
    rw [hd4, mu_na (by omega), sh3 m]
    rcases (show m ≤ f ∨ (f < m ∧ m ≤ l + 1) ∨ l + 2 ≤ m by omega) with q | q | q
    · rw [if_neg (by omega), sh m, if_neg (by omega), r3 m q1 (by omega), tlo m q1 q]
    · rw [if_pos (by omega), c2 (m - 1) (by omega) (by omega), tmi m q.1 q.2]
      rfl
    · rw [if_neg (by omega), sh m, if_pos (by omega), r3 _ (by omega) (by omega), thi m q q2]
  have n4 : d4 (a + 4) = d1 (a + 4) := by
    rw [hd4]; funext c
    rw [mu_na (by omega), bb3 _ (by omega), bb2 _ (by omega)]
  apply s_numberAgain ha ⟨by omega, by rw [l4]; omega⟩ (by rw [l4]; omega) (fun m q1 q2 => by rw [l4] at q2; rw [c4 m q1 q2]; exact ht.2.1 m q1 (by omega)) (fun m m' q1 q2 q3 q4 he => by
    rw [l4] at q2 q4
    rw [c4 m q1 q2, c4 m' q3 q4] at he
    exact ht.2.2.1 m m' q1 (by omega) q3 (by omega) he)
  intro d5 ⟨b5', na1, na2⟩
  rw [l4] at na1 na2
  refine hQ d5 (fun q q1 q2 q3 => ?_) ⟨?_, fun m q1 q2 => ?_, fun c q1 q2 => ?_⟩
  · rw [b5' q q3, hd4]
    funext z
    rw [mu_na q1, bb3 q q2, bb2 q q2, bb1 q q3]
  · rw [b5' _ (by omega), l4, t4]
  · rw [b5' _ (by omega), c4 m q1 (by omega)]
  · by_cases hon : ∃ m, f ≤ m ∧ m < s 4 + 2 ∧ d4 (a + 3) m = c
    · obtain ⟨m, q3, q4, q5⟩ := hon
      rw [← q5, na1 m q3 q4, c4 m (by omega) q4, num_at ht (by omega) (by omega)]
    · rw [na2 c (fun m q3 q4 q5 => hon ⟨m, q3, q4, q5⟩), n4]
      by_cases hbt : ∃ m, f < m ∧ m < l ∧ d (a + 3) m = c
      · obtain ⟨m, q3, q4, q5⟩ := hbt
        rw [← q5, lv1 m q3 q4]
        symm
        rw [num_iff]
        rintro ⟨p, p1, p2, p3⟩
        rw [t4] at p2
        rw [r3 m (by omega) (by omega)] at p3
        rcases (show p ≤ f ∨ (f < p ∧ p ≤ l + 1) ∨ l + 2 ≤ p by omega) with z | z | z
        · rw [tlo p p1 z] at p3
          have := hs.2.2.1 _ _ p1 (by omega) (by omega) (by omega) p3
          omega
        · rw [tmi p z.1 z.2] at p3
          exact (bk_in hf (k := p - 1) (by omega) (by omega)).2.1 ⟨m, by omega, by omega, p3.symm⟩
        · rw [thi p z p2] at p3
          have := hs.2.2.1 _ _ (by omega) (by omega) (by omega) (by omega) p3
          omega
      · rw [lv2 c (fun m q3 q4 q5 => hbt ⟨m, q3, q4, q5⟩), r4 c q1 q2]
        by_cases hos : on s c
        · obtain ⟨p1, p2, p3⟩ := num_on hos
          generalize hp : num s c = p at p1 p2 p3
          have hpi : p < f := by
            rcases (show p < f ∨ p = f ∨ (f < p ∧ p < l) ∨ l ≤ p by omega) with z | z | z | z
            · exact z
            · subst z
              exact absurd ⟨p, Int.le_refl _, by omega, by rw [c4 p p1 (by omega), tlo p p1 (Int.le_refl _)]; exact p3⟩ hon
            · exact absurd ⟨p, z.1, z.2, by rw [r3 p p1 p2]; exact p3⟩ hbt
            · refine absurd ⟨p + 2, by omega, by omega, ?_⟩ hon
              rw [c4 _ (by omega) (by omega), thi _ (by omega) (by omega), show p + 2 - 2 = p by omega]
              exact p3
          rw [← p3, ← tlo p p1 (by omega), num_at ht p1 (by omega)]
        · rw [num_off hos]
          symm
          rw [num_iff]
          rintro ⟨p, p1, p2, p3⟩
          rw [t4] at p2
          rcases (show p ≤ f ∨ (f < p ∧ p ≤ l + 1) ∨ l + 2 ≤ p by omega) with z | z | z
          · exact hos ⟨p, p1, by omega, by rw [← tlo p p1 z]; exact p3⟩
          · refine absurd ⟨p, by omega, by omega, ?_⟩ hon
            rw [c4 p p1 (by omega)]
            exact p3
          · refine hos ⟨p - 2, by omega, by omega, ?_⟩
            rw [← thi p z p2]
            exact p3
end
