-- bends found by the class
def wf (s : Row) (i : Int) : Int := if 0 ≤ i ∧ i < s 4 - 1 then way s i else -1
theorem wf_range (s : Row) (i : Int) : -1 ≤ wf s i ∧ wf s i < 4 := by
  have := way_range s i
  unfold wf
  split <;> omega
section
variable {g : zGG} {Q : Int → zMem → Prop} {a : Nat} {s : Row}
theorem c_wf {d : zMem} {x : Int} (ha : isRiv a) (hR : RC d a s) (hs : crs s) (hx : -1000 ≤ x ∧ x ≤ 1000) (h : Q (wf s x) d) : Ev g M_X1_wayFrom FUL FUL [zR (a + 2), zI x] d Q := c_wayFrom ha hR hs hx h
theorem l_endOfRow {d : zMem} {f w : Int} (ha : isRiv a) (hR : RC d a s) (hs : crs s) (hf : 0 ≤ f) (hw : 0 ≤ w ∧ w < 4) (hQ : ∀ v, f ≤ v → v ≤ s 4 → (∀ k, f ≤ k → k < v → wf s k = w) → (v = s 4 ∨ wf s v ≠ w) → Q v d) :
    ∀ (n : Nat) (x : Int), s 4 - x = n → f ≤ x → (∀ k, f ≤ k → k < x → wf s k = w) → Fr g (eM g M_X0_endOfRow FUL FUL Q) M_X0_endOfRow FUL 2 [some (zR (a + 2)), some (zI f), some (zI w), some (zI x)] [] d
  | 0, x, hn, hx, hv => by
    have h4 := hs.1
    apply v_X0_endOfRow_2 ha
    apply e_X1_length ha
    rw [hR.1]
    exact ⟨⟨⟨by omega, by omega⟩, ⟨by omega, by omega⟩⟩, fun _ => hQ x hx (by omega) hv (Or.inl (by omega)), fun q => by omega⟩
  | n + 1, x, hn, hx, hv => by
    have h4 := hs.1
    apply v_X0_endOfRow_2 ha
    apply e_X1_length ha
    rw [hR.1]
    refine ⟨⟨⟨by omega, by omega⟩, ⟨by omega, by omega⟩⟩, fun q => by omega, fun _ => ?_⟩
    apply c_wf ha hR hs ⟨by omega, by omega⟩
    have := wf_range s x
    refine ⟨⟨⟨by omega, by omega⟩, ⟨by omega, by omega⟩⟩, fun q => hQ x hx (by omega) hv (Or.inr q), fun q => l_endOfRow ha hR hs hf hw hQ n (x + 1) (by omega) (by omega) (fun k q1 q2 => ?_)⟩
    rcases (show k < x ∨ k = x by omega) with z | rfl
    · exact hv k q1 z
    · exact q
theorem c_endOfRow {d : zMem} {f w : Int} (ha : isRiv a) (hR : RC d a s) (hs : crs s) (hf : 0 ≤ f ∧ f ≤ s 4) (hw : 0 ≤ w ∧ w < 4) (hQ : ∀ v, f ≤ v → v ≤ s 4 → (∀ k, f ≤ k → k < v → wf s k = w) → (v = s 4 ∨ wf s v ≠ w) → Q v d) : Ev g M_X0_endOfRow FUL FUL [zR (a + 2), zI f, zI w] d Q := by
  apply e_X0_endOfRow ha
  exact l_endOfRow ha hR hs hf.1 hw hQ (s 4 - f).toNat f (by omega) (Int.le_refl _) (fun k _ _ => by omega)
theorem l_seekFrom {d : zMem} {b : Nat} {x : Int} (ha : isRiv a) (hb : isBd b) (hR : RC d a s) (hs : crs s)
    (h1 : ∀ d' f l, but d d' b → bd s f l → hB d' b s f l → x ≤ f → (∀ f' l', x ≤ f' → f' < f → ¬ bd s f' l') → Q 1 d') (h0 : (∀ f' l', x ≤ f' → ¬ bd s f' l') → Q 0 d) :
    ∀ (n : Nat) (y : Int), s 4 - y = n → 1 ≤ y → x ≤ y → (∀ f' l', x ≤ f' → f' < y → ¬ bd s f' l') → Fr g (eM g M_X0_seekFrom FUL FUL Q) M_X0_seekFrom FUL 6 [some (zR b), some (zR (a + 2)), some (zI x), some (zI y), none, none, none, none] [] d
  | 0, y, hn, h1y, hy, hv => by
    have h4 := hs.1
    apply v_X0_seekFrom_6 hb ha
    apply e_X1_length ha
    rw [hR.1]
    refine ⟨⟨⟨by omega, by omega⟩, ⟨by omega, by omega⟩⟩, fun _ => h0 (fun f' l' q z => ?_), fun q => by omega⟩
    by_cases c : f' < y
    · exact hv f' l' q c z
    · have := z.2.1
      have := z.2.2.1
      omega
  | n + 1, y, hn, h1y, hy, hv => by
    have h4 := hs.1
    apply v_X0_seekFrom_6 hb ha
    apply e_X1_length ha
    rw [hR.1]
    refine ⟨⟨⟨by omega, by omega⟩, ⟨by omega, by omega⟩⟩, fun q => by omega, fun hy4 => ?_⟩
    apply c_wf ha hR hs ⟨by omega, by omega⟩
    apply c_wf ha hR hs ⟨by omega, by omega⟩
    have r1 := wf_range s (y - 1)
    have r2 := wf_range s y
    have next : (∀ l', ¬ bd s y l') → Fr g (eM g M_X0_seekFrom FUL FUL Q) M_X0_seekFrom FUL 6 [some (zR b), some (zR (a + 2)), some (zI x), some (zI (y + 1)), none, none, none, none] [] d := fun hno =>
      l_seekFrom ha hb hR hs h1 h0 n (y + 1) (by omega) (by omega) (by omega) (fun f' l' q1 q2 z => by
        rcases (show f' < y ∨ f' = y by omega) with c | rfl
        · exact hv f' l' q1 c z
        · exact hno l' z)
    refine ⟨⟨⟨by omega, by omega⟩, ⟨by omega, by omega⟩⟩, fun q => next (fun l' z => ?_), fun q => ⟨⟨by omega, by omega⟩, fun q2 => next (fun l' z => ?_), fun q2 => ?_⟩⟩
    · obtain ⟨z1, z2, z3, z4, z5, z6, z7⟩ := z
      unfold wf at q
      rw [if_pos (by omega), if_pos (by omega)] at q
      exact z6 q
    · obtain ⟨z1, z2, z3, z4, z5, z6, z7⟩ := z
      have := way_range s y
      unfold wf at q2
      rw [if_pos (by omega)] at q2
      omega
    · have e1 : y < s 4 - 1 := by
        unfold wf at q2
        by_cases c : 0 ≤ y ∧ y < s 4 - 1
        · exact c.2
        · rw [if_neg c] at q2; exact absurd rfl q2
      have w1 : wf s (y - 1) = way s (y - 1) := by unfold wf; rw [if_pos (by omega)]
      have w2 : wf s y = way s y := by unfold wf; rw [if_pos (by omega)]
      rw [w1, w2] at q
      apply c_endOfRow ha hR hs ⟨by omega, by omega⟩ ⟨by omega, by omega⟩
      intro v v1 v2 v3 v4
      have hvy : y < v := by
        rcases (show y < v ∨ v = y by omega) with c | rfl
        · exact c
        · rcases v4 with c | c
          · omega
          · exact absurd rfl c
      have hv1 : v ≤ s 4 - 1 := by
        rcases (show v ≤ s 4 - 1 ∨ v = s 4 by omega) with c | rfl
        · exact c
        · have := v3 (s 4 - 1) (by omega) (by omega)
          unfold wf at this
          rw [if_neg (by omega)] at this
          omega
      apply c_wf ha hR hs ⟨by omega, by omega⟩
      have r5 := wf_range s v
      have same1 : ∀ l', bd s y l' → l' = v := by
        intro l' z
        obtain ⟨z1, z2, z3, z4, z5, z6, z7⟩ := z
        rcases (show l' < v ∨ l' = v ∨ v < l' by omega) with c | c | c
        · have := v3 l' (by omega) c
          unfold wf at this
          rw [if_pos (by omega), if_pos (by omega)] at this
          exact absurd this z5
        · exact c
        · have := z4 v (by omega) c
          rcases v4 with e | e
          · omega
          · rw [w2] at e
            unfold wf at e
            rw [if_pos (by omega)] at e
            exact absurd this e
      refine ⟨⟨by omega, by omega⟩, fun q3 => next (fun l' z => ?_), fun q3 => ?_⟩
      · have := same1 l' z
        obtain ⟨z1, z2, z3, z4, z5, z6, z7⟩ := z
        subst this
        have := way_range s l'
        unfold wf at q3
        rw [if_pos (by omega)] at q3
        omega
      · have e3 : v < s 4 - 1 := by
          unfold wf at q3
          by_cases c : 0 ≤ v ∧ v < s 4 - 1
          · exact c.2
          · rw [if_neg c] at q3; exact absurd rfl q3
        have w3 : wf s v = way s v := by unfold wf; rw [if_pos (by omega)]
        have y1 := way_range s (y - 1)
        have y2 := way_range s v
        rw [w3, w1]
        apply s_areOpposite ⟨by omega, by omega⟩ ⟨by omega, by omega⟩
        by_cases c : way s (y - 1) = (way s v + 2) % 4
        · rw [if_pos c]
          refine ⟨by decide, fun q => absurd q (by decide), fun _ d1 hd1 d2 hd2 d3 hd3 => ?_⟩
          have hbd : bd s y v := by
            refine ⟨h1y, hvy, e3, fun k k1 k2 => ?_, ?_, q, by omega⟩
            · have := v3 k k1 k2
              rw [w2] at this
              unfold wf at this
              rw [if_pos (by omega)] at this
              exact this
            · rcases v4 with e | e
              · omega
              · rw [w2, w3] at e; exact e
          refine h1 d3 y v (hd3 ▸ but_mu (hd2 ▸ but_mu (hd1 ▸ but_mu but_rfl))) hbd ⟨?_, ?_, ?_⟩ hy hv
          · rw [hd3, mu_ni (by omega), hd2, mu_ni (by omega), hd1, mu_get]
          · rw [hd3, mu_ni (by omega), hd2, mu_get]
          · rw [hd3, mu_get]
        · rw [if_neg c]
          refine ⟨by decide, fun _ => next (fun l' z => ?_), fun q => absurd rfl q⟩
          have := same1 l' z
          obtain ⟨z1, z2, z3, z4, z5, z6, z7⟩ := z
          subst this
          omega
theorem c_seekFrom {d : zMem} {b : Nat} {x : Int} (ha : isRiv a) (hb : isBd b) (hR : RC d a s) (hs : crs s) (hx : inR x)
    (h1 : ∀ d' f l, but d d' b → bd s f l → hB d' b s f l → x ≤ f → (∀ f' l', x ≤ f' → f' < f → ¬ bd s f' l') → Q 1 d') (h0 : (∀ f' l', x ≤ f' → ¬ bd s f' l') → Q 0 d) : Ev g M_X0_seekFrom FUL FUL [zR b, zR (a + 2), zI x] d Q := by
  have h4 := hs.1
  apply e_X0_seekFrom hb ha
  refine ⟨hx, ?_⟩
  by_cases c : max x 1 ≤ s 4
  · exact l_seekFrom ha hb hR hs h1 h0 (s 4 - max x 1).toNat (max x 1) (by omega) (by omega) (by omega) (fun f' l' q1 q2 z => by have := z.1; omega)
  · apply v_X0_seekFrom_6 hb ha
    apply e_X1_length ha
    rw [hR.1]
    have hxr := hx
    unfold inR at hxr
    refine ⟨⟨by unfold inR; omega, ⟨by omega, by omega⟩⟩, fun _ => h0 (fun f' l' q z => ?_), fun q => by omega⟩
    have := z.1
    have := z.2.1
    have := z.2.2.1
    omega
end
-- wear in a year
noncomputable def wearOne (more : Int) (t : Row) (i : Int) : Row := @dite Row (∃ l, bd t i l ∧ ¬ firm t i l) (Classical.propDecidable _) (fun h => itr (wcell i more) (Classical.choose h + 1 - i).toNat i t) (fun _ => t)
theorem wearOne_of {more : Int} {t : Row} {i l : Int} (hb : bd t i l) (hf : ¬ firm t i l) : wearOne more t i = itr (wcell i more) (l + 1 - i).toNat i t := by
  have e : ∃ l, bd t i l ∧ ¬ firm t i l := ⟨l, hb, hf⟩
  have := bd_uniq hb (Classical.choose_spec e).1
  unfold wearOne
  rw [dif_pos e, ← this]
theorem wearOne_firm {more : Int} {t : Row} {i l : Int} (hb : bd t i l) (hf : firm t i l) : wearOne more t i = t := by
  unfold wearOne
  rw [dif_neg]
  rintro ⟨l', h1, h2⟩
  exact h2 (bd_uniq hb h1 ▸ hf)
theorem wearOne_no {more : Int} {t : Row} {i : Int} (hb : ∀ l, ¬ bd t i l) : wearOne more t i = t := by
  unfold wearOne
  rw [dif_neg]
  rintro ⟨l', h1, h2⟩
  exact hb l' h1
theorem itr_skip {f : Row → Int → Row} {t : Row} : ∀ (m n : Nat) (k : Int), (∀ j, k ≤ j → j < k + m → f t j = t) → itr f (m + n) k t = itr f n (k + m) t
  | 0, n, k, h => by rw [Nat.zero_add, Int.natCast_zero, Int.add_zero]
  | m + 1, n, k, h => by
    rw [show m + 1 + n = (m + n) + 1 by omega]
    show itr f (m + n) (k + 1) (f t k) = _
    rw [h k (by omega) (by omega), itr_skip m n (k + 1) (fun j q1 q2 => h j (by omega) (by omega)), show k + 1 + (m : Int) = k + ((m + 1 : Nat) : Int) by omega]
theorem itr_skip' {f : Row → Int → Row} {t : Row} {x y : Int} (hxy : x ≤ y) (hy : y ≤ 150) (h : ∀ j, x ≤ j → j < y → f t j = t) : itr f (150 - x).toNat x t = itr f (150 - y).toNat y t := by
  have := itr_skip (f := f) (t := t) (y - x).toNat (150 - y).toNat x (fun j q1 q2 => h j q1 (by omega))
  rw [show (150 - x).toNat = (y - x).toNat + (150 - y).toNat by omega, this, show x + ((y - x).toNat : Int) = y by omega]
theorem itr_one {f : Row → Int → Row} {t : Row} {x : Int} (hx : x < 150) : itr f (150 - x).toNat x t = itr f (150 - (x + 1)).toNat (x + 1) (f t x) := by
  rw [show (150 - x).toNat = (150 - (x + 1)).toNat + 1 by omega]
  rfl
theorem wsame_Inv {s t : Row} (h : Inv s) (hw : wsame s t) (hI : IW t) : Inv t := by
  obtain ⟨hs, hX, hY, hW, hS, hF⟩ := h
  exact ⟨crs_same (wsame_crs hw) hs, IX_same (fun k _ _ => hw k (by omega)) hX, IY_same (fun k _ _ => hw k (by omega)) hX hY, hI, IS_same (fun k _ _ => hw k (by omega)) hS, IF_same (fun k _ _ => hw k (by omega)) hF⟩
theorem wsame_Rel {s t : Row} {d d' : zMem} {a : Nat} (h : Rel d a s) (hI : Inv s) (hw : wsame s t) (hb : but d d' (a + 10)) (hW : RW d' a t) : Rel d' a t := by
  obtain ⟨rS, rC, rX, rW, rF⟩ := h
  obtain ⟨hs, hX, hY, hWI, hS, hF⟩ := hI
  exact ⟨RS_keep rS (hb _ (by omega)) (fun k _ _ => hw k (by omega)), RC_keep rC hs (fun q hq => hb q (by omega)) (wsame_crs hw), RX_keep rX hX (fun q hq => hb q (by omega)) (fun k _ _ => hw k (by omega)), hW, RF_keep rF hF.1.2 (fun q hq => hb q (by omega)) (fun k _ _ => hw k (by omega))⟩
theorem Rel_keep {s : Row} {d d' : zMem} {a : Nat} (h : Rel d a s) (hI : Inv s) (hb : ∀ q, a ≤ q → q < a + 14 → d' q = d q) : Rel d' a s := by
  obtain ⟨rS, rC, rX, rW, rF⟩ := h
  obtain ⟨hs, hX, hY, hWI, hS, hF⟩ := hI
  exact ⟨RS_keep rS (hb _ (by omega) (by omega)) (fun _ _ _ => rfl), RC_keep rC hs (fun q hq => hb q (by omega) (by omega)) (fun _ _ _ => rfl), RX_keep rX hX (fun q hq => hb q (by omega) (by omega)) (fun _ _ _ => rfl), RW_keep rW (fun q hq => hb q (by omega) (by omega)) (fun _ _ _ => rfl), RF_keep rF hF.1.2 (fun q hq => hb q (by omega) (by omega)) (fun _ _ _ => rfl)⟩
theorem wearOne_Inv {s : Row} {more : Int} (hm : 0 ≤ more) (h : Inv s) (i : Int) : Inv (wearOne more s i) ∧ wsame s (wearOne more s i) := by
  by_cases e : ∃ l, bd s i l ∧ ¬ firm s i l
  · obtain ⟨l, h1, h2⟩ := e
    rw [wearOne_of h1 h2]
    have b2 := h1.2.1
    obtain ⟨k1, k2⟩ := itr_wcell (more := more) h.1.1.2 h1 h2 hm (l + 1 - i).toNat i s (by omega) (Int.le_refl _) (fun _ _ => rfl) h.2.2.2.1
    exact ⟨wsame_Inv h k1 k2, k1⟩
  · unfold wearOne
    rw [dif_neg e]
    exact ⟨h, fun _ _ => rfl⟩
theorem wearAll_Inv {more : Int} (hm : 0 ≤ more) : ∀ (n : Nat) (i : Int) (s : Row), Inv s → Inv (itr (wearOne more) n i s) ∧ wsame s (itr (wearOne more) n i s)
  | 0, i, s, h => ⟨h, fun _ _ => rfl⟩
  | n + 1, i, s, h => by
    obtain ⟨g1, g2⟩ := wearOne_Inv hm h i
    obtain ⟨k1, k2⟩ := wearAll_Inv hm n (i + 1) _ g1
    exact ⟨k1, fun k hk => (k2 k hk).trans (g2 k hk)⟩
noncomputable def wearAll (more : Int) (s : Row) : Row := itr (wearOne more) 150 0 s
section
variable {g : zGG} {Q : Int → zMem → Prop} {a : Nat} {s : Row}
/-- all but a river and one more cell are as they were -/
def butRq (d0 d : zMem) (a b : Nat) : Prop := ∀ q, (q < a ∨ a + 14 ≤ q) → q ≠ b → d q = d0 q
theorem l_wearBanks {d0 : zMem} {more : Int} {x2 : Int} {r : Row} (ha : isRiv a) (hm : 0 ≤ more ∧ more ≤ 1000) (hQ : ∀ d', butRq d0 d' a 121 → Rel d' a r → Q 0 d') :
    ∀ (n : Nat) (x y : Int) (d : zMem) (t : Row), 150 - x = n → 0 ≤ x → x ≤ y → y ≤ 150 → butRq d0 d a 121 → Rel d a t → Inv t → itr (wearOne more) (150 - y).toNat y t = r →
    Fr g (eM g M_X6_wearBanks FUL FUL Q) M_X6_wearBanks FUL 22 [some (zR 120), some (zR a), some (zI x2), some (zI more), some (zI y), some (zI x)] [] d
  | 0, x, y, d, t, hn, hx, hxy, hy, hd, hR, hI, ht => by
    apply v_X6_wearBanks_22 ha
    rw [show (150 - y).toNat = 0 by omega] at ht
    have ht' : t = r := ht
    exact ⟨⟨by omega, by omega⟩, fun _ => hQ d hd (ht' ▸ hR), fun q => by omega⟩
  | n + 1, x, y, d, t, hn, hx, hxy, hy, hd, hR, hI, ht => by
    have hI' := hI
    have hR' := hR
    obtain ⟨hs, hX, hY, hW, hS, hF⟩ := hI'
    obtain ⟨rS, rC, rX, rW, rF⟩ := hR'
    have h4 := hs.1
    have hab := rivBd ha (show isBd 121 from Or.inl rfl)
    apply v_X6_wearBanks_22 ha
    refine ⟨⟨by omega, by omega⟩, fun q => by omega, fun _ => ?_⟩
    apply c_seekFrom ha (Or.inl rfl) rC hs ⟨by omega, by omega⟩
    · intro d1 f l hb1 hbd hB hyf hno
      have b1 := hbd.1
      have b2 := hbd.2.1
      have b3 := hbd.2.2.1
      have hR1 := Rel_keep hR hI (fun q q1 q2 => hb1 q (by omega))
      have hd1 : butRq d0 d1 a 121 := fun q h0 h1 => by rw [hb1 q h1, hd q h0 h1]
      have hr1 : itr (wearOne more) (150 - (f + 1)).toNat (f + 1) (wearOne more t f) = r := by
        rw [← itr_one (by omega), ← itr_skip' hyf (by omega) (fun j q1 q2 => wearOne_no (fun l' => hno j l' q1 q2))]
        exact ht
      refine ⟨by decide, fun q => absurd q (by decide), fun _ => ?_⟩
      apply c_isFirm ha (Or.inl rfl) hR1.2.1 hR1.2.2.2.1 hs hW hbd hB
      · intro hf
        refine ⟨by decide, fun _ => ?_, fun q => absurd q (by decide)⟩
        rw [wearOne_firm hbd hf] at hr1
        rw [hB.1]
        exact l_wearBanks ha hm hQ n (x + 1) (f + 1) d1 t (by omega) (by omega) (by omega) (by omega) hd1 hR1 hI hr1
      · intro hf
        refine ⟨by decide, fun q => absurd rfl q, fun _ => ?_⟩
        apply c_wearBank ha (Or.inl rfl) hm hR1.2.1 hs hR1.2.2.1 hX hR1.2.2.2.1 hW hbd hf hB
        intro d2 hb2 hW2
        obtain ⟨g1, g2⟩ := wearOne_Inv hm.1 hI f
        rw [← wearOne_of hbd hf] at hW2
        rw [hb2 121 (by omega), hB.1]
        exact l_wearBanks ha hm hQ n (x + 1) (f + 1) d2 _ (by omega) (by omega) (by omega) (by omega) (fun q h0 h1 => by rw [hb2 q (by omega), hd1 q h0 h1]) (wsame_Rel hR1 hI g2 hb2 hW2) g1 hr1
    · intro hno
      refine ⟨by decide, fun _ => hQ d hd ?_, fun q => absurd rfl q⟩
      rw [itr_skip' hy (Int.le_refl _) (fun j q1 q2 => wearOne_no (fun l' => hno j l' q1))] at ht
      have ht' : t = r := ht
      exact ht' ▸ hR
theorem c_wearBanks {d : zMem} {fl : Int} (ha : isRiv a) (hR : Rel d a s) (hI : Inv s) (hf : fl = 0 ∨ fl = 1) (hQ : ∀ d', butRq d d' a 121 → Rel d' a (wearAll (s 0 * (if fl = 0 then 1 else 2)) s) → Q 0 d') : Ev g M_X6_wearBanks FUL FUL [zR 120, zR a, zI fl] d Q := by
  have hS := hI.2.2.2.2.1.1
  apply e_X6_wearBanks ha
  apply c_setting ha hR.1 (by decide)
  refine ⟨by rcases hf with rfl | rfl <;> decide, fun q => ?_, fun q => ?_⟩
  · rw [if_pos q] at hQ
    exact l_wearBanks ha ⟨by omega, by omega⟩ hQ 150 0 0 d s (by omega) (by omega) (by omega) (by omega) (fun _ _ _ => rfl) hR hI rfl
  · rw [if_neg q] at hQ
    exact l_wearBanks ha ⟨by omega, by omega⟩ hQ 150 0 0 d s (by omega) (by omega) (by omega) (by omega) (fun _ _ _ => rfl) hR hI rfl
end
