section
variable {g : zGG} {Q : Int → zMem → Prop} {s : Row}
theorem l_rgrow2 {d0 : zMem} {b f l w : Int} (hI : Inv s) (hb : bd s f l) (hg : grows s f l) (hw : d0 153 13 = w) (hwr : inR w) (hfl : d0 153 14 = 0 ∨ d0 153 14 = 1) (hrow : ∀ k, f ≤ k → k ≤ l → d0 163 (k - f) = bk s f k) (hQ : ∀ d', rF d0 d' → d' 153 11 = d0 153 11 → d' 154 = f_grow s f l → d' 153 14 = hitN s f l w (d0 153 14) → Q (l + 2) d') :
    ∀ (n : Nat) (x : Int) (d : zMem), x - l + 1 = n → x < s 4 → but d0 d 154 → (∀ p, d 154 p = if 5 + x + 2 < p ∧ p < 5 + s 4 + 2 then s (p - 2) else s p) →
    Fr g (eM g M_X9_grow FUL FUL Q) M_X9_grow FUL 55 [some (zR 153), some (zI b), some (zI f), some (zI l), some (zI x), none] [] d := by
  have hs := hI.1
  have h4 := hs.1
  have hg148 := hg.1
  have b1 := hb.1
  have b2 := hb.2.1
  have b3 := hb.2.2.1
  intro n
  induction n with
  | zero =>
    intro x d hn hx hd hv
    apply v_X9_grow_55
    have hxl : x = l - 1 := by omega
    subst hxl
    refine ⟨⟨⟨by omega, by omega⟩, ⟨by omega, by omega⟩⟩, fun _ => ?_, fun q => by omega⟩
    refine l_rgrow3 (d0 := d) hI hb hg (by rw [hd 153 (by omega)]; exact hw) hwr (by rw [hd 153 (by omega)]; exact hfl) (fun k q1 q2 => by rw [hd 163 (by omega)]; exact hrow k q1 q2) ?_ (l + 1 - f).toNat f d s (by omega) (Int.le_refl _) rF_rfl rfl rfl ?_ (fun _ _ => rfl) hI.2.1 hI.2.2.2.1 rfl (fun ⟨m, q1, q2, _⟩ => by omega) (fun _ => rfl)
    · intro d' h1 h11 h2 h3
      exact hQ d' (rF_trans (rF_but rF_rfl (by omega) hd) h1) (by rw [h11, hd 153 (by omega)]) h2 (by rw [h3, hd 153 (by omega)])
    · funext p
      rw [hv]
      unfold mix cx
      by_cases c1 : p < 155
      · rw [if_pos c1, if_neg (show ¬ (5 + f < p ∧ p ≤ 5 + f) by omega)]
        by_cases c2 : 5 + (l - 1) + 2 < p ∧ p < 5 + s 4 + 2
        · rw [if_pos c2, if_pos (show 5 + l + 2 ≤ p ∧ p < 5 + s 4 + 2 by omega)]
        · rw [if_neg c2, if_neg (show ¬ (5 + l + 2 ≤ p ∧ p < 5 + s 4 + 2) by omega)]
      · rw [if_neg c1, if_neg (by omega)]
  | succ n ih =>
    intro x d hn hx hd hv
    apply v_X9_grow_55
    refine ⟨⟨⟨by omega, by omega⟩, ⟨by omega, by omega⟩⟩, fun q => by omega, fun _ => ⟨⟨by omega, by omega⟩, ⟨by omega, by omega⟩, fun d1 hd1 => ?_⟩⟩
    have e : d 154 (5 + x) = s (5 + x) := by rw [hv, if_neg (by omega)]
    refine ih (x + (-1)) d1 (by omega) (by omega) (hd1 ▸ but_mu hd) (fun p => ?_)
    rw [hd1, mu_app, if_pos rfl, e]
    by_cases c1 : p = 5 + x + 2
    · rw [if_pos c1, if_pos (show 5 + (x + -1) + 2 < p ∧ p < 5 + s 4 + 2 by omega)]
      congr 1; omega
    · rw [if_neg c1, hv p]
      by_cases c2 : 5 + x + 2 < p ∧ p < 5 + s 4 + 2
      · rw [if_pos c2, if_pos (show 5 + (x + -1) + 2 < p ∧ p < 5 + s 4 + 2 by omega)]
      · rw [if_neg c2, if_neg (show ¬ (5 + (x + -1) + 2 < p ∧ p < 5 + s 4 + 2) by omega)]
theorem l_rgrow1 {d0 : zMem} {b f l w : Int} (hI : Inv s) (h164 : d0 154 = s) (hbb : 0 ≤ b ∧ b < 150) (hf : d0 160 b = f) (hb : bd s f l) (hg : grows s f l) (hw : d0 153 13 = w) (hwr : inR w) (hfl : d0 153 14 = 0 ∨ d0 153 14 = 1) (hQ : ∀ d', rF d0 d' → d' 153 11 = d0 153 11 → d' 154 = f_grow s f l → d' 153 14 = hitN s f l w (d0 153 14) → Q (l + 2) d') :
    ∀ (n : Nat) (k : Int) (d : zMem), l + 1 - k = n → f ≤ k → but d0 d 163 → (∀ m, f ≤ m → m < k → d 163 (m - f) = bk s f m) →
    Fr g (eM g M_X9_grow FUL FUL Q) M_X9_grow FUL 17 [some (zR 153), some (zI b), some (zI f), some (zI l), some (zI k), none] [] d := by
  have hs := hI.1
  have h4 := hs.1
  have hg148 := hg.1
  have b1 := hb.1
  have b2 := hb.2.1
  have b3 := hb.2.2.1
  intro n
  induction n with
  | zero =>
    intro k d hn hk hd hv
    apply v_X9_grow_17
    have hr : d 154 = s := by rw [hd 154 (by omega), h164]
    rw [hr]
    refine ⟨⟨⟨by omega, by omega⟩, ⟨by omega, by omega⟩⟩, fun _ => ?_, fun q => by omega⟩
    refine l_rgrow2 (d0 := d) hI hb hg (by rw [hd 153 (by omega)]; exact hw) hwr (by rw [hd 153 (by omega)]; exact hfl) (fun m q1 q2 => hv m q1 (by omega)) ?_ (s 4 - 1 - l + 1).toNat (s 4 - 1) d (by omega) (by omega) but_rfl (fun p => by rw [if_neg (by omega), hr])
    intro d' h1 h11 h2 h3
    exact hQ d' (rF_trans (rF_but rF_rfl (by omega) hd) h1) (by rw [h11, hd 153 (by omega)]) h2 (by rw [h3, hd 153 (by omega)])
  | succ n ih =>
    intro k d hn hk hd hv
    apply v_X9_grow_17
    have hr : d 154 = s := by rw [hd 154 (by omega), h164]
    refine ⟨⟨⟨by omega, by omega⟩, ⟨by omega, by omega⟩⟩, fun q => by omega, fun _ => ?_⟩
    apply r_bank (f := f) hr hs hbb (by rw [hd 160 (by omega)]; exact hf) ⟨by omega, by omega⟩ ⟨by omega, by omega⟩
    have hin := (bk_in hg.2.1 (k := k) hk (by omega)).1
    rw [if_neg (by omega)]
    refine ⟨⟨by omega, by omega⟩, fun d2 hd2 => ih (k + 1) d2 (by omega) (by omega) (hd2 ▸ but_mu hd) (fun m q1 q2 => ?_)⟩
    rw [hd2, mu_app, if_pos rfl]
    by_cases c : m = k
    · rw [if_pos (by omega), c]
    · rw [if_neg (by omega)]; exact hv m q1 (by omega)
theorem r_grow {d : zMem} {b f l : Int} (hI : Inv s) (h164 : d 154 = s) (hbb : 0 ≤ b ∧ b < 150) (hf : d 160 b = f) (hl : d 161 b = l) (hb : bd s f l) (hg : grows s f l) (hwr : inR (d 153 13)) (hfl : d 153 14 = 0 ∨ d 153 14 = 1) (hQ : ∀ d', rF d d' → d' 153 11 = d 153 11 → d' 154 = f_grow s f l → d' 153 14 = hitN s f l (d 153 13) (d 153 14) → Q (l + 2) d') : Ev g M_X9_grow FUL FUL [zR 153, zI b] d Q := by
  have b2 := hb.2.1
  apply e_X9_grow
  refine ⟨hbb, hbb, ?_⟩
  rw [hf, hl]
  exact l_rgrow1 (d0 := d) hI h164 hbb hf hb hg rfl hwr hfl hQ (l + 1 - f).toNat f d (by omega) (Int.le_refl _) but_rfl (fun m _ _ => by omega)
theorem hitN_01 {f l w fl : Int} (h : fl = 0 ∨ fl = 1) : hitN s f l w fl = 0 ∨ hitN s f l w fl = 1 := by
  unfold hitN
  by_cases c : hit s f l w
  · rw [if_pos c]; exact Or.inr rfl
  · rw [if_neg c]; exact h
-- floods
theorem l_rflood {d : zMem} {y : Int} (h164 : d 154 = s) (hF : IF s) (hy : inR y) (hQ : Q (flN s y) d) : ∀ (n : Nat) (x v : Int), s 1395 - x = n → 0 ≤ x → ((v = 1 ∧ isFl s y) ∨ (v = 0 ∧ ∀ k, 0 ≤ k → k < x → s (1396 + k) ≠ y)) →
    Fr g (eM g M_X9_isFloodYear FUL FUL Q) M_X9_isFloodYear FUL 4 [some (zR 153), some (zI y), some (zI v), some (zI x)] [] d := by
  have hF1 := hF.1
  intro n
  induction n with
  | zero =>
    intro x v hn hx hv
    apply v_X9_isFloodYear_4
    rw [h164]
    refine ⟨⟨⟨by omega, by omega⟩, ⟨by omega, by omega⟩⟩, fun _ => ?_, fun q => by omega⟩
    rcases hv with ⟨rfl, hv⟩ | ⟨rfl, hv⟩
    · rw [flN_1 hv] at hQ
      exact ⟨Or.inr rfl, hQ⟩
    · rw [flN_0 (fun ⟨k, q1, q2, q3⟩ => hv k q1 (by omega) q3)] at hQ
      exact ⟨Or.inl rfl, hQ⟩
  | succ n ih =>
    intro x v hn hx hv
    have hF2 := hF.2.1 x hx (by omega)
    apply v_X9_isFloodYear_4
    rw [h164]
    refine ⟨⟨⟨by omega, by omega⟩, ⟨by omega, by omega⟩⟩, fun q => by omega, fun _ => ?_⟩
    rcases hv with ⟨rfl, hv⟩ | ⟨rfl, hv⟩
    · exact ⟨by decide, fun _ => ih (x + 1) 1 (by omega) (by omega) (Or.inl ⟨rfl, hv⟩), fun q => absurd q (by decide)⟩
    · refine ⟨by decide, fun q => absurd rfl q, fun _ => ⟨⟨by omega, by omega⟩, ⟨⟨⟨by omega, by omega⟩, hy⟩, fun q => ih (x + 1) 0 (by omega) (by omega) (Or.inr ⟨rfl, fun k q1 q2 => ?_⟩), fun q => ih (x + 1) 1 (by omega) (by omega) (Or.inl ⟨rfl, x, hx, by omega, q⟩)⟩⟩⟩
      rcases (show k < x ∨ k = x by omega) with z | rfl
      · exact hv k q1 z
      · exact q
theorem r_isFloodYear {d : zMem} {y : Int} (h164 : d 154 = s) (hF : IF s) (hy : inR y) (hQ : Q (flN s y) d) : Ev g M_X9_isFloodYear FUL FUL [zR 153, zI y] d Q := by
  have hF1 := hF.1
  apply e_X9_isFloodYear
  exact l_rflood h164 hF hy hQ (s 1395).toNat 0 0 (by omega) (by omega) (Or.inr ⟨rfl, fun k _ _ => by omega⟩)
end
-- wear in a year
theorem firm_same {s t : Row} (h : same s t 4 155) (hd : same s t 395 635) (h4 : s 4 ≤ 150) {f l : Int} (hb : bd s f l) : firm t f l ↔ firm s f l := by
  have b1 := hb.1
  have b3 := hb.2.2.1
  have key : ∀ k, f ≤ k → k ≤ l → ((bk t f k = -1 ∨ t (395 + bk t f k) = 1 ∨ on t (bk t f k)) ↔ (bk s f k = -1 ∨ s (395 + bk s f k) = 1 ∨ on s (bk s f k))) := by
    intro k q1 q2
    have e := bk_same h (f := f) (k := k) b1 (by omega) (by omega) (by omega)
    have hr : -1 ≤ bk s f k ∧ bk s f k < 240 := stp_range _ _
    rw [e]
    by_cases c : bk s f k = -1
    · exact ⟨fun _ => Or.inl c, fun _ => Or.inl c⟩
    · rw [hd (395 + bk s f k) (by omega) (by omega), on_same h h4]
  constructor
  · rintro ⟨k, q1, q2, q3⟩
    exact ⟨k, q1, q2, (key k q1 q2).mp q3⟩
  · rintro ⟨k, q1, q2, q3⟩
    exact ⟨k, q1, q2, (key k q1 q2).mpr q3⟩
theorem Bends_same {s t : Row} {d d' : zMem} (hB : Bends d s) (h : same s t 4 155) (h4 : s 4 ≤ 150) (h163 : d' 153 11 = d 153 11) (h170 : d' 160 = d 160) (h171 : d' 161 = d 161) (h172 : d' 162 = d 162) : Bends d' t := by
  obtain ⟨a1, a2, a3, a4, a5⟩ := hB
  refine ⟨by rw [h163]; exact a1, fun b q1 q2 => ?_, fun b b' q1 q2 q3 => ?_, fun f l q => ?_, fun c q1 q2 => ?_⟩
  · rw [h163] at q2
    rw [h170, h171]; exact (bd_same h h4).mpr (a2 b q1 q2)
  · rw [h163] at q3
    rw [h170]; exact a3 b b' q1 q2 q3
  · rw [h163, h170]; exact a4 f l ((bd_same h h4).mp q)
  · rw [h172]
    exact ⟨fun z => (a5 c q1 q2).1 ((on_same h h4 c).mp z), fun z => (a5 c q1 q2).2 (fun y => z ((on_same h h4 c).mpr y))⟩
section
variable {g : zGG} {Q : Int → zMem → Prop} {s : Row}
theorem l_rwear2 {d0 : zMem} {b f l mo : Int} (hs : Inv s) (hm : 0 ≤ mo ∧ mo ≤ 1000) (hbb : 0 ≤ b ∧ b < 150) (hf : d0 160 b = f) (hl : d0 161 b = l) (hb : bd s f l) (hnf : ¬ firm s f l)
    (hQ : ∀ d', but d0 d' 154 → d' 154 = itr (wcell f mo) (l + 1 - f).toNat f s → Fr g (eM g M_X9_wear FUL FUL Q) M_X9_wear FUL 34 [some (zR 153), some (zI mo), some (zI (b + 1)), none, none, none] [] d') :
    ∀ (n : Nat) (k : Int) (d : zMem) (t : Row), l + 1 - k = n → f ≤ k → but d0 d 154 → d 154 = t → wsame s t → IW t → itr (wcell f mo) n k t = itr (wcell f mo) (l + 1 - f).toNat f s →
    Fr g (eM g M_X9_wear FUL FUL Q) M_X9_wear FUL 57 [some (zR 153), some (zI mo), some (zI b), some (zI k), none, none] [] d := by
  have h4 := hs.1.1
  have b1 := hb.1
  have b2 := hb.2.1
  have b3 := hb.2.2.1
  intro n
  induction n with
  | zero =>
    intro k d t hn hk hd h164 hw hI ht
    apply v_X9_wear_57
    rw [hd 161 (by omega), hl]
    have ht' : t = itr (wcell f mo) (l + 1 - f).toNat f s := ht
    exact ⟨hbb, ⟨⟨by omega, by omega⟩, ⟨by omega, by omega⟩⟩, fun _ => hQ d hd (h164.trans ht'), fun q => by omega⟩
  | succ n ih =>
    intro k d t hn hk hd h164 hw hI ht
    apply v_X9_wear_57
    rw [hd 161 (by omega), hl]
    have e := bk_same (wsame_crs hw) (f := f) (k := k) b1 (by omega) (by omega) (by omega)
    have hin := (bk_in hnf (k := k) hk (by omega)).1
    rw [← e] at hin
    have e4 : t 4 = s 4 := hw 4 (by omega)
    have hwr := (hI.1 _ hin.1 hin.2).1
    have hXc := hs.2.1.2.1 _ hin.1 hin.2
    have hX1 := hs.2.1.1
    have e6 : t (1115 + bk t f k) = s (1115 + bk t f k) := hw _ (by omega)
    refine ⟨hbb, ⟨⟨by omega, by omega⟩, ⟨by omega, by omega⟩⟩, fun q => by omega, fun _ => ?_⟩
    apply r_bank h164 (crs_same (wsame_crs hw) hs.1) hbb (by rw [hd 160 (by omega)]; exact hf) ⟨b1, by omega⟩ ⟨by omega, by omega⟩
    rw [if_neg (by omega), h164]
    have hw2 := wcell_w (more := mo) hw hb h4.2 hnf hk (by omega)
    have hI2 := wcell_IW (more := mo) hI hm.1 hw hb h4.2 hnf hk (by omega)
    have step : ∀ (v : Int) (d2 : zMem), v = (if 99 < t (155 + bk t f k) + mo ∨ t (1115 + bk t f k) ≠ -6 then 99 else t (155 + bk t f k) + mo) → d2 = mu d 154 (155 + bk t f k) v → Fr g (eM g M_X9_wear FUL FUL Q) M_X9_wear FUL 57 [some (zR 153), some (zI mo), some (zI b), some (zI (k + 1)), none, none] [] d2 := by
      intro v d2 hv hd2
      refine ih (k + 1) d2 (wcell f mo t k) (by omega) (by omega) (hd2 ▸ but_mu hd) ?_ hw2 hI2 ht
      funext i
      rw [hd2, mu_app, if_pos rfl, h164, hv]
      rfl
    refine ⟨⟨by omega, by omega⟩, ⟨⟨by omega, by omega⟩, fun q => ⟨⟨by omega, by omega⟩, fun d2 hd2 => step _ d2 (by rw [if_pos (Or.inl q)]) hd2⟩, fun q => ⟨⟨by omega, by omega⟩, ⟨⟨by omega, by omega⟩, fun q2 => ⟨⟨by omega, by omega⟩, fun d2 hd2 => step _ d2 (by rw [if_neg (by omega)]) hd2⟩, fun q2 => ⟨⟨by omega, by omega⟩, fun d2 hd2 => step _ d2 (by rw [if_pos (Or.inr q2)]) hd2⟩⟩⟩⟩⟩
/-- the bends from the number b on are those from the place p on -/
def posn (d : zMem) (b p : Int) : Prop := (∀ b', b ≤ b' → b' < d 153 11 → p ≤ d 160 b') ∧ (∀ b', 0 ≤ b' → b' < b → d 160 b' < p)
theorem posn_no {d : zMem} {b p : Int} (hB : Bends d s) (hp : posn d b p) (hb0 : 0 ≤ b) {j : Int} (h : p ≤ j) (h2 : b < d 153 11 → j < d 160 b) : ∀ l, ¬ bd s j l := by
  intro l hb
  obtain ⟨b', q1, q2, q3⟩ := hB.2.2.2.1 j l hb
  rcases (show b' < b ∨ b' = b ∨ b < b' by omega) with c | c | c
  · have := hp.2 b' q1 c; omega
  · subst c
    have := h2 q2
    omega
  · have := hB.2.2.1 b b' hb0 c q2
    have := h2 (by omega)
    omega
theorem l_rwear1 {d0 : zMem} {mo : Int} {r : Row} (hm : 0 ≤ mo ∧ mo ≤ 1000) (hQ : ∀ d', but d0 d' 154 → d' 154 = r → Q 0 d') :
    ∀ (n : Nat) (b p : Int) (d : zMem) (t : Row), d 153 11 - b = n → 0 ≤ b → 0 ≤ p → p ≤ 150 → but d0 d 154 → d 154 = t → Inv t → Bends d t → posn d b p → itr (wearOne mo) (150 - p).toNat p t = r →
    Fr g (eM g M_X9_wear FUL FUL Q) M_X9_wear FUL 34 [some (zR 153), some (zI mo), some (zI b), none, none, none] [] d := by
  intro n
  induction n with
  | zero =>
    intro b p d t hn hb hp hp2 hd h164 hI hB hpo ht
    have hB1 := hB.1
    apply v_X9_wear_34
    refine ⟨⟨⟨by omega, by omega⟩, ⟨by omega, by omega⟩⟩, fun _ => hQ d hd ?_, fun q => by omega⟩
    rw [itr_skip' hp2 (Int.le_refl _) (fun j q1 q2 => wearOne_no (posn_no hB hpo hb q1 (fun z => by omega)))] at ht
    have ht' : t = r := ht
    exact h164.trans ht'
  | succ n ih =>
    intro b p d t hn hb hp hp2 hd h164 hI hB hpo ht
    have hB1 := hB.1
    have hbd := hB.2.1 b hb (by omega)
    have h4 := hI.1.1
    have b1 := hbd.1
    have b2 := hbd.2.1
    have b3 := hbd.2.2.1
    have hpf := hpo.1 b (Int.le_refl _) (by omega)
    apply v_X9_wear_34
    refine ⟨⟨⟨by omega, by omega⟩, ⟨by omega, by omega⟩⟩, fun q => by omega, fun _ => ?_⟩
    have hr1 : itr (wearOne mo) (150 - (d 160 b + 1)).toNat (d 160 b + 1) (wearOne mo t (d 160 b)) = r := by
      rw [← itr_one (by omega), ← itr_skip' hpf (by omega) (fun j q1 q2 => wearOne_no (posn_no hB hpo hb q1 (fun _ => q2)))]
      exact ht
    have hpo2 : posn d (b + 1) (d 160 b + 1) := ⟨fun b' q1 q2 => by have := hB.2.2.1 b b' hb (by omega) q2; omega, fun b' q1 q2 => by
      rcases (show b' < b ∨ b' = b by omega) with c | c
      · have := hB.2.2.1 b' b q1 c (by omega); omega
      · rw [c]; omega⟩
    apply r_isFirm h164 hI.1 hI.2.2.2.1 hB ⟨hb, by omega⟩ rfl rfl
    · intro hf
      refine ⟨by decide, fun _ => ?_, fun q => absurd q (by decide)⟩
      rw [wearOne_firm hbd hf] at hr1
      exact ih (b + 1) (d 160 b + 1) d t (by omega) (by omega) (by omega) (by omega) hd h164 hI hB hpo2 hr1
    · intro hf
      refine ⟨by decide, fun q => absurd rfl q, fun _ => ⟨⟨by omega, by omega⟩, ?_⟩⟩
      obtain ⟨g1, g2⟩ := wearOne_Inv (more := mo) hm.1 hI (d 160 b)
      refine l_rwear2 (d0 := d) hI hm ⟨by omega, by omega⟩ rfl rfl hbd hf ?_ (d 161 b + 1 - d 160 b).toNat (d 160 b) d t (by omega) (Int.le_refl _) but_rfl h164 (fun _ _ => rfl) hI.2.2.2.1 rfl
      intro d2 hb2 h2
      rw [← wearOne_of hbd hf] at h2
      have e163 := hb2 153 (by omega)
      have e170 := hb2 160 (by omega)
      refine ih (b + 1) (d 160 b + 1) d2 _ (by rw [e163]; omega) (by omega) (by omega) (by omega) (fun q hq => by rw [hb2 q hq, hd q hq]) h2 g1 (Bends_same hB (wsame_crs g2) h4.2 (by rw [e163]) e170 (hb2 161 (by omega)) (hb2 162 (by omega))) ⟨fun b' q1 q2 => by rw [e170]; exact hpo2.1 b' q1 (by rw [← e163]; exact q2), fun b' q1 q2 => by rw [e170]; exact hpo2.2 b' q1 q2⟩ hr1
theorem r_wear {d : zMem} (h164 : d 154 = s) (hI : Inv s) (hy : s 1404 ≤ 4000) (hQ : ∀ d', rF d d' → (∀ j, j ≠ 11 → d' 153 j = d 153 j) → d' 154 = wearAll (more s) s → Q 0 d') : Ev g M_X9_wear FUL FUL [zR 153] d Q := by
  have hIF := hI.2.2.2.2.2
  have hS := hI.2.2.2.2.1.1
  have hm := more_rng hI
  apply e_X9_wear
  apply r_findBends hI.1 h164
  intro d1 f1 h1 j1 hB1
  rw [h1]
  apply r_isFloodYear h1 hIF ⟨by have := hIF.2.2.2; omega, by omega⟩
  have hBn := hB1.1
  have go : Fr g (eM g M_X9_wear FUL FUL Q) M_X9_wear FUL 34 [some (zR 153), some (zI (more s)), some (zI 0), none, none, none] [] d1 := by
    refine l_rwear1 (d0 := d1) (r := wearAll (more s) s) hm (fun d2 hb2 h2 => hQ d2 (rF_trans f1 (rF_but rF_rfl (by omega) hb2)) (fun j hj => by rw [hb2 153 (by omega), j1 j hj]) h2) (d1 153 11).toNat 0 0 d1 s (by omega) (by omega) (by omega) (by omega) but_rfl h1 hI hB1 ⟨fun b' q1 q2 => by have := (hB1.2.1 b' q1 q2).1; omega, fun b' q1 q2 => by omega⟩ rfl
  have hmo : more s = s 0 * (if flN s (s 1404) = 0 then 1 else 2) := rfl
  rcases flN_01 s (s 1404) with e | e
  · rw [e]
    rw [e, if_pos rfl] at hmo
    rw [hmo] at go
    exact ⟨by decide, fun _ => go, fun q => absurd rfl q⟩
  · rw [e]
    rw [e, if_neg (by decide)] at hmo
    rw [hmo] at go
    exact ⟨by decide, fun q => absurd q (by decide), fun _ => go⟩
end
