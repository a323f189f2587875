section
variable {g : zGG} {Q : Int → zMem → Prop} {s : Row}
/-- the neck that the reference has found so far -/
def fnd (s : Row) (d : zMem) (X c : Int) : Prop := (c ≤ X → d 153 15 = -6) ∧ (X < c → ∃ i j, neck s i j ∧ cN s i j = X ∧ d 153 15 = i ∧ d 153 16 = j)
theorem fnd_15 {s : Row} {d : zMem} {X c : Int} (h4 : s 4 ≤ 150) (h : fnd s d X c) : inR (d 153 15) := by
  rcases (show c ≤ X ∨ X < c by omega) with q | q
  · rw [h.1 q]; decide
  · obtain ⟨i, j, k1, k2, k3, k4⟩ := h.2 q
    have a := k1.1
    have b := k1.2.1
    have e := k1.2.2.1
    rw [k3]
    constructor <;> omega
theorem l_rnum {d0 : zMem} {X ag : Int} (hX : 0 ≤ X ∧ inR X) (h164 : d0 154 = s) (hs : crs s)
    (h1 : ∀ d' i j, rF d0 d' → (∀ j, j ≠ 15 → j ≠ 16 → j ≠ 17 → d' 153 j = d0 153 j) → d' 154 = s → neck s i j → cN s i j = X → d' 153 15 = i → d' 153 16 = j → d' 153 17 = cNT s → Q 1 d') (h0 : ∀ d', rF d0 d' → (∀ j, j ≠ 15 → j ≠ 16 → j ≠ 17 → d' 153 j = d0 153 j) → d' 154 = s → cNT s ≤ X → d' 153 17 = cNT s → Q 0 d') :
    ∀ (n m : Nat) (i j c x : Int) (d : zMem), s 4 - i = n → (s 4 + 3 - j).toNat = m → 0 ≤ i → i + 3 ≤ j → j ≤ s 4 + 3 → rF d0 d → (∀ j, j ≠ 15 → j ≠ 16 → j ≠ 17 → d 153 j = d0 153 j) → d 154 = s → c = cN s i j → fnd s d X c →
    (i < s 4 → Fr g (eM g M_X9_findNeck FUL FUL Q) M_X9_findNeck FUL 31 [some (zR 153), some (zI X), some (zI ag), some (zI c), some (zI x), some (zI i), some (zI j), none] [] d) ∧ (j = i + 3 → Fr g (eM g M_X9_findNeck FUL FUL Q) M_X9_findNeck FUL 14 [some (zR 153), some (zI X), some (zI ag), some (zI c), some (zI x), some (zI i), none, none] [] d)
  | n, m, i, j, c, x, d, hn, hm, hi, hj, hj3', hd, hj1, hr, hc, hv => by
    have h4 := hs.1
    have main : i < s 4 → Fr g (eM g M_X9_findNeck FUL FUL Q) M_X9_findNeck FUL 31 [some (zR 153), some (zI X), some (zI ag), some (zI c), some (zI x), some (zI i), some (zI j), none] [] d := by
      intro hi4
      apply v_X9_findNeck_31
      rw [hr]
      by_cases hj4 : s 4 ≤ j
      · refine ⟨⟨⟨by omega, by omega⟩, ⟨by omega, by omega⟩⟩, fun _ => ?_, fun q => by omega⟩
        refine (l_rnum hX h164 hs h1 h0 (n - 1) (s 4 + 3 - (i + 1 + 3)).toNat (i + 1) (i + 1 + 3) c x d (by omega) rfl (by omega) (by omega) (by omega) hd hj1 hr ?_ hv).2 rfl
        rw [hc, ← cN_row hi (by omega) h4.2 (fun j' q z => by have := z.2.2.1; omega)]
        symm
        exact cN_flat (by omega) (by omega) (fun j' q1 q2 z => by have := z.2.1; omega)
      · have c1 := hs.2.1 i hi hi4
        have c2 := hs.2.1 j (by omega) (by omega)
        have hcr := cN_rng (s := s) (i := i) (j := j) ⟨by omega, by omega⟩ ⟨by omega, by omega⟩
        have hci : inR c := by constructor <;> omega
        refine ⟨⟨⟨by omega, by omega⟩, ⟨by omega, by omega⟩⟩, fun q => by omega, fun _ => ⟨⟨by omega, by omega⟩, ⟨by omega, by omega⟩, ?_⟩⟩
        have next : ∀ (c' x' : Int) (d2 : zMem), rF d0 d2 → (∀ j, j ≠ 15 → j ≠ 16 → j ≠ 17 → d2 153 j = d0 153 j) → d2 154 = s → c' = cN s i (j + 1) → fnd s d2 X c' → Fr g (eM g M_X9_findNeck FUL FUL Q) M_X9_findNeck FUL 31 [some (zR 153), some (zI X), some (zI ag), some (zI c'), some (zI x'), some (zI i), some (zI (j + 1)), none] [] d2 := fun c' x' d2 k1 k2 k3 k4 k5 =>
          (l_rnum hX h164 hs h1 h0 n (m - 1) i (j + 1) c' x' d2 hn (by omega) hi (by omega) (by omega) k1 k2 k3 k4 k5).1 hi4
        apply r_nbr c1 c2
        · intro hnb
          have hnk : neck s i j := ⟨hi, hj, by omega, hnb⟩
          refine ⟨by decide, fun q => absurd q (by decide), fun _ => ⟨hX.2, fun _ => ⟨⟨hci, hX.2⟩, fun q d6 hd6 d7 hd7 => ?_, fun q d6 hd6 d7 hd7 => ?_⟩, fun q => by omega⟩⟩
          · rw [mu_self] at hd6
            subst hd6
            rw [mu_self] at hd7
            subst hd7
            refine next _ x _ hd hj1 hr (by rw [cN_step hnk, hc]) ⟨fun z => hv.1 (by omega), fun z => hv.2 (by omega)⟩
          · have e15 : d7 153 15 = i := by rw [hd7, mu_ni (by omega), hd6, mu_get]
            have e16 : d7 153 16 = j := by rw [hd7, mu_get]
            refine next _ (j - i) d7 (hd7 ▸ rF_mu (hd6 ▸ rF_mu hd (by omega)) (by omega)) (fun j' k1 k2 k3 => by rw [hd7, mu_ni k2, hd6, mu_ni k1]; exact hj1 j' k1 k2 k3) (by rw [hd7, hd6]; funext z; rw [mu_na (by omega), mu_na (by omega), hr]) (by rw [cN_step hnk, hc]) ⟨fun z => by omega, fun z => ⟨i, j, hnk, by omega, e15, e16⟩⟩
        · intro hnb
          refine ⟨by decide, fun _ => next _ x _ hd hj1 hr ?_ hv, fun q => absurd rfl q⟩
          rw [hc]
          symm
          refine cN_flat (by omega) (by omega) (fun j' q1 q2 z => ?_)
          have e : j' = j := by omega
          subst e
          exact hnb z.2.2.2
    refine ⟨main, fun hj3 => ?_⟩
    apply v_X9_findNeck_14
    rw [hr]
    refine ⟨⟨⟨by omega, by omega⟩, ⟨by omega, by omega⟩⟩, fun q d1 hd1 => ?_, fun q => ?_⟩
    · have f1 : rF d0 d1 := hd1 ▸ rF_mu hd (by omega)
      have r1 : d1 154 = s := by rw [hd1]; funext z; rw [mu_na (by omega), hr]
      have j1 : ∀ j, j ≠ 15 → j ≠ 16 → j ≠ 17 → d1 153 j = d0 153 j := fun j' k1 k2 k3 => by rw [hd1, mu_ni k3]; exact hj1 j' k1 k2 k3
      have ec : c = cNT s := by
        unfold cNT
        rw [hc, show s 4 = i by omega]
        exact cN_flat (by omega) (by omega) (fun j' q1 q2 z => by have := z.2.1; omega)
      have e17 : d1 153 17 = cNT s := by rw [hd1, mu_get, ec]
      refine ⟨fnd_15 h4.2 hv, fun z => ?_, fun z => ?_⟩
      · refine h0 d1 f1 j1 r1 ?_ e17
        rw [← ec]
        rcases (show c ≤ X ∨ X < c by omega) with q | q
        · exact q
        · obtain ⟨i', j', k1, k2, k3, k4⟩ := hv.2 q
          have := k1.1
          omega
      · rcases (show c ≤ X ∨ X < c by omega) with q | q
        · exact absurd (hv.1 q) z
        · obtain ⟨i', j', k1, k2, k3, k4⟩ := hv.2 q
          exact h1 d1 i' j' f1 j1 r1 k1 k2 (by rw [hd1, mu_ni (by omega)]; exact k3) (by rw [hd1, mu_ni (by omega)]; exact k4) e17
    · rw [← hj3]; exact main q
termination_by n m => (n, m)
theorem r_num {d : zMem} {X ag : Int} (hX : 0 ≤ X ∧ inR X) (h164 : d 154 = s) (hs : crs s)
    (h1 : ∀ d' i j, rF d d' → (∀ j, j ≠ 15 → j ≠ 16 → j ≠ 17 → d' 153 j = d 153 j) → d' 154 = s → neck s i j → cN s i j = X → d' 153 15 = i → d' 153 16 = j → d' 153 17 = cNT s → Q 1 d') (h0 : ∀ d', rF d d' → (∀ j, j ≠ 15 → j ≠ 16 → j ≠ 17 → d' 153 j = d 153 j) → d' 154 = s → cNT s ≤ X → d' 153 17 = cNT s → Q 0 d') : Ev g M_X9_findNeck FUL FUL [zR 153, zI X, zI ag] d Q := by
  have h4 := hs.1
  apply e_X9_findNeck
  intro d1 hd1
  have e0 : cN s 0 3 = 0 := by
    rw [cN_flat (p := 0) (by omega) (by omega) (fun j' q1 q2 z => by have := z.2.1; omega)]
    rfl
  exact (l_rnum (d0 := d) hX h164 hs h1 h0 (s 4).toNat _ 0 3 0 0 d1 (by omega) rfl (by omega) (by omega) (by omega) (hd1 ▸ rF_mu rF_rfl (by omega)) (fun j k1 _ _ => by rw [hd1, mu_ni k1]) (by rw [hd1]; funext z; rw [mu_na (by omega), h164]) e0.symm ⟨fun _ => by rw [hd1, mu_get], fun z => by omega⟩).2 rfl
end
-- the class counts them by the ways
theorem upto_add {r t : Int → Int} {p : Int} (h0 : 0 ≤ p) : upto (fun j => r j + t j) p = upto r p + upto t p := by
  have key : ∀ n : Nat, upto (fun j => r j + t j) n = upto r n + upto t n := by
    intro n
    induction n with
    | zero => rfl
    | succ n ih =>
      rw [show ((n + 1 : Nat) : Int) = (n : Int) + 1 by omega, upto_succ (by omega), upto_succ (by omega), upto_succ (by omega), ih]
      omega
  have := key p.toNat
  rw [Int.toNat_of_nonneg h0] at this
  exact this
theorem upto_cong {r t : Int → Int} {p : Int} (h0 : 0 ≤ p) (h : ∀ j, 0 ≤ j → j < p → r j = t j) : upto r p = upto t p := by
  have key : ∀ n : Nat, (n : Int) ≤ p → upto r n = upto t n := by
    intro n
    induction n with
    | zero => intro _; rfl
    | succ n ih =>
      intro hn
      rw [show ((n + 1 : Nat) : Int) = (n : Int) + 1 by omega, upto_succ (by omega), upto_succ (by omega), ih (by omega), h n (by omega) (by omega)]
  have := key p.toNat (by omega)
  rw [Int.toNat_of_nonneg h0] at this
  exact this
def pt01 (v j : Int) : Int := if j = v then 1 else 0
theorem upto_pt {v p : Int} (h0 : 0 ≤ v) (h1 : v < p) : upto (pt01 v) p = 1 := by
  rw [upto_flat (p := v + 1) (by omega) (p - (v + 1)).toNat p (by omega) (fun j q1 q2 => by unfold pt01; rw [if_neg (by omega)]), upto_succ h0, upto_flat (p := 0) (by omega) v.toNat v (by omega) (fun j q1 q2 => by unfold pt01; rw [if_neg (by omega)]), upto_0]
  unfold pt01
  rw [if_pos rfl]
  rfl
theorem upto_no {r : Int → Int} {p : Int} (h0 : 0 ≤ p) (h : ∀ j, 0 ≤ j → j < p → r j = 0) : upto r p = 0 := by
  rw [upto_flat (p := 0) (by omega) p.toNat p (by omega) h, upto_0]
/-- necks of the number i that the first w ways lead to -/
noncomputable def nW (s : Row) (i w j : Int) : Int := @ite Int (i + 3 ≤ j ∧ ∃ u, 0 ≤ u ∧ u < w ∧ nbe s i u = j) (Classical.propDecidable _) 1 0
theorem nW_1 {s : Row} {i w j : Int} (h : i + 3 ≤ j ∧ ∃ u, 0 ≤ u ∧ u < w ∧ nbe s i u = j) : nW s i w j = 1 := by unfold nW; rw [if_pos h]
theorem nW_0 {s : Row} {i w j : Int} (h : ¬ (i + 3 ≤ j ∧ ∃ u, 0 ≤ u ∧ u < w ∧ nbe s i u = j)) : nW s i w j = 0 := by unfold nW; rw [if_neg h]
noncomputable def sW (s : Row) (i w : Int) : Int := upto (nW s i w) 150
theorem nbe_inj {s : Row} {i u w : Int} (hu : 0 ≤ u ∧ u < 4) (hw : 0 ≤ w ∧ w < 4) (h : nbe s i u = nbe s i w) (hne : 0 ≤ nbe s i w) : u = w := by
  unfold nbe at h hne
  by_cases c : stp (s (5 + i)) w = -1
  · rw [if_pos c] at hne; omega
  · rw [if_neg c] at h hne
    by_cases c2 : stp (s (5 + i)) u = -1
    · rw [if_pos c2] at h; omega
    · rw [if_neg c2] at h
      have o1 : on s (stp (s (5 + i)) w) := Classical.not_not.mp (fun z => by have := num_off z; omega)
      have o2 : on s (stp (s (5 + i)) u) := Classical.not_not.mp (fun z => by have := num_off z; omega)
      have e1 := (num_on o1).2.2
      have e2 := (num_on o2).2.2
      rw [h] at e2
      rw [e1] at e2
      exact stp_inj c2 e2.symm hu hw
theorem sW_0 {s : Row} {i : Int} : sW s i 0 = 0 := upto_no (by omega) (fun j q1 q2 => nW_0 (fun ⟨_, u, a, b, _⟩ => by omega))
theorem sW_skip {s : Row} {i w : Int} (h : nbe s i w < i + 3) : sW s i (w + 1) = sW s i w := by
  refine upto_cong (by omega) (fun j q1 q2 => ?_)
  by_cases c : i + 3 ≤ j ∧ ∃ u, 0 ≤ u ∧ u < w ∧ nbe s i u = j
  · obtain ⟨c0, u, c1, c2, c3⟩ := c
    rw [nW_1 ⟨c0, u, c1, c2, c3⟩, nW_1 ⟨c0, u, c1, by omega, c3⟩]
  · rw [nW_0 c, nW_0]
    rintro ⟨c0, u, c1, c2, c3⟩
    rcases (show u < w ∨ u = w by omega) with z | z
    · exact c ⟨c0, u, c1, z, c3⟩
    · subst z; omega
theorem sW_take {s : Row} {i w : Int} (hs : crs s) (hi : 0 ≤ i) (hw : 0 ≤ w ∧ w < 4) (h : i + 3 ≤ nbe s i w) : sW s i (w + 1) = sW s i w + 1 := by
  have hr := nbe_range hs i w
  have h4 := hs.1
  have e : sW s i (w + 1) = upto (fun j => nW s i w j + pt01 (nbe s i w) j) 150 := by
    refine upto_cong (by omega) (fun j q1 q2 => ?_)
    by_cases c : j = nbe s i w
    · rw [nW_1 (show i + 3 ≤ j ∧ ∃ u, 0 ≤ u ∧ u < w + 1 ∧ nbe s i u = j from ⟨by omega, w, hw.1, by omega, c.symm⟩), nW_0]
      · unfold pt01; rw [if_pos c]; rfl
      · rintro ⟨c0, u, c1, c2, c3⟩
        have := nbe_inj (s := s) (i := i) (u := u) (w := w) ⟨c1, by omega⟩ hw (by rw [c3, c]) (by omega)
        omega
    · have p0 : pt01 (nbe s i w) j = 0 := by unfold pt01; rw [if_neg c]
      rw [p0, Int.add_zero]
      by_cases c2 : i + 3 ≤ j ∧ ∃ u, 0 ≤ u ∧ u < w ∧ nbe s i u = j
      · obtain ⟨c0, u, k1, k2, k3⟩ := c2
        rw [nW_1 (show i + 3 ≤ j ∧ ∃ u, 0 ≤ u ∧ u < w + 1 ∧ nbe s i u = j from ⟨c0, u, k1, by omega, k3⟩), nW_1 (show i + 3 ≤ j ∧ ∃ u, 0 ≤ u ∧ u < w ∧ nbe s i u = j from ⟨c0, u, k1, k2, k3⟩)]
      · rw [nW_0 c2, nW_0]
        rintro ⟨c0, u, k1, k2, k3⟩
        rcases (show u < w ∨ u = w by omega) with z | z
        · exact c2 ⟨c0, u, k1, z, k3⟩
        · subst z; exact c k3.symm
  rw [e, upto_add (by omega), upto_pt (by omega) (by omega)]
  rfl
theorem sW_4 {s : Row} {i : Int} (hs : crs s) (hi : 0 ≤ i) : sW s i 4 = nRow s i := by
  refine upto_cong (by omega) (fun j q1 q2 => ?_)
  by_cases c : neck s i j
  · obtain ⟨w, w0, w1, w2⟩ := neck_nbe hs c
    rw [n01_1 c, nW_1 ⟨c.2.1, w, w0, w1, w2⟩]
  · rw [n01_0 c, nW_0]
    rintro ⟨c0, u, c1, c2, c3⟩
    have := nbe_neck (s := s) (i := i) (w := u) hi ⟨c1, c2⟩ (by omega)
    rw [c3] at this
    exact c this
section
variable {g : zGG} {Q : Int → zMem → Prop} {s : Row}
theorem l_countN {d : zMem} (hC : RC d 1 s) (hs : crs s) (hQ : Q (cNT s) d) :
    ∀ (n m : Nat) (i w c : Int), s 4 - i = n → 4 - w = m → 0 ≤ i → 0 ≤ w → c = cN s i 0 + sW s i w →
    (i < s 4 → Fr g (eM g M_X8_countNecks FUL FUL Q) M_X8_countNecks FUL 20 [some (zR 0), some (zI c), some (zI i), some (zI w)] [] d) ∧ (w = 0 → Fr g (eM g M_X8_countNecks FUL FUL Q) M_X8_countNecks FUL 4 [some (zR 0), some (zI c), some (zI i), none] [] d)
  | n, m, i, w, c, hn, hm, hi, hw0, hc => by
    have h4 := hs.1
    have main : i < s 4 → Fr g (eM g M_X8_countNecks FUL FUL Q) M_X8_countNecks FUL 20 [some (zR 0), some (zI c), some (zI i), some (zI w)] [] d := by
      intro hi4
      apply v_X8_countNecks_20
      match m, hm with
      | 0, hm =>
        refine ⟨⟨by omega, by omega⟩, fun _ => ?_, fun q => by omega⟩
        match n, hn with
        | 0, hn => omega
        | n + 1, hn =>
          refine (l_countN hC hs hQ n 4 (i + 1) 0 c (by omega) (by omega) (by omega) (by omega) ?_).2 rfl
          rw [hc, show w = 4 by omega, sW_4 hs hi, sW_0, cN_next hi]
          unfold cN
          rw [upto_0]
          show upto (nRow s) i + 0 + nRow s i = upto (nRow s) i + nRow s i + 0
          omega
      | m + 1, hm =>
        refine ⟨⟨by omega, by omega⟩, fun q => by omega, fun _ => ?_⟩
        apply c_numberBeside (Or.inl rfl) hC hs ⟨hi, hi4⟩ ⟨by omega, by omega⟩
        have hr := nbe_range hs i w
        refine ⟨⟨⟨by omega, by omega⟩, ⟨by omega, by omega⟩⟩, fun q => ?_, fun q => ?_⟩
        · exact (l_countN hC hs hQ n m i (w + 1) c hn (by omega) hi (by omega) (by rw [sW_skip q, hc])).1 hi4
        · exact (l_countN hC hs hQ n m i (w + 1) (c + 1) hn (by omega) hi (by omega) (by rw [sW_take hs hi ⟨hw0, by omega⟩ q, hc]; omega)).1 hi4
    refine ⟨main, fun hw => ?_⟩
    apply v_X8_countNecks_4
    apply e_X1_length (Or.inl rfl)
    rw [hC.1]
    refine ⟨⟨⟨by omega, by omega⟩, ⟨by omega, by omega⟩⟩, fun q => ?_, fun q => ?_⟩
    · have e : c = cNT s := by
        rw [hc, hw, sW_0]
        unfold cNT
        rw [show s 4 = i by omega]
        omega
      rw [e]
      exact hQ
    · subst hw
      exact main q
termination_by n m => (n, m)
theorem c_countNecks {d : zMem} (hC : RC d 1 s) (hs : crs s) (hQ : Q (cNT s) d) : Ev g M_X8_countNecks FUL FUL [zR 0] d Q := by
  have h4 := hs.1
  apply e_X8_countNecks
  refine (l_countN hC hs hQ (s 4).toNat 4 0 0 0 (by omega) (by omega) (by omega) (by omega) ?_).2 rfl
  rw [sW_0]
  rfl
end
