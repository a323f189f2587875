section
variable {g : zGG} {Q : Int → Int → zMem → Prop}
theorem l_ctk {d0 : zMem} {Qc : Int → zMem → Prop} {c x1 x2 : Int} (hc : inR c) :
    ∀ (n : Nat) (x : Int) (d : zMem) (t : Row), 60 - x = n → 0 ≤ x → butP d0 d 15 → d 120 2 = c → d 120 3 = 0 → Rel d 15 t → Inv t → t 1404 + n ≤ 4000 → (∀ d', butP d0 d' 15 → d' 120 2 = c → Qc (tkv c n x t) d') →
    Fr g (eM g M_X8_taken FUL FUL Qc) M_X8_taken FUL 53 [some (zR 0), some (zI x1), some (zI x2), some (zI c), some (zI x)] [] d
  | 0, x, d, t, hn, hx, hd, h128, h3, hR, hI, hy, hQ => by
    apply v_X8_taken_53
    exact ⟨⟨by omega, by omega⟩, fun _ => hQ d hd h128, fun q => by omega⟩
  | n + 1, x, d, t, hn, hx, hd, h128, h3, hR, hI, hy, hQ => by
    apply v_X8_taken_53
    refine ⟨⟨by omega, by omega⟩, fun q => by omega, fun _ => ?_⟩
    apply c_passYear (Or.inr (Or.inl rfl)) hR hI (by omega) (by rw [h128]; exact hc)
    intro d1 b1 j1 h13 h4 R1
    have p := year_parts hI (by omega)
    have hd1 := butP_trans hd b1
    have h1281 : d1 120 2 = c := by rw [j1 2 (by omega) (by omega), h128]
    rw [h128, h3] at h13
    have t01 := tkn_01 (w := c) (fl := 0) (s := t) (Or.inl rfl)
    refine ⟨by rw [h13]; rcases t01 with e | e <;> rw [e] <;> decide, fun q => ?_, fun q => ?_⟩
    · refine l_ctk hc n (x + 1) d1 _ (by omega) (by omega) hd1 h1281 q R1 p.2.2.2.2.1 (by rw [year_1404]; omega) (fun d' k1 k2 => ?_)
      have := hQ d' k1 k2
      unfold tkv at this
      rw [if_pos (h13 ▸ q)] at this
      exact this
    · have := hQ d1 hd1 h1281
      unfold tkv at this
      rw [if_neg (h13 ▸ q)] at this
      exact this
theorem l_rtk {d0 : zMem} {Qr : Int → zMem → Prop} {c x1 x2 : Int} (hc : inR c) (hc0 : d0 153 13 = c) :
    ∀ (n : Nat) (x : Int) (d : zMem) (t : Row), 60 - x = n → 0 ≤ x → rF d0 d → d 154 = t → d 153 14 = 0 → Inv t → t 1404 + n ≤ 4000 → (∀ d', rF d0 d' → (d' 153 14 = 0 ∨ d' 153 14 = 1) → Ev g M_X9_putBack FUL FUL [zR 153] d' (fun _ d1 => Qr (tkv c n x t) d1)) →
    Fr g (eM g M_X9_taken FUL FUL Qr) M_X9_taken FUL 51 [some (zR 153), some (zI x1), some (zI x2), some (zI c), some (zI (-6)), some (zI x), none] [] d
  | 0, x, d, t, hn, hx, hd, hr, hfl, hI, hy, hQ => by
    apply v_X9_taken_51
    exact ⟨⟨by omega, by omega⟩, fun _ => hQ d hd (Or.inl hfl), fun q => by omega⟩
  | n + 1, x, d, t, hn, hx, hd, hr, hfl, hI, hy, hQ => by
    apply v_X9_taken_51
    refine ⟨⟨by omega, by omega⟩, fun q => by omega, fun _ => ⟨by decide, fun q => absurd rfl q, fun _ => ?_⟩⟩
    have e13 : d 153 13 = c := by rw [hd.2 13 (by omega) (by omega) (by omega) (by omega) (by omega)]; exact hc0
    apply r_goOn hr hI (by omega) (by rw [e13]; exact hc) (Or.inl hfl)
    intro d1 f1 r1 h14
    rw [e13, hfl] at h14
    have p := year_parts hI (by omega)
    have hd1 := rF_trans hd f1
    have t01 := tkn_01 (w := c) (fl := 0) (s := t) (Or.inl rfl)
    refine ⟨by rw [h14]; rcases t01 with e | e <;> rw [e] <;> decide, fun q => ?_, fun q => ?_⟩
    · refine l_rtk hc hc0 n (x + 1) d1 _ (by omega) (by omega) hd1 r1 q p.2.2.2.2.1 (by rw [year_1404]; omega) (fun d' k1 k2 => ?_)
      have := hQ d' k1 k2
      unfold tkv at this
      rw [if_pos (h14 ▸ q)] at this
      exact this
    · have := hQ d1 hd1 (by rw [h14]; exact t01)
      unfold tkv at this
      rw [if_neg (h14 ▸ q)] at this
      apply v_X9_taken_51
      exact ⟨⟨by omega, by omega⟩, fun _ => this, fun _ => ⟨⟨by omega, by omega⟩, fun _ => this, fun q => by omega⟩⟩
theorem p_taken {d : zMem} {x y : Int} (hJ : J d) (hx : inR x) (hy : inR y) (hQ : ∀ v d', J d' → Q v v d') : Ev g M_X8_taken FUL FUL [zR 0, zI x, zI y] d (fun v1 d1 => Ev g M_X9_taken FUL FUL [zR 153, zI x, zI y] d1 (fun v2 d2 => Q v1 v2 d2)) := by
  have hR := hJ.1
  have hyr := hR.2.2
  have hs := hR.2.1.1
  have h4 := hs.1
  obtain ⟨w1, w2, w3⟩ := hJ.2.2.2.2
  apply e_X8_taken
  apply s_cellAt hx hy
  by_cases c : 0 ≤ x ∧ x < 20 ∧ 0 ≤ y ∧ y < 12
  · rw [if_pos c]
    refine ⟨⟨by omega, by omega⟩, fun _ => ?_, fun q => by omega⟩
    apply c_numberOf (Or.inl rfl) hR.1.2.1 ⟨by omega, by omega⟩
    rw [if_pos (by omega)]
    have nr := num_range (d 154) hs (y * 20 + x)
    refine ⟨⟨by omega, by omega⟩, fun q => ?_, fun q => ?_⟩
    · apply c_copyFrom (Or.inr (Or.inl rfl)) (Or.inl rfl) (by omega) hR.1 hR.2.1
      intro d1 b1 R1
      apply e_X6_watch
      intro d2 hd2 d3 hd3
      have b3 : ∀ q, q ≠ 120 → d3 q = d1 q := fun q hq => by rw [hd3, mu_ne hq, hd2, mu_ne hq]
      have b3' : butP d d3 15 := fun q h0 h1 _ _ => by rw [b3 q h1, b1 q h0]
      refine l_ctk (d0 := d3) (c := y * 20 + x) ⟨by omega, by omega⟩ 60 0 d3 (d 154) (by omega) (by omega) (fun _ _ _ _ _ => rfl) (by rw [hd3, mu_ni (by omega), hd2, mu_get]) (by rw [hd3, mu_get]) (Rel_keep R1 hR.2.1 (fun q q1 q2 => b3 q (by omega))) hR.2.1 (by omega) ?_
      intro d4 b4 h128
      have hc := butP_trans b3' b4
      have e163 : d4 153 = d 153 := hc 153 (by omega) (by omega) (by omega) (by omega)
      have e164 : d4 154 = d 154 := hc 154 (by omega) (by omega) (by omega) (by omega)
      apply e_X9_taken
      apply s_isCell hx hy
      rw [if_pos (by omega)]
      refine ⟨by decide, fun _ => ?_, fun q => absurd q (by decide)⟩
      apply r_numberOf (by rw [e164]; exact hs) ⟨by omega, by omega⟩
      rw [e164, show 20 * y + x = y * 20 + x by omega, if_pos q]
      refine ⟨by decide, fun _ => ?_, fun q => absurd rfl q⟩
      apply r_putAside
      intro d5 b5 h5 d6 hd6 d7 hd7
      have b7 : ∀ q, q ≠ 153 → d7 q = d5 q := fun q hq => by rw [hd7, mu_ne hq, hd6, mu_ne hq]
      have j7 : ∀ j, j ≠ 13 → j ≠ 14 → d7 153 j = d 153 j := fun j h0 h1 => by rw [hd7, mu_ni h1, hd6, mu_ni h0, b5 153 (by omega), e163]
      refine l_rtk (d0 := d7) (c := y * 20 + x) ⟨by omega, by omega⟩ (by rw [hd7, mu_ni (by omega), hd6, mu_get]) 60 0 d7 (d 154) (by omega) (by omega) rF_rfl (by rw [b7 154 (by omega), b5 154 (by omega), e164]) (by rw [hd7, mu_get]) hR.2.1 (by omega) ?_
      intro d8 f8 fl8
      apply r_putBack
      intro d9 b9 h9
      refine hQ _ d9 (J_q hJ hc (by rw [h128]; exact ⟨by omega, by omega⟩) (fun q hq => by rw [b9 q (by omega), f8.1 q (by omega), b7 q (by omega), b5 q (by omega)]) (fun q q1 q2 => by rw [b9 q (by omega), f8.1 q (by omega), b7 q (by omega), b5 q (by omega)]) (by rw [b9 153 (by omega), f8.2 3 (by omega) (by omega) (by omega) (by omega) (by omega), j7 3 (by omega) (by omega), e163]) (by rw [b9 153 (by omega), f8.2 7 (by omega) (by omega) (by omega) (by omega) (by omega), j7 7 (by omega) (by omega), e163]) (fun k k0 k1 => ?_) ?_ ?_)
      · rw [h9 k k0 k1, f8.1 155 (by omega), b7 155 (by omega), h5 k k0 k1, e164]
      · rw [b9 153 (by omega), f8.2 13 (by omega) (by omega) (by omega) (by omega) (by omega), hd7, mu_ni (by omega), hd6, mu_get]; exact ⟨by omega, by omega⟩
      · rw [b9 153 (by omega)]; exact fl8
    · apply e_X9_taken
      apply s_isCell hx hy
      rw [if_pos (by omega)]
      refine ⟨by decide, fun _ => ?_, fun q => absurd q (by decide)⟩
      apply r_numberOf hs ⟨by omega, by omega⟩
      rw [show 20 * y + x = y * 20 + x by omega, if_neg q]
      exact ⟨⟨by omega, by omega⟩, fun z => by omega, fun _ => hQ _ d hJ⟩
  · rw [if_neg c]
    refine ⟨by decide, fun q => absurd rfl q, fun _ => ?_⟩
    apply e_X9_taken
    apply s_isCell hx hy
    rw [if_neg (by omega)]
    exact ⟨by decide, fun z => absurd rfl z, fun _ => hQ _ d hJ⟩
end
