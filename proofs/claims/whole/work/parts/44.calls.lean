section
variable {g : zGG} {Q : Int → Int → zMem → Prop}
theorem l_cif {d0 : zMem} {Qc : Int → zMem → Prop} {X w : Int} {r s : Row} (hX : 0 ≤ X ∧ X ≤ 1000) (hw : 0 ≤ w ∧ w ≤ 3) (hwr : inR (d0 120 2)) (h1 : Rel d0 1 s) (hQ : ∀ d', butP d0 d' 15 → d' 120 2 = d0 120 2 → Qc (if w = 0 then r 1405 - s 1405 else if w = 1 then r 1406 - s 1406 else if w = 2 then r 4 else r 1355) d') :
    ∀ (n : Nat) (x : Int) (d : zMem) (t : Row), X - x = n → 0 ≤ x → butP d0 d 15 → d 120 2 = d0 120 2 → Rel d 15 t → Inv t → t 1404 + n ≤ 4000 → yrs n t = r →
    Fr g (eM g M_X8_ifPassed FUL FUL Qc) M_X8_ifPassed FUL 36 [some (zR 0), some (zI X), some (zI w), some (zI x)] [] d
  | 0, x, d, t, hn, hx, hd, h128, hR, hI, hy, ht => by
    have ht' : t = r := ht
    subst ht'
    have e1 : d 1 = d0 1 := hd 1 (by omega) (by omega) (by omega) (by omega)
    have hq := hQ d hd h128
    have a10 : d 15 9 = t 1405 := hR.2.2.2.2.2.2.2.1
    have a11 : d 15 10 = t 1406 := hR.2.2.2.2.2.2.2.2
    have b10 : d0 1 9 = s 1405 := h1.2.2.2.2.2.2.2.1
    have b11 : d0 1 10 = s 1406 := h1.2.2.2.2.2.2.2.2
    apply v_X8_ifPassed_36
    rw [e1, a10, a11, b10, b11]
    refine ⟨⟨⟨by omega, by omega⟩, ⟨by omega, by omega⟩⟩, fun _ => ⟨⟨by omega, by omega⟩, fun q => ?_, fun q => ?_, fun q => ?_, fun q => ?_⟩, fun q => by omega⟩
    · apply e_X4_length (Or.inr (Or.inl rfl))
      rw [hR.2.2.1.2.1]
      rw [if_neg (by omega), if_neg (by omega), if_neg (by omega)] at hq
      exact hq
    · rw [if_pos q] at hq; exact hq
    · rw [if_neg (by omega), if_pos q] at hq; exact hq
    · apply e_X1_length (Or.inr (Or.inl rfl))
      rw [hR.2.1.1]
      rw [if_neg (by omega), if_neg (by omega), if_pos q] at hq
      exact hq
  | n + 1, x, d, t, hn, hx, hd, h128, hR, hI, hy, ht => by
    apply v_X8_ifPassed_36
    refine ⟨⟨⟨by omega, by omega⟩, ⟨by omega, by omega⟩⟩, fun q => by omega, fun _ => ?_⟩
    apply c_passYear (Or.inr (Or.inl rfl)) hR hI (by omega) (by rw [h128]; exact hwr)
    intro d1 b1 j1 _ _ R1
    have p := year_parts hI (by omega)
    exact l_cif hX hw hwr h1 hQ n (x + 1) d1 _ (by omega) (by omega) (butP_trans hd b1) (by rw [j1 2 (by omega) (by omega), h128]) R1 p.2.2.2.2.1 (by rw [year_1404]; omega) ht
theorem l_rif {d0 : zMem} {Qr : Int → zMem → Prop} {X w : Int} {r s : Row} (hX : 0 ≤ X ∧ X ≤ 1000) (hw : 0 ≤ w ∧ w ≤ 3) (hwr : inR (d0 153 13)) (h165 : ∀ k, 0 ≤ k → k < 1407 → d0 155 k = s k) (hQ : ∀ d', rF d0 d' → (d' 153 14 = 0 ∨ d' 153 14 = 1) → Ev g M_X9_putBack FUL FUL [zR 153] d' (fun _ d1 => Qr (if w = 0 then r 1405 - s 1405 else if w = 1 then r 1406 - s 1406 else if w = 2 then r 4 else r 1355) d1)) :
    ∀ (n : Nat) (x : Int) (d : zMem) (t : Row), X - x = n → 0 ≤ x → rF d0 d → d 154 = t → (d 153 14 = 0 ∨ d 153 14 = 1) → Inv t → t 1404 + n ≤ 4000 → yrs n t = r →
    Fr g (eM g M_X9_ifPassed FUL FUL Qr) M_X9_ifPassed FUL 28 [some (zR 153), some (zI X), some (zI w), some (zI x), none] [] d
  | 0, x, d, t, hn, hx, hd, hr, hfl, hI, hy, ht => by
    have ht' : t = r := ht
    subst ht'
    have hq := hQ d hd hfl
    have wr : inR w := ⟨by omega, by omega⟩
    apply v_X9_ifPassed_28
    rw [hr, hd.1 155 (by omega), h165 1405 (by omega) (by omega), h165 1406 (by omega) (by omega)]
    refine ⟨⟨⟨by omega, by omega⟩, ⟨by omega, by omega⟩⟩, fun _ => ⟨wr, fun q => ⟨wr, fun q1 => ⟨wr, fun q2 => ?_, fun q2 => ?_⟩, fun q1 => ?_⟩, fun q => ?_⟩, fun q => by omega⟩
    · rw [if_neg q, if_neg q1, if_neg q2] at hq; exact hq
    · rw [if_neg q, if_neg q1, if_pos q2] at hq; exact hq
    · rw [if_neg q, if_pos q1] at hq; exact hq
    · rw [if_pos q] at hq; exact hq
  | n + 1, x, d, t, hn, hx, hd, hr, hfl, hI, hy, ht => by
    apply v_X9_ifPassed_28
    refine ⟨⟨⟨by omega, by omega⟩, ⟨by omega, by omega⟩⟩, fun q => by omega, fun _ => ?_⟩
    apply r_goOn hr hI (by omega) (by rw [hd.2 13 (by omega) (by omega) (by omega) (by omega) (by omega)]; exact hwr) hfl
    intro d1 f1 r1 h14
    have p := year_parts hI (by omega)
    exact l_rif hX hw hwr h165 hQ n (x + 1) d1 _ (by omega) (by omega) (rF_trans hd f1) r1 (by rw [h14]; exact tkn_01 hfl) p.2.2.2.2.1 (by rw [year_1404]; omega) ht
theorem p_ifPassed {d : zMem} {x w : Int} (hJ : J d) (hx : inR x) (hw : inR w) (hQ : ∀ v d', J d' → Q v v d') : Ev g M_X8_ifPassed FUL FUL [zR 0, zI x, zI w] d (fun v1 d1 => Ev g M_X9_ifPassed FUL FUL [zR 153, zI x, zI w] d1 (fun v2 d2 => Q v1 v2 d2)) := by
  have hR := hJ.1
  have hy := hR.2.2
  obtain ⟨w1, w2, w3⟩ := hJ.2.2.2.2
  have bad : ¬ ((1 ≤ x ∧ x ≤ 50) ∧ (0 ≤ w ∧ w ≤ 3)) → Ev g M_X9_ifPassed FUL FUL [zR 153, zI x, zI w] d (fun v2 d2 => Q (-2) v2 d2) := by
    intro c
    apply e_X9_ifPassed
    apply s_in hx (by decide) (by decide)
    by_cases c1 : 1 ≤ x ∧ x ≤ 50
    · rw [if_pos c1]
      refine ⟨by decide, fun q => absurd q (by decide), fun _ => ?_⟩
      apply s_in hw (by decide) (by decide)
      rw [if_neg (fun z => c ⟨c1, z⟩)]
      exact ⟨by decide, fun q => absurd rfl q, fun _ => hQ _ d hJ⟩
    · rw [if_neg c1]
      exact ⟨by decide, fun _ => hQ _ d hJ, fun q => absurd rfl q⟩
  apply e_X8_ifPassed
  refine ⟨hx, fun q => bad (by omega), fun q => ⟨hx, fun q1 => bad (by omega), fun q1 => ⟨hw, fun q2 => bad (by omega), fun q2 => ⟨hw, fun q3 => ?_, fun q3 => bad (by omega)⟩⟩⟩⟩
  apply c_copyFrom (Or.inr (Or.inl rfl)) (Or.inl rfl) (by omega) hR.1 hR.2.1
  intro d1 b1 R1
  have b1' : butP d d1 15 := fun q h0 _ _ _ => b1 q h0
  refine l_cif (d0 := d1) (r := yrs x.toNat (d 154)) (s := d 154) ⟨by omega, by omega⟩ ⟨q2, q3⟩ (by rw [b1 120 (by omega)]; exact w1) (Rel_keep hR.1 hR.2.1 (fun q q1 q2 => b1 q (by omega))) ?_ x.toNat 0 d1 (d 154) (by omega) (by omega) (fun _ _ _ _ _ => rfl) rfl R1 hR.2.1 (by omega) rfl
  intro d2 b2 h128
  have hc := butP_trans b1' b2
  have e163 : d2 153 = d 153 := hc 153 (by omega) (by omega) (by omega) (by omega)
  have e164 : d2 154 = d 154 := hc 154 (by omega) (by omega) (by omega) (by omega)
  apply e_X9_ifPassed
  apply s_in hx (by decide) (by decide)
  rw [if_pos ⟨q, q1⟩]
  refine ⟨by decide, fun z => absurd z (by decide), fun _ => ?_⟩
  apply s_in hw (by decide) (by decide)
  rw [if_pos ⟨q2, q3⟩]
  refine ⟨by decide, fun _ => ?_, fun z => absurd z (by decide)⟩
  apply r_putAside
  intro d3 b3 h3
  refine l_rif (d0 := d3) (r := yrs x.toNat (d 154)) (s := d 154) ⟨by omega, by omega⟩ ⟨q2, q3⟩ (by rw [b3 153 (by omega), e163]; exact w2) (fun k k0 k1 => by rw [h3 k k0 k1, e164]) ?_ x.toNat 0 d3 (d 154) (by omega) (by omega) rF_rfl (by rw [b3 154 (by omega), e164]) (by rw [b3 153 (by omega), e163]; exact w3) hR.2.1 (by omega) rfl
  intro d4 f4 fl4
  apply r_putBack
  intro d5 b5 h5
  refine hQ _ d5 (J_q hJ hc (by rw [h128, b1 120 (by omega)]; exact w1) (fun q hq => by rw [b5 q (by omega), f4.1 q (by omega), b3 q (by omega)]) (fun q q1 q2 => by rw [b5 q (by omega), f4.1 q (by omega), b3 q (by omega)]) (by rw [b5 153 (by omega), f4.2 3 (by omega) (by omega) (by omega) (by omega) (by omega), b3 153 (by omega)]) (by rw [b5 153 (by omega), f4.2 7 (by omega) (by omega) (by omega) (by omega) (by omega), b3 153 (by omega)]) (fun k k0 k1 => ?_) ?_ ?_)
  · rw [h5 k k0 k1, f4.1 155 (by omega), h3 k k0 k1, e164]
  · rw [b5 153 (by omega), f4.2 13 (by omega) (by omega) (by omega) (by omega) (by omega), b3 153 (by omega), e163]; exact w2
  · rw [b5 153 (by omega)]; exact fl4
theorem p_isFlood {d : zMem} {x : Int} (hJ : J d) (hx : inR x) (hQ : ∀ v d', J d' → Q v v d') : Ev g M_X8_isFlood FUL FUL [zR 0, zI x] d (fun v1 d1 => Ev g M_X9_isFlood FUL FUL [zR 153, zI x] d1 (fun v2 d2 => Q v1 v2 d2)) := by
  have hR := hJ.1
  have hF := hR.2.1.2.2.2.2.2
  have bad : ¬ (0 ≤ x ∧ x ≤ 999) → Ev g M_X9_isFlood FUL FUL [zR 153, zI x] d (fun v2 d2 => Q (-2) v2 d2) := by
    intro c
    apply e_X9_isFlood
    apply s_in hx (by decide) (by decide)
    rw [if_neg c]
    exact ⟨by decide, fun q => absurd rfl q, fun _ => hQ _ d hJ⟩
  apply e_X8_isFlood
  refine ⟨hx, fun q => bad (by omega), fun q => ⟨hx, fun q1 => ?_, fun q1 => bad (by omega)⟩⟩
  apply c_hasFlood (Or.inl rfl) hR.1.2.2.2.2 hF hx
  have f01 := flN_01 (d 154) x
  apply s_asNumber (by rcases f01 with e | e <;> rw [e] <;> decide)
  apply e_X9_isFlood
  apply s_in hx (by decide) (by decide)
  rw [if_pos ⟨q, q1⟩]
  refine ⟨by decide, fun _ => ?_, fun z => absurd z (by decide)⟩
  apply r_isFloodYear rfl hF hx
  rcases f01 with e | e
  · rw [e]
    exact ⟨by decide, fun _ => hQ _ d hJ, fun z => absurd rfl z⟩
  · rw [e]
    exact ⟨by decide, fun z => absurd z (by decide), fun _ => hQ _ d hJ⟩
theorem p_wipe {d : zMem} (hJ : J d) (hQ : ∀ v d', J d' → Q v v d') : Ev g M_X8_wipe FUL FUL [zR 0] d (fun v1 d1 => Ev g M_X9_wipe FUL FUL [zR 153] d1 (fun v2 d2 => Q v1 v2 d2)) := by
  obtain ⟨j1, j2, j3, j4, w1, w2, w3⟩ := hJ
  have e : d 117 2 = d 153 7 := j4.1
  apply e_X8_wipe
  apply e_X5_length
  apply e_X5_clear
  intro d1 hd1
  apply e_X9_wipe
  intro d2 hd2
  rw [hd1, mu_ne (by omega), e]
  have b2 : ∀ q, q ≠ 117 → q ≠ 153 → d2 q = d q := fun q h0 h1 => by rw [hd2, mu_ne h1, hd1, mu_ne h0]
  have e163 : ∀ j, j ≠ 7 → d2 153 j = d 153 j := fun j hj => by rw [hd2, mu_ni hj, hd1, mu_ne (by omega)]
  refine hQ _ d2 ⟨?_, ?_, ?_, ⟨?_, ?_, fun k k0 k1 => ?_⟩, ⟨?_, ?_, ?_⟩⟩
  · rw [b2 154 (by omega) (by omega)]
    exact River_keep j1 (fun q q1 q2 => b2 q (by omega) (by omega))
  · have eb : bRow d2 = bRow d := by unfold bRow; rw [b2 156 (by omega) (by omega)]
    rw [eb, e163 3 (by omega), b2 31 (by omega) (by omega)]
    exact JH_keep j2 (b2 31 (by omega) (by omega)) (fun q q1 q2 => b2 q (by omega) (by omega))
  · exact JS_keep j3 (b2 _ (by omega) (by omega)) (b2 _ (by omega) (by omega)) (b2 _ (by omega) (by omega)) (fun q q1 q2 => b2 q (by omega) (by omega))
  · rw [hd2, mu_get, mu_ne (by omega), hd1, mu_get]
  · rw [hd2, mu_get]; omega
  · rw [hd2, mu_get] at k1; omega
  · rw [b2 120 (by omega) (by omega)]; exact w1
  · rw [e163 13 (by omega)]; exact w2
  · rw [e163 14 (by omega)]; exact w3
end
