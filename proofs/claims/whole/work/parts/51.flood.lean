section
variable {g : zGG} {Q : Int → Int → zMem → Prop}
theorem p_flood {d : zMem} {x b : Int} (hJ : J d) (hx : inR x) (hb : b = 0 ∨ b = 1) (hQ : ∀ v d', J d' → Q v v d') : Ev g M_X8_flood FUL FUL [zR 0, zI x, zI b] d (fun v1 d1 => Ev g M_X9_flood FUL FUL [zR 153, zI x, zI b] d1 (fun v2 d2 => Q v1 v2 d2)) := by
  have hR := hJ.1
  have hI := hR.2.1
  have hF := hI.2.2.2.2.2
  have hF1 := hF.1
  have hF4 := hF.2.2.2
  have hyr := hR.2.2
  have rF := hR.1.2.2.2.2
  have e9 : d 1 8 = d 154 1404 := rF.2.2.1
  have e8 : d 1 7 = d 154 1395 := rF.1
  have hbr : inR b := by rcases hb with e | e <;> rw [e] <;> decide
  have f01 := flN_01 (d 154) x
  have fr : inR (flN (d 154) x) := by rcases f01 with e | e <;> rw [e] <;> decide
  -- the reference, as far as it goes alike
  have rc : ∀ {Qr : Int → zMem → Prop} {d2 : zMem}, d2 154 = d 154 → (¬ (d 154 1404 ≤ x ∧ x ≤ 999) → Qr (-2) d2) → ((d 154 1404 ≤ x ∧ x ≤ 999) → flN (d 154) x = b → Qr (-5) d2) → ((d 154 1404 ≤ x ∧ x ≤ 999) → flN (d 154) x ≠ b → b ≠ 0 → d 154 1395 = 8 → Qr (-4) d2) →
      ((d 154 1404 ≤ x ∧ x ≤ 999) → flN (d 154) x ≠ b → (b ≠ 0 → d 154 1395 ≠ 8) → Ev g M_X9_know FUL FUL [zR 153] d2 (fun _ d3 => ((inR b) ∧ (b = 0 → ∀ d4, d4 = mu d3 154 1395 ((d3 154 1395) - 1) → (Fr g (eM g M_X9_flood FUL FUL Qr) M_X9_flood FUL 111 [some (zR 153), some (zI x), some (zI b), some (zI 0), some (zI 0)] [] d4)) ∧ (b ≠ 0 → (0 ≤ (1396 + (d3 154 1395)) ∧ (1396 + (d3 154 1395)) < 1407) ∧ ∀ d5, d5 = mu d3 154 (1396 + (d3 154 1395)) x → ∀ d6, d6 = mu d5 154 1395 ((d5 154 1395) + 1) → Qr (d6 154 1395) d6)))) → Ev g M_X9_flood FUL FUL [zR 153, zI x, zI b] d2 Qr := by
    intro Qr d2 e164 a1 a2 a3 a4
    apply e_X9_flood
    rw [e164]
    apply s_in hx ⟨by omega, by omega⟩ (by decide)
    by_cases c : d 154 1404 ≤ x ∧ x ≤ 999
    · rw [if_pos c]
      refine ⟨by decide, fun _ => ?_, fun z => absurd z (by decide)⟩
      apply r_isFloodYear e164 hF hx
      rw [e164]
      refine ⟨⟨fr, hbr⟩, fun q => ⟨hbr, fun q2 => a4 c q (fun z => absurd q2 z), fun q2 => ⟨⟨by omega, by omega⟩, fun q3 => a4 c q (fun _ => q3), fun q3 => a3 c q q2 q3⟩⟩, fun q => a2 c q⟩
    · rw [if_neg c]
      exact ⟨by decide, fun z => absurd rfl z, fun _ => a1 c⟩
  have bad : ¬ (d 154 1404 ≤ x ∧ x ≤ 999) → Ev g M_X9_flood FUL FUL [zR 153, zI x, zI b] d (fun v2 d2 => Q (-2) v2 d2) := fun c => rc rfl (fun _ => hQ _ d hJ) (fun z => absurd z c) (fun z => absurd z c) (fun z => absurd z c)
  apply e_X8_flood
  rw [e9]
  refine ⟨⟨hx, ⟨by omega, by omega⟩⟩, fun q => bad (by omega), fun q => ⟨hx, fun q1 => ?_, fun q1 => bad (by omega)⟩⟩
  apply c_hasFlood (Or.inl rfl) rF hF hx
  have hin : d 154 1404 ≤ x ∧ x ≤ 999 := ⟨q, q1⟩
  have change : flN (d 154) x ≠ b → (b ≠ 0 → d 154 1395 < 8) → Ev g M_X2_remember FUL FUL [zR 31, zR 1] d (fun _ d2 => Ev g M_X7_changeFlood FUL FUL [zR 1, zI x, zI b] d2 (fun _ d3 => Ev g M_X9_flood FUL FUL [zR 153, zI x, zI b] d3 (fun v2 d4 => Q (d3 1 7) v2 d4))) := by
    intro hne h8
    apply p_new hJ
    intro d1 st h1 h2 h3
    have hfl : (b = 1 → d 154 1395 < 8 ∧ ¬ isFl (d 154) x) ∧ (b = 0 → isFl (d 154) x) := by
      refine ⟨fun e => ⟨h8 (by omega), fun z => hne (by rw [flN_1 z, e])⟩, fun e => Classical.not_not.mp (fun z => hne (by rw [flN_0 z, e]))⟩
    apply c_changeFlood (Or.inl rfl) h3 hI ⟨by omega, q1⟩ hb ?_ ?_ hfl
    · intro eb o1 o2 d2 b2 R2
      have hI2 : Inv (f_add (d 154) x) := flood_Inv hI (fun k hk => by unfold f_add; rw [ru_ne (by omega), ru_ne (by omega)]) (add_IF hF o1 ⟨by omega, q1⟩ o2)
      have hC := cCh_of h1 h2 b2 R2
      have e164 : d2 154 = d 154 := hC.1 154 (by omega)
      have ea : f_add (d 154) x 1395 = d 154 1395 + 1 := ru_at
      rw [show d2 1 7 = d 154 1395 + 1 from R2.2.2.2.2.1.trans ea]
      refine rc e164 (fun z => absurd hin z) (fun _ z => absurd z hne) (fun _ _ _ z => by omega) (fun _ _ _ => ?_)
      apply rn_know hJ hC
      intro d3 k1 k2 k3 k4
      have e3 : d3 154 = d 154 := by rw [k1 154 (by omega) (by omega), e164]
      rw [e3]
      refine ⟨hbr, fun z => by omega, fun _ => ⟨⟨by omega, by omega⟩, fun d5 hd5 d6 hd6 => ?_⟩⟩
      have e5 : d5 154 1395 = d 154 1395 := by rw [hd5, mu_ni (by omega), e3]
      have e6 : d6 154 = f_add (d 154) x := by rw [hd6, mu164, e5, hd5, mu164, e3]; rfl
      rw [e6, ea]
      refine hQ _ d6 (J_ch hJ hC hI2 (by unfold f_add; rw [ru_ne (by omega), ru_ne (by omega)]; exact hyr) k1 k2 k3 k4 (hd6 ▸ rF_mu (hd5 ▸ rF_mu rF_rfl (by omega)) (by omega)) (by rw [e6]; exact same_rfl) ?_)
      rw [hd6, mu_ne (by omega), hd5, mu_ne (by omega), k2 14 (by omega), hC.1 153 (by omega)]
      exact hJ.2.2.2.2.2.2
    · intro p eb p0 p1 p2 d2 b2 R2
      have hI2 : Inv (f_rem (d 154) p) := flood_Inv hI (fun k hk => by unfold f_rem; rw [if_neg (by omega), if_neg (by omega)]) (rem_IF hF ⟨p0, p1⟩)
      have hC := cCh_of h1 h2 b2 R2
      have e164 : d2 154 = d 154 := hC.1 154 (by omega)
      have ea : f_rem (d 154) p 1395 = d 154 1395 - 1 := by unfold f_rem; rw [if_pos rfl]
      rw [show d2 1 7 = d 154 1395 - 1 from R2.2.2.2.2.1.trans ea]
      refine rc e164 (fun z => absurd hin z) (fun _ z => absurd z hne) (fun _ _ z _ => absurd eb z) (fun _ _ _ => ?_)
      apply rn_know hJ hC
      intro d3 k1 k2 k3 k4
      have e3 : d3 154 = d 154 := by rw [k1 154 (by omega) (by omega), e164]
      refine ⟨hbr, fun _ d4 hd4 => ?_, fun z => absurd eb z⟩
      rw [e3] at hd4
      refine l_rrem (d0 := d4) (s := d 154) hF hx ⟨p0, p1⟩ p2 ?_ (d 154 1395 - 1).toNat 0 0 d4 (by omega) (by omega) but_rfl (fun i => ?_) (Or.inr ⟨rfl, p0⟩)
      · intro d5 b5 e5
        refine hQ _ d5 (J_ch hJ hC hI2 (by unfold f_rem; rw [if_neg (by omega), if_neg (by omega)]; exact hyr) k1 k2 k3 k4 (rF_but (hd4 ▸ rF_mu rF_rfl (by omega)) (by omega) b5) (by rw [e5]; exact same_rfl) ?_)
        rw [b5 153 (by omega), hd4, mu_ne (by omega), k2 14 (by omega), hC.1 153 (by omega)]
        exact hJ.2.2.2.2.2.2
      · rw [hd4, mu_app, if_pos rfl, e3]
        by_cases c : i = 1395
        · rw [if_pos c, if_pos c]
        · rw [if_neg c, if_neg c, if_neg (by omega)]
  refine ⟨⟨fr, hbr⟩, fun q2 => ⟨hbr, fun q3 => change q2 (fun z => absurd q3 z), fun q3 => ?_⟩, fun q2 => rc rfl (fun z => absurd hin z) (fun _ _ => hQ _ d hJ) (fun _ z => absurd q2 z) (fun _ z => absurd q2 z)⟩
  rw [e8]
  exact ⟨⟨by omega, by omega⟩, fun q4 => change q2 (fun _ => q4), fun q4 => rc rfl (fun z => absurd hin z) (fun _ z => absurd z q2) (fun _ _ _ _ => hQ _ d hJ) (fun _ _ z => absurd (z q3) (by omega))⟩
end
