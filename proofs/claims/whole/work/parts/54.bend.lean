section
variable {g : zGG} {Q : Int → Int → zMem → Prop}
/-- J after the class has left a bend or neck object and the reference its lists -/
theorem J_look {d d1 d2 : zMem} {k : Nat} (hJ : J d) (hk : 121 ≤ k ∧ k ≤ 124) (h1 : but d d1 k) (h2 : rF d1 d2) (h164 : d2 154 = d1 154) (h14 : d2 153 14 = d1 153 14) : J d2 := by
  obtain ⟨w1, w2, w3⟩ := hJ.2.2.2.2
  have e163 : d1 153 = d 153 := h1 153 (by omega)
  refine J_keep hJ (fun q hq => by rw [h2.1 q (by omega), h1 q (by omega)]) (by rw [h2.1 117 (by omega), h1 117 (by omega)]) (by rw [h2.2 3 (by omega) (by omega) (by omega) (by omega) (by omega), e163]) (by rw [h2.2 7 (by omega) (by omega) (by omega) (by omega) (by omega), e163]) (by rw [h164, h1 154 (by omega)]; exact same_rfl) ⟨by rw [h2.1 120 (by omega), h1 120 (by omega)]; exact w1, by rw [h2.2 13 (by omega) (by omega) (by omega) (by omega) (by omega), e163]; exact w2, by rw [h14, e163]; exact w3⟩
theorem p_bend {d : zMem} {x w : Int} (hJ : J d) (hx : inR x) (hw : inR w) (hQ : ∀ v d', J d' → Q v v d') : Ev g M_X8_bend FUL FUL [zR 0, zI x, zI w] d (fun v1 d1 => Ev g M_X9_bend FUL FUL [zR 153, zI x, zI w] d1 (fun v2 d2 => Q v1 v2 d2)) := by
  have hR := hJ.1
  have hI := hR.2.1
  obtain ⟨hs, hX, hY, hW, hS, hF⟩ := hI
  have h4 := hs.1
  apply e_X8_bend
  apply c_seekB (Or.inl rfl) (Or.inr rfl) hR.1.2.1 hs hx
  · intro d1 f l b1 hbd hB hcb
    have f1 := hbd.1
    have f2 := hbd.2.1
    have f3 := hbd.2.2.1
    have e164 : d1 154 = d 154 := b1 154 (by omega)
    have R1 : Rel d1 1 (d 154) := Rel_keep hR.1 hR.2.1 (fun q q1 q2 => b1 q (by omega))
    have hwy := way_range (d 154) (f - 1)
    -- the reference's side
    have rc : ∀ {Qr : Int → zMem → Prop}, (∀ d2, J d2 → d2 154 = d 154 → Bends d2 (d 154) → (0 ≤ x ∧ x < d2 153 11) → d2 160 x = f → d2 161 x = l → ((inR w) ∧ ((w < 0 ∨ 5 < w) → Qr (-2) d2) ∧ (w = 0 → (0 ≤ x ∧ x < 150) ∧ Qr (d2 160 x) d2) ∧ (w = 1 → (0 ≤ x ∧ x < 150) ∧ Qr (d2 161 x) d2) ∧ (w = 2 → Ev g M_X9_wayOf FUL FUL [zR 153, zI x] d2 (fun v2 d3 => Qr v2 d3)) ∧ (w = 3 → Ev g M_X9_isFirm FUL FUL [zR 153, zI x] d2 (fun v3 d4 => ((inR v3) ∧ (v3 = 0 → Qr 0 d4) ∧ (v3 ≠ 0 → Qr 1 d4)))) ∧ (w = 4 → Ev g M_X9_isFirm FUL FUL [zR 153, zI x] d2 (fun v4 d5 => ((inR v4) ∧ (v4 = 0 → Ev g M_X9_leastWear FUL FUL [zR 153, zI x] d5 (fun v5 d6 => Qr v5 d6)) ∧ (v4 ≠ 0 → Qr (-6) d5)))) ∧ (w = 5 → Ev g M_X9_canGrow FUL FUL [zR 153, zI x] d2 (fun v6 d7 => ((inR v6) ∧ (v6 = 0 → Qr 0 d7) ∧ (v6 ≠ 0 → Qr 1 d7)))))) → Ev g M_X9_bend FUL FUL [zR 153, zI x, zI w] d1 Qr := by
      intro Qr h
      apply e_X9_bend
      apply r_findBends (s := d 154) hs e164
      intro d2 r2 q164 j2 hB2
      have hn := hB2.1
      obtain ⟨b, q1, q2, q3⟩ := hB2.2.2.2.1 f l hbd
      have hnum := Bends_num hB2 b.toNat (by omega)
      rw [show ((b.toNat : Nat) : Int) = b by omega, q3, hcb] at hnum
      subst hnum
      have hl := bd_uniq (hB2.2.1 x q1 q2) (q3.symm ▸ hbd)
      apply s_in hx (by decide) ⟨by omega, by omega⟩
      rw [if_pos (by omega)]
      exact ⟨by decide, fun _ => h d2 (J_look hJ (by omega) b1 r2 (by rw [q164, e164]) (j2 14 (by omega))) q164 hB2 ⟨q1, q2⟩ q3 hl, fun z => absurd z (by decide)⟩
    refine ⟨by decide, fun _ => ⟨hw, fun q => ?_, fun q => ?_, fun q => ?_, fun q => ?_, fun q => ?_, fun q => ?_, fun q => ?_⟩, fun z => absurd z (by decide)⟩
    · exact rc (fun d2 k1 k2 k3 k4 k5 k6 => ⟨hw, fun _ => hQ _ d2 k1, fun z => by omega, fun z => by omega, fun z => by omega, fun z => by omega, fun z => by omega, fun z => by omega⟩)
    · rw [hB.1]
      exact rc (fun d2 k1 k2 k3 k4 k5 k6 => ⟨hw, fun z => by omega, fun _ => ⟨by have := k3.1; omega, by rw [k5]; exact hQ _ d2 k1⟩, fun z => by omega, fun z => by omega, fun z => by omega, fun z => by omega, fun z => by omega⟩)
    · rw [hB.2.1]
      exact rc (fun d2 k1 k2 k3 k4 k5 k6 => ⟨hw, fun z => by omega, fun z => by omega, fun _ => ⟨by have := k3.1; omega, by rw [k6]; exact hQ _ d2 k1⟩, fun z => by omega, fun z => by omega, fun z => by omega, fun z => by omega⟩)
    · rw [hB.2.2]
      exact rc (fun d2 k1 k2 k3 k4 k5 k6 => ⟨hw, fun z => by omega, fun z => by omega, fun z => by omega, fun _ => r_wayOf k2 hs ⟨k4.1, by have := k3.1; omega⟩ k5 ⟨by omega, by omega⟩ (hQ _ d2 k1), fun z => by omega, fun z => by omega, fun z => by omega⟩)
    · apply c_isFirm (Or.inl rfl) (Or.inr rfl) R1.2.1 R1.2.2.2.1 hs hW hbd hB
      · intro hf
        apply s_asNumber (by decide)
        exact rc (fun d2 k1 k2 k3 k4 k5 k6 => ⟨hw, fun z => by omega, fun z => by omega, fun z => by omega, fun z => by omega, fun _ => r_isFirm k2 hs hW k3 k4 k5 k6 (fun _ => ⟨by decide, fun z => absurd z (by decide), fun _ => hQ _ d2 k1⟩) (fun z => absurd hf z), fun z => by omega, fun z => by omega⟩)
      · intro hf
        apply s_asNumber (by decide)
        exact rc (fun d2 k1 k2 k3 k4 k5 k6 => ⟨hw, fun z => by omega, fun z => by omega, fun z => by omega, fun z => by omega, fun _ => r_isFirm k2 hs hW k3 k4 k5 k6 (fun z => absurd z hf) (fun _ => ⟨by decide, fun _ => hQ _ d2 k1, fun z => absurd rfl z⟩), fun z => by omega, fun z => by omega⟩)
    · apply c_isFirm (Or.inl rfl) (Or.inr rfl) R1.2.1 R1.2.2.2.1 hs hW hbd hB
      · intro hf
        refine ⟨by decide, fun z => absurd z (by decide), fun _ => ?_⟩
        exact rc (fun d2 k1 k2 k3 k4 k5 k6 => ⟨hw, fun z => by omega, fun z => by omega, fun z => by omega, fun z => by omega, fun z => by omega, fun _ => r_isFirm k2 hs hW k3 k4 k5 k6 (fun _ => ⟨by decide, fun z => absurd z (by decide), fun _ => hQ _ d2 k1⟩) (fun z => absurd hf z), fun z => by omega⟩)
      · intro hf
        refine ⟨by decide, fun _ => ?_, fun z => absurd rfl z⟩
        apply c_leastWear (Or.inl rfl) (Or.inr rfl) R1.2.1 R1.2.2.2.1 hs hW hbd hf hB
        intro v hv
        exact rc (fun d2 k1 k2 k3 k4 k5 k6 => ⟨hw, fun z => by omega, fun z => by omega, fun z => by omega, fun z => by omega, fun z => by omega, fun _ => r_isFirm k2 hs hW k3 k4 k5 k6 (fun z => absurd z hf) (fun _ => ⟨by decide, fun _ => r_leastWear k2 hs hW k3 k4 k5 k6 hf (fun v' hv' => by rw [lw_uniq hv' hv]; exact hQ _ d2 k1), fun z => absurd rfl z⟩), fun z => by omega⟩)
    · apply c_canGrow (Or.inl rfl) (Or.inr rfl) R1.2.1 R1.2.2.2.1 R1.1 hs hW hS hbd hB
      · intro hf
        apply s_asNumber (by decide)
        exact rc (fun d2 k1 k2 k3 k4 k5 k6 => ⟨hw, fun z => by omega, fun z => by omega, fun z => by omega, fun z => by omega, fun z => by omega, fun z => by omega, fun _ => r_canGrow k2 hs hW hS k3 k4 k5 k6 (fun _ => ⟨by decide, fun z => absurd z (by decide), fun _ => hQ _ d2 k1⟩) (fun z => absurd hf z)⟩)
      · intro hf
        apply s_asNumber (by decide)
        exact rc (fun d2 k1 k2 k3 k4 k5 k6 => ⟨hw, fun z => by omega, fun z => by omega, fun z => by omega, fun z => by omega, fun z => by omega, fun z => by omega, fun _ => r_canGrow k2 hs hW hS k3 k4 k5 k6 (fun z => absurd z hf) (fun _ => ⟨by decide, fun _ => hQ _ d2 k1, fun z => absurd rfl z⟩)⟩)
  · intro d1 b1 hno
    have e164 : d1 154 = d 154 := b1 154 (by omega)
    refine ⟨by decide, fun z => absurd rfl z, fun _ => ?_⟩
    apply e_X9_bend
    apply r_findBends (s := d 154) hs e164
    intro d2 r2 q164 j2 hB2
    have hn := hB2.1
    have hall := Bends_all hB2 (p := 150) (by omega) (fun f l z => by have := z.2.1; have := z.2.2.1; omega)
    apply s_in hx (by decide) ⟨by omega, by omega⟩
    rw [if_neg (by omega)]
    exact ⟨by decide, fun z => absurd rfl z, fun _ => hQ _ d2 (J_look hJ (by omega) b1 r2 (by rw [q164, e164]) (j2 14 (by omega)))⟩
end
