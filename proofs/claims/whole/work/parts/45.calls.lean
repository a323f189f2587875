section
variable {g : zGG} {Q : Int → Int → zMem → Prop}
theorem own_none {v : Int} (h : v = -6 ∨ 0 ≤ v) : (if own v = -1 then -6 else own v) = v := by
  unfold own
  by_cases c : v = -6
  · rw [if_pos c, if_pos rfl, c]
  · rw [if_neg c, if_neg (by omega)]
theorem p_cell {d : zMem} {x y w : Int} (hJ : J d) (hx : inR x) (hy : inR y) (hw : inR w) (hQ : ∀ v d', J d' → Q v v d') : Ev g M_X8_cell FUL FUL [zR 0, zI x, zI y, zI w] d (fun v1 d1 => Ev g M_X9_cell FUL FUL [zR 153, zI x, zI y, zI w] d1 (fun v2 d2 => Q v1 v2 d2)) := by
  have hR := hJ.1
  obtain ⟨hs, hX, hY, hW, hS, hF⟩ := hR.2.1
  have h4 := hs.1
  apply e_X8_cell
  apply s_cellAt hx hy
  by_cases c : 0 ≤ x ∧ x < 20 ∧ 0 ≤ y ∧ y < 12
  · rw [if_pos c]
    have hc : 0 ≤ y * 20 + x ∧ y * 20 + x < 240 := by omega
    have hci : inR (y * 20 + x) := ⟨by omega, by omega⟩
    have rc : ∀ {Qr : Int → zMem → Prop}, (((inR w) ∧ ((w < 0 ∨ 3 < w) → Qr (-2) d) ∧ (w = 0 → Ev g M_X9_numberOf FUL FUL [zR 153, zI ((20 * y) + x)] d (fun v2 d2 => Qr v2 d2)) ∧ (w = 1 → (0 ≤ (155 + ((20 * y) + x)) ∧ (155 + ((20 * y) + x)) < 1407) ∧ Qr (d 154 (155 + ((20 * y) + x))) d) ∧ (w = 2 → (0 ≤ (395 + ((20 * y) + x)) ∧ (395 + ((20 * y) + x)) < 1407) ∧ Qr (d 154 (395 + ((20 * y) + x))) d) ∧ (w = 3 → (0 ≤ (1115 + ((20 * y) + x)) ∧ (1115 + ((20 * y) + x)) < 1407) ∧ Qr (d 154 (1115 + ((20 * y) + x))) d))) → Ev g M_X9_cell FUL FUL [zR 153, zI x, zI y, zI w] d Qr := by
      intro Qr h
      apply e_X9_cell
      apply s_isCell hx hy
      rw [if_pos (by omega)]
      exact ⟨by decide, fun _ => h, fun z => absurd z (by decide)⟩
    have e20 : 20 * y + x = y * 20 + x := by omega
    refine ⟨⟨by omega, by omega⟩, fun _ => ⟨hw, fun q => ?_, fun q => ?_, fun q => ?_, fun q => ?_, fun q => ?_⟩, fun q => by omega⟩
    · exact rc ⟨hw, fun _ => hQ _ d hJ, fun z => by omega, fun z => by omega, fun z => by omega, fun z => by omega⟩
    · apply c_numberOf (Or.inl rfl) hR.1.2.1 hci
      rw [if_pos hc]
      have nr := num_range (d 154) hs (y * 20 + x)
      apply s_orNone ⟨by omega, by omega⟩
      refine rc ⟨hw, fun z => by omega, fun _ => ?_, fun z => by omega, fun z => by omega, fun z => by omega⟩
      rw [e20]
      apply r_numberOf hs hci
      by_cases cn : num (d 154) (y * 20 + x) = -1
      · rw [if_pos cn]; exact hQ _ d hJ
      · rw [if_neg cn]; exact hQ _ d hJ
    · apply c_wearOf (Or.inl rfl) hR.1.2.2.2.1 hc
      refine rc ⟨hw, fun z => by omega, fun z => by omega, fun _ => ⟨by omega, ?_⟩, fun z => by omega, fun z => by omega⟩
      rw [e20]; exact hQ _ d hJ
    · have hd := (hW.1 _ hc.1 hc.2).2
      have rr : ∀ v, v = d 154 (395 + (y * 20 + x)) → Ev g M_X9_cell FUL FUL [zR 153, zI x, zI y, zI w] d (fun v2 d2 => Q v v2 d2) := by
        intro v e
        refine rc ⟨hw, fun z => by omega, fun z => by omega, fun z => by omega, fun _ => ⟨by omega, ?_⟩, fun z => by omega⟩
        rw [e20, e]; exact hQ _ d hJ
      apply c_isDike (Or.inl rfl) hR.1.2.2.2.1 hW hci
      · intro z
        apply s_asNumber (by decide)
        exact rr _ (by rw [if_neg (by decide)]; exact z.2.2.symm)
      · intro z
        apply s_asNumber (by decide)
        exact rr _ (by rw [if_pos rfl]; omega)
    · apply c_ownerOf (Or.inl rfl) hR.1.2.2.1 hci
      rw [if_pos hc]
      have hor := own_range hX hc.1 hc.2
      have hX1 := hX.1
      apply s_orNone ⟨by omega, by omega⟩
      rw [own_none (by have := hX.2.1 _ hc.1 hc.2; omega)]
      refine rc ⟨hw, fun z => by omega, fun z => by omega, fun z => by omega, fun z => by omega, fun _ => ⟨by omega, ?_⟩⟩
      rw [e20]; exact hQ _ d hJ
  · rw [if_neg c]
    refine ⟨by decide, fun q => absurd rfl q, fun _ => ?_⟩
    apply e_X9_cell
    apply s_isCell hx hy
    rw [if_neg (by omega)]
    exact ⟨by decide, fun z => absurd rfl z, fun _ => hQ _ d hJ⟩
theorem p_course {d : zMem} {x w : Int} (hJ : J d) (hx : inR x) (hw : inR w) (hQ : ∀ v d', J d' → Q v v d') : Ev g M_X8_course FUL FUL [zR 0, zI x, zI w] d (fun v1 d1 => Ev g M_X9_course FUL FUL [zR 153, zI x, zI w] d1 (fun v2 d2 => Q v1 v2 d2)) := by
  have hR := hJ.1
  have hs := hR.2.1.1
  have h4 := hs.1
  apply e_X8_course
  apply c_cellOf (Or.inl rfl) hR.1.2.1 hs hx
  by_cases c : 0 ≤ x ∧ x < d 154 4
  · rw [if_pos c]
    have hc := hs.2.1 x c.1 c.2
    have rc : ∀ {Qr : Int → zMem → Prop}, ((inR w) ∧ ((w < 0 ∨ 2 < w) → Qr (-2) d) ∧ (w = 0 → (0 ≤ (5 + x) ∧ (5 + x) < 1407) ∧ (0 ≤ (d 154 (5 + x)) ∧ inR (d 154 (5 + x))) ∧ Qr ((d 154 (5 + x)) % 20) d) ∧ (w = 1 → (0 ≤ (5 + x) ∧ (5 + x) < 1407) ∧ (0 ≤ (d 154 (5 + x)) ∧ inR (d 154 (5 + x))) ∧ Qr ((d 154 (5 + x)) / 20) d) ∧ (w = 2 → ((inR x ∧ inR ((d 154 4) - 1)) ∧ (x ≠ ((d 154 4) - 1) → Ev g M_X9_way FUL FUL [zR 153, zI x] d (fun v2 d2 => Qr v2 d2)) ∧ (x = ((d 154 4) - 1) → Qr (-6) d)))) → Ev g M_X9_course FUL FUL [zR 153, zI x, zI w] d Qr := by
      intro Qr h
      apply e_X9_course
      apply s_in hx (by decide) ⟨by omega, by omega⟩
      rw [if_pos (by omega)]
      exact ⟨by decide, fun _ => h, fun z => absurd z (by decide)⟩
    have ci : inR (d 154 (5 + x)) := ⟨by omega, by omega⟩
    refine ⟨ci, fun _ => ⟨hw, fun q => ?_, fun q => ⟨⟨by omega, ci⟩, ?_⟩, fun q => ⟨⟨by omega, ci⟩, ?_⟩, fun q => ?_⟩, fun q => by omega⟩
    · exact rc ⟨hw, fun _ => hQ _ d hJ, fun z => by omega, fun z => by omega, fun z => by omega⟩
    · exact rc ⟨hw, fun z => by omega, fun _ => ⟨by omega, ⟨by omega, ci⟩, hQ _ d hJ⟩, fun z => by omega, fun z => by omega⟩
    · exact rc ⟨hw, fun z => by omega, fun z => by omega, fun _ => ⟨by omega, ⟨by omega, ci⟩, hQ _ d hJ⟩, fun z => by omega⟩
    · apply c_wayFrom (Or.inl rfl) hR.1.2.1 hs ⟨by omega, by omega⟩
      have wr := way_range (d 154) x
      by_cases c2 : 0 ≤ x ∧ x < d 154 4 - 1
      · rw [if_pos c2]
        apply s_orNone ⟨by omega, by omega⟩
        rw [if_neg (by omega)]
        refine rc ⟨hw, fun z => by omega, fun z => by omega, fun z => by omega, fun _ => ⟨⟨hx, ⟨by omega, by omega⟩⟩, fun _ => ?_, fun z => by omega⟩⟩
        exact r_way hs ⟨by omega, by omega⟩ (hQ _ d hJ)
      · rw [if_neg c2]
        apply s_orNone (by decide)
        exact rc ⟨hw, fun z => by omega, fun z => by omega, fun z => by omega, fun _ => ⟨⟨hx, ⟨by omega, by omega⟩⟩, fun z => by omega, fun _ => hQ _ d hJ⟩⟩
  · rw [if_neg c]
    refine ⟨by decide, fun q => absurd rfl q, fun _ => ?_⟩
    apply e_X9_course
    apply s_in hx (by decide) ⟨by omega, by omega⟩
    rw [if_neg (by omega)]
    exact ⟨by decide, fun z => absurd rfl z, fun _ => hQ _ d hJ⟩
theorem p_oxbow {d : zMem} {x w : Int} (hJ : J d) (hx : inR x) (hw : inR w) (hQ : ∀ v d', J d' → Q v v d') : Ev g M_X8_oxbow FUL FUL [zR 0, zI x, zI w] d (fun v1 d1 => Ev g M_X9_oxbow FUL FUL [zR 153, zI x, zI w] d1 (fun v2 d2 => Q v1 v2 d2)) := by
  have hR := hJ.1
  have hX := hR.2.1.2.1
  have hX1 := hX.1
  have rX := hR.1.2.2.1
  apply e_X8_oxbow
  apply c_has (Or.inl rfl) rX hX hx
  by_cases c : 0 ≤ x ∧ x < d 154 1355
  · rw [if_pos c]
    obtain ⟨x1, x2, x3⟩ := hX.2.2 x c.1 c.2
    obtain ⟨e8, e9, e7⟩ := rX.2.2 x c.1 c.2
    have hf : 0 ≤ d 154 (1356 + 3 * x + 2) ∧ inR (d 154 (1356 + 3 * x + 2)) := ⟨by omega, ⟨by omega, by omega⟩⟩
    have rc : ∀ {Qr : Int → zMem → Prop}, ((w = 2 → Qr (d 154 (1356 + 3 * x + 2) % 20) d) → (w = 3 → Qr (d 154 (1356 + 3 * x + 2) / 20) d) → ((w = 0 ∨ w = 1) → Qr (d 154 (1356 + 3 * x + w)) d) → ((w < 0 ∨ 3 < w) → Qr (-2) d) → Ev g M_X9_oxbow FUL FUL [zR 153, zI x, zI w] d Qr) := by
      intro Qr a2 a3 a1 a0
      apply e_X9_oxbow
      apply s_in hx (by decide) ⟨by omega, by omega⟩
      rw [if_pos (by omega)]
      refine ⟨by decide, fun _ => ⟨by omega, ⟨hw, fun q => ⟨hw, fun q2 => ?_, fun q2 => ⟨hf, a3 q2⟩⟩, fun q => ⟨hf, a2 q⟩⟩⟩, fun z => absurd z (by decide)⟩
      apply s_in hw (by decide) (by decide)
      by_cases c1 : 0 ≤ w ∧ w ≤ 1
      · rw [if_pos c1]
        exact ⟨by decide, fun z => absurd z (by decide), fun _ => ⟨by omega, a1 (by omega)⟩⟩
      · rw [if_neg c1]
        exact ⟨by decide, fun _ => a0 (by omega), fun z => absurd rfl z⟩
    have has : ∀ {Qc : Int → zMem → Prop}, Qc 1 d → Ev g M_X4_has FUL FUL [zR (1 + 5), zI x] d Qc := fun {Qc} h => c_has (Or.inl rfl) rX hX hx (by rw [if_pos c]; exact h)
    refine ⟨by decide, fun _ => ⟨hw, fun q => ?_, fun q => ?_, fun q => ?_, fun q => ?_, fun q => ?_⟩, fun z => absurd z (by decide)⟩
    · exact rc (fun z => by omega) (fun z => by omega) (fun z => by omega) (fun _ => hQ _ d hJ)
    · apply e_X4_sizeOf (Or.inl rfl)
      apply has
      refine ⟨by decide, fun z => absurd z (by decide), fun _ => ⟨by omega, ?_⟩⟩
      refine rc (fun z => by omega) (fun z => by omega) (fun _ => ?_) (fun z => by omega)
      rw [e8, q, Int.add_zero]; exact hQ _ d hJ
    · apply e_X4_yearsOf (Or.inl rfl)
      apply has
      refine ⟨by decide, fun z => absurd z (by decide), fun _ => ⟨by omega, ?_⟩⟩
      refine rc (fun z => by omega) (fun z => by omega) (fun _ => ?_) (fun z => by omega)
      rw [e9, q]; exact hQ _ d hJ
    · apply e_X4_firstCellOf (Or.inl rfl)
      apply has
      refine ⟨by decide, fun z => absurd z (by decide), fun _ => ⟨by omega, ?_⟩⟩
      rw [e7]
      refine ⟨hf, rc (fun _ => hQ _ d hJ) (fun z => by omega) (fun z => by omega) (fun z => by omega)⟩
    · apply e_X4_firstCellOf (Or.inl rfl)
      apply has
      refine ⟨by decide, fun z => absurd z (by decide), fun _ => ⟨by omega, ?_⟩⟩
      rw [e7]
      refine ⟨hf, rc (fun z => by omega) (fun _ => hQ _ d hJ) (fun z => by omega) (fun z => by omega)⟩
  · rw [if_neg c]
    refine ⟨by decide, fun q => absurd rfl q, fun _ => ?_⟩
    apply e_X9_oxbow
    apply s_in hx (by decide) ⟨by omega, by omega⟩
    rw [if_neg (by omega)]
    exact ⟨by decide, fun z => absurd rfl z, fun _ => hQ _ d hJ⟩
end
