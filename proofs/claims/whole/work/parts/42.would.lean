-- what would be
theorem cutRun_len {old : Int} : ∀ (n : Nat) (s : Row), cI s → cutRun old n s 4 ≤ s 4
  | 0, s, h => Int.le_refl _
  | n + 1, s, h => by
    have h1 := (cutStep_cI (old := old) h).1
    have k := cutRun_len (old := old) n _ h1
    show cutRun old n (cutStep old s) 4 ≤ s 4
    by_cases e : ∃ p : Int × Int, wid s old p.1 p.2
    · obtain ⟨p, hp⟩ := e
      have hc := cut_at h.2.1 hp.1.1 h.1.1.2
      have := hp.1.1.2.1
      rw [cutStep_of hp] at k ⊢
      omega
    · have es : cutStep old s = s := by unfold cutStep; rw [dif_neg e]
      rw [es] at k ⊢
      exact k
theorem less_rng {s : Row} (hI : Inv s) (hy : s 1404 ≤ 4000) : 0 ≤ less s ∧ less s ≤ 150 := by
  obtain ⟨pw, pg, pa, pc, pf, o1, o2, o3, o4, o5⟩ := year_parts hI hy
  have h1 := cutRun_len (old := old s) 150 (yAge s) pa
  have h2 := pa.1.1
  have h3 := pc.1.1
  have h1' : yCut s 4 ≤ yAge s 4 := h1
  unfold less
  omega
/-- J, after what a query leaves behind -/
theorem J_q {d d2 d4 : zMem} (hJ : J d) (hc : butP d d2 15) (h128 : inR (d2 120 2)) (r1 : ∀ q, q < 153 → d4 q = d2 q) (r2 : ∀ q, 156 ≤ q → q < 160 → d4 q = d2 q) (r3 : d4 153 3 = d2 153 3) (r7 : d4 153 7 = d2 153 7) (h164 : same (d 154) (d4 154) 0 1407) (w13 : inR (d4 153 13)) (w14 : d4 153 14 = 0 ∨ d4 153 14 = 1) : J d4 := by
  have e163 : d2 153 = d 153 := hc 153 (by omega) (by omega) (by omega) (by omega)
  refine J_keep hJ (fun q hq => ?_) ?_ ?_ ?_ h164 ⟨by rw [r1 120 (by omega)]; exact h128, w13, w14⟩
  · by_cases c : q < 153
    · rw [r1 q c, hc q (by omega) (by omega) (by omega) (by omega)]
    · rw [r2 q (by omega) (by omega), hc q (by omega) (by omega) (by omega) (by omega)]
  · rw [r1 117 (by omega), hc 117 (by omega) (by omega) (by omega) (by omega)]
  · rw [r3, e163]
  · rw [r7, e163]
noncomputable def nc (w : Int) : Nat → Int → Row → Int
  | 0, _, _ => -6
  | n + 1, k, s => @ite Int (less s = 0) (Classical.propDecidable _) (nc w n (k + 1) (f_year s)) (if w = 0 then k else less s)
noncomputable def tkv (c : Int) : Nat → Int → Row → Int
  | 0, _, _ => -6
  | n + 1, k, s => @ite Int (tkn c 0 s = 0) (Classical.propDecidable _) (tkv c n (k + 1) (f_year s)) k
section
variable {g : zGG} {Q : Int → Int → zMem → Prop}
theorem l_cnc {d0 : zMem} {Qc : Int → zMem → Prop} {w : Int} (hw : inR w) (hwr : inR (d0 120 2)) :
    ∀ (n : Nat) (x : Int) (d : zMem) (t : Row), 60 - x = n → 0 ≤ x → butP d0 d 15 → d 120 2 = d0 120 2 → Rel d 15 t → Inv t → t 1404 + n ≤ 4000 → (∀ d', butP d0 d' 15 → d' 120 2 = d0 120 2 → Qc (nc w n x t) d') →
    Fr g (eM g M_X8_nextCut FUL FUL Qc) M_X8_nextCut FUL 25 [some (zR 0), some (zI w), some (zI x)] [] d
  | 0, x, d, t, hn, hx, hd, h128, hR, hI, hy, hQ => by
    apply v_X8_nextCut_25
    exact ⟨⟨by omega, by omega⟩, fun _ => hQ d hd h128, fun q => by omega⟩
  | n + 1, x, d, t, hn, hx, hd, h128, hR, hI, hy, hQ => by
    apply v_X8_nextCut_25
    refine ⟨⟨by omega, by omega⟩, fun q => by omega, fun _ => ?_⟩
    apply c_passYear (Or.inr (Or.inl rfl)) hR hI (by omega) (by rw [h128]; exact hwr)
    intro d1 b1 j1 _ h4 R1
    have p := year_parts hI (by omega)
    have lr := less_rng hI (by omega)
    have hd1 := butP_trans hd b1
    have h1281 : d1 120 2 = d0 120 2 := by rw [j1 2 (by omega) (by omega), h128]
    rw [h4]
    refine ⟨⟨by omega, by omega⟩, fun q => ?_, fun q => ⟨hw, fun q2 => ?_, fun q2 => ?_⟩⟩
    · refine l_cnc hw hwr n (x + 1) d1 _ (by omega) (by omega) hd1 h1281 R1 p.2.2.2.2.1 (by rw [year_1404]; omega) (fun d' k1 k2 => ?_)
      have := hQ d' k1 k2
      unfold nc at this
      rw [if_pos (by omega)] at this
      exact this
    · have := hQ d1 hd1 h1281
      unfold nc at this
      rw [if_neg (by omega), if_neg q2] at this
      exact this
    · have := hQ d1 hd1 h1281
      unfold nc at this
      rw [if_neg (by omega), if_pos q2] at this
      exact this
theorem l_rnc {d0 : zMem} {Qr : Int → zMem → Prop} {w : Int} (hw : inR w) (hwr : inR (d0 153 13)) :
    ∀ (n : Nat) (x : Int) (d : zMem) (t : Row), 60 - x = n → 0 ≤ x → rF d0 d → d 154 = t → (d 153 14 = 0 ∨ d 153 14 = 1) → Inv t → t 1404 + n ≤ 4000 → (∀ d', rF d0 d' → (d' 153 14 = 0 ∨ d' 153 14 = 1) → Ev g M_X9_putBack FUL FUL [zR 153] d' (fun _ d1 => Qr (nc w n x t) d1)) →
    Fr g (eM g M_X9_nextCut FUL FUL Qr) M_X9_nextCut FUL 21 [some (zR 153), some (zI w), some (zI (-6)), some (zI x), none] [] d
  | 0, x, d, t, hn, hx, hd, hr, hfl, hI, hy, hQ => by
    apply v_X9_nextCut_21
    exact ⟨⟨by omega, by omega⟩, fun _ => hQ d hd hfl, fun q => by omega⟩
  | n + 1, x, d, t, hn, hx, hd, hr, hfl, hI, hy, hQ => by
    apply v_X9_nextCut_21
    refine ⟨⟨by omega, by omega⟩, fun q => by omega, fun _ => ⟨by decide, fun q => absurd rfl q, fun _ => ?_⟩⟩
    apply r_goOn hr hI (by omega) (by rw [hd.2 13 (by omega) (by omega) (by omega) (by omega) (by omega)]; exact hwr) hfl
    intro d1 f1 r1 h14
    have p := year_parts hI (by omega)
    have lr := less_rng hI (by omega)
    have hd1 := rF_trans hd f1
    have fl1 : d1 153 14 = 0 ∨ d1 153 14 = 1 := by rw [h14]; exact tkn_01 hfl
    have stop : ∀ v : Int, (0 ≤ v ∧ v ≤ 150) → v = nc w (n + 1) x t → Fr g (eM g M_X9_nextCut FUL FUL Qr) M_X9_nextCut FUL 21 [some (zR 153), some (zI w), some (zI v), some (zI (x + 1)), none] [] d1 := by
      intro v hv e
      have := hQ d1 hd1 fl1
      rw [← e] at this
      apply v_X9_nextCut_21
      exact ⟨⟨by omega, by omega⟩, fun _ => this, fun _ => ⟨⟨by omega, by omega⟩, fun _ => this, fun q => by omega⟩⟩
    refine ⟨⟨by omega, by omega⟩, fun q => ⟨hw, fun q2 => stop _ lr ?_, fun q2 => stop _ (by omega) ?_⟩, fun q => ?_⟩
    · unfold nc
      rw [if_neg q, if_neg q2]
    · unfold nc
      rw [if_neg q, if_pos q2]
    · refine l_rnc hw hwr n (x + 1) d1 _ (by omega) (by omega) hd1 r1 fl1 p.2.2.2.2.1 (by rw [year_1404]; omega) (fun d' k1 k2 => ?_)
      have := hQ d' k1 k2
      unfold nc at this
      rw [if_pos q] at this
      exact this
theorem p_nextCut {d : zMem} {x : Int} (hJ : J d) (hx : inR x) (hQ : ∀ v d', J d' → Q v v d') : Ev g M_X8_nextCut FUL FUL [zR 0, zI x] d (fun v1 d1 => Ev g M_X9_nextCut FUL FUL [zR 153, zI x] d1 (fun v2 d2 => Q v1 v2 d2)) := by
  have hR := hJ.1
  have hy := hR.2.2
  obtain ⟨w1, w2, w3⟩ := hJ.2.2.2.2
  have good : (x = 0 ∨ x = 1) → Ev g M_X7_copyFrom FUL FUL [zR 15, zR 1] d (fun _ d1 => (Fr g (eM g M_X8_nextCut FUL FUL (fun v1 d1 => Ev g M_X9_nextCut FUL FUL [zR 153, zI x] d1 (fun v2 d2 => Q v1 v2 d2))) M_X8_nextCut FUL 25 [some (zR 0), some (zI x), some (zI 0)] [] d1)) := by
    intro hx01
    apply c_copyFrom (Or.inr (Or.inl rfl)) (Or.inl rfl) (by omega) hR.1 hR.2.1
    intro d1 b1 R1
    have b1' : butP d d1 15 := fun q h0 _ _ _ => b1 q h0
    refine l_cnc (d0 := d1) hx (by rw [b1 120 (by omega)]; exact w1) 60 0 d1 (d 154) (by omega) (by omega) (fun _ _ _ _ _ => rfl) rfl R1 hR.2.1 (by omega) ?_
    intro d2 b2 h128
    have hc := butP_trans b1' b2
    have e163 : d2 153 = d 153 := hc 153 (by omega) (by omega) (by omega) (by omega)
    have e164 : d2 154 = d 154 := hc 154 (by omega) (by omega) (by omega) (by omega)
    apply e_X9_nextCut
    apply s_in hx (by decide) (by decide)
    rw [if_pos (by omega)]
    refine ⟨by decide, fun _ => ?_, fun q => absurd q (by decide)⟩
    apply r_putAside
    intro d3 b3 h3
    refine l_rnc (d0 := d3) hx (by rw [b3 153 (by omega), e163]; exact w2) 60 0 d3 (d 154) (by omega) (by omega) rF_rfl (by rw [b3 154 (by omega), e164]) (by rw [b3 153 (by omega), e163]; exact w3) hR.2.1 (by omega) ?_
    intro d4 f4 fl4
    apply r_putBack
    intro d5 b5 h5
    refine hQ _ d5 (J_q hJ hc (by rw [h128, b1 120 (by omega)]; exact w1) (fun q hq => by rw [b5 q (by omega), f4.1 q (by omega), b3 q (by omega)]) (fun q q1 q2 => by rw [b5 q (by omega), f4.1 q (by omega), b3 q (by omega)]) (by rw [b5 153 (by omega), f4.2 3 (by omega) (by omega) (by omega) (by omega) (by omega), b3 153 (by omega)]) (by rw [b5 153 (by omega), f4.2 7 (by omega) (by omega) (by omega) (by omega) (by omega), b3 153 (by omega)]) (fun k k0 k1 => ?_) ?_ ?_)
    · rw [h5 k k0 k1, f4.1 155 (by omega), h3 k k0 k1, e164]
    · rw [b5 153 (by omega), f4.2 13 (by omega) (by omega) (by omega) (by omega) (by omega), b3 153 (by omega), e163]; exact w2
    · rw [b5 153 (by omega)]; exact fl4
  apply e_X8_nextCut
  refine ⟨hx, fun q => good (Or.inl q), fun q => ⟨hx, fun q1 => good (Or.inr q1), fun q1 => ?_⟩⟩
  apply e_X9_nextCut
  apply s_in hx (by decide) (by decide)
  rw [if_neg (by omega)]
  exact ⟨by decide, fun z => absurd rfl z, fun _ => hQ _ d hJ⟩
end
