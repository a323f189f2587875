section
variable {g : zGG} {Q : Int → zMem → Prop} {p : Int → Int} {L : Int}
/-- frames of the reading, by what changes in them -/
abbrev fr72 (g : zGG) (Q : Int → zMem → Prop) (x1 x2 x3 v : Int) (d : zMem) : Prop := Fr g (eM g M_X9_readPad FUL FUL Q) M_X9_readPad FUL 72 [some (zR 153), some (zI x1), some (zI x2), some (zI x3), some (zI v), none, none, none, none, none] [] d
abbrev fr235 (g : zGG) (Q : Int → zMem → Prop) (x1 x2 x3 c w t k : Int) (d : zMem) : Prop := Fr g (eM g M_X9_readPad FUL FUL Q) M_X9_readPad FUL 235 [some (zR 153), some (zI x1), some (zI x2), some (zI x3), some (zI 1), some (zI c), some (zI w), some (zI t), some (zI k), none] [] d
abbrev fB (g : zGG) (Q : Int → zMem → Prop) (x1 x2 x3 c w : Int) (d : zMem) : Prop := Ev g M_X9_isNext FUL FUL [zR 153, zI 50, zI 57] d (fun v d1 => ((inR v) ∧ (v = 0 → fr235 g Q x1 x2 x3 c w 1 0 d1) ∧ (v ≠ 0 → Ev g M_X9_sign FUL FUL [zR 153, zI 50, zI 57] d1 (fun v2 d2 => fr235 g Q x1 x2 x3 c w (v2 - 48) 0 d2))))
/-- cells 153 and 165 aside, all is as it was; of 153 what a telling leaves -/
def rT (d0 d : zMem) : Prop := (∀ q, q ≠ 153 → q ≠ 165 → d q = d0 q) ∧ ∀ j, j ≠ 22 → j ≠ 23 → d 153 j = d0 153 j
theorem rT_rfl {d : zMem} : rT d d := ⟨fun _ _ _ => rfl, fun _ _ _ => rfl⟩
theorem rT_trans {d d1 d2 : zMem} (h : rT d d1) (h2 : rT d1 d2) : rT d d2 := ⟨fun q h0 h1 => by rw [h2.1 q h0 h1, h.1 q h0 h1], fun j h0 h1 => by rw [h2.2 j h0 h1, h.2 j h0 h1]⟩
theorem l_r235 {d0 : zMem} {x1 x2 x3 c w t n a c0 : Int} {ws : Int → Int} (hc0 : 0 ≤ c0 ∧ c0 < 240) (hw : 0 ≤ w ∧ w < 4) (ht : 1 ≤ t ∧ t ≤ 9) (hn : 0 ≤ n ∧ n ≤ 1000) (hws : ∀ k, n ≤ k → k < n + t → ws k = w) (ha : d0 153 19 = a) (har : 0 ≤ a ∧ a ≤ 1000) (hf : d0 153 20 = 0) (hL : d0 153 7 = L) (hLr : 0 ≤ L ∧ L ≤ 64)
    (hE : ∀ d', rT d0 d' → TI d' c0 ws (n + t) → (L ≤ a → fr72 g Q x1 x2 x3 0 d') ∧ (a < L → fr72 g Q x1 x2 x3 1 d')) :
    ∀ (r : Nat) (k : Int) (d : zMem), t - k = r → 0 ≤ k → rT d0 d → TI d c0 ws (n + k) → fr235 g Q x1 x2 x3 c w t k d := by
  intro r
  induction r with
  | zero =>
    intro k d hr hk hd hT
    have e : k = t := by omega
    subst e
    obtain ⟨h1, h2⟩ := hE d hd hT
    apply v_X9_readPad_235
    rw [hd.2 20 (by omega) (by omega), hf, hd.2 19 (by omega) (by omega), ha, hd.2 7 (by omega) (by omega), hL]
    exact ⟨⟨⟨by omega, by omega⟩, ⟨by omega, by omega⟩⟩, fun _ => ⟨by decide, fun z => absurd rfl z, fun _ => ⟨⟨⟨by omega, by omega⟩, ⟨by omega, by omega⟩⟩, h1, h2⟩⟩, fun z => by omega⟩
  | succ r ih =>
    intro k d hr hk hd hT
    have hT' := hT
    obtain ⟨t1, t2, t3, t4⟩ := hT'
    have hfr : inR (d 153 23) := by rcases t2 with e | e <;> rw [e] <;> decide
    have hrow : d 153 23 = 0 → ∀ j, 0 ≤ j → j < n + k + 1 → j < 150 → inR (d 165 j) := fun z j j0 j1 j2 => by
      have := t3 z j.toNat (by omega) (by omega)
      rw [Int.toNat_of_nonneg j0] at this
      rw [this.1]
      have := cel_rng (ws := ws) hc0 j.toNat
      constructor <;> omega
    -- a cell is told, then on
    have tell : ∀ x, inR x → ((d 153 23 = 1 ∨ 150 < n + k + 1) → x = -6) → (d 153 23 = 0 → n + k + 1 ≤ 150 → x = if stp (cel c0 ws (n + k).toNat) w = -1 then -6 else stp (cel c0 ws (n + k).toNat) w) → Ev g M_X9_tell FUL FUL [zR 153, zI x] d (fun _ d1 => fr235 g Q x1 x2 x3 c w t (k + 1) d1) := by
      intro x hx g1 g2
      apply r_tell hx t1 ⟨by omega, by omega⟩ t2 hrow
      intro d1 b1 j1 e22 e1 e0
      refine ih (k + 1) d1 (by omega) (by omega) (rT_trans hd ⟨b1, j1⟩) ?_
      rw [show n + (k + 1) = n + k + 1 by omega]
      exact TI_next (by omega) hT (fun _ _ _ => rfl) (hws (n + k) (by omega) (by omega)) g1 g2 e22 e1 e0
    apply v_X9_readPad_235
    rw [hd.2 20 (by omega) (by omega), hf, t1]
    refine ⟨⟨⟨by omega, by omega⟩, ⟨by omega, by omega⟩⟩, fun z => by omega, fun _ => ⟨by decide, fun z => absurd rfl z, fun _ => ⟨hfr, fun z => ?_, fun z => ⟨⟨by omega, by omega⟩, fun q => ⟨⟨by omega, by omega⟩, ?_⟩, fun q => ?_⟩⟩⟩⟩
    · exact tell (-6) (by decide) (fun _ => rfl) (fun y _ => absurd y z)
    · have hc := t3 z (n + k).toNat (by omega) (by omega)
      rw [Int.toNat_of_nonneg (by omega)] at hc
      have cr := cel_rng (ws := ws) hc0 (n + k).toNat
      rw [show n + k + 1 - 1 = n + k by omega, hc.1]
      have hcr : 0 ≤ cel c0 ws (n + k).toNat ∧ cel c0 ws (n + k).toNat < 240 := ⟨by have := hc.2; omega, cr.2⟩
      have sr := stp_range (cel c0 ws (n + k).toNat) w
      apply s_stepped hcr hw
      refine tell _ ?_ (fun y => by omega) (fun _ _ => rfl)
      split <;> constructor <;> omega
    · exact tell (-6) (by decide) (fun _ => rfl) (fun _ y => by omega)
/-- once wrong, the reading ends -/
theorem r_wrong {d : zMem} {x1 x2 x3 c w a : Int} (hT : TR d p L) (hP : PT p L) (ha : d 153 19 = a) (hf : d 153 20 = 1) (har : 0 ≤ a ∧ a ≤ 1000) (hQ : Q 0 d) : fB g Q x1 x2 x3 c w d := by
  apply r_isNext hT hP ha hf har (Or.inr rfl) (by decide) (by decide)
  · intro z; exact absurd z (by decide)
  · intro _
    refine ⟨by decide, fun _ => ?_, fun z => absurd rfl z⟩
    have fin : fr72 g Q x1 x2 x3 0 d := by
      apply v_X9_readPad_72
      exact ⟨by decide, fun _ => hQ, fun z => absurd rfl z⟩
    apply v_X9_readPad_235
    rw [hf]
    exact ⟨⟨by decide, by decide⟩, fun z => by omega, fun _ => ⟨by decide, fun _ => ⟨by decide, fun _ => fin, fun z => absurd z (by decide)⟩, fun z => absurd z (by decide)⟩⟩
/-- the reading stands behind the steps q -/
def SR (d0 d : zMem) (c0 : Int) (q : TS) : Prop := (∀ c, c ≠ 153 → c ≠ 165 → d c = d0 c) ∧ (∀ j, j ≠ 19 → j ≠ 20 → j ≠ 22 → j ≠ 23 → d 153 j = d0 153 j) ∧ d 153 19 = q.1 ∧ d 153 20 = 0 ∧ TI d c0 q.2.2 q.2.1
def SW (d0 d : zMem) (a : Int) : Prop := (∀ c, c ≠ 153 → c ≠ 165 → d c = d0 c) ∧ (∀ j, j ≠ 19 → j ≠ 20 → j ≠ 22 → j ≠ 23 → d 153 j = d0 153 j) ∧ d 153 19 = a ∧ d 153 20 = 1
theorem lad {B : Int → Prop} {c : Int} (hc : inR c) (h3 : c ≠ 114 → c ≠ 117 → c ≠ 108 → B 3) (h2 : c = 108 → B 2) (h1 : c = 117 → B 1) (h0 : c = 114 → B 0) : ((inR c) ∧ (c ≠ 114 → ((inR c) ∧ (c ≠ 117 → ((inR c) ∧ (c ≠ 108 → B 3) ∧ (c = 108 → B 2))) ∧ (c = 117 → B 1))) ∧ (c = 114 → B 0)) :=
  ⟨hc, fun q => ⟨hc, fun q1 => ⟨hc, fun q2 => h3 q q1 q2, h2⟩, h1⟩, h0⟩
theorem l_r72 {d0 : zMem} {x1 x2 x3 c0 : Int} (hT : TR d0 p L) (hP : PT p L) (hc0 : 0 ≤ c0 ∧ c0 < 240) : ∀ (m : Nat) (q : TS) (d : zMem), L - q.1 < m → tI L q → (q.1 < L ∨ q.2.1 = 0) → SR d0 d c0 q →
    ((tRun p L m q).1 = 0 → ∀ d', SW d0 d' (tRun p L m q).2.1 → Q 0 d') → ((tRun p L m q).1 ≠ 0 → ∀ d', SR d0 d' c0 (tRun p L m q).2 → Q 0 d') → fr72 g Q x1 x2 x3 1 d := by
  intro m
  induction m with
  | zero =>
    intro q d hm hI
    have := hI.1
    omega
  | succ m ih =>
    intro q d hm hI hlt hS hW hR
    have hI' := hI
    obtain ⟨⟨a1, a2⟩, ⟨b1, b2⟩, c⟩ := hI'
    have hL := hP.1
    obtain ⟨s1, s2, s3, s4, s5⟩ := hS
    have T : TR d p L := ⟨by rw [s2 7 (by omega) (by omega) (by omega) (by omega)]; exact hT.1, fun k k0 k1 => by rw [s1 159 (by omega) (by omega)]; exact hT.2 k k0 k1⟩
    -- wrong here
    have wrong : ((tRun p L (m + 1) q).1 = 0 ∧ (tRun p L (m + 1) q).2.1 = q.1) → ∀ (c w : Int) (d5 d6 : zMem), d5 = mu d 153 20 1 → d6 = mu d5 153 19 (q.1 + 0) → fB g Q x1 x2 x3 c w d6 := by
      intro hr c w d5 d6 e5 e6
      have r6 : rAt d d6 q.1 1 := ⟨fun z hz => by rw [e6, mu_ne hz, e5, mu_ne hz], fun j j0 j1 => by rw [e6, mu_ni j0, e5, mu_ni j1], by rw [e6, mu_get, Int.add_zero], by rw [e6, mu_ni (by omega), e5, mu_get]⟩
      refine r_wrong (TR_rAt T r6) hP r6.2.2.1 r6.2.2.2 ⟨by omega, by omega⟩ (hW hr.1 d6 ?_)
      rw [hr.2]
      exact ⟨fun z z0 z1 => by rw [r6.1 z z0, s1 z z0 z1], fun j j0 j1 j2 j3 => by rw [r6.2.1 j j0 j1, s2 j j0 j1 j2 j3], r6.2.2.1, r6.2.2.2⟩
    apply v_X9_readPad_72
    rw [s3, s4, T.1]
    by_cases hl : L ≤ q.1
    · have n0 : q.2.1 = 0 := by omega
      have hr : (tRun p L (m + 1) q).1 = 0 ∧ (tRun p L (m + 1) q).2.1 = q.1 := by
        rw [tRun_end hl, n0]
        exact ⟨rfl, rfl⟩
      exact ⟨by decide, fun z => absurd z (by decide), fun _ => ⟨⟨⟨by omega, by omega⟩, ⟨by omega, by omega⟩⟩, fun _ => ⟨by decide, fun z => absurd rfl z, fun _ d5 e5 d6 e6 => wrong hr _ _ d5 d6 e5 e6⟩, fun z => by omega⟩⟩
    · have hin : q.1 < L := by omega
      have cr := chr_rng hP a1
      have ec : d 159 q.1 = chr p L q.1 := by unfold chr; rw [if_pos hin, T.2 _ a1 hin]
      rw [ec]
      have hci : inR (chr p L q.1) := by constructor <;> omega
      -- right: the steps of one letter
      have right : wyc p L q.1 ≠ -1 → ∀ (c : Int) (d5 d6 : zMem), d5 = mu d 153 20 0 → d6 = mu d5 153 19 (q.1 + 1) → fB g Q x1 x2 x3 c (wyc p L q.1) d6 := by
        intro hw c d5 d6 e5 e6
        rw [tRun_on hl hw] at hW hR
        have i2 := tI_next hP hI hin hw
        have E1 : (tNext p L q).1 = if 2 ≤ dgt p L (q.1 + 1) then q.1 + 2 else q.1 + 1 := rfl
        have E2 : (tNext p L q).2.1 = q.2.1 + tmz p L q.1 := rfl
        have E3 : ∀ k, (tNext p L q).2.2 k = if q.2.1 ≤ k ∧ k < q.2.1 + tmz p L q.1 then wyc p L q.1 else q.2.2 k := fun _ => rfl
        have tr := tmz_rng p L q.1
        have et : tmz p L q.1 = if 2 ≤ dgt p L (q.1 + 1) then dgt p L (q.1 + 1) else 1 := rfl
        have wr := wyc_rng p L q.1
        have r6 : rAt d d6 (q.1 + 1) 0 := ⟨fun z hz => by rw [e6, mu_ne hz, e5, mu_ne hz], fun j j0 j1 => by rw [e6, mu_ni j0, e5, mu_ni j1], by rw [e6, mu_get], by rw [e6, mu_ni (by omega), e5, mu_get]⟩
        have T6 := TR_rAt T r6
        have go : ∀ d7 : zMem, rAt d d7 (tNext p L q).1 0 → fr235 g Q x1 x2 x3 c (wyc p L q.1) (tmz p L q.1) 0 d7 := by
          intro d7 r7
          have T7 := TR_rAt T r7
          have i1 := i2.1
          refine l_r235 (d0 := d7) (n := q.2.1) (ws := (tNext p L q).2.2) hc0 ⟨by omega, wr.2⟩ tr ⟨by omega, by omega⟩ (fun k k0 k1 => by rw [E3, if_pos ⟨k0, k1⟩]) r7.2.2.1 ⟨by omega, by omega⟩ r7.2.2.2 T7.1 hL (fun d' hd' hTI => ?_) (tmz p L q.1).toNat 0 d7 (by omega) (by omega) rT_rfl ?_
          · have hS' : SR d0 d' c0 (tNext p L q) := ⟨fun z z0 z1 => by rw [hd'.1 z z0 z1, r7.1 z z0, s1 z z0 z1], fun j j0 j1 j2 j3 => by rw [hd'.2 j j2 j3, r7.2.1 j j0 j1, s2 j j0 j1 j2 j3], by rw [hd'.2 19 (by omega) (by omega)]; exact r7.2.2.1, by rw [hd'.2 20 (by omega) (by omega)]; exact r7.2.2.2, by rw [E2]; exact hTI⟩
            refine ⟨fun hge => ?_, fun hlt' => ih _ d' ?_ i2 (Or.inl hlt') hS' hW hR⟩
            · apply v_X9_readPad_72
              refine ⟨by decide, fun _ => ?_, fun z => absurd rfl z⟩
              have hm0 : 0 < m := by
                rw [E1] at hge
                omega
              obtain ⟨m', rfl⟩ : ∃ m', m = m' + 1 := ⟨m - 1, by omega⟩
              rw [tRun_end hge] at hR
              have hpos : 0 < (tNext p L q).2.1 := by rw [E2]; omega
              rw [if_pos hpos] at hR
              exact hR (by show (1 : Int) ≠ 0; decide) d' hS'
            · rw [E1]
              split <;> omega
          · rw [Int.add_zero]
            exact TI_keep s5 (fun j hj => by rcases hj with z | z <;> rw [z] <;> exact r7.2.1 _ (by omega) (by omega)) (r7.1 165 (by omega)) (fun j j0 j1 => by rw [E3, if_neg (by omega)])
        have dr := dgt_rng p L (q.1 + 1)
        apply r_isNext T6 hP r6.2.2.1 r6.2.2.2 ⟨by omega, by omega⟩ (Or.inl rfl) (by decide) (by decide)
        · intro _ k1 k2
          have h2 : 2 ≤ dgt p L (q.1 + 1) := by omega
          rw [if_pos h2] at E1 et
          refine ⟨by decide, fun z => absurd z (by decide), fun _ => ?_⟩
          apply r_sign T6 hP r6.2.2.1 r6.2.2.2 ⟨by omega, by omega⟩ (Or.inl rfl) (by decide) (by decide)
          · intro _ _ _ d7 u7
            have := go d7 (by rw [E1, show q.1 + 2 = q.1 + 1 + 1 by omega]; exact rAt_trans r6 u7)
            rw [et] at this
            rw [show chr p L (q.1 + 1) - 48 = dgt p L (q.1 + 1) by omega]
            exact this
          · intro z
            exact absurd ⟨rfl, k1, k2⟩ z
        · intro z
          have h2 : ¬ 2 ≤ dgt p L (q.1 + 1) := fun y => z ⟨rfl, by omega, by omega⟩
          rw [if_neg h2] at E1 et
          refine ⟨by decide, fun _ => ?_, fun y => absurd rfl y⟩
          have := go d6 (by rw [E1]; exact r6)
          rw [et] at this
          exact this
      have hwy : wyc p L q.1 = if chr p L q.1 = 114 then 0 else if chr p L q.1 = 117 then 1 else if chr p L q.1 = 108 then 2 else if chr p L q.1 = 100 then 3 else -1 := rfl
      generalize hch : chr p L q.1 = ch at *
      generalize hwv : wyc p L q.1 = wv at *
      have R : ∀ w, wv = w → w ≠ -1 → ∀ d5, d5 = mu d 153 20 0 → ∀ d6, d6 = mu d5 153 19 (q.1 + 1) → fB g Q x1 x2 x3 ch w d6 := fun w hw hne d5 e5 d6 e6 => by
        subst hw
        exact right hne ch d5 d6 e5 e6
      have W : wv = -1 → ∀ w, ∀ d5, d5 = mu d 153 20 1 → ∀ d6, d6 = mu d5 153 19 (q.1 + 0) → fB g Q x1 x2 x3 ch w d6 := fun hw w d5 e5 d6 e6 => by
        have hr : (tRun p L (m + 1) q).1 = 0 ∧ (tRun p L (m + 1) q).2.1 = q.1 := by
          rw [tRun_bad hl (by rw [hwv, hw])]
          exact ⟨rfl, rfl⟩
        exact wrong hr ch w d5 d6 e5 e6
      refine ⟨by decide, fun z => absurd z (by decide), fun _ => ⟨⟨⟨by omega, by omega⟩, ⟨by omega, by omega⟩⟩, fun z => by omega, fun _ => ⟨⟨by omega, by omega⟩, ⟨by decide, fun z => absurd rfl z, fun _ => ⟨hci, fun q1 d5 e5 d6 e6 => ?_, fun q1 => ⟨hci, fun q2 d5 e5 d6 e6 => ?_, fun q2 => ⟨hci, fun q3 d5 e5 d6 e6 => ?_, fun q3 => ⟨hci, fun q4 d5 e5 d6 e6 => ?_, fun q4 d5 e5 d6 e6 => ?_⟩⟩⟩⟩⟩⟩⟩⟩
      · rw [if_pos q1] at hwy
        exact lad (B := fun w => fB g Q x1 x2 x3 ch w d6) hci (fun z => absurd q1 z) (fun z => by omega) (fun z => by omega) (fun _ => R 0 hwy (by decide) d5 e5 d6 e6)
      · rw [if_neg q1, if_pos q2] at hwy
        exact lad (B := fun w => fB g Q x1 x2 x3 ch w d6) hci (fun _ z => absurd q2 z) (fun z => by omega) (fun _ => R 1 hwy (by decide) d5 e5 d6 e6) (fun z => absurd z q1)
      · rw [if_neg q1, if_neg q2, if_pos q3] at hwy
        exact lad (B := fun w => fB g Q x1 x2 x3 ch w d6) hci (fun _ _ z => absurd q3 z) (fun _ => R 2 hwy (by decide) d5 e5 d6 e6) (fun z => absurd z q2) (fun z => absurd z q1)
      · rw [if_neg q1, if_neg q2, if_neg q3, if_pos q4] at hwy
        exact lad (B := fun w => fB g Q x1 x2 x3 ch w d6) hci (fun _ _ _ => R 3 hwy (by decide) d5 e5 d6 e6) (fun z => absurd z q3) (fun z => absurd z q2) (fun z => absurd z q1)
      · rw [if_neg q1, if_neg q2, if_neg q3, if_neg q4] at hwy
        exact lad (B := fun w => fB g Q x1 x2 x3 ch w d6) hci (fun _ _ _ => W hwy 3 d5 e5 d6 e6) (fun z => absurd z q3) (fun z => absurd z q2) (fun z => absurd z q1)
end
