def JS (d : zMem) : Prop := ∀ z, 0 ≤ z → z < 2 → d 30 z = d 158 z ∧ (d 158 z = 0 ∨ d 158 z = 1) ∧ (d 158 z = 1 → River d (125 + 14 * z.toNat) (fun k => d 157 (1407 * z + k)))
def JP (d : zMem) : Prop := d 117 2 = d 153 7 ∧ (0 ≤ d 153 7 ∧ d 153 7 ≤ 64) ∧ ∀ k, 0 ≤ k → k < d 153 7 → d 118 k = d 159 k ∧ 33 ≤ d 159 k ∧ d 159 k ≤ 126
def JW (d : zMem) : Prop := inR (d 120 2) ∧ inR (d 153 13) ∧ (d 153 14 = 0 ∨ d 153 14 = 1)
/-- class and reference hold the same -/
def J (d : zMem) : Prop := River d 1 (d 154) ∧ JH d (d 31 1) (d 153 3) (bRow d) ∧ JS d ∧ JP d ∧ JW d
theorem JS_keep {d d' : zMem} (h : JS d) (h32 : d' 30 = d 30) (h7 : d' 157 = d 157) (h8 : d' 158 = d 158) (hb : ∀ q, 125 ≤ q → q < 153 → d' q = d q) : JS d' := by
  intro z q1 q2
  obtain ⟨a1, a2, a3⟩ := h z q1 q2
  rw [h32, h8, h7]
  exact ⟨a1, a2, fun e => River_keep (a3 e) (fun q k1 k2 => hb q (by omega) (by omega))⟩
theorem JP_keep {d d' : zMem} (h : JP d) (h125 : d' 117 2 = d 117 2) (h126 : d' 118 = d 118) (h7 : d' 153 7 = d 153 7) (h9 : d' 159 = d 159) : JP d' := by
  unfold JP
  rw [h125, h126, h7, h9]
  exact h
theorem J_keep {d d' : zMem} (h : J d) (hb : ∀ q, ((1 ≤ q ∧ q < 15) ∨ (30 ≤ q ∧ q < 117) ∨ q = 118 ∨ (125 ≤ q ∧ q < 153) ∨ (156 ≤ q ∧ q < 160)) → d' q = d q) (h125 : d' 117 2 = d 117 2) (h3 : d' 153 3 = d 153 3) (h7 : d' 153 7 = d 153 7) (h164 : same (d 154) (d' 154) 0 1407) (hw : JW d') : J d' := by
  obtain ⟨j1, j2, j3, j4, j5⟩ := h
  refine ⟨River_same h164 (River_keep j1 (fun q q1 q2 => hb q (by omega))), ?_, JS_keep j3 (hb _ (by omega)) (hb _ (by omega)) (hb _ (by omega)) (fun q q1 q2 => hb q (by omega)), JP_keep j4 h125 (hb _ (by omega)) h7 (hb _ (by omega)), hw⟩
  have e : bRow d' = bRow d := by unfold bRow; rw [hb 156 (by omega)]
  rw [h3, e, hb 31 (by omega)]
  exact JH_keep j2 (hb 31 (by omega)) (fun q q1 q2 => hb q (by omega))
theorem J_new {d d2 d4 : zMem} {s' : Row} {st : Int} (h : J d) (c1 : ∀ q, (q = 30 ∨ q = 118 ∨ (125 ≤ q ∧ q < 153)) → d2 q = d q) (c125 : d2 117 2 = d 117 2) (cH : JH d2 st (min (d 153 3 + 1) 6) (kRow (d 153 3) (bRow d) (d 154))) (cR : Rel d2 1 s') (hI : Inv s') (hy : s' 1404 ≤ 999)
    (r1 : ∀ q, q < 153 → d4 q = d2 q) (r3 : d4 153 3 = min (d 153 3 + 1) 6) (r7 : d4 153 7 = d 153 7) (ro : ∀ q, (q = 157 ∨ q = 158 ∨ q = 159) → d4 q = d q) (rb : ∀ t, 0 ≤ t → t < min (d 153 3 + 1) 6 → same (kRow (d 153 3) (bRow d) (d 154) t) (bRow d4 t) 0 1407) (r164 : same s' (d4 154) 0 1407) (hw : JW d4) : J d4 := by
  obtain ⟨j1, j2, j3, j4, j5⟩ := h
  refine ⟨River_same r164 (River_keep (⟨cR, hI, hy⟩ : River d2 1 s') (fun q q1 q2 => r1 q (by omega))), ?_, JS_keep j3 (by rw [r1 _ (by omega), c1 _ (by omega)]) (ro _ (by omega)) (ro _ (by omega)) (fun q q1 q2 => by rw [r1 _ (by omega), c1 _ (by omega)]), JP_keep j4 (by rw [r1 _ (by omega), c125]) (by rw [r1 _ (by omega), c1 _ (by omega)]) r7 (ro _ (by omega)), hw⟩
  have e33 : d4 31 1 = st := by rw [r1 _ (by omega)]; exact cH.2.2.1
  rw [r3, e33]
  exact JH_same (JH_keep cH (r1 _ (by omega)) (fun q q1 q2 => r1 q (by omega))) rb
section
variable {g : zGG} {Q : Int → Int → zMem → Prop}
/-- a change: the class remembers and changes its river, then the reference knows and changes its row -/
theorem p_new {d : zMem} (hJ : J d) {Qc : Int → zMem → Prop} (hQ : ∀ d1 st, (∀ q, q ≠ 31 → (q < 33 ∨ 117 ≤ q) → d1 q = d q) → JH d1 st (min (d 153 3 + 1) 6) (kRow (d 153 3) (bRow d) (d 154)) → Rel d1 1 (d 154) → Qc 0 d1) : Ev g M_X2_remember FUL FUL [zR 31, zR 1] d Qc := by
  obtain ⟨j1, j2, j3, j4, j5⟩ := hJ
  apply c_remember j2 j1
  intro d1 h1 h2
  exact hQ d1 _ h1 h2 (Rel_keep j1.1 j1.2.1 (fun q q1 q2 => h1 q (by omega) (by omega)))
/-- what of J a class's change of its river keeps, all told -/
def cCh (d d2 : zMem) (s' : Row) : Prop := (∀ q, (q = 30 ∨ q = 118 ∨ (125 ≤ q ∧ q < 153) ∨ 153 ≤ q) → d2 q = d q) ∧ (d2 117 2 = d 117 2 ∧ d2 120 2 = d 120 2) ∧ (∃ st, JH d2 st (min (d 153 3 + 1) 6) (kRow (d 153 3) (bRow d) (d 154))) ∧ Rel d2 1 s'
theorem cCh_of {d d1 d2 : zMem} {s' : Row} {st : Int} (h1 : ∀ q, q ≠ 31 → (q < 33 ∨ 117 ≤ q) → d1 q = d q) (h2 : JH d1 st (min (d 153 3 + 1) 6) (kRow (d 153 3) (bRow d) (d 154))) (hb : butR d1 d2 1) (hR : Rel d2 1 s') : cCh d d2 s' :=
  ⟨fun q hq => by rw [hb q (by omega), h1 q (by omega) (by omega)], ⟨by rw [hb 117 (by omega), h1 117 (by omega) (by omega)], by rw [hb 120 (by omega), h1 120 (by omega) (by omega)]⟩, ⟨st, JH_keep h2 (hb 31 (by omega)) (fun q q1 q2 => hb q (by omega))⟩, hR⟩
theorem cCh_ofP {d d1 d2 : zMem} {s' : Row} {st : Int} (h1 : ∀ q, q ≠ 31 → (q < 33 ∨ 117 ≤ q) → d1 q = d q) (h2 : JH d1 st (min (d 153 3 + 1) 6) (kRow (d 153 3) (bRow d) (d 154))) (hb : butP d1 d2 1) (h128 : d2 120 2 = d1 120 2) (hR : Rel d2 1 s') : cCh d d2 s' :=
  ⟨fun q hq => by rw [hb q (by omega) (by omega) (by omega) (by omega), h1 q (by omega) (by omega)], ⟨by rw [hb 117 (by omega) (by omega) (by omega) (by omega), h1 117 (by omega) (by omega)], by rw [h128, h1 120 (by omega) (by omega)]⟩, ⟨st, JH_keep h2 (hb 31 (by omega) (by omega) (by omega) (by omega)) (fun q q1 q2 => hb q (by omega) (by omega) (by omega) (by omega))⟩, hR⟩
theorem rn_know {d d2 : zMem} {s' : Row} {Qr : Int → zMem → Prop} (hJ : J d) (hC : cCh d d2 s') (hQ : ∀ d3, (∀ q, q ≠ 153 → q ≠ 156 → d3 q = d2 q) → (∀ j, j ≠ 3 → d3 153 j = d2 153 j) → d3 153 3 = min (d 153 3 + 1) 6 → (∀ t, 0 ≤ t → t < min (d 153 3 + 1) 6 → same (kRow (d 153 3) (bRow d) (d 154) t) (bRow d3 t) 0 1407) → Qr 0 d3) : Ev g M_X9_know FUL FUL [zR 153] d2 Qr := by
  obtain ⟨c1, c2, c3, c4⟩ := hC
  have e3 : d2 153 3 = d 153 3 := by rw [c1 153 (by omega)]
  apply r_know (n := d 153 3) hJ.2.1.2.1 e3
  intro d3 k1 k2 k3 k4
  refine hQ d3 k1 k2 k3 ?_
  have e : bRow d2 = bRow d := by unfold bRow; rw [c1 156 (by omega)]
  rw [e, c1 154 (by omega)] at k4
  exact k4
/-- the end of a change -/
theorem J_ch {d d2 d3 d4 : zMem} {s' : Row} (hJ : J d) (hC : cCh d d2 s') (hI : Inv s') (hy : s' 1404 ≤ 999) (k1 : ∀ q, q ≠ 153 → q ≠ 156 → d3 q = d2 q) (k2 : ∀ j, j ≠ 3 → d3 153 j = d2 153 j) (k3 : d3 153 3 = min (d 153 3 + 1) 6) (k4 : ∀ t, 0 ≤ t → t < min (d 153 3 + 1) 6 → same (kRow (d 153 3) (bRow d) (d 154) t) (bRow d3 t) 0 1407) (hb : rF d3 d4) (h164 : same s' (d4 154) 0 1407) (h14 : d4 153 14 = 0 ∨ d4 153 14 = 1) : J d4 := by
  have hJ' := hJ
  obtain ⟨c1, c2, ⟨st, c3⟩, c4⟩ := hC
  obtain ⟨j1, j2, j3, j4, w1, w2, w3⟩ := hJ'
  have e163 : ∀ j, j ≠ 3 → j ≠ 11 → j ≠ 14 → j ≠ 15 → j ≠ 16 → j ≠ 17 → d4 153 j = d 153 j := fun j a1 a2 a3 a4 a5 a6 => by rw [hb.2 j a2 a3 a4 a5 a6, k2 j a1, c1 153 (by omega)]
  refine J_new hJ (fun q hq => c1 q (by omega)) c2.1 c3 c4 hI hy (fun q hq => by rw [hb.1 q (by omega), k1 q (by omega) (by omega)]) (by rw [hb.2 3 (by omega) (by omega) (by omega) (by omega) (by omega), k3]) (e163 7 (by omega) (by omega) (by omega) (by omega) (by omega) (by omega)) (fun q hq => by rw [hb.1 q (by omega), k1 q (by omega) (by omega), c1 q (by omega)]) (fun t q1 q2 => ?_) h164 ⟨by rw [hb.1 120 (by omega), k1 120 (by omega) (by omega), c2.2]; exact w1, by rw [e163 13 (by omega) (by omega) (by omega) (by omega) (by omega) (by omega)]; exact w2, h14⟩
  have e : bRow d4 = bRow d3 := by unfold bRow; rw [hb.1 156 (by omega)]
  rw [e]
  exact k4 t q1 q2
-- set
theorem set_Inv {s : Row} {x v : Int} (hI : Inv s) (hx : 0 ≤ x ∧ x < 4) (hv : 1 ≤ v ∧ v ≤ f2 x.toNat) : Inv (ru s x v) := by
  obtain ⟨hs, hX, hY, hW, hS, hF⟩ := hI
  refine ⟨crs_same (fun k q1 q2 => ru_ne (by omega)) hs, IX_same (fun k q1 q2 => ru_ne (by omega)) hX, IY_same (fun k q1 q2 => ru_ne (by omega)) hX hY, IW_same (fun k q1 q2 => ru_ne (by omega)) (ru_ne (by omega)) hW, ?_, IF_same (fun k q1 q2 => ru_ne (by omega)) hF⟩
  obtain ⟨s0, s1, s2, s3⟩ := hS
  have : x = 0 ∨ x = 1 ∨ x = 2 ∨ x = 3 := by omega
  rcases this with rfl | rfl | rfl | rfl
  · have hv' : 1 ≤ v ∧ v ≤ 9 := hv
    exact ⟨by rw [ru_at]; exact hv', by rw [ru_ne (by omega)]; exact s1, by rw [ru_ne (by omega)]; exact s2, by rw [ru_ne (by omega)]; exact s3⟩
  · have hv' : 1 ≤ v ∧ v ≤ 60 := hv
    exact ⟨by rw [ru_ne (by omega)]; exact s0, by rw [ru_at]; exact hv', by rw [ru_ne (by omega)]; exact s2, by rw [ru_ne (by omega)]; exact s3⟩
  · have hv' : 1 ≤ v ∧ v ≤ 20 := hv
    exact ⟨by rw [ru_ne (by omega)]; exact s0, by rw [ru_ne (by omega)]; exact s1, by rw [ru_at]; exact hv', by rw [ru_ne (by omega)]; exact s3⟩
  · have hv' : 1 ≤ v ∧ v ≤ 50 := hv
    exact ⟨by rw [ru_ne (by omega)]; exact s0, by rw [ru_ne (by omega)]; exact s1, by rw [ru_ne (by omega)]; exact s2, by rw [ru_at]; exact hv'⟩
/-- one place of the row is changed -/
theorem mu164 {d : zMem} {i v : Int} : mu d 154 i v 154 = ru (d 154) i v := by
  funext p
  rw [mu_app, if_pos rfl]
  rfl
theorem r_set {d : zMem} {Qr : Int → zMem → Prop} {x y : Int} (hx : inR x) (hy : inR y) (h0 : ¬ ((0 ≤ x ∧ x ≤ 3) ∧ (1 ≤ y ∧ y ≤ f2 x.toNat)) → Qr (-2) d) (h1 : (0 ≤ x ∧ x ≤ 3) → (1 ≤ y ∧ y ≤ f2 x.toNat) → Ev g M_X9_know FUL FUL [zR 153] d (fun _ d3 => (0 ≤ (0 + x) ∧ (0 + x) < 1407) ∧ (0 ≤ (0 + x) ∧ (0 + x) < 1407) ∧ ∀ d4, d4 = mu d3 154 (0 + x) y → Qr (d3 154 (0 + x)) d4)) : Ev g M_X9_set FUL FUL [zR 153, zI x, zI y] d Qr := by
  have tail : ∀ m : Int, inR m → ((0 ≤ x ∧ x ≤ 3) → f2 x.toNat = m) → Ev g M_X9_in FUL FUL [zI x, zI 0, zI 3] d (fun v7 d13 => ((inR v7) ∧ (v7 = 0 → Qr (-2) d13) ∧ (v7 ≠ 0 → Ev g M_X9_in FUL FUL [zI y, zI 1, zI m] d13 (fun v8 d14 => ((inR v8) ∧ (v8 ≠ 0 → Ev g M_X9_know FUL FUL [zR 153] d14 (fun _ d15 => (0 ≤ (0 + x) ∧ (0 + x) < 1407) ∧ (0 ≤ (0 + x) ∧ (0 + x) < 1407) ∧ ∀ d16, d16 = mu d15 154 (0 + x) y → Qr (d15 154 (0 + x)) d16)) ∧ (v8 = 0 → Qr (-2) d14)))))) := by
    intro m hm hf
    apply s_in hx (by decide) (by decide)
    by_cases c : 0 ≤ x ∧ x ≤ 3
    · rw [if_pos c]
      refine ⟨by decide, fun q => absurd q (by decide), fun _ => ?_⟩
      apply s_in hy (by decide) hm
      by_cases c2 : 1 ≤ y ∧ y ≤ m
      · rw [if_pos c2]
        exact ⟨by decide, fun _ => h1 c (by rw [hf c]; exact c2), fun q => absurd q (by decide)⟩
      · rw [if_neg c2]
        exact ⟨by decide, fun q => absurd rfl q, fun _ => h0 (fun z => c2 (by rw [← hf c]; exact z.2))⟩
    · rw [if_neg c]
      exact ⟨by decide, fun _ => h0 (fun z => c z.1), fun q => absurd rfl q⟩
  apply e_X9_set
  refine ⟨hx, fun q => ⟨hx, fun q1 => ⟨hx, fun q2 => tail 50 (by decide) (fun c => ?_), fun q2 => tail 20 (by decide) (fun c => by rw [q2]; rfl)⟩, fun q1 => tail 60 (by decide) (fun c => by rw [q1]; rfl)⟩, fun q => tail 9 (by decide) (fun c => by rw [q]; rfl)⟩
  rw [show x = 3 by omega]; rfl
theorem same_rfl {s : Row} {lo hi : Int} : same s s lo hi := fun _ _ _ => rfl
theorem f2_bd (n : Nat) : 1 ≤ f2 n ∧ f2 n ≤ 60 := by
  unfold f2
  split <;> decide
theorem p_set {d : zMem} {x y : Int} (hJ : J d) (hx : inR x) (hy : inR y) (hQ : ∀ v d', J d' → Q v v d') : Ev g M_X8_set FUL FUL [zR 0, zI x, zI y] d (fun v1 d1 => Ev g M_X9_set FUL FUL [zR 153, zI x, zI y] d1 (fun v2 d2 => Q v1 v2 d2)) := by
  have hR := hJ.1
  have hf2 := f2_bd x.toNat
  have bad : ¬ ((0 ≤ x ∧ x ≤ 3) ∧ (1 ≤ y ∧ y ≤ f2 x.toNat)) → Ev g M_X9_set FUL FUL [zR 153, zI x, zI y] d (fun v2 d2 => Q (-2) v2 d2) := fun c => r_set hx hy (fun _ => hQ _ d hJ) (fun c1 c2 => absurd ⟨c1, c2⟩ c)
  apply e_X8_set
  refine ⟨hx, fun q => bad (by omega), fun q => ⟨hx, fun q1 => ⟨hy, fun q2 => bad (by omega), fun q2 => ⟨⟨q, q1⟩, ⟨⟨hy, ⟨by omega, by omega⟩⟩, fun q3 => ?_, fun q3 => bad (by omega)⟩⟩⟩, fun q1 => bad (by omega)⟩⟩
  apply p_new hJ
  intro d1 st h1 h2 h3
  apply c_setting (Or.inl rfl) h3.1 ⟨q, q1⟩
  apply e_X7_changeSetting (Or.inl rfl)
  refine ⟨hx, fun z => by omega, fun _ => ⟨hx, fun z => by omega, fun _ => ⟨⟨q, q1⟩, fun d2 hd2 => ?_⟩⟩⟩
  have hI2 := set_Inv hR.2.1 ⟨q, q1⟩ ⟨q2, q3⟩
  have hC : cCh d d2 (ru (d 154) x y) := by
    refine cCh_of h1 h2 (fun p hp => by rw [hd2, mu_ne (by omega)]) ?_
    obtain ⟨rS, rC, rX, rW, rF⟩ := h3
    obtain ⟨hs, hX, hY, hW, hS, hF⟩ := hR.2.1
    have b2 : ∀ p, p ≠ 2 → d2 p = d1 p := fun p hp => by rw [hd2, mu_ne hp]
    refine ⟨fun k k0 k1 => ?_, RC_keep rC hs (fun p hp => b2 p (by omega)) (fun k _ _ => ru_ne (by omega)), RX_keep rX hX (fun p hp => b2 p (by omega)) (fun k _ _ => ru_ne (by omega)), RW_keep rW (fun p hp => b2 p (by omega)) (fun k _ _ => ru_ne (by omega)), RF_keep rF hF.1.2 (fun p hp => b2 p (by omega)) (fun k _ _ => ru_ne (by omega))⟩
    rw [hd2, mu_app, if_pos rfl]
    unfold ru
    by_cases c : k = x
    · rw [if_pos c, if_pos c]
    · rw [if_neg c, if_neg c]; exact rS k k0 k1
  have e164 : d2 154 = d 154 := hC.1 154 (by omega)
  apply r_set hx hy (fun c => absurd ⟨⟨q, by omega⟩, ⟨q2, q3⟩⟩ c)
  intro _ _
  apply rn_know hJ hC
  intro d3 k1 k2 k3 k4
  rw [k1 154 (by omega) (by omega), e164, show (0 : Int) + x = x by omega]
  refine ⟨⟨by omega, by omega⟩, ⟨by omega, by omega⟩, fun d4 hd4 => ?_⟩
  refine hQ _ d4 (J_ch hJ hC hI2 (by rw [ru_ne (by omega)]; exact hR.2.2) k1 k2 k3 k4 (hd4 ▸ rF_mu rF_rfl (by omega)) ?_ ?_)
  · rw [hd4, mu164, k1 154 (by omega) (by omega), e164]
    exact same_rfl
  · rw [hd4, mu_ne (by omega), k2 14 (by omega), hC.1 153 (by omega)]
    exact hJ.2.2.2.2.2.2
end
