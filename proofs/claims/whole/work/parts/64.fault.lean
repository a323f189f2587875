section
variable {g : zGG} {Q : Int → zMem → Prop} {p : Int → Int} {L : Int}
/-- wrong already: the steps are not read -/
theorem r_w72 {d : zMem} {x1 x2 x3 a : Int} (hT : TR d p L) (hP : PT p L) (ha : d 153 19 = a) (hf : d 153 20 = 1) (har : 0 ≤ a ∧ a ≤ 1000) (hQ : ∀ d', rAt d d' a 1 → Q 0 d') : fr72 g Q x1 x2 x3 1 d := by
  have hL := hP.1
  have B : ∀ (c w : Int) (d1 : zMem), d1 = mu d 153 20 1 → ∀ d2, d2 = mu d1 153 19 (a + 0) → fB g Q x1 x2 x3 c w d2 := by
    intro c w d1 e1 d2 e2
    have r2 : rAt d d2 a 1 := ⟨fun z hz => by rw [e2, mu_ne hz, e1, mu_ne hz], fun j j0 j1 => by rw [e2, mu_ni j0, e1, mu_ni j1], by rw [e2, mu_get, Int.add_zero], by rw [e2, mu_ni (by omega), e1, mu_get]⟩
    exact r_wrong (TR_rAt hT r2) hP r2.2.2.1 r2.2.2.2 har (hQ d2 r2)
  apply v_X9_readPad_72
  rw [ha, hf, hT.1]
  refine ⟨by decide, fun z => absurd z (by decide), fun _ => ⟨⟨⟨by omega, by omega⟩, ⟨by omega, by omega⟩⟩, fun _ => ⟨by decide, fun _ d1 e1 d2 e2 => B _ _ d1 e1 d2 e2, fun z => absurd z (by decide)⟩, fun hin => ⟨⟨by omega, by omega⟩, ⟨by decide, fun _ d1 e1 d2 e2 => ?_, fun z => absurd z (by decide)⟩⟩⟩⟩
  have cr := chr_rng hP har.1
  have ec : d 159 a = chr p L a := by unfold chr; rw [if_pos hin, hT.2 _ har.1 hin]
  rw [ec]
  exact lad (B := fun w => fB g Q x1 x2 x3 (chr p L a) w d2) (by constructor <;> omega) (fun _ _ _ => B _ _ d1 e1 d2 e2) (fun _ => B _ _ d1 e1 d2 e2) (fun _ => B _ _ d1 e1 d2 e2) (fun _ => B _ _ d1 e1 d2 e2)
/-- where the course begins -/
noncomputable def tC (p : Int → Int) (L : Int) : Int := 20 * snV p L (tA1 p L) 11 + snV p L 0 19
theorem r_readPad {d : zMem} (hT : TR d p L) (hP : PT p L) (hQ : ∀ d', (∀ c, c ≠ 153 → c ≠ 165 → d' c = d c) → (∀ j, j ≠ 19 → j ≠ 20 → j ≠ 22 → j ≠ 23 → d' 153 j = d 153 j) → (txtOk p L → d' 153 20 = 0 ∧ TI d' (tC p L) (tQ p L).2.2.2 (tQ p L).2.2.1) → (¬ txtOk p L → d' 153 20 = 1 ∧ d' 153 19 = flt p L) → Q 0 d') : Ev g M_X9_readPad FUL FUL [zR 153] d Q := by
  have hL := hP.1
  have a1 := tA1_rng p L
  have a2 := tA2_rng p L
  apply e_X9_readPad
  intro d1 e1 d2 e2 d3 e3 d4 e4
  have b4 : but d d4 153 := e4 ▸ but_mu (e3 ▸ but_mu (e2 ▸ but_mu (e1 ▸ but_mu but_rfl)))
  have j4 : ∀ j, j ≠ 19 → j ≠ 20 → j ≠ 22 → j ≠ 23 → d4 153 j = d 153 j := fun j h0 h1 h2 h3 => by rw [e4, mu_ni h3, e3, mu_ni h2, e2, mu_ni h1, e1, mu_ni h0]
  have f19 : d4 153 19 = 0 := by rw [e4, mu_ni (by omega), e3, mu_ni (by omega), e2, mu_ni (by omega), e1, mu_get]
  have f20 : d4 153 20 = 0 := by rw [e4, mu_ni (by omega), e3, mu_ni (by omega), e2, mu_get]
  have f22 : d4 153 22 = 0 := by rw [e4, mu_ni (by omega), e3, mu_get]
  have f23 : d4 153 23 = 0 := by rw [e4, mu_get]
  have T4 : TR d4 p L := ⟨by rw [j4 7 (by omega) (by omega) (by omega) (by omega)]; exact hT.1, fun k k0 k1 => by rw [b4 159 (by omega)]; exact hT.2 k k0 k1⟩
  -- wrong at a: nothing more is read
  have endW : ∀ (a : Int) (d' : zMem), rAt d4 d' a 1 → ¬ txtOk p L → flt p L = a → Q 0 d' := fun a d' r hn hf =>
    hQ d' (fun c c0 _ => by rw [r.1 c c0, b4 c c0]) (fun j h0 h1 h2 h3 => by rw [r.2.1 j h0 h1, j4 j h0 h1 h2 h3]) (fun z => absurd z hn) (fun _ => ⟨r.2.2.2, by rw [r.2.2.1, hf]⟩)
  have W3 : ∀ (x1 x3 a : Int) (d7 : zMem), 0 ≤ a → a ≤ 900 → rAt d4 d7 a 1 → ¬ txtOk p L → flt p L = a → Ev g M_X9_sign FUL FUL [zR 153, zI 58, zI 58] d7 (fun v4 d8 => ((inR (d8 153 20)) ∧ ((d8 153 20) ≠ 0 → fr72 g Q x1 v4 x3 1 d8) ∧ ((d8 153 20) = 0 → Ev g M_X9_tell FUL FUL [zR 153, zI ((20 * x3) + x1)] d8 (fun _ d9 => fr72 g Q x1 v4 x3 1 d9)))) := by
    intro x1 x3 a d7 h0 h1 r hn hf
    apply r_sign (TR_rAt T4 r) hP r.2.2.1 r.2.2.2 ⟨h0, by omega⟩ (Or.inr rfl) (by decide) (by decide)
    · intro z; exact absurd z (by decide)
    · intro _ d8 r8
      have r48 := rAt_trans r r8
      rw [r8.2.2.2]
      exact ⟨by decide, fun _ => r_w72 (TR_rAt T4 r48) hP r8.2.2.1 r8.2.2.2 ⟨h0, by omega⟩ (fun d' r' => endW a d' (rAt_trans r48 r') hn hf), fun z => absurd z (by decide)⟩
  have W2 : ∀ (x1 a : Int) (d6 : zMem), 0 ≤ a → a ≤ 800 → rAt d4 d6 a 1 → ¬ txtOk p L → flt p L = a → Ev g M_X9_number FUL FUL [zR 153, zI 11] d6 (fun v3 d7 => Ev g M_X9_sign FUL FUL [zR 153, zI 58, zI 58] d7 (fun v4 d8 => ((inR (d8 153 20)) ∧ ((d8 153 20) ≠ 0 → fr72 g Q x1 v4 v3 1 d8) ∧ ((d8 153 20) = 0 → Ev g M_X9_tell FUL FUL [zR 153, zI ((20 * v3) + x1)] d8 (fun _ d9 => fr72 g Q x1 v4 v3 1 d9))))) := by
    intro x1 a d6 h0 h1 r hn hf
    apply r_number (TR_rAt T4 r) hP r.2.2.1 r.2.2.2 ⟨h0, by omega⟩ (Or.inr rfl) ⟨by decide, by decide⟩
    · intro _ v d7 _ _ r7
      exact W3 x1 v a d7 h0 (by omega) (rAt_trans r r7) hn hf
    · intro z; exact absurd z (by decide)
  apply r_number T4 hP f19 f20 ⟨by omega, by omega⟩ (Or.inl rfl) ⟨by decide, by decide⟩
  · intro hz v d5 _ _ r5
    have h1 : hdF p L 0 19 44 := Or.inl (by rcases hz with z | z; exact absurd z (by decide); exact z)
    have hf : flt p L = 0 := by rw [flt_1 h1]; unfold hdP; rw [if_pos (by rcases hz with z | z; exact absurd z (by decide); exact z)]
    apply r_sign (TR_rAt T4 r5) hP r5.2.2.1 r5.2.2.2 ⟨by omega, by omega⟩ (Or.inr rfl) (by decide) (by decide)
    · intro z; exact absurd z (by decide)
    · intro _ d6 r6
      exact W2 v 0 d6 (by omega) (by omega) (rAt_trans r5 r6) (fun z => z.1 h1) hf
  · intro _ hd1 d5 r5
    have sr1 := sn_rng p L 0 19
    have vr1 := snV_rng (p := p) (L := L) (a := 0) (hi := 19) (by omega) hd1
    have T5 := TR_rAt T4 r5
    apply r_sign T5 hP r5.2.2.1 r5.2.2.2 ⟨by omega, by omega⟩ (Or.inl rfl) (by decide) (by decide)
    · intro _ k1 k2 d6 r6
      have n1 : ¬ hdF p L 0 19 44 := fun z => by rcases z with z | z; exact hd1 z; exact z (by omega)
      have r46 : rAt d4 d6 (tA1 p L) 0 := rAt_trans r5 r6
      have T6 := TR_rAt T4 r46
      apply r_number T6 hP r46.2.2.1 r46.2.2.2 ⟨by omega, by omega⟩ (Or.inl rfl) ⟨by decide, by decide⟩
      · intro hz v d7 _ _ r7
        have hz' : dgt p L (tA1 p L) = -1 := by rcases hz with z | z; exact absurd z (by decide); exact z
        have h2 : hdF p L (tA1 p L) 11 58 := Or.inl hz'
        have hf : flt p L = tA1 p L := by rw [flt_2 n1 h2]; unfold hdP; rw [if_pos hz']
        exact W3 _ v (tA1 p L) d7 (by omega) (by omega) (rAt_trans r46 r7) (fun z => z.2.1 h2) hf
      · intro _ hd2 d7 r7
        have sr2 := sn_rng p L (tA1 p L) 11
        have vr2 := snV_rng (p := p) (L := L) (a := tA1 p L) (hi := 11) (by omega) hd2
        have r47 := rAt_trans r46 r7
        have T7 := TR_rAt T4 r47
        apply r_sign T7 hP r47.2.2.1 r47.2.2.2 ⟨by omega, by omega⟩ (Or.inl rfl) (by decide) (by decide)
        · intro _ q1 q2 d8 r8
          have n2 : ¬ hdF p L (tA1 p L) 11 58 := fun z => by rcases z with z | z; exact hd2 z; exact z (by omega)
          have r48 : rAt d4 d8 (tA2 p L) 0 := rAt_trans r47 r8
          have hc0 : 0 ≤ tC p L ∧ tC p L < 240 := by unfold tC; omega
          have i0 := tI_0 hP n2
          rw [r48.2.2.2]
          refine ⟨by decide, fun z => absurd rfl z, fun _ => ?_⟩
          have g22 : d8 153 22 = 0 := by rw [r48.2.1 22 (by omega) (by omega), f22]
          have g23 : d8 153 23 = 0 := by rw [r48.2.1 23 (by omega) (by omega), f23]
          apply r_tell (x := tC p L) ⟨by omega, by omega⟩ g22 ⟨by omega, by omega⟩ (Or.inl g23) (fun _ k k0 k1 => by omega)
          intro d9 b9 j9 x22 _ x0
          have nt : ¬ tol d8 (tC p L) 0 := by
            rintro (z | z | ⟨k, k0, k1, _⟩)
            · omega
            · omega
            · omega
          obtain ⟨y23, y175⟩ := x0 nt
          have ST : SR d d9 (tC p L) (tA2 p L, 0, fun _ => 0) := by
            refine ⟨fun c c0 c1 => by rw [b9 c c0 c1, r48.1 c c0, b4 c c0], fun j h0 h1 h2 h3 => by rw [j9 j h2 h3, r48.2.1 j h0 h1, j4 j h0 h1 h2 h3], by rw [j9 19 (by omega) (by omega)]; exact r48.2.2.1, by rw [j9 20 (by omega) (by omega)]; exact r48.2.2.2, ⟨x22, Or.inl y23, fun _ k k0 _ => ?_, fun _ => ⟨fun _ => ?_, fun _ => y23⟩⟩⟩
            · have k0' : (k : Int) ≤ 0 := k0
              have ek : k = 0 := by omega
              subst ek
              rw [y175]
              exact ⟨rfl, by show tC p L ≠ -1; omega⟩
            · intro k hk
              have hk' : k < 1 := hk
              have ek : k = 0 := by omega
              subst ek
              exact ⟨by show tC p L ≠ -1; omega, fun k' hk'' => by omega⟩
          refine l_r72 (d0 := d) hT hP hc0 66 (tA2 p L, 0, fun _ => 0) d9 (by show L - tA2 p L < (66 : Nat); omega) i0 (Or.inr rfl) ST ?_ ?_
          · intro hz d' hS
            have hz' : (tQ p L).1 = 0 := hz
            refine hQ d' hS.1 hS.2.1 (fun z => absurd hz' z.2.2) (fun _ => ⟨hS.2.2.2, ?_⟩)
            rw [hS.2.2.1, flt_3 n1 n2, if_pos hz']
            rfl
          · intro hz d' hS
            exact hQ d' hS.1 hS.2.1 (fun _ => ⟨hS.2.2.2.1, hS.2.2.2.2⟩) (fun z => absurd ⟨n1, n2, hz⟩ z)
        · intro hz d8 r8
          have h2 : hdF p L (tA1 p L) 11 58 := Or.inr (fun z => hz ⟨rfl, by omega, by omega⟩)
          have hf : flt p L = snA p L (tA1 p L) 11 := by rw [flt_2 n1 h2]; unfold hdP; rw [if_neg hd2]
          have r48 := rAt_trans r47 r8
          rw [r8.2.2.2]
          exact ⟨by decide, fun _ => r_w72 (TR_rAt T4 r48) hP r8.2.2.1 r8.2.2.2 ⟨by omega, by omega⟩ (fun d' r' => endW _ d' (rAt_trans r48 r') (fun z => z.2.1 h2) hf), fun z => absurd z (by decide)⟩
    · intro hz d6 r6
      have h1 : hdF p L 0 19 44 := Or.inr (fun z => hz ⟨rfl, by omega, by omega⟩)
      have hf : flt p L = snA p L 0 19 := by rw [flt_1 h1]; unfold hdP; rw [if_neg hd1]
      exact W2 _ (snA p L 0 19) d6 (by omega) (by omega) (rAt_trans r5 r6) (fun z => z.1 h1) hf
end
theorem JP_PT {d : zMem} (h : JP d) : PT (d 159) (d 153 7) ∧ TX d (d 159) (d 153 7) ∧ TR d (d 159) (d 153 7) :=
  ⟨⟨h.2.1, fun k k0 k1 => (h.2.2 k k0 k1).2⟩, ⟨h.1, fun k k0 k1 => (h.2.2 k k0 k1).1⟩, ⟨rfl, fun _ _ _ => rfl⟩⟩
/-- J after a text was looked at -/
theorem J_seen {d d' : zMem} (h : J d) (hb : ∀ q, q ≠ 117 → q ≠ 119 → q ≠ 153 → q ≠ 165 → (q < 15 ∨ 29 ≤ q) → d' q = d q) (h2 : d' 117 2 = d 117 2) (hj : ∀ j, j ≠ 19 → j ≠ 20 → j ≠ 22 → j ≠ 23 → d' 153 j = d 153 j) : J d' :=
  J_text h (fun q a0 _ a2 a3 _ a5 a6 => hb q a0 a2 a3 a5 a6) (hj 3 (by omega) (by omega) (by omega) (by omega)) (hj 13 (by omega) (by omega) (by omega) (by omega)) (hj 14 (by omega) (by omega) (by omega) (by omega)) (JP_keep h.2.2.2.1 h2 (hb 118 (by omega) (by omega) (by omega) (by omega) (by omega)) (hj 7 (by omega) (by omega) (by omega) (by omega)) (hb 159 (by omega) (by omega) (by omega) (by omega) (by omega)))
section
variable {g : zGG} {Q : Int → Int → zMem → Prop}
theorem p_fault {d : zMem} (hJ : J d) (hQ : ∀ v d', J d' → Q v v d') : Ev g M_X8_fault FUL FUL [zR 0] d (fun v1 d1 => Ev g M_X9_fault FUL FUL [zR 153] d1 (fun v2 d2 => Q v1 v2 d2)) := by
  obtain ⟨hP, hT, hTR⟩ := JP_PT hJ.2.2.2.1
  apply e_X8_fault
  apply c_scan hT hP
  intro d1 b1 h2 _
  apply e_X9_fault
  have TR1 : TR d1 (d 159) (d 153 7) := by
    unfold TR
    rw [b1 153 (by omega) (by omega), b1 159 (by omega) (by omega)]
    exact hTR
  apply r_readPad TR1 hP
  intro d2 b2 j2 hok hno
  have J2 : J d2 := J_seen hJ (fun q q0 q1 q2 q3 _ => by rw [b2 q q2 q3, b1 q q0 q1]) (by rw [b2 117 (by omega) (by omega), h2]) (fun j j0 j1 j3 j4 => by rw [j2 j j0 j1 j3 j4, b1 153 (by omega) (by omega)])
  rcases flt_ok hP with ⟨o1, o2, _⟩ | ⟨o1, o2, o3⟩
  · rw [(hok o1).1, o2]
    exact ⟨by decide, fun _ => hQ _ d2 J2, fun z => absurd rfl z⟩
  · rw [(hno o1).1, (hno o1).2]
    exact ⟨by decide, fun z => absurd z (by decide), fun _ => hQ _ d2 J2⟩
end
