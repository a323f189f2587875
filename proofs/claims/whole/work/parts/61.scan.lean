section
variable {g : zGG} {Q : Int → zMem → Prop} {p : Int → Int} {L : Int}
theorem l_addSteps {d0 : zMem} {w n t : Int} (hn : 0 ≤ n ∧ n ≤ 2000) (ht : 0 ≤ t ∧ t ≤ 9) (h6 : d0 117 6 = n)
    (hQ : ∀ d', (∀ q, q ≠ 117 → q ≠ 119 → d' q = d0 q) → (∀ j, j ≠ 6 → d' 117 j = d0 117 j) → d' 117 6 = n + t → (∀ k, 0 ≤ k → k < 150 → d' 119 k = if n ≤ k ∧ k < n + t then w else d0 119 k) → Q 0 d') :
    ∀ (r : Nat) (x : Int) (d : zMem), t - x = r → 0 ≤ x → (∀ q, q ≠ 117 → q ≠ 119 → d q = d0 q) → (∀ j, j ≠ 6 → d 117 j = d0 117 j) → d 117 6 = n + x → (∀ k, 0 ≤ k → k < 150 → d 119 k = if n ≤ k ∧ k < n + x then w else d0 119 k) →
    Fr g (eM g M_X5_addSteps FUL FUL Q) M_X5_addSteps FUL 2 [some (zR 117), some (zI w), some (zI t), some (zI x)] [] d := by
  intro r
  induction r with
  | zero =>
    intro x d hr hx b1 b2 b3 b4
    have e : x = t := by omega
    subst e
    apply v_X5_addSteps_2
    exact ⟨⟨⟨by omega, by omega⟩, ⟨by omega, by omega⟩⟩, fun _ => hQ d b1 b2 b3 b4, fun z => by omega⟩
  | succ r ih =>
    intro x d hr hx b1 b2 b3 b4
    apply v_X5_addSteps_2
    rw [b3]
    refine ⟨⟨⟨by omega, by omega⟩, ⟨by omega, by omega⟩⟩, fun z => by omega, fun _ => ⟨⟨by omega, by omega⟩, fun z => by omega, fun _ => ⟨⟨by omega, by omega⟩, fun q d2 hd2 => ?_, fun q => ⟨⟨by omega, by omega⟩, fun d3 hd3 d4 hd4 => ?_⟩⟩⟩⟩
    · refine ih (x + 1) d2 (by omega) (by omega) (fun q h0 h1 => by rw [hd2, mu_ne h0, b1 q h0 h1]) (fun j hj => by rw [hd2, mu_ni hj, b2 j hj]) (by rw [hd2, mu_get]; omega) (fun k k0 k1 => ?_)
      rw [hd2, mu_ne (by omega), b4 k k0 k1]
      by_cases c : n ≤ k ∧ k < n + x
      · rw [if_pos c, if_pos (by omega)]
      · rw [if_neg c, if_neg (by omega)]
    · refine ih (x + 1) d4 (by omega) (by omega) (fun q h0 h1 => by rw [hd4, mu_ne h0, hd3, mu_ne h1, b1 q h0 h1]) (fun j hj => by rw [hd4, mu_ni hj, hd3, mu_ne (by omega), b2 j hj]) (by rw [hd4, mu_get]; omega) (fun k k0 k1 => ?_)
      rw [hd4, mu_ne (by omega), hd3, mu_app, if_pos rfl]
      by_cases c0 : k = n + x
      · rw [if_pos c0, if_pos (by omega)]
      · rw [if_neg c0, b4 k k0 k1]
        by_cases c : n ≤ k ∧ k < n + x
        · rw [if_pos c, if_pos (by omega)]
        · rw [if_neg c, if_neg (by omega)]
theorem c_addSteps {d : zMem} {w n t : Int} (hn : 0 ≤ n ∧ n ≤ 2000) (ht : 0 ≤ t ∧ t ≤ 9) (h6 : d 117 6 = n)
    (hQ : ∀ d', (∀ q, q ≠ 117 → q ≠ 119 → d' q = d q) → (∀ j, j ≠ 6 → d' 117 j = d 117 j) → d' 117 6 = n + t → (∀ k, 0 ≤ k → k < 150 → d' 119 k = if n ≤ k ∧ k < n + t then w else d 119 k) → Q 0 d') : Ev g M_X5_addSteps FUL FUL [zR 117, zI w, zI t] d Q := by
  apply e_X5_addSteps
  exact l_addSteps (d0 := d) hn ht h6 hQ t.toNat 0 d (by omega) (by omega) (fun _ _ _ => rfl) (fun _ _ => rfl) (by omega) (fun k k0 k1 => by rw [if_neg (by omega)])
/-- the class's scanner stands behind the steps q -/
def SC (d0 d : zMem) (q : TS) : Prop := (∀ c, c ≠ 117 → c ≠ 119 → d c = d0 c) ∧ (∀ j, j ≠ 3 → j ≠ 6 → d 117 j = d0 117 j) ∧ d 117 3 = q.1 ∧ d 117 6 = q.2.1 ∧ ∀ k, 0 ≤ k → k < 150 → k < q.2.1 → d 119 k = q.2.2 k
theorem l_scanSteps {d0 : zMem} (hT : TX d0 p L) (hP : PT p L) : ∀ (m : Nat) (q : TS) (d : zMem), L - q.1 < m → tI L q → SC d0 d q → (∀ d', SC d0 d' (tRun p L m q).2 → Q (tRun p L m q).1 d') →
    Fr g (eM g M_X5_scanSteps FUL FUL Q) M_X5_scanSteps FUL 0 [some (zR 117), none, none] [] d := by
  intro m
  induction m with
  | zero =>
    intro q d hm hI
    have := hI.1
    omega
  | succ m ih =>
    intro q d hm hI hS hQ
    obtain ⟨⟨a1, a2⟩, ⟨b1, b2⟩, c⟩ := hI
    have hL := hP.1
    obtain ⟨s1, s2, s3, s4, s5⟩ := hS
    have T : TX d p L := TX_keep hT (s2 2 (by omega) (by omega)) (s1 118 (by omega) (by omega))
    apply v_X5_scanSteps_0
    rw [s3, s4, T.1]
    by_cases hl : L ≤ q.1
    · rw [tRun_end hl] at hQ
      refine ⟨⟨⟨by omega, by omega⟩, ⟨by omega, by omega⟩⟩, fun _ => ⟨⟨by omega, by omega⟩, fun z => ?_, fun z => ?_⟩, fun z => by omega⟩
      · have := hQ d ⟨s1, s2, s3, s4, s5⟩
        rw [if_neg (by omega)] at this
        exact this
      · have := hQ d ⟨s1, s2, s3, s4, s5⟩
        rw [if_pos z] at this
        exact this
    · refine ⟨⟨⟨by omega, by omega⟩, ⟨by omega, by omega⟩⟩, fun z => absurd z hl, fun _ => ?_⟩
      apply c_wayAt T hP ⟨by omega, by omega⟩
      have wr := wyc_rng p L q.1
      by_cases hw : wyc p L q.1 = -1
      · rw [tRun_bad hl hw] at hQ
        exact ⟨⟨by omega, by omega⟩, fun z => absurd hw z, fun _ => hQ d ⟨s1, s2, s3, s4, s5⟩⟩
      · rw [tRun_on hl hw] at hQ
        refine ⟨⟨by omega, by omega⟩, fun _ d2 hd2 => ?_, fun z => absurd z hw⟩
        rw [s3]
        rw [s3] at hd2
        have i2 := tI_next hP ⟨⟨a1, a2⟩, ⟨b1, b2⟩, c⟩ (by omega) hw
        have e1 : (tNext p L q).1 = if 2 ≤ dgt p L (q.1 + 1) then q.1 + 2 else q.1 + 1 := rfl
        have e2 : (tNext p L q).2.1 = q.2.1 + tmz p L q.1 := rfl
        have e3 : ∀ k, (tNext p L q).2.2 k = if q.2.1 ≤ k ∧ k < q.2.1 + tmz p L q.1 then wyc p L q.1 else q.2.2 k := fun _ => rfl
        have tr := tmz_rng p L q.1
        have et : tmz p L q.1 = if 2 ≤ dgt p L (q.1 + 1) then dgt p L (q.1 + 1) else 1 := rfl
        have T2 : TX d2 p L := TX_keep T (by rw [hd2, mu_ni (by omega)]) (by rw [hd2, mu_ne (by omega)])
        -- behind the steps of one letter
        have go : ∀ d3 : zMem, (∀ c, c ≠ 117 → d3 c = d c) → (∀ j, j ≠ 3 → d3 117 j = d 117 j) → d3 117 3 = (tNext p L q).1 → Ev g M_X5_addSteps FUL FUL [zR 117, zI (wyc p L q.1), zI (tmz p L q.1)] d3 (fun _ d4 => (Fr g (eM g M_X5_scanSteps FUL FUL Q) M_X5_scanSteps FUL 0 [some (zR 117), none, none] [] d4)) := by
          intro d3 k1 k2 k3
          apply c_addSteps (n := q.2.1) ⟨by omega, by omega⟩ ⟨by omega, by omega⟩ (by rw [k2 6 (by omega), s4])
          intro d4 g1 g2 g3 g4
          refine ih (tNext p L q) d4 ?_ i2 ⟨fun c h0 h1 => by rw [g1 c h0 h1, k1 c h0, s1 c h0 h1], fun j h0 h1 => by rw [g2 j h1, k2 j h0, s2 j h0 h1], by rw [g2 3 (by omega), k3], by rw [g3, e2], fun k k0 k1' k2' => ?_⟩ hQ
          · rw [e1]
            split <;> omega
          · rw [g4 k k0 k1', e3]
            by_cases z : q.2.1 ≤ k ∧ k < q.2.1 + tmz p L q.1
            · rw [if_pos z, if_pos z]
            · rw [if_neg z, if_neg z, k1 119 (by omega)]
              rw [e2] at k2'
              exact s5 k k0 k1' (by omega)
        have b2' : ∀ c, c ≠ 117 → d2 c = d c := fun c h0 => by rw [hd2, mu_ne h0]
        have j2' : ∀ j, j ≠ 3 → d2 117 j = d 117 j := fun j h0 => by rw [hd2, mu_ni h0]
        have a2' : d2 117 3 = q.1 + 1 := by rw [hd2, mu_get]
        apply c_digitAt T2 hP ⟨by omega, by omega⟩
        have dr := dgt_rng p L (q.1 + 1)
        refine ⟨by constructor <;> omega, fun z => ?_, fun z => ?_⟩
        · rw [if_neg (by omega)] at et e1
          have := go d2 b2' j2' (by rw [a2', e1])
          rw [et] at this
          exact this
        · rw [if_pos z] at et e1
          rw [a2']
          apply c_digitAt T2 hP ⟨by omega, by omega⟩
          intro d6 hd6
          rw [a2'] at hd6
          have := go d6 (fun c h0 => by rw [hd6, mu_ne h0, b2' c h0]) (fun j h0 => by rw [hd6, mu_ni h0, j2' j h0]) (by rw [hd6, mu_get, e1]; omega)
          rw [et] at this
          exact this
theorem c_scanSteps {d : zMem} {q : TS} {m : Nat} (hT : TX d p L) (hP : PT p L) (hm : L - q.1 < m) (hI : tI L q) (hS : SC d d q) (hQ : ∀ d', SC d d' (tRun p L m q).2 → Q (tRun p L m q).1 d') : Ev g M_X5_scanSteps FUL FUL [zR 117] d Q :=
  Ev_of (by decide +kernel) (Nat.le_of_ble_eq_true rfl) (l_scanSteps hT hP m q d hm hI hS hQ)
end
/-- the text has a fault there -/
noncomputable def tA1 (p : Int → Int) (L : Int) : Int := snA p L 0 19 + 1
noncomputable def tA2 (p : Int → Int) (L : Int) : Int := snA p L (tA1 p L) 11 + 1
noncomputable def tQ (p : Int → Int) (L : Int) : Int × TS := tRun p L 66 (tA2 p L, 0, fun _ => 0)
noncomputable def flt (p : Int → Int) (L : Int) : Int := @ite Int (hdF p L 0 19 44) (Classical.propDecidable _) (hdP p L 0 19) (@ite Int (hdF p L (tA1 p L) 11 58) (Classical.propDecidable _) (hdP p L (tA1 p L) 11) (if (tQ p L).1 = 0 then (tQ p L).2.1 else -6))
theorem flt_1 {p : Int → Int} {L : Int} (h : hdF p L 0 19 44) : flt p L = hdP p L 0 19 := by unfold flt; rw [if_pos h]
theorem flt_2 {p : Int → Int} {L : Int} (h : ¬ hdF p L 0 19 44) (h2 : hdF p L (tA1 p L) 11 58) : flt p L = hdP p L (tA1 p L) 11 := by unfold flt; rw [if_neg h, if_pos h2]
theorem flt_3 {p : Int → Int} {L : Int} (h : ¬ hdF p L 0 19 44) (h2 : ¬ hdF p L (tA1 p L) 11 58) : flt p L = if (tQ p L).1 = 0 then (tQ p L).2.1 else -6 := by unfold flt; rw [if_neg h, if_neg h2]
theorem hdP_rng {p : Int → Int} {L a hi : Int} : a ≤ hdP p L a hi ∧ hdP p L a hi ≤ a + 2 := by
  have := sn_rng p L a hi
  unfold hdP
  split <;> omega
theorem tA1_rng (p : Int → Int) (L : Int) : 2 ≤ tA1 p L ∧ tA1 p L ≤ 3 := by
  have := sn_rng p L 0 19
  unfold tA1
  omega
theorem tA2_rng (p : Int → Int) (L : Int) : 4 ≤ tA2 p L ∧ tA2 p L ≤ 6 := by
  have := sn_rng p L (tA1 p L) 11
  have := tA1_rng p L
  unfold tA2
  omega
theorem tI_0 {p : Int → Int} {L : Int} (hP : PT p L) (h2 : ¬ hdF p L (tA1 p L) 11 58) : tI L (tA2 p L, 0, fun _ => 0) := by
  have a2 := tA2_rng p L
  have hc : chr p L (snA p L (tA1 p L) 11) = 58 := Classical.not_not.mp (fun z => h2 (Or.inr z))
  have sr := sn_rng p L (tA1 p L) 11
  have a1 := tA1_rng p L
  refine ⟨⟨by show 0 ≤ tA2 p L; omega, ?_⟩, ⟨Int.le_refl _, by show 0 ≤ 10 * tA2 p L; omega⟩, fun k k0 k1 => ?_⟩
  · show tA2 p L ≤ L
    rcases chr_rng hP (k := snA p L (tA1 p L) 11) (by omega) with ⟨z, z2⟩ | ⟨z, z2⟩
    · omega
    · unfold tA2; omega
  · have : k < 0 := k1
    omega
/-- a text without fault -/
def txtOk (p : Int → Int) (L : Int) : Prop := ¬ hdF p L 0 19 44 ∧ ¬ hdF p L (tA1 p L) 11 58 ∧ (tQ p L).1 ≠ 0
theorem flt_ok {p : Int → Int} {L : Int} (hP : PT p L) : (txtOk p L ∧ flt p L = -6 ∧ 0 < (tQ p L).2.2.1) ∨ (¬ txtOk p L ∧ 0 ≤ flt p L ∧ flt p L ≤ 100) := by
  have a1 := tA1_rng p L
  by_cases h1 : hdF p L 0 19 44
  · have := hdP_rng (p := p) (L := L) (a := 0) (hi := 19)
    rw [flt_1 h1]
    exact Or.inr ⟨fun z => z.1 h1, by omega, by omega⟩
  · by_cases h2 : hdF p L (tA1 p L) 11 58
    · have := hdP_rng (p := p) (L := L) (a := tA1 p L) (hi := 11)
      rw [flt_2 h1 h2]
      exact Or.inr ⟨fun z => z.2.1 h2, by omega, by omega⟩
    · have r : tI L (tQ p L).2 ∧ ((tQ p L).1 = 0 ∨ ((tQ p L).1 = 1 ∧ 0 < (tQ p L).2.2.1)) := tI_run hP 66 _ (tI_0 hP h2)
      have hL := hP.1
      have rr := r.1.1
      rw [flt_3 h1 h2]
      rcases r.2 with z | ⟨z, z2⟩
      · rw [if_pos z]
        exact Or.inr ⟨fun w => w.2.2 z, by omega, by omega⟩
      · rw [if_neg (by omega)]
        exact Or.inl ⟨⟨h1, h2, by omega⟩, rfl, z2⟩
section
variable {g : zGG} {Q : Int → zMem → Prop} {p : Int → Int} {L : Int}
theorem c_scan {d : zMem} (hT : TX d p L) (hP : PT p L) (hQ : ∀ d', (∀ q, q ≠ 117 → q ≠ 119 → d' q = d q) → d' 117 2 = d 117 2 → (txtOk p L → d' 117 4 = snV p L 0 19 ∧ d' 117 5 = snV p L (tA1 p L) 11 ∧ d' 117 6 = (tQ p L).2.2.1 ∧ ∀ k, 0 ≤ k → k < 150 → k < (tQ p L).2.2.1 → d' 119 k = (tQ p L).2.2.2 k) → Q (flt p L) d') : Ev g M_X5_scan FUL FUL [zR 117] d Q := by
  have a1 := tA1_rng p L
  have a2 := tA2_rng p L
  have hL := hP.1
  apply e_X5_scan
  intro d1 hd1 d2 hd2
  have b2 : ∀ q, q ≠ 117 → d2 q = d q := fun q hq => by rw [hd2, mu_ne hq, hd1, mu_ne hq]
  have j2 : ∀ j, j ≠ 3 → j ≠ 6 → d2 117 j = d 117 j := fun j h0 h1 => by rw [hd2, mu_ni h1, hd1, mu_ni h0]
  have f3 : d2 117 3 = 0 := by rw [hd2, mu_ni (by omega), hd1, mu_get]
  have f6 : d2 117 6 = 0 := by rw [hd2, mu_get]
  have T2 : TX d2 p L := TX_keep hT (j2 2 (by omega) (by omega)) (b2 118 (by omega))
  apply c_scanNumber (a := 0) T2 hP f3 ⟨by omega, by omega⟩ ⟨by omega, by omega⟩ (by decide)
  · intro h1 d3 b3 e3 d4 hd4
    have hr := hdP_rng (p := p) (L := L) (a := 0) (hi := 19)
    refine ⟨by decide, fun z => absurd rfl z, fun _ => ?_⟩
    rw [e3, ← flt_1 h1]
    exact hQ d4 (fun q h0 _ => by rw [hd4, mu_ne h0, b3.1 q h0, b2 q h0]) (by rw [hd4, mu_ni (by omega), b3.2 2 (by omega), j2 2 (by omega) (by omega)]) (fun z => absurd h1 z.1)
  · intro h1 d3 b3 e3 d4 hd4
    have vr := snV_rng (p := p) (L := L) (a := 0) (hi := 19) (by omega) (fun z => h1 (Or.inl z))
    have b4 : ∀ q, q ≠ 117 → d4 q = d q := fun q h0 => by rw [hd4, mu_ne h0, b3.1 q h0, b2 q h0]
    have j4 : ∀ j, j ≠ 3 → j ≠ 4 → d4 117 j = d2 117 j := fun j h0 h1 => by rw [hd4, mu_ni h1, b3.2 j h0]
    have T4 : TX d4 p L := TX_keep T2 (j4 2 (by omega) (by omega)) (by rw [b4 118 (by omega), b2 118 (by omega)])
    have f4 : d4 117 3 = tA1 p L := by rw [hd4, mu_ni (by omega), e3]; rfl
    refine ⟨⟨by omega, by omega⟩, fun _ => ?_, fun z => by omega⟩
    apply c_scanNumber (a := tA1 p L) T4 hP f4 ⟨by omega, by omega⟩ ⟨by omega, by omega⟩ (by decide)
    · intro h2 d5 b5 e5 d6 hd6
      have hr := hdP_rng (p := p) (L := L) (a := tA1 p L) (hi := 11)
      refine ⟨by decide, fun z => absurd rfl z, fun _ => ?_⟩
      rw [e5, ← flt_2 h1 h2]
      exact hQ d6 (fun q h0 _ => by rw [hd6, mu_ne h0, b5.1 q h0, b4 q h0]) (by rw [hd6, mu_ni (by omega), b5.2 2 (by omega), j4 2 (by omega) (by omega), j2 2 (by omega) (by omega)]) (fun z => absurd h2 z.2.1)
    · intro h2 d5 b5 e5 d6 hd6
      have vr2 := snV_rng (p := p) (L := L) (a := tA1 p L) (hi := 11) (by omega) (fun z => h2 (Or.inl z))
      have b6 : ∀ q, q ≠ 117 → d6 q = d q := fun q h0 => by rw [hd6, mu_ne h0, b5.1 q h0, b4 q h0]
      have j6 : ∀ j, j ≠ 3 → j ≠ 5 → d6 117 j = d4 117 j := fun j h0 h1 => by rw [hd6, mu_ni h1, b5.2 j h0]
      have T6 : TX d6 p L := TX_keep T4 (j6 2 (by omega) (by omega)) (by rw [b6 118 (by omega), b4 118 (by omega)])
      have g3 : d6 117 3 = tA2 p L := by rw [hd6, mu_ni (by omega), e5]; rfl
      have g6 : d6 117 6 = 0 := by rw [j6 6 (by omega) (by omega), j4 6 (by omega) (by omega), f6]
      have i0 := tI_0 hP h2
      refine ⟨⟨by omega, by omega⟩, fun _ => ?_, fun z => by omega⟩
      apply c_scanSteps (q := (tA2 p L, 0, fun _ => 0)) (m := 66) T6 hP (by show L - tA2 p L < (66 : Nat); omega) i0 ⟨fun _ _ _ => rfl, fun _ _ _ => rfl, g3, g6, fun k k0 k1 k2 => by have : k < 0 := k2; omega⟩
      intro d7 ⟨s1, s2, s3, s4, s5⟩
      have r : tI L (tQ p L).2 ∧ ((tQ p L).1 = 0 ∨ ((tQ p L).1 = 1 ∧ 0 < (tQ p L).2.2.1)) := tI_run hP 66 _ i0
      have e3' : d7 117 3 = (tQ p L).2.1 := s3
      have b7 : ∀ q, q ≠ 117 → q ≠ 119 → d7 q = d q := fun q h0 h1' => by rw [s1 q h0 h1', b6 q h0]
      have j7 : d7 117 2 = d 117 2 := by rw [s2 2 (by omega) (by omega), j6 2 (by omega) (by omega), j4 2 (by omega) (by omega), j2 2 (by omega) (by omega)]
      have hq := hQ d7 b7 j7 (fun _ => ⟨by rw [s2 4 (by omega) (by omega), j6 4 (by omega) (by omega), hd4, mu_get], by rw [s2 5 (by omega) (by omega), hd6, mu_get], s4, s5⟩)
      rw [flt_3 h1 h2] at hq
      show ((inR (tQ p L).1) ∧ ((tQ p L).1 = 0 → Q (d7 117 3) d7) ∧ ((tQ p L).1 ≠ 0 → Q (-6) d7))
      refine ⟨by rcases r.2 with z | ⟨z, _⟩ <;> rw [z] <;> decide, fun z => ?_, fun z => ?_⟩
      · rw [if_pos z] at hq
        rw [e3']
        exact hq
      · rw [if_neg z] at hq
        exact hq
end
