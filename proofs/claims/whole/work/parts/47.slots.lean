section
variable {g : zGG} {Q : Int → Int → zMem → Prop}
theorem l_save {d0 : zMem} {Qr : Int → zMem → Prop} {z : Int} (hz : 0 ≤ z ∧ z < 2) (hQ : ∀ d', (∀ q, q ≠ 157 → q ≠ 158 → d' q = d0 q) → (∀ k, 0 ≤ k → k < 1407 → d' 157 (1407 * z + k) = d0 154 k) → (∀ p, (p < 1407 * z ∨ 1407 * z + 1407 ≤ p) → d' 157 p = d0 157 p) → (∀ j, d' 158 j = if j = z then 1 else d0 158 j) → Qr (d0 154 4) d') :
    ∀ (n : Nat) (x : Int) (d : zMem), 1407 - x = n → 0 ≤ x → but d0 d 157 → (∀ k, 0 ≤ k → k < x → d 157 (1407 * z + k) = d0 154 k) → (∀ p, (p < 1407 * z ∨ 1407 * z + x ≤ p) → d 157 p = d0 157 p) →
    Fr g (eM g M_X9_save FUL FUL Qr) M_X9_save FUL 14 [some (zR 153), some (zI z), some (zI x)] [] d
  | 0, x, d, hn, hx, hd, hv, ho => by
    apply v_X9_save_14
    refine ⟨⟨by omega, by omega⟩, fun _ => ⟨hz, fun d1 hd1 => ?_⟩, fun q => by omega⟩
    rw [hd 154 (by omega)]
    refine hQ d1 (fun q h0 h1 => by rw [hd1, mu_ne h1, hd q h0]) (fun k k0 k1 => ?_) (fun p hp => ?_) (fun j => ?_)
    · rw [hd1, mu_ne (by omega)]; exact hv k k0 (by omega)
    · rw [hd1, mu_ne (by omega)]; exact ho p (by omega)
    · rw [hd1, mu_app, if_pos rfl, hd 158 (by omega)]
  | n + 1, x, d, hn, hx, hd, hv, ho => by
    apply v_X9_save_14
    refine ⟨⟨by omega, by omega⟩, fun q => by omega, fun _ => ⟨⟨by omega, by omega⟩, ⟨by omega, by omega⟩, fun d2 hd2 => l_save hz hQ n (x + 1) d2 (by omega) (by omega) (hd2 ▸ but_mu hd) (fun k k0 k1 => ?_) (fun p hp => ?_)⟩⟩
    · rw [hd2, mu_app, if_pos rfl, hd 154 (by omega)]
      by_cases c : k = x
      · rw [if_pos (by omega), c]
      · rw [if_neg (by omega)]; exact hv k k0 (by omega)
    · rw [hd2, mu_app, if_pos rfl, if_neg (by omega)]
      exact ho p (by omega)
theorem p_save {d : zMem} {x : Int} (hJ : J d) (hx : inR x) (hQ : ∀ v d', J d' → Q v v d') : Ev g M_X8_save FUL FUL [zR 0, zI x] d (fun v1 d1 => Ev g M_X9_save FUL FUL [zR 153, zI x] d1 (fun v2 d2 => Q v1 v2 d2)) := by
  have hJ' := hJ
  obtain ⟨j1, j2, j3, j4, w1, w2, w3⟩ := hJ'
  have bad : ¬ (0 ≤ x ∧ x ≤ 1) → Ev g M_X9_save FUL FUL [zR 153, zI x] d (fun v2 d2 => Q (-2) v2 d2) := by
    intro c
    apply e_X9_save
    apply s_in hx (by decide) (by decide)
    rw [if_neg c]
    exact ⟨by decide, fun q => absurd rfl q, fun _ => hQ _ d hJ⟩
  apply e_X8_save
  refine ⟨hx, fun q => bad (by omega), fun q => ⟨hx, fun q1 => bad (by omega), fun q1 => ⟨hx, fun z => by omega, fun _ => ⟨⟨q, q1⟩, ⟨q, q1⟩, ?_⟩⟩⟩⟩
  obtain ⟨er, rv⟩ := slot_riv q q1
  rw [er]
  apply c_copyFrom rv (Or.inl rfl) (by omega) j1.1 j1.2.1
  intro d1 b1 R1
  refine ⟨⟨q, q1⟩, fun d2 hd2 => ?_⟩
  have b2 : ∀ p, p ≠ 30 → d2 p = d1 p := fun p hp => by rw [hd2, mu_ne hp]
  have b02 : ∀ p, p ≠ 30 → (p < 125 + 14 * x.toNat ∨ 125 + 14 * x.toNat + 14 ≤ p) → d2 p = d p := fun p h0 h1 => by rw [b2 p h0, b1 p h1]
  apply e_X1_length (Or.inl rfl)
  have el : d2 (1 + 2) 2 = d 154 4 := by rw [b02 _ (by omega) (by omega)]; exact j1.1.2.1.1
  rw [el]
  apply e_X9_save
  apply s_in hx (by decide) (by decide)
  rw [if_pos (by omega)]
  refine ⟨by decide, fun _ => ?_, fun z => absurd z (by decide)⟩
  have e164 : d2 154 = d 154 := b02 154 (by omega) (by omega)
  refine l_save (d0 := d2) ⟨q, q1⟩ ?_ 1407 0 d2 (by omega) (by omega) but_rfl (fun _ _ _ => by omega) (fun _ _ => rfl)
  intro d3 k1 k2 k3 k4
  rw [e164] at k2 ⊢
  have b3 : ∀ p, p ≠ 30 → p ≠ 157 → p ≠ 158 → (p < 125 + 14 * x.toNat ∨ 125 + 14 * x.toNat + 14 ≤ p) → d3 p = d p := fun p h0 h1 h2 h3 => by rw [k1 p h1 h2, b02 p h0 h3]
  have e163 : d3 153 = d 153 := b3 153 (by omega) (by omega) (by omega) (by omega)
  have eb : bRow d3 = bRow d := by unfold bRow; rw [b3 156 (by omega) (by omega) (by omega) (by omega)]
  refine hQ _ d3 ⟨?_, ?_, fun z z0 z1 => ?_, ?_, ⟨?_, ?_, ?_⟩⟩
  · rw [b3 154 (by omega) (by omega) (by omega) (by omega)]
    exact River_keep j1 (fun p p1 p2 => b3 p (by omega) (by omega) (by omega) (by omega))
  · rw [eb, e163, b3 31 (by omega) (by omega) (by omega) (by omega)]
    exact JH_keep j2 (b3 31 (by omega) (by omega) (by omega) (by omega)) (fun p p1 p2 => b3 p (by omega) (by omega) (by omega) (by omega))
  · have e32 : d3 30 z = if z = x then 1 else d 30 z := by
      rw [k1 30 (by omega) (by omega), hd2, mu_app, if_pos rfl, b1 30 (by omega)]
    have e168 : d3 158 z = if z = x then 1 else d 158 z := by
      rw [k4 z, b02 158 (by omega) (by omega)]
    obtain ⟨a1, a2, a3⟩ := j3 z z0 z1
    by_cases c : z = x
    · rw [e32, e168, if_pos c, if_pos c]
      refine ⟨rfl, Or.inr rfl, fun _ => ?_⟩
      subst c
      refine River_same (s := d 154) (fun k k0 k1 => ?_) ⟨Rel_keep R1 j1.2.1 (fun p p1 p2 => by rw [k1 p (by omega) (by omega), b2 p (by omega)]), j1.2.1, j1.2.2⟩
      exact k2 k k0 k1
    · rw [e32, e168, if_neg c, if_neg c]
      refine ⟨a1, a2, fun e => ?_⟩
      refine River_same (s := fun k => d 157 (1407 * z + k)) (fun k k0 k1 => ?_) (River_keep (a3 e) (fun p p1 p2 => b3 p (by omega) (by omega) (by omega) (by omega)))
      show d3 157 (1407 * z + k) = d 157 (1407 * z + k)
      rw [k3 _ (by omega), b02 157 (by omega) (by omega)]
  · exact JP_keep j4 (by rw [b3 117 (by omega) (by omega) (by omega) (by omega)]) (b3 _ (by omega) (by omega) (by omega) (by omega)) (by rw [e163]) (b3 _ (by omega) (by omega) (by omega) (by omega))
  · rw [b3 120 (by omega) (by omega) (by omega) (by omega)]; exact w1
  · rw [e163]; exact w2
  · rw [e163]; exact w3
theorem l_restore {d0 : zMem} {Qr : Int → zMem → Prop} {z : Int} (hz : 0 ≤ z ∧ z < 2) (hQ : ∀ d', but d0 d' 154 → (∀ k, 0 ≤ k → k < 1407 → d' 154 k = d0 157 (1407 * z + k)) → Qr (d0 157 (1407 * z + 4)) d') :
    ∀ (n : Nat) (x : Int) (d : zMem), 1407 - x = n → 0 ≤ x → but d0 d 154 → (∀ k, 0 ≤ k → k < x → d 154 k = d0 157 (1407 * z + k)) →
    Fr g (eM g M_X9_restore FUL FUL Qr) M_X9_restore FUL 30 [some (zR 153), some (zI z), some (zI x)] [] d
  | 0, x, d, hn, hx, hd, hv => by
    apply v_X9_restore_30
    refine ⟨⟨by omega, by omega⟩, fun _ => ?_, fun q => by omega⟩
    rw [hv 4 (by omega) (by omega)]
    exact hQ d hd (fun k q1 q2 => hv k q1 (by omega))
  | n + 1, x, d, hn, hx, hd, hv => by
    apply v_X9_restore_30
    refine ⟨⟨by omega, by omega⟩, fun q => by omega, fun _ => ⟨⟨by omega, by omega⟩, ⟨by omega, by omega⟩, fun d1 hd1 => l_restore hz hQ n (x + 1) d1 (by omega) (by omega) (hd1 ▸ but_mu hd) (fun k q1 q2 => ?_)⟩⟩
    rw [hd1, mu_app, if_pos rfl]
    by_cases c : k = x
    · rw [if_pos c, hd 157 (by omega), c]
    · rw [if_neg c]; exact hv k q1 (by omega)
theorem p_restore {d : zMem} {x : Int} (hJ : J d) (hx : inR x) (hQ : ∀ v d', J d' → Q v v d') : Ev g M_X8_restore FUL FUL [zR 0, zI x] d (fun v1 d1 => Ev g M_X9_restore FUL FUL [zR 153, zI x] d1 (fun v2 d2 => Q v1 v2 d2)) := by
  have hJ' := hJ
  obtain ⟨j1, j2, j3, j4, w1, w2, w3⟩ := hJ'
  have bad : ¬ (0 ≤ x ∧ x ≤ 1) → Ev g M_X9_restore FUL FUL [zR 153, zI x] d (fun v2 d2 => Q (-2) v2 d2) := by
    intro c
    apply e_X9_restore
    apply s_in hx (by decide) (by decide)
    rw [if_neg c]
    exact ⟨by decide, fun q => absurd rfl q, fun _ => hQ _ d hJ⟩
  apply e_X8_restore
  refine ⟨hx, fun q => bad (by omega), fun q => ⟨hx, fun q1 => bad (by omega), fun q1 => ⟨hx, fun z => by omega, fun _ => ⟨⟨q, q1⟩, ⟨q, q1⟩, ?_⟩⟩⟩⟩
  obtain ⟨er, rv⟩ := slot_riv q q1
  obtain ⟨a1, a2, a3⟩ := j3 x q q1
  rw [a1, er]
  refine ⟨by rcases a2 with e | e <;> rw [e] <;> decide, fun c => ?_, fun c => ?_⟩
  · have hsl := a3 (by omega)
    apply p_new hJ
    intro d1 st h1 h2 h3
    refine ⟨⟨q, q1⟩, ?_⟩
    apply c_copyFrom (Or.inl rfl) rv (by omega) (Rel_keep hsl.1 hsl.2.1 (fun p p1 p2 => h1 p (by omega) (by omega))) hsl.2.1
    intro d2 b2 R2
    have hC := cCh_of h1 h2 b2 R2
    apply e_X1_length (Or.inl rfl)
    rw [show d2 (1 + 2) 2 = d 157 (1407 * x + 4) from R2.2.1.1]
    have e168 : d2 158 = d 158 := hC.1 158 (by omega)
    have e167 : d2 157 = d 157 := hC.1 157 (by omega)
    apply e_X9_restore
    apply s_in hx (by decide) (by decide)
    rw [if_pos (by omega), e168]
    refine ⟨by decide, fun _ => ⟨⟨q, q1⟩, ⟨by rcases a2 with e | e <;> rw [e] <;> decide, fun _ => ?_, fun z => absurd z c⟩⟩, fun z => absurd z (by decide)⟩
    apply rn_know hJ hC
    intro d3 k1 k2 k3 k4
    have e3 : d3 157 = d 157 := by rw [k1 157 (by omega) (by omega), e167]
    refine l_restore (d0 := d3) ⟨q, q1⟩ ?_ 1407 0 d3 (by omega) (by omega) but_rfl (fun _ _ _ => by omega)
    intro d4 b4 hv4
    rw [e3] at hv4 ⊢
    refine hQ _ d4 (J_ch hJ hC hsl.2.1 hsl.2.2 k1 k2 k3 k4 (rF_but rF_rfl (by omega) b4) (fun k k0 k1 => hv4 k k0 k1) ?_)
    rw [b4 153 (by omega), k2 14 (by omega), hC.1 153 (by omega)]; exact w3
  · apply e_X9_restore
    apply s_in hx (by decide) (by decide)
    rw [if_pos (by omega)]
    exact ⟨by decide, fun _ => ⟨⟨q, q1⟩, ⟨by rw [c]; decide, fun z => absurd c z, fun _ => hQ _ d hJ⟩⟩, fun z => absurd z (by decide)⟩
end
