-- years
noncomputable def yrs : Nat → Row → Row
  | 0, s => s
  | n + 1, s => yrs n (f_year s)
theorem yrs_ok : ∀ (n : Nat) (s : Row), Inv s → s 1404 + n ≤ 4000 → Inv (yrs n s) ∧ yrs n s 1404 = s 1404 + n
  | 0, s, h, _ => ⟨h, by show s 1404 = _; omega⟩
  | n + 1, s, h, hy => by
    have p := year_parts h (by omega)
    obtain ⟨a, b⟩ := yrs_ok n (f_year s) p.2.2.2.2.1 (by rw [year_1404]; omega)
    exact ⟨a, by show yrs n (f_year s) 1404 = _; rw [b, year_1404]; omega⟩
theorem growN_fl {w : Int} : ∀ (n : Nat) (k : Int) (p : GS), (p.2.2 = 0 ∨ p.2.2 = 1) → (itg (growStep w) n k p).2.2 = 0 ∨ (itg (growStep w) n k p).2.2 = 1
  | 0, k, p, h => h
  | n + 1, k, p, h => by
    refine growN_fl n (k + 1) (growStep w p k) ?_
    unfold growStep
    by_cases e : p.2.1 ≤ k ∧ ∃ l, bd p.1 k l ∧ grows p.1 k l
    · rw [dif_pos e]
      exact hitN_01 h
    · rw [dif_neg e]
      exact h
theorem tkn_01 {w fl : Int} {s : Row} (h : fl = 0 ∨ fl = 1) : tkn w fl s = 0 ∨ tkn w fl s = 1 := growN_fl _ _ _ h
section
variable {g : zGG} {Q : Int → Int → zMem → Prop}
theorem l_cpass {d0 : zMem} {Qc : Int → zMem → Prop} {X x2 : Int} {r : Row} (hX : 0 ≤ X ∧ X ≤ 1000) (hw : inR (d0 120 2)) (hQ : ∀ d', butP d0 d' 1 → d' 120 2 = d0 120 2 → Rel d' 1 r → Qc (d' 1 9 - x2) d') :
    ∀ (n : Nat) (x : Int) (d : zMem) (t : Row), X - x = n → 0 ≤ x → butP d0 d 1 → d 120 2 = d0 120 2 → Rel d 1 t → Inv t → t 1404 + n ≤ 4000 → yrs n t = r →
    Fr g (eM g M_X8_pass FUL FUL Qc) M_X8_pass FUL 53 [some (zR 0), some (zI X), some (zI x2), some (zI x)] [] d
  | 0, x, d, t, hn, hx, hd, h128, hR, hI, hy, ht => by
    apply v_X8_pass_53
    have ht' : t = r := ht
    exact ⟨⟨⟨by omega, by omega⟩, ⟨by omega, by omega⟩⟩, fun _ => hQ d hd h128 (ht' ▸ hR), fun q => by omega⟩
  | n + 1, x, d, t, hn, hx, hd, h128, hR, hI, hy, ht => by
    apply v_X8_pass_53
    refine ⟨⟨⟨by omega, by omega⟩, ⟨by omega, by omega⟩⟩, fun q => by omega, fun _ => ?_⟩
    apply c_passYear (Or.inl rfl) hR hI (by omega) (by rw [h128]; exact hw)
    intro d1 b1 j1 _ _ R1
    have p := year_parts hI (by omega)
    exact l_cpass hX hw hQ n (x + 1) d1 _ (by omega) (by omega) (butP_trans hd b1) (by rw [j1 2 (by omega) (by omega), h128]) R1 p.2.2.2.2.1 (by rw [year_1404]; omega) ht
theorem l_rpass {d0 : zMem} {Qr : Int → zMem → Prop} {X x2 : Int} {r : Row} (hX : 0 ≤ X ∧ X ≤ 1000) (hw : inR (d0 153 13)) (hQ : ∀ d', rF d0 d' → d' 154 = r → (d' 153 14 = 0 ∨ d' 153 14 = 1) → Qr (r 1405 - x2) d') :
    ∀ (n : Nat) (x : Int) (d : zMem) (t : Row), X - x = n → 0 ≤ x → rF d0 d → d 154 = t → (d 153 14 = 0 ∨ d 153 14 = 1) → Inv t → t 1404 + n ≤ 4000 → yrs n t = r →
    Fr g (eM g M_X9_pass FUL FUL Qr) M_X9_pass FUL 47 [some (zR 153), some (zI X), some (zI x2), some (zI x), none] [] d
  | 0, x, d, t, hn, hx, hd, hr, hfl, hI, hy, ht => by
    apply v_X9_pass_47
    have ht' : t = r := ht
    refine ⟨⟨⟨by omega, by omega⟩, ⟨by omega, by omega⟩⟩, fun _ => ?_, fun q => by omega⟩
    rw [hr, ht']
    exact hQ d hd (hr.trans ht') hfl
  | n + 1, x, d, t, hn, hx, hd, hr, hfl, hI, hy, ht => by
    apply v_X9_pass_47
    refine ⟨⟨⟨by omega, by omega⟩, ⟨by omega, by omega⟩⟩, fun q => by omega, fun _ => ?_⟩
    apply r_goOn hr hI (by omega) (by rw [hd.2 13 (by omega) (by omega) (by omega) (by omega) (by omega)]; exact hw) hfl
    intro d1 f1 r1 h14
    have p := year_parts hI (by omega)
    exact l_rpass hX hw hQ n (x + 1) d1 _ (by omega) (by omega) (rF_trans hd f1) r1 (by rw [h14]; exact tkn_01 hfl) p.2.2.2.2.1 (by rw [year_1404]; omega) ht
theorem p_pass {d : zMem} {x : Int} (hJ : J d) (hx : inR x) (hQ : ∀ v d', J d' → Q v v d') : Ev g M_X8_pass FUL FUL [zR 0, zI x] d (fun v1 d1 => Ev g M_X9_pass FUL FUL [zR 153, zI x] d1 (fun v2 d2 => Q v1 v2 d2)) := by
  have hR := hJ.1
  have hF := hR.2.1.2.2.2.2.2
  have hF4 := hF.2.2.2
  have hy := hR.2.2
  have e9 : d 1 8 = d 154 1404 := hR.1.2.2.2.2.2.2.1
  have bad1 : ¬ (1 ≤ x ∧ x ≤ 50) → Ev g M_X9_pass FUL FUL [zR 153, zI x] d (fun v2 d2 => Q (-2) v2 d2) := by
    intro c
    apply e_X9_pass
    apply s_in hx (by decide) (by decide)
    rw [if_neg c]
    exact ⟨by decide, fun q => absurd rfl q, fun _ => hQ _ d hJ⟩
  apply e_X8_pass
  refine ⟨hx, fun q => bad1 (by omega), fun q => ⟨hx, fun q1 => ⟨by rw [e9]; exact ⟨by omega, by omega⟩, fun q2 => ?_, fun q2 => ?_⟩, fun q1 => bad1 (by omega)⟩⟩
  · rw [e9] at q2
    apply p_new hJ
    intro d1 st h1 h2 h3
    have hyr := yrs_ok x.toNat (d 154) hR.2.1 (by omega)
    rw [show d1 1 9 = d 154 1405 from h3.2.2.2.2.2.2.2.1]
    have w1 := hJ.2.2.2.2.1
    refine l_cpass (d0 := d1) (r := yrs x.toNat (d 154)) ⟨by omega, by omega⟩ (by rw [h1 120 (by omega) (by omega)]; exact w1) ?_ x.toNat 0 d1 (d 154) (by omega) (by omega) (fun _ _ _ _ _ => rfl) rfl h3 hR.2.1 (by omega) rfl
    intro d2 b2 h128 R2
    have hC := cCh_ofP h1 h2 b2 h128 R2
    have e164 : d2 154 = d 154 := hC.1 154 (by omega)
    rw [show d2 1 9 = yrs x.toNat (d 154) 1405 from R2.2.2.2.2.2.2.2.1]
    apply e_X9_pass
    apply s_in hx (by decide) (by decide)
    rw [if_pos ⟨q, q1⟩, e164]
    refine ⟨by decide, fun _ => ⟨⟨by omega, by omega⟩, fun _ => ?_, fun z => by omega⟩, fun z => absurd z (by decide)⟩
    apply rn_know hJ hC
    intro d3 k1 k2 k3 k4
    have e3 : d3 154 = d 154 := by rw [k1 154 (by omega) (by omega), e164]
    have e163 : ∀ j, j ≠ 3 → d3 153 j = d 153 j := fun j hj => by rw [k2 j hj, hC.1 153 (by omega)]
    rw [e3]
    refine l_rpass (d0 := d3) (r := yrs x.toNat (d 154)) ⟨by omega, by omega⟩ (by rw [e163 13 (by omega)]; exact hJ.2.2.2.2.2.1) ?_ x.toNat 0 d3 (d 154) (by omega) (by omega) rF_rfl e3 (by rw [e163 14 (by omega)]; exact hJ.2.2.2.2.2.2) hR.2.1 (by omega) rfl
    intro d4 f4 r4 h14
    exact hQ _ d4 (J_ch hJ hC hyr.1 (by rw [hyr.2]; omega) k1 k2 k3 k4 f4 (by rw [r4]; exact same_rfl) h14)
  · rw [e9] at q2
    apply e_X9_pass
    apply s_in hx (by decide) (by decide)
    rw [if_pos ⟨q, q1⟩]
    exact ⟨by decide, fun _ => ⟨⟨by omega, by omega⟩, fun z => by omega, fun _ => hQ _ d hJ⟩, fun z => absurd z (by decide)⟩
end
