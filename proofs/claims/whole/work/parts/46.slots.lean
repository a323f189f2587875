section
variable {g : zGG} {Q : Int → Int → zMem → Prop}
theorem slot_riv {z : Int} (h0 : 0 ≤ z) (h1 : z < 2) : RT 29 z.toNat = 125 + 14 * z.toNat ∧ isRiv (125 + 14 * z.toNat) := by
  have : z = 0 ∨ z = 1 := by omega
  rcases this with rfl | rfl
  · exact ⟨by rw [RT31]; rfl, by unfold isRiv; decide⟩
  · exact ⟨by rw [RT31]; rfl, by unfold isRiv; decide⟩
theorem l_undo {d0 : zMem} {Qr : Int → zMem → Prop} {m : Int} (hm : 0 ≤ m ∧ m < 6) (hk : d0 153 3 = m) (hQ : ∀ d', but d0 d' 154 → (∀ k, 0 ≤ k → k < 1407 → d' 154 k = d0 156 (1407 * m + k)) → Qr m d') :
    ∀ (n : Nat) (x : Int) (d : zMem), 1407 - x = n → 0 ≤ x → but d0 d 154 → (∀ k, 0 ≤ k → k < x → d 154 k = d0 156 (1407 * m + k)) →
    Fr g (eM g M_X9_undo FUL FUL Qr) M_X9_undo FUL 22 [some (zR 153), some (zI x)] [] d
  | 0, x, d, hn, hx, hd, hv => by
    apply v_X9_undo_22
    rw [hd 153 (by omega), hk]
    exact ⟨⟨by omega, by omega⟩, fun _ => hQ d hd (fun k q1 q2 => hv k q1 (by omega)), fun q => by omega⟩
  | n + 1, x, d, hn, hx, hd, hv => by
    apply v_X9_undo_22
    rw [hd 153 (by omega), hk]
    refine ⟨⟨by omega, by omega⟩, fun q => by omega, fun _ => ⟨⟨by omega, by omega⟩, ⟨by omega, by omega⟩, fun d1 hd1 => l_undo hm hk hQ n (x + 1) d1 (by omega) (by omega) (hd1 ▸ but_mu hd) (fun k q1 q2 => ?_)⟩⟩
    rw [hd1, mu_app, if_pos rfl]
    by_cases c : k = x
    · rw [if_pos c, hd 156 (by omega), c]
    · rw [if_neg c]; exact hv k q1 (by omega)
theorem p_undo {d : zMem} (hJ : J d) (hQ : ∀ v d', J d' → Q v v d') : Ev g M_X8_undo FUL FUL [zR 0] d (fun v1 d1 => Ev g M_X9_undo FUL FUL [zR 153] d1 (fun v2 d2 => Q v1 v2 d2)) := by
  have hJ' := hJ
  obtain ⟨j1, ⟨h1, h2, h3, h4, h5⟩, j3, j4, w1, w2, w3⟩ := hJ'
  apply e_X8_undo
  apply e_X2_takeBack (Or.inl rfl)
  rw [h4]
  refine ⟨⟨by omega, by omega⟩, fun q d1 hd1 => ⟨⟨by omega, ⟨by omega, by omega⟩⟩, ⟨⟨by omega, by omega⟩, fun z => by omega, fun _ => ⟨⟨by omega, by omega⟩, fun z => by omega, fun _ => ⟨⟨by omega, by omega⟩, ⟨by omega, by omega⟩, ?_⟩⟩⟩⟩, fun q => ⟨by decide, fun z => absurd rfl z, fun _ => ?_⟩⟩
  · have hr := h5 (d 153 3 - 1) (by omega) (by omega)
    rw [RT34]
    have e : 33 + 14 * ((d 31 1 + (d 153 3 - 1)) % 6).toNat = hcell (d 31 1) (d 153 3 - 1) := rfl
    rw [e]
    have b1 : ∀ p, p ≠ 31 → d1 p = d p := fun p hp => by rw [hd1, mu_ne hp]
    have hge : 33 ≤ hcell (d 31 1) (d 153 3 - 1) := by unfold hcell; omega
    apply c_copyFrom (Or.inl rfl) hcell_riv (by omega) (Rel_keep hr.1 hr.2.1 (fun p p1 p2 => b1 p (by omega))) hr.2.1
    intro d2 b2 R2
    refine ⟨by decide, fun _ => ?_, fun z => absurd z (by decide)⟩
    apply e_X2_length
    have b02 : ∀ p, 15 ≤ p → p ≠ 31 → d2 p = d p := fun p h0 h1 => by rw [b2 p (by omega), b1 p h1]
    have e33 : d2 31 2 = d 153 3 - 1 := by rw [b2 31 (by omega), hd1, mu_get]
    have e331 : d2 31 1 = d 31 1 := by rw [b2 31 (by omega), hd1, mu_ni (by omega)]
    rw [e33]
    apply e_X9_undo
    rw [b02 153 (by omega) (by omega)]
    refine ⟨⟨by omega, by omega⟩, fun _ d3 hd3 => ?_, fun z => absurd z q⟩
    have b3 : ∀ p, p ≠ 153 → d3 p = d2 p := fun p hp => by rw [hd3, mu_ne hp]
    have e3 : d3 153 3 = d 153 3 - 1 := by rw [hd3, mu_get]
    have o3 : ∀ j, j ≠ 3 → d3 153 j = d 153 j := fun j hj => by rw [hd3, mu_ni hj, b02 153 (by omega) (by omega)]
    refine l_undo (d0 := d3) (m := d 153 3 - 1) (by omega) e3 ?_ 1407 0 d3 (by omega) (by omega) but_rfl (fun _ _ _ => by omega)
    intro d4 b4 hv4
    have b04 : ∀ p, 15 ≤ p → p ≠ 31 → p ≠ 153 → p ≠ 154 → d4 p = d p := fun p h0 h1 h2 h3 => by rw [b4 p h3, b3 p h2, b02 p h0 h1]
    have b24 : ∀ p, p ≠ 153 → p ≠ 154 → d4 p = d2 p := fun p h2 h3 => by rw [b4 p h3, b3 p h2]
    have e4 : ∀ j, d4 153 j = d3 153 j := fun j => by rw [b4 153 (by omega)]
    have eb : bRow d4 = bRow d := by unfold bRow; rw [b04 156 (by omega) (by omega) (by omega) (by omega)]
    refine hQ _ d4 ⟨River_same (s := bRow d (d 153 3 - 1)) (fun k k0 k1 => ?_) ⟨Rel_keep R2 hr.2.1 (fun p p1 p2 => b24 p (by omega) (by omega)), hr.2.1, hr.2.2⟩, ?_, ?_, ?_, ⟨?_, ?_, ?_⟩⟩
    · rw [hv4 k k0 k1, b3 156 (by omega), b02 156 (by omega) (by omega)]; rfl
    · rw [eb, e4 3, e3, b24 31 (by omega) (by omega), e331]
      refine ⟨h1, by omega, by rw [b24 31 (by omega) (by omega), e331], by rw [b24 31 (by omega) (by omega), e33], fun t t0 t1 => River_keep (h5 t t0 (by omega)) (fun p p1 p2 => b04 p ?_ ?_ ?_ ?_)⟩
      · unfold hcell at p1; omega
      · unfold hcell at p1; omega
      · unfold hcell at p2; omega
      · unfold hcell at p2; omega
    · exact JS_keep j3 (b04 _ (by omega) (by omega) (by omega) (by omega)) (b04 _ (by omega) (by omega) (by omega) (by omega)) (b04 _ (by omega) (by omega) (by omega) (by omega)) (fun p p1 p2 => b04 p (by omega) (by omega) (by omega) (by omega))
    · exact JP_keep j4 (by rw [b04 117 (by omega) (by omega) (by omega) (by omega)]) (b04 _ (by omega) (by omega) (by omega) (by omega)) (by rw [e4, o3 7 (by omega)]) (b04 _ (by omega) (by omega) (by omega) (by omega))
    · rw [b04 120 (by omega) (by omega) (by omega) (by omega)]; exact w1
    · rw [e4, o3 13 (by omega)]; exact w2
    · rw [e4, o3 14 (by omega)]; exact w3
  · apply e_X9_undo
    exact ⟨⟨by omega, by omega⟩, fun z => absurd q z, fun _ => hQ _ d hJ⟩
end
