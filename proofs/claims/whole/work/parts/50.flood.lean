section
variable {g : zGG} {s : Row}
theorem c_changeFlood {d : zMem} {a : Nat} {Q : Int → zMem → Prop} {y b : Int} (ha : isRiv a) (hR : Rel d a s) (hI : Inv s) (hy : 0 ≤ y ∧ y ≤ 999) (hb : b = 0 ∨ b = 1) (h1 : b = 1 → s 1395 < 8 → ¬ isFl s y → ∀ d', butR d d' a → Rel d' a (f_add s y) → Q 0 d') (h0 : ∀ p, b = 0 → 0 ≤ p → p < s 1395 → s (1396 + p) = y → ∀ d', butR d d' a → Rel d' a (f_rem s p) → Q 0 d') (hok : (b = 1 → s 1395 < 8 ∧ ¬ isFl s y) ∧ (b = 0 → isFl s y)) : Ev g M_X7_changeFlood FUL FUL [zR a, zI y, zI b] d Q := by
  have hF := hI.2.2.2.2.2
  have hF1 := hF.1
  have rF := hR.2.2.2.2
  apply e_X7_changeFlood ha
  refine ⟨by rcases hb with e | e <;> rw [e] <;> decide, fun q => ?_, fun q => ?_⟩
  · obtain ⟨p, p0, p1, p2⟩ := hok.2 q
    apply e_X7_removeFlood ha
    have lr := l_remove (g := g) (d0 := d) (Q := fun _ d1 => Q 0 d1) ha rF hF (y := y) ⟨by omega, by omega⟩ ⟨p0, p1⟩ p2 ?_ (s 1395).toNat 0 d (by omega) (by omega) but_rfl (fun k k0 k1 => by rw [if_pos (by omega)] at k1; omega) (fun k k0 k1 => rF.2.1 k k0 k1)
    · rw [if_pos (by omega)] at lr
      exact lr
    · intro d' k1 k2 k3 k4
      have e5 : f_rem s p 1395 = s 1395 - 1 := by unfold f_rem; rw [if_pos rfl]
      refine h0 p q p0 p1 p2 d' (fun w hw => k1 w (by omega) (by omega)) (flood_Rel hR hI (fun k hk => ?_) (fun w w0 w1 => k1 w (by omega) (by omega)) (by rw [k3, e5]) (fun k q0 q1 => k4 k q0 (by rw [e5] at q1; exact q1)) k2)
      unfold f_rem
      rw [if_neg (by omega), if_neg (by omega)]
  · obtain ⟨o1, o2⟩ := hok.1 (by omega)
    apply e_X7_addFlood ha
    rw [rF.1]
    refine ⟨⟨by omega, by omega⟩, fun z => by omega, fun _ => ⟨⟨by omega, by omega⟩, fun z => by omega, fun _ => ⟨⟨by omega, by omega⟩, fun d1 hd1 d2 hd2 => ?_⟩⟩⟩
    have e5 : f_add s y 1395 = s 1395 + 1 := ru_at
    refine h1 (by omega) o1 o2 d2 (fun w hw => by rw [hd2, mu_ne (by omega), hd1, mu_ne (by omega)]) (flood_Rel hR hI (fun k hk => ?_) (fun w w0 w1 => by rw [hd2, mu_ne (by omega), hd1, mu_ne (by omega)]) (by rw [hd2, mu_get, e5]) (fun k q0 q1 => ?_) (fun j hj => by rw [hd2, mu_ni hj, hd1, mu_ne (by omega)]))
    · unfold f_add
      rw [ru_ne (by omega), ru_ne (by omega)]
    · rw [e5] at q1
      rw [hd2, mu_ne (by omega), hd1, mu_app, if_pos rfl]
      unfold f_add
      rw [ru_ne (by omega)]
      unfold ru
      by_cases c : k = s 1395
      · rw [if_pos c, if_pos (by omega)]
      · rw [if_neg c, if_neg (by omega)]; exact rF.2.1 k q0 (by omega)
theorem l_rrem {d0 : zMem} {Q : Int → zMem → Prop} {y b p : Int} (hF : IF s) (hy : inR y) (hp : 0 ≤ p ∧ p < s 1395) (hpy : s (1396 + p) = y) (hQ : ∀ d', but d0 d' 154 → d' 154 = f_rem s p → Q (s 1395 - 1) d') :
    ∀ (n : Nat) (x v : Int) (d : zMem), s 1395 - 1 - x = n → 0 ≤ x → but d0 d 154 → (∀ i, d 154 i = if i = 1395 then s 1395 - 1 else if 1396 + p ≤ i ∧ i < 1396 + x then s (i + 1) else s i) → ((v = 1 ∧ p < x) ∨ (v = 0 ∧ x ≤ p)) →
    Fr g (eM g M_X9_flood FUL FUL Q) M_X9_flood FUL 111 [some (zR 153), some (zI y), some (zI b), some (zI v), some (zI x)] [] d
  | 0, x, v, d, hn, hx, hd, hv, hf => by
    have hF1 := hF.1
    apply v_X9_flood_111
    have e5 : d 154 1395 = s 1395 - 1 := by rw [hv, if_pos rfl]
    rw [e5]
    refine ⟨⟨⟨by omega, by omega⟩, ⟨by omega, by omega⟩⟩, fun _ => hQ d hd ?_, fun q => by omega⟩
    funext i
    rw [hv]
    unfold f_rem
    rw [show x = s 1395 - 1 by omega]
  | n + 1, x, v, d, hn, hx, hd, hv, hf => by
    have hF1 := hF.1
    have hF2 := hF.2.1 x hx (by omega)
    apply v_X9_flood_111
    have e5 : d 154 1395 = s 1395 - 1 := by rw [hv, if_pos rfl]
    have ex : d 154 (1396 + x) = s (1396 + x) := by rw [hv, if_neg (by omega), if_neg (by omega)]
    have ex1 : d 154 (1396 + x + 1) = s (1396 + x + 1) := by rw [hv, if_neg (by omega), if_neg (by omega)]
    rw [e5, ex, ex1]
    have put : ∀ (v' w : Int) (d1 : zMem), d1 = mu d 154 (1396 + x) w → (w = if p ≤ x then s (1396 + x + 1) else s (1396 + x)) → ((v' = 1 ∧ p < x + 1) ∨ (v' = 0 ∧ x + 1 ≤ p)) → Fr g (eM g M_X9_flood FUL FUL Q) M_X9_flood FUL 111 [some (zR 153), some (zI y), some (zI b), some (zI v'), some (zI (x + 1))] [] d1 := by
      intro v' w d1 hd1 hw hv'
      refine l_rrem hF hy hp hpy hQ n (x + 1) v' d1 (by omega) (by omega) (hd1 ▸ but_mu hd) (fun i => ?_) hv'
      rw [hd1, mu_app, if_pos rfl]
      by_cases c : i = 1396 + x
      · rw [if_pos c, hw, if_neg (show ¬ i = 1395 by omega)]
        by_cases c2 : p ≤ x
        · rw [if_pos c2, if_pos (show 1396 + p ≤ i ∧ i < 1396 + (x + 1) by omega), c]
        · rw [if_neg c2, if_neg (show ¬ (1396 + p ≤ i ∧ i < 1396 + (x + 1)) by omega), c]
      · rw [if_neg c, hv i]
        by_cases c1 : i = 1395
        · rw [if_pos c1, if_pos c1]
        · rw [if_neg c1, if_neg c1]
          by_cases c2 : 1396 + p ≤ i ∧ i < 1396 + x
          · rw [if_pos c2, if_pos (show 1396 + p ≤ i ∧ i < 1396 + (x + 1) by omega)]
          · rw [if_neg c2, if_neg (show ¬ (1396 + p ≤ i ∧ i < 1396 + (x + 1)) by omega)]
    refine ⟨⟨⟨by omega, by omega⟩, ⟨by omega, by omega⟩⟩, fun q => by omega, fun _ => ?_⟩
    rcases hf with ⟨rfl, hf⟩ | ⟨rfl, hf⟩
    · exact ⟨by decide, fun _ => ⟨⟨by omega, by omega⟩, ⟨by omega, by omega⟩, fun d1 hd1 => put 1 _ d1 hd1 (by rw [if_pos (by omega)]) (Or.inl ⟨rfl, by omega⟩)⟩, fun q => absurd q (by decide)⟩
    · refine ⟨by decide, fun q => absurd rfl q, fun _ => ⟨⟨by omega, by omega⟩, ⟨⟨⟨by omega, by omega⟩, hy⟩, fun q => ⟨⟨by omega, by omega⟩, ⟨by omega, by omega⟩, fun d2 hd2 => ?_⟩, fun q => ⟨⟨by omega, by omega⟩, ⟨by omega, by omega⟩, fun d3 hd3 => ?_⟩⟩⟩⟩
      · have hxp : x ≠ p := fun e => q (by rw [e, hpy])
        exact put 0 _ d2 hd2 (by rw [if_neg (by omega)]) (Or.inr ⟨rfl, by omega⟩)
      · have hxp : x = p := hF.2.2.1 x p hx (by omega) hp.1 hp.2 (by rw [q, hpy])
        exact put 1 _ d3 hd3 (by rw [if_pos (by omega)]) (Or.inl ⟨rfl, by omega⟩)
end
