theorem riv_ne {a b : Nat} (ha : isRiv a) (hb : isRiv b) (h : a ≠ b) : a + 14 ≤ b ∨ b + 14 ≤ a := by
  unfold isRiv at ha hb
  omega
theorem zcp_at {f h : Int → Int} {n i : Int} (h0 : 0 ≤ i) (h1 : i < n) : zcp f h 0 0 n i = f i := by
  unfold zcp
  rw [if_pos (by omega), show 0 + (i - 0) = i by omega]
theorem mrow_at {d : zMem} {k : Nat} {r : Int → Int} {i : Int} : mrow d k r k i = r i := by rw [mrow_app, if_pos rfl]
theorem mrw_ne {d : zMem} {k q : Nat} {r : Int → Int} (h : q ≠ k) : mrow d k r q = d q := by funext i; rw [mrow_app, if_neg h]
theorem mu_ne {d : zMem} {k q : Nat} {i v : Int} (h : q ≠ k) : mu d k i v q = d q := by funext j; rw [mu_app, if_neg h]
section
variable {g : zGG} {Q : Int → zMem → Prop} {a b : Nat} {s : Row}
theorem c_copy1 {d : zMem} (ha : isRiv a) (hb : isRiv b) (hab : a + 14 ≤ b ∨ b + 14 ≤ a) (hR : RC d b s) (hs : crs s) (hQ : ∀ d', (∀ q, (q < a + 2 ∨ a + 5 ≤ q) → d' q = d q) → RC d' a s → Q 0 d') : Ev g M_X1_copyFrom FUL FUL [zR (a + 2), zR (b + 2)] d Q := by
  have h4 := hs.1
  apply e_X1_copyFrom ha hb
  intro d1 hd1 d2 hd2 d3 hd3
  have b1 : ∀ q, q ≠ a + 3 → d1 q = d q := fun q hq => by rw [hd1, mrw_ne hq]
  have b2 : ∀ q, q ≠ a + 3 → q ≠ a + 4 → d2 q = d q := fun q h0 h1 => by rw [hd2, mrw_ne h1, b1 q h0]
  refine hQ d3 (fun q hq => by rw [hd3, mu_ne (by omega), b2 q (by omega) (by omega)]) ⟨?_, fun i q1 q2 => ?_, fun c q1 q2 => ?_⟩
  · rw [hd3, mu_get, b2 _ (by omega) (by omega)]; exact hR.1
  · rw [hd3, mu_ne (by omega), hd2, mrw_ne (by omega), hd1, mrow_at, zcp_at q1 (by omega)]; exact hR.2.1 i q1 q2
  · rw [hd3, mu_ne (by omega), hd2, mrow_at, zcp_at q1 q2, b1 _ (by omega)]; exact hR.2.2 c q1 q2
theorem c_copy4 {d : zMem} (ha : isRiv a) (hb : isRiv b) (hab : a + 14 ≤ b ∨ b + 14 ≤ a) (hR : RX d b s) (hX : IX s) (hQ : ∀ d', butX d d' a → RX d' a s → Q 0 d') : Ev g M_X4_copyFrom FUL FUL [zR (a + 5), zR (b + 5)] d Q := by
  have hX1 := hX.1
  apply e_X4_copyFrom ha hb
  intro d1 hd1 d2 hd2 d3 hd3 d4 hd4 d5 hd5
  have b1 : ∀ q, q ≠ a + 6 → d1 q = d q := fun q hq => by rw [hd1, mrw_ne hq]
  have b2 : ∀ q, q ≠ a + 6 → q ≠ a + 7 → d2 q = d q := fun q h0 h1 => by rw [hd2, mrw_ne h1, b1 q h0]
  have b3 : ∀ q, q ≠ a + 6 → q ≠ a + 7 → q ≠ a + 8 → d3 q = d q := fun q h0 h1 h2 => by rw [hd3, mrw_ne h2, b2 q h0 h1]
  have b4 : ∀ q, q ≠ a + 6 → q ≠ a + 7 → q ≠ a + 8 → q ≠ a + 9 → d4 q = d q := fun q h0 h1 h2 h3 => by rw [hd4, mrw_ne h3, b3 q h0 h1 h2]
  refine hQ d5 (fun q hq => by rw [hd5, mu_ne (by omega), b4 q (by omega) (by omega) (by omega) (by omega)]) ⟨fun c q1 q2 => ?_, ?_, fun o q1 q2 => ?_⟩
  · rw [hd5, mu_ne (by omega), hd4, mrw_ne (by omega), hd3, mrw_ne (by omega), hd2, mrw_ne (by omega), hd1, mrow_at, zcp_at q1 q2]; exact hR.1 c q1 q2
  · rw [hd5, mu_get, b4 _ (by omega) (by omega) (by omega) (by omega)]; exact hR.2.1
  · have e7 : d5 (a + 7) o = d (b + 7) o := by
      rw [hd5, mu_ne (by omega), hd4, mrw_ne (by omega), hd3, mrw_ne (by omega), hd2, mrow_at, zcp_at q1 (by omega), b1 _ (by omega)]
    have e8 : d5 (a + 8) o = d (b + 8) o := by
      rw [hd5, mu_ne (by omega), hd4, mrw_ne (by omega), hd3, mrow_at, zcp_at q1 (by omega), b2 _ (by omega) (by omega)]
    have e9 : d5 (a + 9) o = d (b + 9) o := by
      rw [hd5, mu_ne (by omega), hd4, mrow_at, zcp_at q1 (by omega), b3 _ (by omega) (by omega) (by omega)]
    rw [e7, e8, e9]
    exact hR.2.2 o q1 q2
theorem c_copyFrom {d : zMem} (ha : isRiv a) (hb : isRiv b) (hne : a ≠ b) (hR : Rel d b s) (hI : Inv s) (hQ : ∀ d', butR d d' a → Rel d' a s → Q 0 d') : Ev g M_X7_copyFrom FUL FUL [zR a, zR b] d Q := by
  have hab := riv_ne ha hb hne
  obtain ⟨rS, rC, rX, rW, rF⟩ := hR
  obtain ⟨hs, hX, hY, hW, hS, hF⟩ := hI
  have hF1 := hF.1
  apply e_X7_copyFrom ha hb
  intro d1 hd1
  have b1 : ∀ q, q ≠ a + 1 → d1 q = d q := fun q hq => by rw [hd1, mrw_ne hq]
  apply c_copy1 ha hb hab (RC_keep rC hs (fun q hq => b1 q (by omega)) (fun _ _ _ => rfl)) hs
  intro d2 b2 C2
  have b12 : ∀ q, (q < a + 1 ∨ a + 5 ≤ q) → d2 q = d q := fun q hq => by rw [b2 q (by omega), b1 q (by omega)]
  apply c_copy4 ha hb hab (RX_keep rX hX (fun q hq => b12 q (by omega)) (fun _ _ _ => rfl)) hX
  intro d3 b3 X3 d4 hd4 d5 hd5 d6 hd6 d7 hd7 d8 hd8 d9 hd9 d10 hd10 d11 hd11
  have b13 : ∀ q, (q < a + 1 ∨ a + 10 ≤ q) → d3 q = d q := fun q hq => by rw [b3 q (by omega), b12 q (by omega)]
  have b47 : ∀ q, q ≠ a + 10 → q ≠ a + 11 → q ≠ a + 12 → q ≠ a + 13 → d7 q = d3 q := fun q h0 h1 h2 h3 => by rw [hd7, mrw_ne h3, hd6, mrw_ne h2, hd5, mrw_ne h1, hd4, mrw_ne h0]
  have bF : ∀ q, q ≠ a → d11 q = d7 q := fun q hq => by rw [hd11, mu_ne hq, hd10, mu_ne hq, hd9, mu_ne hq, hd8, mu_ne hq]
  have eb : d7 b = d b := by rw [b47 b (by omega) (by omega) (by omega) (by omega), b13 b (by omega)]
  refine hQ d11 (fun q hq => by rw [bF q (by omega), b47 q (by omega) (by omega) (by omega) (by omega), b13 q (by omega)]) ⟨fun k q1 q2 => ?_, ?_, ?_, ⟨fun c q1 q2 => ⟨?_, ?_⟩, fun k q1 q2 => ?_⟩, ⟨?_, fun k q1 q2 => ?_, ?_, ?_, ?_⟩⟩
  · rw [bF _ (by omega), b47 _ (by omega) (by omega) (by omega) (by omega), b3 _ (by omega), b2 _ (by omega), hd1, mrow_at, zcp_at q1 q2]
    exact rS k q1 q2
  · exact RC_keep C2 hs (fun q hq => by rw [bF _ (by omega), b47 _ (by omega) (by omega) (by omega) (by omega), b3 _ (by omega)]) (fun _ _ _ => rfl)
  · exact RX_keep X3 hX (fun q hq => by rw [bF _ (by omega), b47 _ (by omega) (by omega) (by omega) (by omega)]) (fun _ _ _ => rfl)
  · rw [bF _ (by omega), hd7, mrw_ne (by omega), hd6, mrw_ne (by omega), hd5, mrw_ne (by omega), hd4, mrow_at, zcp_at q1 q2, b13 _ (by omega)]
    exact (rW.1 c q1 q2).1
  · rw [bF _ (by omega), hd7, mrw_ne (by omega), hd6, mrw_ne (by omega), hd5, mrow_at, zcp_at q1 q2, hd4, mrw_ne (by omega), b13 _ (by omega)]
    exact (rW.1 c q1 q2).2
  · rw [bF _ (by omega), hd7, mrw_ne (by omega), hd6, mrow_at, zcp_at q1 q2, hd5, mrw_ne (by omega), hd4, mrw_ne (by omega), b13 _ (by omega)]
    exact rW.2 k q1 q2
  · rw [hd11, mu_ni (by omega), hd10, mu_ni (by omega), hd9, mu_ni (by omega), hd8, mu_get, eb]; exact rF.1
  · rw [bF _ (by omega), hd7, mrow_at, zcp_at q1 (by omega), hd6, mrw_ne (by omega), hd5, mrw_ne (by omega), hd4, mrw_ne (by omega), b13 _ (by omega)]
    exact rF.2.1 k q1 q2
  · rw [hd11, mu_ni (by omega), hd10, mu_ni (by omega), hd9, mu_get, hd8, mu_ne (by omega), eb]; exact rF.2.2.1
  · rw [hd11, mu_ni (by omega), hd10, mu_get, hd9, mu_ne (by omega), hd8, mu_ne (by omega), eb]; exact rF.2.2.2.1
  · rw [hd11, mu_get, hd10, mu_ne (by omega), hd9, mu_ne (by omega), hd8, mu_ne (by omega), eb]; exact rF.2.2.2.2
-- the reference: aside and back
theorem l_putAside {d0 : zMem} (hQ : ∀ d', but d0 d' 155 → (∀ k, 0 ≤ k → k < 1407 → d' 155 k = d0 154 k) → Q 0 d') : ∀ (n : Nat) (x : Int) (d : zMem), 1407 - x = n → 0 ≤ x → but d0 d 155 → (∀ k, 0 ≤ k → k < x → d 155 k = d0 154 k) →
    Fr g (eM g M_X9_putAside FUL FUL Q) M_X9_putAside FUL 2 [some (zR 153), some (zI x)] [] d
  | 0, x, d, hn, hx, hd, hv => by
    apply v_X9_putAside_2
    exact ⟨⟨by omega, by omega⟩, fun _ => hQ d hd (fun k q1 q2 => hv k q1 (by omega)), fun q => by omega⟩
  | n + 1, x, d, hn, hx, hd, hv => by
    apply v_X9_putAside_2
    refine ⟨⟨by omega, by omega⟩, fun q => by omega, fun _ => ⟨⟨by omega, by omega⟩, ⟨by omega, by omega⟩, fun d1 hd1 => l_putAside hQ n (x + 1) d1 (by omega) (by omega) (hd1 ▸ but_mu hd) (fun k q1 q2 => ?_)⟩⟩
    rw [hd1, mu_app, if_pos rfl]
    by_cases c : k = x
    · rw [if_pos c, hd 154 (by omega), c]
    · rw [if_neg c]; exact hv k q1 (by omega)
theorem r_putAside {d : zMem} (hQ : ∀ d', but d d' 155 → (∀ k, 0 ≤ k → k < 1407 → d' 155 k = d 154 k) → Q 0 d') : Ev g M_X9_putAside FUL FUL [zR 153] d Q := by
  apply e_X9_putAside
  exact l_putAside (d0 := d) hQ 1407 0 d (by omega) (by omega) but_rfl (fun _ _ _ => by omega)
theorem l_putBack {d0 : zMem} (hQ : ∀ d', but d0 d' 154 → (∀ k, 0 ≤ k → k < 1407 → d' 154 k = d0 155 k) → Q 0 d') : ∀ (n : Nat) (x : Int) (d : zMem), 1407 - x = n → 0 ≤ x → but d0 d 154 → (∀ k, 0 ≤ k → k < x → d 154 k = d0 155 k) →
    Fr g (eM g M_X9_putBack FUL FUL Q) M_X9_putBack FUL 2 [some (zR 153), some (zI x)] [] d
  | 0, x, d, hn, hx, hd, hv => by
    apply v_X9_putBack_2
    exact ⟨⟨by omega, by omega⟩, fun _ => hQ d hd (fun k q1 q2 => hv k q1 (by omega)), fun q => by omega⟩
  | n + 1, x, d, hn, hx, hd, hv => by
    apply v_X9_putBack_2
    refine ⟨⟨by omega, by omega⟩, fun q => by omega, fun _ => ⟨⟨by omega, by omega⟩, ⟨by omega, by omega⟩, fun d1 hd1 => l_putBack hQ n (x + 1) d1 (by omega) (by omega) (hd1 ▸ but_mu hd) (fun k q1 q2 => ?_)⟩⟩
    rw [hd1, mu_app, if_pos rfl]
    by_cases c : k = x
    · rw [if_pos c, hd 155 (by omega), c]
    · rw [if_neg c]; exact hv k q1 (by omega)
theorem r_putBack {d : zMem} (hQ : ∀ d', but d d' 154 → (∀ k, 0 ≤ k → k < 1407 → d' 154 k = d 155 k) → Q 0 d') : Ev g M_X9_putBack FUL FUL [zR 153] d Q := by
  apply e_X9_putBack
  exact l_putBack (d0 := d) hQ 1407 0 d (by omega) (by omega) but_rfl (fun _ _ _ => by omega)
end
