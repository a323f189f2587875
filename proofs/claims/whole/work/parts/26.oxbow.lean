section
variable {g : zGG} {Q : Int → zMem → Prop} {a : Nat} {s : Row}
def butX (d0 d : zMem) (a : Nat) : Prop := ∀ q, (q < a + 5 ∨ a + 10 ≤ q) → d q = d0 q
theorem butX_rfl {d : zMem} : butX d d a := fun _ _ => rfl
theorem butX_mu {d0 d : zMem} {k : Nat} {i v : Int} (h : butX d0 d a) (hk : a + 5 ≤ k ∧ k < a + 10) : butX d0 (mu d k i v) a := fun q hq => by
  rw [← h q hq]; funext j; rw [mu_app, if_neg (by omega)]
theorem butX_trans {d0 d1 d2 : zMem} (h : butX d0 d1 a) (h2 : butX d1 d2 a) : butX d0 d2 a := fun q hq => (h2 q hq).trans (h q hq)
theorem own_range {s : Row} (hX : IX s) {c : Int} (h0 : 0 ≤ c) (h1 : c < 240) : -1 ≤ own (s (1115 + c)) ∧ own (s (1115 + c)) < s 1355 := by
  have h := hX.2.1 c h0 h1
  have := hX.1
  unfold own
  split <;> omega
theorem s_has {d : zMem} {x : Int} (ha : isRiv a) (hx : inR x) (hl : 0 ≤ d (a + 5) 4 ∧ d (a + 5) 4 ≤ 12) (h : Q (if 0 ≤ x ∧ x < d (a + 5) 4 then 1 else 0) d) : Ev g M_X4_has FUL FUL [zR (a + 5), zI x] d Q := by
  apply e_X4_has ha
  grind
theorem c_has {d : zMem} {x : Int} (ha : isRiv a) (hR : RX d a s) (hX : IX s) (hx : inR x) (h : Q (if 0 ≤ x ∧ x < s 1355 then 1 else 0) d) : Ev g M_X4_has FUL FUL [zR (a + 5), zI x] d Q := by
  apply s_has ha hx (by rw [hR.2.1]; exact hX.1)
  rw [hR.2.1]; exact h
theorem c_ownerOf {d : zMem} {x : Int} (ha : isRiv a) (hR : RX d a s) (hx : inR x) (h : Q (if 0 ≤ x ∧ x < 240 then own (s (1115 + x)) else -1) d) : Ev g M_X4_ownerOf FUL FUL [zR (a + 5), zI x] d Q := by
  apply e_X4_ownerOf ha
  apply s_isOnLand hx
  by_cases hc : 0 ≤ x ∧ x < 240
  · rw [if_pos hc] at h ⊢
    rw [hR.1 x hc.1 hc.2]
    exact ⟨by decide, fun q => absurd q (by decide), fun _ => ⟨hc, h⟩⟩
  · rw [if_neg hc] at h ⊢
    exact ⟨by decide, fun _ => h, fun q => absurd rfl q⟩
def dr1 (d0 d : zMem) (a : Nat) (s : Row) (o x : Int) : Prop := but d0 d (a + 6) ∧ (∀ c, 0 ≤ c → c < 240 → d (a + 6) c = if c < x then own (f_drop s o (1115 + c)) else own (s (1115 + c)))
theorem drop_own {s : Row} {o c : Int} (ho : 0 ≤ o) (h0 : 0 ≤ c) (h1 : c < 240) (hv : s (1115 + c) = -6 ∨ 0 ≤ s (1115 + c)) : own (f_drop s o (1115 + c)) = if own (s (1115 + c)) = o then -1 else if o < own (s (1115 + c)) then own (s (1115 + c)) - 1 else own (s (1115 + c)) := by
  unfold f_drop own
  grind
theorem l_drop1 {d0 : zMem} {o : Int} (ha : isRiv a) (hX : IX s) (h0 : 0 ≤ o) (h1 : o < s 1355)
    (hQ : ∀ d', dr1 d0 d' a s o 240 → Fr g (eM g M_X4_drop FUL FUL Q) M_X4_drop FUL 68 [some (zR (a + 5)), some (zI o), some (zI (o + 1))] [] d') :
    ∀ (n : Nat) (x : Int) (d : zMem), 240 - x = n → 0 ≤ x → dr1 d0 d a s o x →
    Fr g (eM g M_X4_drop FUL FUL Q) M_X4_drop FUL 11 [some (zR (a + 5)), some (zI o), some (zI x)] [] d
  | 0, x, d, hn, hx, hv => by
    apply v_X4_drop_11 ha
    have : x = 240 := by omega
    subst this
    exact ⟨⟨by omega, by omega⟩, fun _ => hQ d hv, fun q => by omega⟩
  | n + 1, x, d, hn, hx, hv => by
    apply v_X4_drop_11 ha
    have hX1 := hX.1
    have ev := hv.2 x hx (by omega)
    rw [if_neg (by omega)] at ev
    have hr := own_range hX hx (by omega)
    have hdo := drop_own (s := s) (o := o) h0 hx (by omega) (by have := hX.2.1 x hx (by omega); omega)
    rw [ev]
    have step : ∀ d2, but d0 d2 (a + 6) → (∀ c, c ≠ x → d2 (a + 6) c = d (a + 6) c) → d2 (a + 6) x = own (f_drop s o (1115 + x)) → dr1 d0 d2 a s o (x + 1) := by
      intro d2 hb ho hx2
      refine ⟨hb, fun c q1 q2 => ?_⟩
      by_cases hcx : c = x
      · subst hcx
        rw [hx2, if_pos (by omega)]
      · rw [ho c hcx, hv.2 c q1 q2]
        by_cases q : c < x
        · rw [if_pos q, if_pos (by omega)]
        · rw [if_neg q, if_neg (by omega)]
    refine ⟨⟨by omega, by omega⟩, fun q => by omega, fun _ => ⟨⟨hx, by omega⟩, ⟨⟨by omega, by omega⟩, ⟨by omega, by omega⟩⟩, fun c1 => ⟨⟨hx, by omega⟩, ⟨⟨by omega, by omega⟩, ⟨by omega, by omega⟩⟩, fun c2 => ?_, fun c2 => ⟨⟨hx, by omega⟩, ⟨hx, by omega⟩, fun d1 hd1 => ?_⟩⟩, fun c1 => ⟨⟨hx, by omega⟩, fun d1 hd1 => ?_⟩⟩⟩
    · refine l_drop1 ha hX h0 h1 hQ n (x + 1) d (by omega) (by omega) (step d hv.1 (fun _ _ => rfl) ?_)
      rw [ev, hdo, if_neg c1, if_neg (by omega)]
    · refine l_drop1 ha hX h0 h1 hQ n (x + 1) d1 (by omega) (by omega) (step d1 (hd1 ▸ but_mu hv.1) (fun c hc => by rw [hd1, mu_ni hc]) ?_)
      rw [hd1, mu_get, hdo, if_neg c1, if_pos c2]
    · refine l_drop1 ha hX h0 h1 hQ n (x + 1) d1 (by omega) (by omega) (step d1 (hd1 ▸ but_mu hv.1) (fun c hc => by rw [hd1, mu_ni hc]) ?_)
      rw [hd1, mu_get, hdo, if_pos c1]
def dr2 (d0 d : zMem) (a : Nat) (o x : Int) : Prop := (∀ q, q ≠ a + 7 → q ≠ a + 8 → q ≠ a + 9 → d q = d0 q) ∧ ∀ j, (j = a + 7 ∨ j = a + 8 ∨ j = a + 9) → ∀ m, d j m = if o ≤ m ∧ m < x - 1 then d0 j (m + 1) else d0 j m
theorem l_drop2 {d0 : zMem} {o : Int} (ha : isRiv a) (h0 : 0 ≤ o) (h1 : o < d0 (a + 5) 4) (h12 : d0 (a + 5) 4 ≤ 12)
    (hQ : ∀ d', dr2 d0 d' a o (d0 (a + 5) 4) → ∀ d1, d1 = mu d' (a + 5) 4 (d0 (a + 5) 4 - 1) → Q 0 d1) :
    ∀ (n : Nat) (x : Int) (d : zMem), d0 (a + 5) 4 - x = n → o + 1 ≤ x → dr2 d0 d a o x →
    Fr g (eM g M_X4_drop FUL FUL Q) M_X4_drop FUL 68 [some (zR (a + 5)), some (zI o), some (zI x)] [] d
  | 0, x, d, hn, hx, hv => by
    apply v_X4_drop_68 ha
    have e5 : d (a + 5) = d0 (a + 5) := hv.1 _ (by omega) (by omega) (by omega)
    rw [e5]
    have : x = d0 (a + 5) 4 := by omega
    subst this
    exact ⟨⟨⟨by omega, by omega⟩, ⟨by omega, by omega⟩⟩, fun _ => hQ d hv, fun q => by omega⟩
  | n + 1, x, d, hn, hx, hv => by
    apply v_X4_drop_68 ha
    have e5 : d (a + 5) = d0 (a + 5) := hv.1 _ (by omega) (by omega) (by omega)
    rw [e5]
    refine ⟨⟨⟨by omega, by omega⟩, ⟨by omega, by omega⟩⟩, fun q => by omega, fun q => ⟨⟨by omega, by omega⟩, fun q => by omega, fun _ => ⟨⟨by omega, by omega⟩, ⟨by omega, by omega⟩, fun d3 hd3 => ⟨⟨by omega, by omega⟩, ⟨by omega, by omega⟩, fun d4 hd4 => ⟨⟨by omega, by omega⟩, ⟨by omega, by omega⟩, fun d5 hd5 => ?_⟩⟩⟩⟩⟩
    refine l_drop2 ha h0 h1 h12 hQ n (x + 1) d5 (by omega) (by omega) ⟨fun q q1 q2 q3 => ?_, fun j hj m => ?_⟩
    · rw [hd5, hd4, hd3]; funext z
      rw [mu_na q3, mu_na q2, mu_na q1, hv.1 q q1 q2 q3]
    · have key : d5 j m = if m = x - 1 then d j x else d j m := by
        rw [hd5, hd4, hd3]
        rcases hj with rfl | rfl | rfl <;> simp only [mu_app] <;> grind
      rw [key, hv.2 j hj m, hv.2 j hj x]
      by_cases hm : m = x - 1
      · subst hm
        rw [if_pos rfl, if_neg (by omega), if_pos (by omega), show x - 1 + 1 = x by omega]
      · rw [if_neg hm]
        by_cases hc : o ≤ m ∧ m < x - 1
        · rw [if_pos hc, if_pos (by omega)]
        · rw [if_neg hc, if_neg (by omega)]
theorem c_drop {d : zMem} {o : Int} (ha : isRiv a) (hR : RX d a s) (hX : IX s) (h0 : 0 ≤ o) (h1 : o < s 1355) (hQ : ∀ d', butX d d' a → RX d' a (f_drop s o) → Q 0 d') : Ev g M_X4_drop FUL FUL [zR (a + 5), zI o] d Q := by
  have hX1 := hX.1
  apply e_X4_drop ha
  apply c_has ha hR hX ⟨by omega, by omega⟩
  rw [if_pos ⟨h0, h1⟩]
  refine ⟨by decide, fun _ => ?_, fun q => absurd q (by decide)⟩
  refine l_drop1 (d0 := d) ha hX h0 h1 ?_ 240 0 d (by omega) (by omega) ⟨but_rfl, fun c q1 q2 => by rw [if_neg (by omega)]; exact hR.1 c q1 q2⟩
  intro d1 ⟨b1, o1⟩
  have l1 : d1 (a + 5) 4 = s 1355 := by rw [b1 _ (by omega)]; exact hR.2.1
  refine l_drop2 (d0 := d1) ha h0 (by rw [l1]; exact h1) (by rw [l1]; omega) ?_ (s 1355 - (o + 1)).toNat (o + 1) d1 (by rw [l1]; omega) (Int.le_refl _) ⟨fun _ _ _ _ => rfl, fun j hj m => by rw [if_neg (by omega)]⟩
  intro d2 ⟨b2, sh⟩ d3 hd3
  rw [l1] at sh hd3
  refine hQ d3 (fun q hq => ?_) ⟨fun c q1 q2 => ?_, ?_, fun p q1 q2 => ?_⟩
  · rw [hd3]; funext z
    rw [mu_na (by omega), b2 q (by omega) (by omega) (by omega), b1 q (by omega)]
  · rw [hd3, mu_na (by omega), b2 _ (by omega) (by omega) (by omega), o1 c q1 q2, if_pos q2]
  · rw [hd3, mu_get]
    unfold f_drop
    rw [if_neg (by omega), if_pos rfl]
  · have e1355 : f_drop s o 1355 = s 1355 - 1 := by unfold f_drop; rw [if_neg (by omega), if_pos rfl]
    rw [e1355] at q2
    have b1' : ∀ j, j = a + 7 ∨ j = a + 8 ∨ j = a + 9 → d1 j = d j := fun j hj => b1 j (by omega)
    have g3 : ∀ j, j = a + 7 ∨ j = a + 8 ∨ j = a + 9 → d3 j p = if o ≤ p then d j (p + 1) else d j p := by
      intro j hj
      rw [hd3, mu_na (by omega), sh j hj p, b1' j hj]
      by_cases hp : o ≤ p
      · rw [if_pos hp, if_pos (by omega)]
      · rw [if_neg hp, if_neg (by omega)]
    rw [g3 _ (by omega), g3 _ (by omega), g3 _ (by omega)]
    unfold f_drop
    by_cases hp : o ≤ p
    · obtain ⟨r1, r2, r3⟩ := hR.2.2 (p + 1) (by omega) (by omega)
      rw [if_pos hp, if_pos hp, if_pos hp, r1, r2, r3, if_neg (by omega), if_neg (by omega), if_pos (by omega), if_neg (by omega), if_neg (by omega), if_pos (by omega), if_neg (by omega), if_neg (by omega), if_pos (by omega)]
      exact ⟨by congr 1; omega, by congr 1; omega, by congr 1; omega⟩
    · obtain ⟨r1, r2, r3⟩ := hR.2.2 p (by omega) (by omega)
      rw [if_neg hp, if_neg hp, if_neg hp, r1, r2, r3, if_neg (by omega), if_neg (by omega), if_neg (by omega), if_neg (by omega), if_neg (by omega), if_neg (by omega), if_neg (by omega), if_neg (by omega), if_neg (by omega)]
      exact ⟨rfl, rfl, rfl⟩
theorem c_dropAt {d : zMem} {c : Int} (ha : isRiv a) (hR : RX d a s) (hX : IX s) (hc : 0 ≤ c ∧ c < 240) (hQ : ∀ d', butX d d' a → RX d' a (dropAt s c) → Q 0 d') : Ev g M_X4_drop FUL FUL [zR (a + 5), zI (own (s (1115 + c)))] d Q := by
  have h := hX.2.1 c hc.1 hc.2
  unfold dropAt at hQ
  by_cases h6 : s (1115 + c) = -6
  · rw [if_pos h6] at hQ
    apply e_X4_drop ha
    rw [show own (s (1115 + c)) = -1 by unfold own; rw [if_pos h6]]
    apply c_has ha hR hX (by decide)
    rw [if_neg (by omega)]
    exact ⟨by decide, fun q => absurd rfl q, fun _ => hQ d butX_rfl hR⟩
  · rw [if_neg h6] at hQ
    rw [show own (s (1115 + c)) = s (1115 + c) by unfold own; rw [if_neg h6]]
    exact c_drop ha hR hX (by omega) (by omega) hQ
-- take
def tk1 (d0 d : zMem) (a : Nat) (o lo hi : Int) : Prop := but d0 d (a + 6) ∧ (∀ m, lo < m → m < hi → d (a + 6) (d0 (a + 3) m) = o) ∧ (∀ c, (∀ m, lo < m → m < hi → d0 (a + 3) m ≠ c) → d (a + 6) c = d0 (a + 6) c)
theorem l_take {d0 : zMem} {lo hi : Int} (ha : isRiv a) (hlo : 0 ≤ lo) (hhi : lo + 3 ≤ hi ∧ hi < d0 (a + 2) 2 ∧ d0 (a + 2) 2 ≤ 150) (hc : ∀ m, 0 ≤ m → m < d0 (a + 2) 2 → 0 ≤ d0 (a + 3) m ∧ d0 (a + 3) m < 240) (hl : 0 ≤ d0 (a + 5) 4 ∧ d0 (a + 5) 4 < 12)
    (hQ : ∀ d', tk1 d0 d' a (d0 (a + 5) 4) lo hi → ∀ d2, d2 = mu d' (a + 7) (d0 (a + 5) 4) (d0 (a + 3) (lo + 1)) → ∀ d3, d3 = mu d2 (a + 8) (d0 (a + 5) 4) ((hi - lo) - 1) → ∀ d4, d4 = mu d3 (a + 9) (d0 (a + 5) 4) 0 → ∀ d5, d5 = mu d4 (a + 5) 4 (d0 (a + 5) 4 + 1) → Q 0 d5) :
    ∀ (n : Nat) (x : Int) (d : zMem), hi - x = n → lo < x → tk1 d0 d a (d0 (a + 5) 4) lo x →
    Fr g (eM g M_X4_take FUL FUL Q) M_X4_take FUL 36 [some (zR (a + 5)), some (zR (a + 2)), some (zI lo), some (zI hi), some (zI x), none] [] d
  | 0, x, d, hn, h0, hv => by
    apply v_X4_take_36 ha ha
    have : x = hi := by omega
    subst this
    have e5 : d (a + 5) = d0 (a + 5) := hv.1 _ (by omega)
    have e2 : d (a + 2) = d0 (a + 2) := hv.1 _ (by omega)
    have e3 : d (a + 3) = d0 (a + 3) := hv.1 _ (by omega)
    rw [e5]
    refine ⟨⟨⟨by omega, by omega⟩, ⟨by omega, by omega⟩⟩, fun _ => ?_, fun q => by omega⟩
    apply s_cellOf ha ⟨by omega, by omega⟩ (by rw [e2]; omega)
    rw [e2, e3, if_pos (by omega), e5]
    exact ⟨hl, fun d2 h2 => ⟨hl, fun d3 h3 => ⟨hl, fun d4 h4 => hQ d hv d2 h2 d3 h3 d4 h4⟩⟩⟩
  | n + 1, x, d, hn, h0, hv => by
    apply v_X4_take_36 ha ha
    have e5 : d (a + 5) = d0 (a + 5) := hv.1 _ (by omega)
    have e2 : d (a + 2) = d0 (a + 2) := hv.1 _ (by omega)
    have e3 : d (a + 3) = d0 (a + 3) := hv.1 _ (by omega)
    have hcx := hc x (by omega) (by omega)
    refine ⟨⟨⟨by omega, by omega⟩, ⟨by omega, by omega⟩⟩, fun q => by omega, fun _ => ?_⟩
    apply s_cellOf ha ⟨by omega, by omega⟩ (by rw [e2]; omega)
    rw [e2, e3, if_pos (by omega)]
    apply s_isOnLand ⟨by omega, by omega⟩
    rw [if_pos hcx, e5]
    refine ⟨by decide, fun q => absurd q (by decide), fun _ => ⟨hcx, fun d8 hd8 => ?_⟩⟩
    refine l_take ha hlo hhi hc hl hQ n (x + 1) d8 (by omega) (by omega) ?_
    subst hd8
    refine ⟨but_mu hv.1, fun m h1 h2 => ?_, fun c hcc => ?_⟩
    · rw [mu_app, if_pos rfl]
      split
      · rfl
      · rename_i hne
        rcases (show m < x ∨ m = x by omega) with q' | rfl
        · exact hv.2.1 m h1 q'
        · exact absurd rfl hne
    · rw [mu_app, if_pos rfl, if_neg (fun e => hcc x h0 (by omega) e.symm)]
      exact hv.2.2 c (fun m h1 h2 => hcc m h1 (by omega))
theorem c_take {d : zMem} {i j : Int} (ha : isRiv a) (hC : RC d a s) (hs : crs s) (hR : RX d a s) (hX : IX s) (hn : neck s i j) (hQ : ∀ d', butX d d' a → RX d' a (f_cut s i j) → Q 0 d') : Ev g M_X4_take FUL FUL [zR (a + 5), zR (a + 2), zI i, zI j] d Q := by
  obtain ⟨n1, n2, n3, n4⟩ := hn
  have hs4 := hs.1
  have hX1 := hX.1
  have main : ∀ d1, butX d d1 a → RX d1 a (f_full s) → Fr g (eM g M_X4_take FUL FUL Q) M_X4_take FUL 36 [some (zR (a + 5)), some (zR (a + 2)), some (zI i), some (zI j), some (zI (i + 1)), none] [] d1 := by
    intro d1 hb hR1
    obtain ⟨hF, hF11⟩ := IX_full hX
    have hF0 := hF.1.1
    have e2 : d1 (a + 2) = d (a + 2) := hb _ (by omega)
    have e3 : d1 (a + 3) = d (a + 3) := hb _ (by omega)
    have l5 : d1 (a + 5) 4 = f_full s 1355 := hR1.2.1
    have hlen : d1 (a + 2) 2 = s 4 := by rw [e2]; exact hC.1
    have hcell : ∀ m, 0 ≤ m → m < s 4 → d1 (a + 3) m = s (5 + m) := fun m q1 q2 => by rw [e3]; exact hC.2.1 m q1 q2
    refine l_take (d0 := d1) ha n1 (by rw [hlen]; omega) (fun m q1 q2 => by rw [hlen] at q2; rw [hcell m q1 q2]; exact hs.2.1 m q1 q2) (by rw [l5]; omega) ?_ (j - (i + 1)).toNat (i + 1) d1 (by omega) (by omega) ⟨but_rfl, fun m _ _ => by omega, fun _ _ => rfl⟩
    intro d2 ⟨b2, t1, t2⟩ d3 hd3 d4 hd4 d5 hd5 d6 hd6
    rw [l5] at hd3 hd4 hd5 hd6 t1
    refine hQ d6 (fun q hq => ?_) ⟨fun c q1 q2 => ?_, ?_, fun p q1 q2 => ?_⟩
    · rw [hd6, hd5, hd4, hd3]; funext z
      rw [mu_na (by omega), mu_na (by omega), mu_na (by omega), mu_na (by omega), b2 q (by omega), hb q hq]
    · rw [hd6, mu_na (by omega), hd5, mu_na (by omega), hd4, mu_na (by omega), hd3, mu_na (by omega)]
      unfold f_cut
      rw [if_neg (by omega), if_neg (by omega), if_pos (by omega), show 1115 + c - 1115 = c by omega]
      by_cases hbt : btw s i j c
      · rw [if_pos hbt]
        obtain ⟨m, q3, q4, q5⟩ := hbt
        rw [← q5, ← hcell m (by omega) (by omega), t1 m q3 q4]
        unfold own
        rw [if_neg (by omega)]
      · rw [if_neg hbt, t2 c (fun m q3 q4 q5 => hbt ⟨m, q3, q4, by rw [← hcell m (by omega) (by omega)]; exact q5⟩)]
        exact hR1.1 c q1 q2
    · rw [hd6, mu_get]
      unfold f_cut
      rw [if_neg (by omega), if_neg (by omega), if_neg (by omega), if_pos rfl]
    · have e1355 : f_cut s i j 1355 = f_full s 1355 + 1 := by
        unfold f_cut
        rw [if_neg (by omega), if_neg (by omega), if_neg (by omega), if_pos rfl]
      rw [e1355] at q2
      have b2' : ∀ k, k = a + 7 ∨ k = a + 8 ∨ k = a + 9 → d2 k = d1 k := fun k hk => b2 k (by omega)
      have g8 : d6 (a + 8) p = if p = f_full s 1355 then j - i - 1 else d1 (a + 8) p := by
        rw [hd6, mu_na (by omega), hd5, mu_na (by omega), hd4, mu_app, if_pos rfl, hd3]
        split
        · rfl
        · rw [mu_na (by omega), b2' _ (by omega)]
      have g9 : d6 (a + 9) p = if p = f_full s 1355 then 0 else d1 (a + 9) p := by
        rw [hd6, mu_na (by omega), hd5, mu_app, if_pos rfl, hd4, hd3]
        split
        · rfl
        · rw [mu_na (by omega), mu_na (by omega), b2' _ (by omega)]
      have g7 : d6 (a + 7) p = if p = f_full s 1355 then d1 (a + 3) (i + 1) else d1 (a + 7) p := by
        rw [hd6, mu_na (by omega), hd5, mu_na (by omega), hd4, mu_na (by omega), hd3, mu_app, if_pos rfl]
        split
        · rfl
        · rw [b2' _ (by omega)]
      rw [g8, g9, g7, hcell (i + 1) (by omega) (by omega)]
      by_cases hp : p = f_full s 1355
      · rw [if_pos hp, if_pos hp, if_pos hp]
        unfold f_cut
        rw [if_neg (by omega), if_neg (by omega), if_neg (by omega), if_neg (by omega), if_pos (by omega), if_neg (by omega), if_neg (by omega), if_neg (by omega), if_neg (by omega), if_neg (by omega), if_pos (by omega), if_neg (by omega), if_neg (by omega), if_neg (by omega), if_neg (by omega), if_neg (by omega), if_neg (by omega), if_pos (by omega)]
        exact ⟨rfl, rfl, by congr 1; omega⟩
      · obtain ⟨r1, r2, r3⟩ := hR1.2.2 p q1 (by omega)
        rw [if_neg hp, if_neg hp, if_neg hp, r1, r2, r3]
        unfold f_cut
        refine ⟨?_, ?_, ?_⟩ <;> rw [if_neg (by omega), if_neg (by omega), if_neg (by omega), if_neg (by omega), if_neg (by omega), if_neg (by omega), if_neg (by omega), if_neg (by omega)]
  apply e_X4_take ha ha
  rw [hR.2.1]
  refine ⟨⟨by omega, by omega⟩, fun q => ?_, fun q => ?_⟩
  · have hff : f_full s = s := by unfold f_full; rw [if_neg (by omega)]
    exact ⟨⟨by omega, by omega⟩, fun q => by omega, fun _ => ⟨⟨by omega, by omega⟩, fun _ => main d butX_rfl (by rw [hff]; exact hR), fun q => by omega⟩⟩
  · have hff : f_full s = f_drop s 0 := by unfold f_full; rw [if_pos (by omega)]
    apply c_drop ha hR hX (by omega) (by omega)
    intro d1 hb hR1
    have l5 : d1 (a + 5) 4 = s 1355 - 1 := by
      rw [hR1.2.1]
      unfold f_drop
      rw [if_neg (by omega), if_pos rfl]
    rw [l5]
    exact ⟨⟨by omega, by omega⟩, fun q => by omega, fun _ => ⟨⟨by omega, by omega⟩, fun _ => main d1 hb (by rw [hff]; exact hR1), fun q => by omega⟩⟩
end
