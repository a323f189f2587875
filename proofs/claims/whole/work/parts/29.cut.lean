-- pairs of neighbours
def pr (x y : Int) : Int := 2 * min x y + (if x - y = 20 ∨ y - x = 20 then 1 else 0)
theorem pr_range {x y : Int} (hx : 0 ≤ x ∧ x < 240) (hy : 0 ≤ y ∧ y < 240) : 0 ≤ pr x y ∧ pr x y < 480 := by
  unfold pr
  split <;> omega
theorem neck_nbe {s : Row} (hs : crs s) {i j : Int} (h : neck s i j) : ∃ w, 0 ≤ w ∧ w < 4 ∧ nbe s i w = j := by
  obtain ⟨n1, n2, n3, n4⟩ := h
  have hw := wayd_range (s (5 + j) - s (5 + i))
  refine ⟨_, hw.1, hw.2, ?_⟩
  unfold nbe
  rw [n4.1, if_neg n4.2]
  exact num_at hs (by omega) n3
theorem nbe_neck {s : Row} {i w : Int} (h0 : 0 ≤ i) (hw : 0 ≤ w ∧ w < 4) (h : i + 3 ≤ nbe s i w) : neck s i (nbe s i w) := by
  unfold nbe at h ⊢
  by_cases hc : stp (s (5 + i)) w = -1
  · rw [if_pos hc] at h; omega
  · rw [if_neg hc] at h ⊢
    have hon : on s (stp (s (5 + i)) w) := Classical.not_not.mp (fun z => by have := num_off z; omega)
    obtain ⟨q1, q2, q3⟩ := num_on hon
    refine ⟨h0, h, q2, ?_⟩
    rw [q3]
    exact nbr_of hw hc
def isPr (s : Row) (k : Int) : Prop := ∃ i j, neck s i j ∧ pr (s (5 + i)) (s (5 + j)) = k
noncomputable def f_age (s : Row) : Row := fun k => if 635 ≤ k ∧ k < 1115 then @ite Int (isPr s (k - 635)) (Classical.propDecidable _) (s k + 1) 0 else s k
theorem age_out {s : Row} {k : Int} (h : k < 635 ∨ 1115 ≤ k) : f_age s k = s k := by unfold f_age; rw [if_neg (by omega)]
section
variable {g : zGG} {Q : Int → zMem → Prop} {a : Nat} {s : Row}
theorem l_fill {φ : zPhi} {d0 : zMem} {q nn : Nat} {v : Int} (hL : LAY q = (1, nn)) (hq : q < φ.1) (hn : nn < 2 ^ 31) (hQ : ∀ d', but d0 d' q → (∀ k : Int, 0 ≤ k → k < nn → d' q k = v) → Q 0 d') : ∀ (n : Nat) (x : Int) (d : zMem), (nn : Int) - x = n → 0 ≤ x → but d0 d q → (∀ k, 0 ≤ k → k < x → d q k = v) →
    Fr g (eM g M_J7_fill_53178 φ φ Q) M_J7_fill_53178 φ 5 [some (zR q), some (zI v), some (zI x), some (zI (nn : Int))] [] d
  | 0, x, d, hx, h0, hb, hv => by
    apply v_J7_fill_53178_5 hL hq hn
    refine ⟨⟨⟨by omega, by omega⟩, ⟨by omega, by omega⟩⟩, fun _ => hQ d hb (fun k q1 q2 => hv k q1 (by omega)), fun q => by omega⟩
  | n + 1, x, d, hx, h0, hb, hv => by
    apply v_J7_fill_53178_5 hL hq hn
    refine ⟨⟨⟨by omega, by omega⟩, ⟨by omega, by omega⟩⟩, fun q => by omega, fun _ => ⟨⟨by omega, by omega⟩, fun d1 hd1 => ?_⟩⟩
    refine l_fill hL hq hn hQ n (x + 1) d1 (by omega) (by omega) (hd1 ▸ but_mu hb) (fun k q1 q2 => ?_)
    rw [hd1, mu_app, if_pos rfl]
    by_cases hk : k = x
    · rw [if_pos hk]
    · rw [if_neg hk]; exact hv k q1 (by omega)
theorem s_fill {φ : zPhi} {d : zMem} {q nn : Nat} {v : Int} (hL : LAY q = (1, nn)) (hq : q < φ.1) (hn : nn < 2 ^ 31) (hQ : ∀ d', but d d' q → (∀ k : Int, 0 ≤ k → k < nn → d' q k = v) → Q 0 d') : Ev g M_J7_fill_53178 φ φ [zR q, zI v] d Q := by
  apply e_J7_fill_53178 hL hq hn
  exact l_fill hL hq hn hQ nn 0 d (by omega) (by omega) but_rfl (fun k _ _ => by omega)
theorem c_pairOf {d : zMem} {i j : Int} (ha : isRiv a) (hC : RC d a s) (hs : crs s) (hi : 0 ≤ i ∧ i < s 4) (hj : 0 ≤ j ∧ j < s 4) (h : Q (pr (s (5 + i)) (s (5 + j))) d) : Ev g M_X7_pairOf FUL FUL [zR a, zI i, zI j] d Q := by
  have h4 := hs.1
  have c1 := hs.2.1 i hi.1 hi.2
  have c2 := hs.2.1 j hj.1 hj.2
  apply e_X7_pairOf ha
  apply c_cellOf ha hC hs ⟨by omega, by omega⟩
  rw [if_pos hi]
  apply c_cellOf ha hC hs ⟨by omega, by omega⟩
  rw [if_pos hj]
  unfold pr at h
  generalize s (5 + i) = x at *
  generalize s (5 + j) = y at *
  refine ⟨⟨by omega, by omega⟩, fun q => by omega, fun _ => ⟨⟨by omega, by omega⟩, fun _ => ⟨⟨by omega, by omega⟩, ⟨?_, fun q => ⟨⟨⟨by omega, by omega⟩, ⟨by omega, by omega⟩⟩, ?_⟩, fun q => ⟨⟨⟨by omega, by omega⟩, ⟨by omega, by omega⟩⟩, ?_⟩⟩⟩, fun q => by omega⟩⟩
  · split <;> constructor <;> omega
  · rw [if_neg (by intro z; apply q; split <;> omega)] at h; exact h
  · rw [if_pos (by split at q <;> omega)] at h; exact h
theorem c_ageOf {d : zMem} {i j : Int} (ha : isRiv a) (hC : RC d a s) (hs : crs s) (hW : RW d a s) (hi : 0 ≤ i ∧ i < s 4) (hj : 0 ≤ j ∧ j < s 4) (h : Q (s (635 + pr (s (5 + i)) (s (5 + j)))) d) : Ev g M_X7_ageOf FUL FUL [zR a, zI i, zI j] d Q := by
  apply e_X7_ageOf ha
  apply c_pairOf ha hC hs hi hj
  have := pr_range (hs.2.1 i hi.1 hi.2) (hs.2.1 j hj.1 hj.2)
  refine ⟨⟨by omega, by omega⟩, fun q => by omega, fun _ => ⟨⟨by omega, by omega⟩, fun q => by omega, fun _ => ⟨this, ?_⟩⟩⟩
  rw [hW.2 _ this.1 this.2]; exact h
/-- the pairs met before the way w of the number i -/
def ipr (s : Row) (i w k : Int) : Prop := ∃ i' w', (i' < i ∨ (i' = i ∧ w' < w)) ∧ 0 ≤ i' ∧ i' < s 4 ∧ 0 ≤ w' ∧ w' < 4 ∧ i' + 3 ≤ nbe s i' w' ∧ pr (s (5 + i')) (s (5 + nbe s i' w')) = k
theorem ipr_end {s : Row} (hs : crs s) {k : Int} : ipr s (s 4) 0 k ↔ isPr s k := by
  constructor
  · rintro ⟨i, w, -, h1, h2, h3, h4, h5, h6⟩
    exact ⟨i, _, nbe_neck h1 ⟨h3, h4⟩ h5, h6⟩
  · rintro ⟨i, j, h1, h2⟩
    obtain ⟨w, q1, q2, q3⟩ := neck_nbe hs h1
    obtain ⟨n1, n2, n3, n4⟩ := h1
    exact ⟨i, w, Or.inl (by omega), n1, by omega, q1, q2, by omega, by rw [q3]; exact h2⟩
def agI (d : zMem) (a : Nat) (s : Row) (i w : Int) : Prop := ∀ k, 0 ≤ k → k < 480 → (ipr s i w k → d (a + 12) k = s (635 + k) + 1) ∧ (¬ ipr s i w k → d (a + 12) k = 0)
theorem agI_cong {d : zMem} {i w i' w' : Int} (h : agI d a s i w) (hi : ∀ k, ipr s i' w' k ↔ ipr s i w k) : agI d a s i' w' := fun k q1 q2 => ⟨fun z => (h k q1 q2).1 ((hi k).mp z), fun z => (h k q1 q2).2 (fun y => z ((hi k).mpr y))⟩
theorem l_age {d0 : zMem} (ha : isRiv a) (hC : RC d0 a s) (hs : crs s) (h13 : ∀ k, 0 ≤ k → k < 480 → d0 (a + 13) k = s (635 + k)) (hQ : ∀ d', but d0 d' (a + 12) → agI d' a s (s 4) 0 → Q 0 d') : ∀ (n m : Nat) (i w : Int) (d : zMem), s 4 - i = n → 4 - w = m → 0 ≤ i → 0 ≤ w → but d0 d (a + 12) → agI d a s i w →
    (i < s 4 → Fr g (eM g M_X7_agePairs FUL FUL Q) M_X7_agePairs FUL 39 [some (zR a), some (zI i), some (zI w), none, none] [] d) ∧ (w = 0 → Fr g (eM g M_X7_agePairs FUL FUL Q) M_X7_agePairs FUL 26 [some (zR a), some (zI i), none, none, none] [] d)
  | n, m, i, w, d, hn, hm, hi, hw0, hd, hv => by
    have h4 := hs.1
    have hC' : RC d a s := RC_keep hC hs (fun q hq => hd q (by omega)) (fun _ _ _ => rfl)
    have main : i < s 4 → Fr g (eM g M_X7_agePairs FUL FUL Q) M_X7_agePairs FUL 39 [some (zR a), some (zI i), some (zI w), none, none] [] d := by
      intro hi4
      apply v_X7_agePairs_39 ha
      match m, hm with
      | 0, hm =>
        refine ⟨⟨by omega, by omega⟩, fun _ => ?_, fun q => by omega⟩
        match n, hn with
        | 0, hn => omega
        | n + 1, hn =>
          refine (l_age ha hC hs h13 hQ n 4 (i + 1) 0 d (by omega) (by omega) (by omega) (by omega) hd (agI_cong hv (fun k => ?_))).2 rfl
          constructor
          · rintro ⟨i', w', h1, h2, h3, h5, h6, h7⟩
            exact ⟨i', w', by omega, h2, h3, h5, h6, h7⟩
          · rintro ⟨i', w', h1, h2, h3, h5, h6, h7⟩
            exact ⟨i', w', by omega, h2, h3, h5, h6, h7⟩
      | m + 1, hm =>
        refine ⟨⟨by omega, by omega⟩, fun q => by omega, fun _ => ?_⟩
        apply c_numberBeside ha hC' hs ⟨hi, hi4⟩ ⟨by omega, by omega⟩
        have hr := nbe_range hs i w
        refine ⟨⟨⟨by omega, by omega⟩, ⟨by omega, by omega⟩⟩, fun q => ?_, fun q => ?_⟩
        · refine (l_age ha hC hs h13 hQ n m i (w + 1) d (by omega) (by omega) (by omega) (by omega) hd (agI_cong hv (fun k => ?_))).1 hi4
          constructor
          · rintro ⟨i', w', h1, h2, h3, h5, h6, h7, h8⟩
            refine ⟨i', w', ?_, h2, h3, h5, h6, h7, h8⟩
            rcases (show (i' < i ∨ (i' = i ∧ w' < w)) ∨ (i' = i ∧ w' = w) by omega) with z | ⟨z1, z2⟩
            · exact z
            · subst z1; subst z2; omega
          · rintro ⟨i', w', h1, h2, h3, h5, h6, h7⟩
            exact ⟨i', w', by omega, h2, h3, h5, h6, h7⟩
        · apply c_pairOf ha hC' hs ⟨hi, hi4⟩ ⟨by omega, by omega⟩
          have pr1 := pr_range (hs.2.1 i hi hi4) (hs.2.1 (nbe s i w) (by omega) (by omega))
          refine ⟨⟨by omega, by omega⟩, fun q => by omega, fun _ => ⟨⟨by omega, by omega⟩, fun q => by omega, fun _ => ⟨pr1, pr1, fun d3 hd3 => ?_⟩⟩⟩
          refine (l_age ha hC hs h13 hQ n m i (w + 1) d3 (by omega) (by omega) (by omega) (by omega) (hd3 ▸ but_mu hd) (fun k q1 q2 => ⟨fun z => ?_, fun z => ?_⟩)).1 hi4
          · rw [hd3, mu_app, if_pos rfl]
            by_cases hk : k = pr (s (5 + i)) (s (5 + nbe s i w))
            · rw [if_pos hk, hd _ (by omega), h13 _ pr1.1 pr1.2, hk]
            · rw [if_neg hk]
              refine (hv k q1 q2).1 ?_
              obtain ⟨i', w', h1, h2, h3, h5, h6, h7, h8⟩ := z
              refine ⟨i', w', ?_, h2, h3, h5, h6, h7, h8⟩
              rcases (show (i' < i ∨ (i' = i ∧ w' < w)) ∨ (i' = i ∧ w' = w) by omega) with z | ⟨z1, z2⟩
              · exact z
              · subst z1; subst z2; exact absurd h8.symm hk
          · rw [hd3, mu_app, if_pos rfl]
            by_cases hk : k = pr (s (5 + i)) (s (5 + nbe s i w))
            · exact absurd ⟨i, w, Or.inr ⟨rfl, by omega⟩, hi, hi4, hw0, by omega, q, hk.symm⟩ z
            · rw [if_neg hk]
              refine (hv k q1 q2).2 (fun y => z ?_)
              obtain ⟨i', w', h1, h2, h3, h5, h6, h7⟩ := y
              exact ⟨i', w', by omega, h2, h3, h5, h6, h7⟩
    refine ⟨main, fun hw => ?_⟩
    apply v_X7_agePairs_26 ha
    apply e_X1_length ha
    rw [hC'.1]
    refine ⟨⟨⟨by omega, by omega⟩, ⟨by omega, by omega⟩⟩, fun q => ?_, fun q => ?_⟩
    · have : i = s 4 := by omega
      subst this
      subst hw
      exact hQ d hd hv
    · subst hw
      exact main q
termination_by n m => (n, m)
/-- only the ages are not as they were -/
theorem c_agePairs {d : zMem} (ha : isRiv a) (hR : Rel d a s) (hs : crs s) (hX : IX s) (hF8 : s 1395 ≤ 8) (hQ : ∀ d', butR d d' a → Rel d' a (f_age s) → Q 0 d') : Ev g M_X7_agePairs FUL FUL [zR a] d Q := by
  obtain ⟨rS, rC, rX, rW, rF⟩ := hR
  apply e_X7_agePairs ha
  intro d1 hd1
  have L : LAY (a + 12) = (1, 480) := rl12 ha
  apply s_fill L (rlt12 ha) (by omega)
  intro d2 hb2 hv2
  have b1 : ∀ q, q ≠ a + 13 → d1 q = d q := fun q hq => by rw [hd1]; funext z; rw [mrow_app, if_neg hq]
  have b2 : ∀ q, q ≠ a + 13 → q ≠ a + 12 → d2 q = d q := fun q h0 h1 => by rw [hb2 q h1, b1 q h0]
  have h4 := hs.1
  have C2 : RC d2 a s := RC_keep rC hs (fun q hq => b2 q (by omega) (by omega)) (fun _ _ _ => rfl)
  have h13 : ∀ k, 0 ≤ k → k < 480 → d2 (a + 13) k = s (635 + k) := by
    intro k q1 q2
    rw [hb2 _ (by omega), hd1, mrow_app, if_pos rfl]
    unfold zcp
    rw [if_pos (by omega), show 0 + (k - 0) = k by omega]
    exact rW.2 k q1 q2
  refine (l_age (d0 := d2) ha C2 hs h13 ?_ (s 4).toNat 4 0 0 d2 (by omega) (by omega) (by omega) (by omega) but_rfl (fun k q1 q2 => ⟨?_, fun _ => hv2 k q1 q2⟩)).2 rfl
  · intro d3 hb3 hv3
    have b3 : ∀ q, q ≠ a + 13 → q ≠ a + 12 → d3 q = d q := fun q h0 h1 => by rw [hb3 q h1, b2 q h0 h1]
    refine hQ d3 (fun q hq => b3 q (by omega) (by omega)) ⟨?_, ?_, ?_, ⟨fun c q1 q2 => ?_, fun k q1 q2 => ?_⟩, ?_⟩
    · exact RS_keep rS (b3 _ (by omega) (by omega)) (fun k _ _ => age_out (by omega))
    · exact RC_keep rC hs (fun q hq => b3 q (by omega) (by omega)) (fun k _ _ => age_out (by omega))
    · exact RX_keep rX hX (fun q hq => b3 q (by omega) (by omega)) (fun k _ _ => age_out (by omega))
    · rw [b3 _ (by omega) (by omega), b3 _ (by omega) (by omega), age_out (by omega), age_out (by omega)]; exact rW.1 c q1 q2
    · unfold f_age
      rw [if_pos (by omega), show 635 + k - 635 = k by omega]
      by_cases hp : isPr s k
      · rw [if_pos hp]; exact (hv3 k q1 q2).1 ((ipr_end hs).mpr hp)
      · rw [if_neg hp]; exact (hv3 k q1 q2).2 (fun z => hp ((ipr_end hs).mp z))
    · exact RF_keep rF hF8 (fun q hq => b3 q (by omega) (by omega)) (fun k _ _ => age_out (by omega))
  · rintro ⟨i', w', h1, h2, h3, h5, h6, h7⟩
    omega
end
-- a cut: the row behind
theorem cut_mid {s : Row} {i j k : Int} (hn : neck s i j) (h4 : s 4 ≤ 150) (h : 155 ≤ k) : f_cut s i j k = if 1115 ≤ k ∧ k < 1355 then @ite Int (btw s i j (k - 1115)) (Classical.propDecidable _) (f_full s 1355) (f_full s k)
  else if k = 1355 then f_full s 1355 + 1
  else if k = 1356 + 3 * f_full s 1355 then j - i - 1
  else if k = 1356 + 3 * f_full s 1355 + 1 then 0
  else if k = 1356 + 3 * f_full s 1355 + 2 then s (5 + i + 1)
  else if k = 1405 then s 1405 + 1
  else f_full s k := by
  obtain ⟨n1, n2, n3, n4⟩ := hn
  unfold f_cut
  rw [if_neg (by omega), if_neg (by omega)]
theorem cut_out {s : Row} {i j k : Int} (hX : IX s) (hn : neck s i j) (h4 : s 4 ≤ 150) (hk : k < 4 ∨ (155 ≤ k ∧ k < 1115) ∨ (1395 ≤ k ∧ k ≠ 1405)) : f_cut s i j k = s k := by
  have hf := IX_full hX
  have hf0 := hf.1.1
  have ho := f_full_out hX (k := k) (by omega)
  have hn' := hn
  obtain ⟨n1, n2, n3, n4⟩ := hn'
  by_cases h : 155 ≤ k
  · rw [cut_mid hn h4 h, if_neg (by omega), if_neg (by omega), if_neg (by omega), if_neg (by omega), if_neg (by omega), if_neg (by omega), ho]
  · unfold f_cut
    rw [if_neg (by omega), if_neg (by omega), if_neg (by omega), if_neg (by omega), if_neg (by omega), if_neg (by omega), if_neg (by omega), if_neg (by omega), ho]
theorem IY_full {s : Row} (hX : IX s) (hY : IY s) : IY (f_full s) := by
  have := hX.1
  unfold f_full
  split
  · exact IY_drop hX hY (by omega) (by omega)
  · exact hY
theorem cut_IX {s : Row} {i j : Int} (hs : crs s) (hX : IX s) (hY : IY s) (hn : neck s i j) : IX (f_cut s i j) ∧ IY (f_cut s i j) := by
  have hf := IX_full hX
  have hfy := IY_full hX hY
  have h4 := hs.1
  have hf0 := hf.1.1
  have mid := fun (k : Int) (hk : 155 ≤ k) => cut_mid (k := k) hn h4.2 hk
  have e : f_cut s i j 1355 = f_full s 1355 + 1 := by rw [mid _ (by omega), if_neg (by omega), if_pos rfl]
  obtain ⟨n1, n2, n3, n4⟩ := hn
  have hcell := hs.2.1 (i + 1) (by omega) (by omega)
  rw [show 5 + (i + 1) = 5 + i + 1 by omega] at hcell
  refine ⟨⟨by rw [e]; omega, fun c q1 q2 => ?_, fun o q1 q2 => ?_⟩, fun o q1 q2 => ?_⟩
  · rw [e, mid _ (by omega), if_pos (by omega)]
    have := hf.1.2.1 c q1 q2
    split <;> omega
  · rw [e] at q2
    rw [mid _ (by omega), mid (1356 + 3 * o + 2) (by omega), mid (1356 + 3 * o) (by omega), if_neg (by omega), if_neg (by omega), if_neg (by omega), if_neg (show ¬ (1115 ≤ 1356 + 3 * o + 2 ∧ 1356 + 3 * o + 2 < 1355) by omega), if_neg (show ¬ (1356 + 3 * o + 2 = 1355) by omega), if_neg (show ¬ (1356 + 3 * o + 2 = 1356 + 3 * f_full s 1355) by omega), if_neg (show ¬ (1356 + 3 * o + 2 = 1356 + 3 * f_full s 1355 + 1) by omega), if_neg (show ¬ (1115 ≤ 1356 + 3 * o ∧ 1356 + 3 * o < 1355) by omega), if_neg (show ¬ (1356 + 3 * o = 1355) by omega)]
    by_cases ho : o = f_full s 1355
    · rw [if_pos (by omega), if_pos (show 1356 + 3 * o + 2 = 1356 + 3 * f_full s 1355 + 2 by omega), if_pos (show 1356 + 3 * o = 1356 + 3 * f_full s 1355 by omega)]
      exact ⟨⟨by omega, by omega⟩, hcell, ⟨by omega, by omega⟩⟩
    · have := hf.1.2.2 o q1 (by omega)
      rw [if_neg (by omega), if_neg (by omega), if_neg (by omega), if_neg (by omega), if_neg (by omega), if_neg (by omega), if_neg (by omega), if_neg (by omega), if_neg (by omega)]
      exact this
  · rw [e] at q2
    rw [mid _ (by omega), if_neg (by omega), if_neg (by omega), if_neg (by omega)]
    by_cases ho : o = f_full s 1355
    · rw [if_pos (by omega)]; omega
    · rw [if_neg (by omega), if_neg (by omega), if_neg (by omega)]; exact hfy o q1 (by omega)
section
variable {g : zGG} {Q : Int → zMem → Prop} {a : Nat} {s : Row}
theorem c_cutBetween {d : zMem} {i j : Int} (ha : isRiv a) (hR : Rel d a s) (hs : crs s) (hX : IX s) (hY : IY s) (hF8 : s 1395 ≤ 8) (hn : neck s i j) (hQ : ∀ d', butR d d' a → Rel d' a (f_cut s i j) → Q 0 d') : Ev g M_X7_cutBetween FUL FUL [zR a, zI i, zI j] d Q := by
  obtain ⟨rS, rC, rX, rW, rF⟩ := hR
  have h4 := hs.1
  obtain ⟨cX, cY⟩ := cut_IX hs hX hY hn
  have hc := cut_crs hs hX hn
  obtain ⟨t4, tlo, thi⟩ := cut_at hX hn h4.2
  have out : ∀ k, (k < 4 ∨ (155 ≤ k ∧ k < 1115) ∨ (1395 ≤ k ∧ k ≠ 1405)) → f_cut s i j k = s k := fun k hk => cut_out hX hn h4.2 hk
  have f0 := (IX_full hX)
  have f01 := f0.1.1
  have e05 : f_cut s i j 1405 = s 1405 + 1 := by rw [cut_mid hn h4.2 (by omega), if_neg (by omega), if_neg (by omega), if_neg (by omega), if_neg (by omega), if_neg (by omega), if_pos rfl]
  apply e_X7_cutBetween ha
  apply c_take ha rC hs rX hX hn
  intro d1 hb1 X1
  apply c_shorten ha (RC_keep rC hs (fun q hq => hb1 q (by omega)) (fun _ _ _ => rfl)) hs hn.1 hn.2.1 hn.2.2.1 hc t4 tlo thi
  intro d2 hb2 C2 d3 hd3
  have e3 : ∀ q, q ≠ a → d3 q = d2 q := fun q hq => by rw [hd3]; funext z; rw [mu_na hq]
  have e32 : ∀ q, q ≠ a → q ≠ a + 2 → q ≠ a + 3 → q ≠ a + 4 → d3 q = d1 q := fun q h0 h1 h2 h3 => by rw [e3 q h0, hb2 q h1 h2 h3]
  have e31 : ∀ q, (q < a ∨ q = a + 1 ∨ a + 10 ≤ q) → d3 q = d q := fun q h0 => by rw [e32 q (by omega) (by omega) (by omega) (by omega), hb1 q (by omega)]
  have ea : d2 a = d a := by rw [hb2 a (by omega) (by omega) (by omega), hb1 a (by omega)]
  refine hQ d3 (fun q hq => e31 q (by omega)) ⟨?_, ?_, ?_, ?_, ?_⟩
  · exact RS_keep rS (e31 _ (by omega)) (fun k _ _ => out k (by omega))
  · exact RC_keep C2 hc (fun q hq => e3 q (by omega)) (fun _ _ _ => rfl)
  · exact RX_keep X1 cX (fun q hq => e32 q (by omega) (by omega) (by omega) (by omega)) (fun _ _ _ => rfl)
  · exact RW_keep rW (fun q hq => e31 q (by omega)) (fun k _ _ => out k (by omega))
  · obtain ⟨f1, f2, f3, f4, f5⟩ := rF
    refine ⟨?_, fun k q1 q2 => ?_, ?_, ?_, ?_⟩
    · rw [hd3, mu_ni (by omega), ea, f1, out _ (by omega)]
    · rw [out _ (by omega)] at q2
      rw [e31 _ (by omega), f2 k q1 q2, out _ (by omega)]
    · rw [hd3, mu_ni (by omega), ea, f3, out _ (by omega)]
    · rw [hd3, mu_get, ea, f4, e05]
    · rw [hd3, mu_ni (by omega), ea, f5, out _ (by omega)]
end
