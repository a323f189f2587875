-- pairs of neighbours
def pr (x y : Int) : Int := 2 * min x y + (if x - y = 20 ∨ y - x = 20 then 1 else 0)
theorem pr_range {x y : Int} (hx : 0 ≤ x ∧ x < 240) (hy : 0 ≤ y ∧ y < 240) : 0 ≤ pr x y ∧ pr x y < 480 := by
  unfold pr
  split <;> omega
theorem neck_nbe {s : Row} (hs : crs s) {i j : Int} (h : neck s i j) : ∃ w, 0 ≤ w ∧ w < 4 ∧ nbe s i w = j := by
  obtain ⟨n1, n2, n3, n4⟩ := h
  have hw := wayd_range (s (5 + j) - s (5 + i))
  refine ⟨_, hw.1, hw.2, ?_⟩
  unfold nbe
  rw [n4.1, if_neg n4.2]
  exact num_at hs (by omega) n3
theorem nbe_neck {s : Row} {i w : Int} (h0 : 0 ≤ i) (hw : 0 ≤ w ∧ w < 4) (h : i + 3 ≤ nbe s i w) : neck s i (nbe s i w) := by
  unfold nbe at h ⊢
  by_cases hc : stp (s (5 + i)) w = -1
  · rw [if_pos hc] at h; omega
  · rw [if_neg hc] at h ⊢
    have hon : on s (stp (s (5 + i)) w) := Classical.not_not.mp (fun z => by have := num_off z; omega)
    obtain ⟨q1, q2, q3⟩ := num_on hon
    refine ⟨h0, h, q2, ?_⟩
    rw [q3]
    exact nbr_of hw hc
def isPr (s : Row) (k : Int) : Prop := ∃ i j, neck s i j ∧ pr (s (5 + i)) (s (5 + j)) = k
noncomputable def f_age (s : Row) : Row := fun k => if 635 ≤ k ∧ k < 1115 then @ite Int (isPr s (k - 635)) (Classical.propDecidable _) (s k + 1) 0 else s k
theorem age_out {s : Row} {k : Int} (h : k < 635 ∨ 1115 ≤ k) : f_age s k = s k := by unfold f_age; rw [if_neg (by omega)]
section
variable {g : zGG} {Q : Int → zMem → Prop} {a : Nat} {s : Row}
theorem l_fill {φ : zPhi} {d0 : zMem} {q nn : Nat} {v : Int} (hL : LAY q = (1, nn)) (hq : q < φ.1) (hn : nn < 2 ^ 31) (hQ : ∀ d', but d0 d' q → (∀ k : Int, 0 ≤ k → k < nn → d' q k = v) → Q 0 d') : ∀ (n : Nat) (x : Int) (d : zMem), (nn : Int) - x = n → 0 ≤ x → but d0 d q → (∀ k, 0 ≤ k → k < x → d q k = v) →
    Fr g (eM g M_J7_fill_53178 φ φ Q) M_J7_fill_53178 φ 5 [some (zR q), some (zI v), some (zI x), some (zI (nn : Int))] [] d
  | 0, x, d, hx, h0, hb, hv => by
    apply v_J7_fill_53178_5 hL hq hn
    refine ⟨⟨⟨by omega, by omega⟩, ⟨by omega, by omega⟩⟩, fun _ => hQ d hb (fun k q1 q2 => hv k q1 (by omega)), fun q => by omega⟩
  | n + 1, x, d, hx, h0, hb, hv => by
    apply v_J7_fill_53178_5 hL hq hn
    refine ⟨⟨⟨by omega, by omega⟩, ⟨by omega, by omega⟩⟩, fun q => by omega, fun _ => ⟨⟨by omega, by omega⟩, fun d1 hd1 => ?_⟩⟩
    refine l_fill hL hq hn hQ n (x + 1) d1 (by omega) (by omega) (hd1 ▸ but_mu hb) (fun k q1 q2 => ?_)
    rw [hd1, mu_app, if_pos rfl]
    by_cases hk : k = x
    · rw [if_pos hk]
    · rw [if_neg hk]; exact hv k q1 (by omega)
theorem s_fill {φ : zPhi} {d : zMem} {q nn : Nat} {v : Int} (hL : LAY q = (1, nn)) (hq : q < φ.1) (hn : nn < 2 ^ 31) (hQ : ∀ d', but d d' q → (∀ k : Int, 0 ≤ k → k < nn → d' q k = v) → Q 0 d') : Ev g M_J7_fill_53178 φ φ [zR q, zI v] d Q := by
  apply e_J7_fill_53178 hL hq hn
  exact l_fill hL hq hn hQ nn 0 d (by omega) (by omega) but_rfl (fun k _ _ => by omega)
theorem c_pairOf {d : zMem} {c w : Int} (h : Q (2 * c + w) d) : Ev g M_X7_pairOf FUL FUL [zI c, zI w] d Q := by
  apply e_X7_pairOf
  exact h
theorem c_ageOf {d : zMem} {i j : Int} (ha : isRiv a) (hC : RC d a s) (hs : crs s) (hW : RW d a s) (hi : 0 ≤ i ∧ i < s 4) (hj : 0 ≤ j ∧ j < s 4) (h : Q (s (635 + pr (s (5 + i)) (s (5 + j)))) d) : Ev g M_X7_ageOf FUL FUL [zR a, zI i, zI j] d Q := by
  have h4 := hs.1
  have c1 := hs.2.1 i hi.1 hi.2
  have c2 := hs.2.1 j hj.1 hj.2
  have this := pr_range c1 c2
  apply e_X7_ageOf ha
  apply c_cellOf ha hC hs ⟨by omega, by omega⟩
  rw [if_pos hi]
  apply c_cellOf ha hC hs ⟨by omega, by omega⟩
  rw [if_pos hj]
  rw [← hW.2 _ this.1 this.2] at h
  unfold pr at h this
  generalize s (5 + i) = x at *
  generalize s (5 + j) = y at *
  refine ⟨⟨by omega, by omega⟩, ?_, fun q => ⟨⟨⟨by omega, by omega⟩, ⟨by omega, by omega⟩⟩, ?_⟩, fun q => ⟨⟨⟨by omega, by omega⟩, ⟨by omega, by omega⟩⟩, ?_⟩⟩
  · split <;> constructor <;> omega
  · have e : ¬ (x - y = 20 ∨ y - x = 20) := by intro z; apply q; split <;> omega
    rw [if_neg e] at h this
    apply c_pairOf
    exact ⟨⟨by omega, by omega⟩, fun z => by omega, fun _ => ⟨⟨by omega, by omega⟩, fun z => by omega, fun _ => ⟨⟨by omega, by omega⟩, h⟩⟩⟩
  · have e : x - y = 20 ∨ y - x = 20 := by split at q <;> omega
    rw [if_pos e] at h this
    apply c_pairOf
    exact ⟨⟨by omega, by omega⟩, fun z => by omega, fun _ => ⟨⟨by omega, by omega⟩, fun z => by omega, fun _ => ⟨⟨by omega, by omega⟩, h⟩⟩⟩
theorem pr_comm (x y : Int) : pr x y = pr y x := by
  unfold pr
  rw [show min x y = min y x by omega]
  by_cases c : x - y = 20 ∨ y - x = 20
  · rw [if_pos c, if_pos (show y - x = 20 ∨ x - y = 20 by omega)]
  · rw [if_neg c, if_neg (show ¬ (y - x = 20 ∨ x - y = 20) by omega)]
theorem pr_stp {c w : Int} (hc : 0 ≤ c ∧ c < 240) (hw : w = 0 ∨ w = 1) (h : stp c w ≠ -1) : pr c (stp c w) = 2 * c + w := by
  rcases hw with rfl | rfl
  · rw [stp0 hc] at h ⊢
    by_cases q : c % 20 < 19
    · rw [if_pos q]; unfold pr; rw [if_neg (by omega)]; omega
    · rw [if_neg q] at h; omega
  · rw [stp1 hc] at h ⊢
    by_cases q : c + 20 < 240
    · rw [if_pos q]; unfold pr; rw [if_pos (by omega)]; omega
    · rw [if_neg q] at h; omega
/-- the cell c and the one beside it by the way w are the pair of a neck -/
theorem isPr_of {c w : Int} (hs : crs s) (hc : 0 ≤ c ∧ c < 240) (hw : w = 0 ∨ w = 1) (h1 : num s c ≠ -1) (hst : stp c w ≠ -1) (h2 : num s (stp c w) ≠ -1) (h3 : num s c + 3 ≤ num s (stp c w) ∨ num s (stp c w) + 3 ≤ num s c) : isPr s (2 * c + w) := by
  obtain ⟨a0, a1, a2⟩ := num_on (Classical.not_not.mp (fun z => h1 (num_off z)))
  obtain ⟨b0, b1, b2⟩ := num_on (Classical.not_not.mp (fun z => h2 (num_off z)))
  have hn : nbr c (stp c w) := nbr_of (by omega) hst
  rcases h3 with h3 | h3
  · refine ⟨num s c, num s (stp c w), ⟨a0, h3, b1, ?_⟩, ?_⟩
    · rw [a2, b2]; exact hn
    · rw [a2, b2]; exact pr_stp hc hw hst
  · refine ⟨num s (stp c w), num s c, ⟨b0, h3, a1, ?_⟩, ?_⟩
    · rw [a2, b2]; exact nbr_symm hc hn
    · rw [a2, b2, pr_comm]; exact pr_stp hc hw hst
theorem isPr_to {c w : Int} (hs : crs s) (hc : 0 ≤ c ∧ c < 240) (hw : w = 0 ∨ w = 1) (h : isPr s (2 * c + w)) : num s c ≠ -1 ∧ stp c w ≠ -1 ∧ num s (stp c w) ≠ -1 ∧ (num s c + 3 ≤ num s (stp c w) ∨ num s (stp c w) + 3 ≤ num s c) := by
  obtain ⟨i, j, ⟨n1, n2, n3, n4⟩, hp⟩ := h
  have hx := hs.2.1 i n1 (by omega)
  have hy := hs.2.1 j (by omega) n3
  have ei := num_at hs n1 (show i < s 4 by omega)
  have ej := num_at hs (show 0 ≤ j by omega) n3
  rw [nbr_cases hx hy] at n4
  generalize s (5 + i) = x at *
  generalize s (5 + j) = y at *
  have key : (c = x ∧ stp c w = y) ∨ (c = y ∧ stp c w = x) := by
    unfold pr at hp
    rcases n4 with ⟨q, q2⟩ | q | ⟨q, q2⟩ | q
    · rw [if_neg (by omega)] at hp
      have e1 : c = x := by omega
      have e2 : w = 0 := by omega
      subst e1; subst e2
      rw [stp0 hc, if_pos q2]; omega
    · rw [if_pos (by omega)] at hp
      have e1 : c = x := by omega
      have e2 : w = 1 := by omega
      subst e1; subst e2
      rw [stp1 hc, if_pos (by omega)]; omega
    · rw [if_neg (by omega)] at hp
      have e1 : c = y := by omega
      have e2 : w = 0 := by omega
      subst e1; subst e2
      rw [stp0 hc, if_pos (by omega)]; omega
    · rw [if_pos (by omega)] at hp
      have e1 : c = y := by omega
      have e2 : w = 1 := by omega
      subst e1; subst e2
      rw [stp1 hc, if_pos (by omega)]; omega
  rcases key with ⟨k1, k2⟩ | ⟨k1, k2⟩
  · rw [k2, k1, ei, ej]
    exact ⟨by omega, by omega, by omega, by omega⟩
  · rw [k2, k1, ei, ej]
    exact ⟨by omega, by omega, by omega, by omega⟩
theorem age_1 {k : Int} (h : 0 ≤ k ∧ k < 480) (hp : isPr s k) : f_age s (635 + k) = s (635 + k) + 1 := by
  unfold f_age
  rw [if_pos (by omega), show 635 + k - 635 = k by omega, if_pos hp]
theorem age_0 {k : Int} (h : 0 ≤ k ∧ k < 480) (hp : ¬ isPr s k) : f_age s (635 + k) = 0 := by
  unfold f_age
  rw [if_pos (by omega), show 635 + k - 635 = k by omega, if_neg hp]
theorem c_agePair {d : zMem} {c w : Int} (ha : isRiv a) (hC : RC d a s) (hs : crs s) (hc : 0 ≤ c ∧ c < 240) (hw : w = 0 ∨ w = 1) (hv : d (a + 12) (2 * c + w) = s (635 + (2 * c + w))) (hQ : ∀ d', d' = mu d (a + 12) (2 * c + w) (f_age s (635 + (2 * c + w))) → Q 0 d') : Ev g M_X7_agePair FUL FUL [zR a, zI c, zI w] d Q := by
  have h4 := hs.1
  have hr1 := num_range s hs c
  have hrs := stp_range c w
  have hk : 0 ≤ 2 * c + w ∧ 2 * c + w < 480 := by omega
  apply e_X7_agePair ha
  apply c_numberOf ha hC ⟨by omega, by omega⟩
  rw [if_pos hc]
  apply s_beside ⟨by omega, by omega⟩ ⟨by omega, by omega⟩
  apply c_numberOf ha hC ⟨by omega, by omega⟩
  have off : ∀ (e : ¬ isPr s (2 * c + w)) (d5 : zMem), d5 = mu d (a + 12) (2 * c + w) 0 → Q 0 d5 := fun e d5 h5 => hQ d5 (by rw [age_0 hk e]; exact h5)
  have hr3 : -1 ≤ (if 0 ≤ stp c w ∧ stp c w < 240 then num s (stp c w) else -1) ∧ (if 0 ≤ stp c w ∧ stp c w < 240 then num s (stp c w) else -1) < s 4 := by
    split
    · exact num_range s hs _
    · omega
  have to := fun z => isPr_to hs hc hw z
  refine ⟨⟨by omega, by omega⟩, fun q => ?_, fun q => ⟨⟨by omega, by omega⟩, fun q2 => ?_, fun q2 => ⟨⟨by omega, by omega⟩, ?_, fun q3 => ?_, fun q3 => ?_⟩⟩⟩
  · apply c_pairOf
    exact ⟨⟨by omega, by omega⟩, fun z => by omega, fun _ => ⟨⟨by omega, by omega⟩, fun z => by omega, fun _ => ⟨hk, off (fun z => (to z).1 q)⟩⟩⟩
  · apply c_pairOf
    refine ⟨⟨by omega, by omega⟩, fun z => by omega, fun _ => ⟨⟨by omega, by omega⟩, fun z => by omega, fun _ => ⟨hk, off (fun z => ?_)⟩⟩⟩
    obtain ⟨t1, t2, t3, t4⟩ := to z
    rw [if_pos (by omega)] at q2
    exact t3 q2
  · split <;> constructor <;> omega
  · apply c_pairOf
    refine ⟨⟨by omega, by omega⟩, fun z => by omega, fun _ => ⟨⟨by omega, by omega⟩, fun z => by omega, fun _ => ⟨hk, off (fun z => ?_)⟩⟩⟩
    obtain ⟨t1, t2, t3, t4⟩ := to z
    rw [if_pos (show 0 ≤ stp c w ∧ stp c w < 240 by omega)] at q3
    split at q3 <;> omega
  · apply c_pairOf
    have hst : stp c w ≠ -1 := fun z => q2 (by rw [if_neg (by omega)])
    rw [if_pos (show 0 ≤ stp c w ∧ stp c w < 240 by omega)] at q2 q3
    have hp : isPr s (2 * c + w) := isPr_of hs hc hw q hst q2 (by split at q3 <;> omega)
    refine ⟨⟨by omega, by omega⟩, fun z => by omega, fun _ => ⟨⟨by omega, by omega⟩, fun z => by omega, fun _ => ⟨hk, hk, fun d11 h11 => hQ d11 ?_⟩⟩⟩
    rw [age_1 hk hp, ← hv]; exact h11
/-- the ages of the cells before x are new, the others as they were -/
def agI (d : zMem) (a : Nat) (s : Row) (x : Int) : Prop := ∀ k, 0 ≤ k → k < 480 → d (a + 12) k = if k < 2 * x then f_age s (635 + k) else s (635 + k)
theorem l_age {d0 : zMem} (ha : isRiv a) (hC : RC d0 a s) (hs : crs s) (hQ : ∀ d', but d0 d' (a + 12) → agI d' a s 240 → Q 0 d') : ∀ (n : Nat) (x : Int) (d : zMem), 240 - x = n → 0 ≤ x → but d0 d (a + 12) → agI d a s x →
    Fr g (eM g M_X7_agePairs FUL FUL Q) M_X7_agePairs FUL 2 [some (zR a), some (zI x)] [] d
  | 0, x, d, hn, hx, hd, hv => by
    apply v_X7_agePairs_2 ha
    have e : x = 240 := by omega
    subst e
    exact ⟨⟨by omega, by omega⟩, fun _ => hQ d hd hv, fun q => by omega⟩
  | n + 1, x, d, hn, hx, hd, hv => by
    apply v_X7_agePairs_2 ha
    refine ⟨⟨by omega, by omega⟩, fun q => by omega, fun _ => ?_⟩
    have hC1 : RC d a s := RC_keep hC hs (fun q hq => hd q (by omega)) (fun _ _ _ => rfl)
    apply c_agePair ha hC1 hs ⟨hx, by omega⟩ (Or.inl rfl) (by rw [hv _ (by omega) (by omega), if_neg (by omega)])
    intro d1 h1
    have b1 : but d0 d1 (a + 12) := h1 ▸ but_mu hd
    have hC2 : RC d1 a s := RC_keep hC hs (fun q hq => b1 q (by omega)) (fun _ _ _ => rfl)
    apply c_agePair ha hC2 hs ⟨hx, by omega⟩ (Or.inr rfl) (by rw [h1, mu_ni (by omega), hv _ (by omega) (by omega), if_neg (by omega)])
    intro d2 h2
    refine l_age ha hC hs hQ n (x + 1) d2 (by omega) (by omega) (h2 ▸ but_mu b1) (fun k q1 q2 => ?_)
    rw [h2, mu_app, if_pos rfl]
    by_cases c1 : k = 2 * x + 1
    · rw [if_pos c1, if_pos (by omega), c1]
    · rw [if_neg c1, h1, mu_app, if_pos rfl]
      by_cases c0 : k = 2 * x + 0
      · rw [if_pos c0, if_pos (by omega), c0]
      · rw [if_neg c0, hv k q1 q2]
        by_cases c : k < 2 * x
        · rw [if_pos c, if_pos (by omega)]
        · rw [if_neg c, if_neg (by omega)]
/-- only the ages are not as they were -/
theorem c_agePairs {d : zMem} (ha : isRiv a) (hR : Rel d a s) (hs : crs s) (hX : IX s) (hF8 : s 1395 ≤ 8) (hQ : ∀ d', butR d d' a → Rel d' a (f_age s) → Q 0 d') : Ev g M_X7_agePairs FUL FUL [zR a] d Q := by
  obtain ⟨rS, rC, rX, rW, rF⟩ := hR
  apply e_X7_agePairs ha
  refine l_age (d0 := d) ha rC hs ?_ 240 0 d (by omega) (by omega) but_rfl (fun k q1 q2 => by rw [if_neg (by omega)]; exact rW.2 k q1 q2)
  intro d3 b3 hv3
  refine hQ d3 (fun q hq => b3 q (by omega)) ⟨?_, ?_, ?_, ⟨fun c q1 q2 => ?_, fun k q1 q2 => ?_⟩, ?_⟩
  · exact RS_keep rS (b3 _ (by omega)) (fun k _ _ => age_out (by omega))
  · exact RC_keep rC hs (fun q hq => b3 q (by omega)) (fun k _ _ => age_out (by omega))
  · exact RX_keep rX hX (fun q hq => b3 q (by omega)) (fun k _ _ => age_out (by omega))
  · rw [b3 _ (by omega), b3 _ (by omega), age_out (by omega), age_out (by omega)]; exact rW.1 c q1 q2
  · rw [hv3 k q1 q2, if_pos (by omega)]
  · exact RF_keep rF hF8 (fun q hq => b3 q (by omega)) (fun k _ _ => age_out (by omega))
end
-- a cut: the row behind
theorem cut_mid {s : Row} {i j k : Int} (hn : neck s i j) (h4 : s 4 ≤ 150) (h : 155 ≤ k) : f_cut s i j k = if 1115 ≤ k ∧ k < 1355 then @ite Int (btw s i j (k - 1115)) (Classical.propDecidable _) (f_full s 1355) (f_full s k)
  else if k = 1355 then f_full s 1355 + 1
  else if k = 1356 + 3 * f_full s 1355 then j - i - 1
  else if k = 1356 + 3 * f_full s 1355 + 1 then 0
  else if k = 1356 + 3 * f_full s 1355 + 2 then s (5 + i + 1)
  else if k = 1405 then s 1405 + 1
  else f_full s k := by
  obtain ⟨n1, n2, n3, n4⟩ := hn
  unfold f_cut
  rw [if_neg (by omega), if_neg (by omega)]
theorem cut_out {s : Row} {i j k : Int} (hX : IX s) (hn : neck s i j) (h4 : s 4 ≤ 150) (hk : k < 4 ∨ (155 ≤ k ∧ k < 1115) ∨ (1395 ≤ k ∧ k ≠ 1405)) : f_cut s i j k = s k := by
  have hf := IX_full hX
  have hf0 := hf.1.1
  have ho := f_full_out hX (k := k) (by omega)
  have hn' := hn
  obtain ⟨n1, n2, n3, n4⟩ := hn'
  by_cases h : 155 ≤ k
  · rw [cut_mid hn h4 h, if_neg (by omega), if_neg (by omega), if_neg (by omega), if_neg (by omega), if_neg (by omega), if_neg (by omega), ho]
  · unfold f_cut
    rw [if_neg (by omega), if_neg (by omega), if_neg (by omega), if_neg (by omega), if_neg (by omega), if_neg (by omega), if_neg (by omega), if_neg (by omega), ho]
theorem IY_full {s : Row} (hX : IX s) (hY : IY s) : IY (f_full s) := by
  have := hX.1
  unfold f_full
  split
  · exact IY_drop hX hY (by omega) (by omega)
  · exact hY
theorem cut_IX {s : Row} {i j : Int} (hs : crs s) (hX : IX s) (hY : IY s) (hn : neck s i j) : IX (f_cut s i j) ∧ IY (f_cut s i j) := by
  have hf := IX_full hX
  have hfy := IY_full hX hY
  have h4 := hs.1
  have hf0 := hf.1.1
  have mid := fun (k : Int) (hk : 155 ≤ k) => cut_mid (k := k) hn h4.2 hk
  have e : f_cut s i j 1355 = f_full s 1355 + 1 := by rw [mid _ (by omega), if_neg (by omega), if_pos rfl]
  obtain ⟨n1, n2, n3, n4⟩ := hn
  have hcell := hs.2.1 (i + 1) (by omega) (by omega)
  rw [show 5 + (i + 1) = 5 + i + 1 by omega] at hcell
  refine ⟨⟨by rw [e]; omega, fun c q1 q2 => ?_, fun o q1 q2 => ?_⟩, fun o q1 q2 => ?_⟩
  · rw [e, mid _ (by omega), if_pos (by omega)]
    have := hf.1.2.1 c q1 q2
    split <;> omega
  · rw [e] at q2
    rw [mid _ (by omega), mid (1356 + 3 * o + 2) (by omega), mid (1356 + 3 * o) (by omega), if_neg (by omega), if_neg (by omega), if_neg (by omega), if_neg (show ¬ (1115 ≤ 1356 + 3 * o + 2 ∧ 1356 + 3 * o + 2 < 1355) by omega), if_neg (show ¬ (1356 + 3 * o + 2 = 1355) by omega), if_neg (show ¬ (1356 + 3 * o + 2 = 1356 + 3 * f_full s 1355) by omega), if_neg (show ¬ (1356 + 3 * o + 2 = 1356 + 3 * f_full s 1355 + 1) by omega), if_neg (show ¬ (1115 ≤ 1356 + 3 * o ∧ 1356 + 3 * o < 1355) by omega), if_neg (show ¬ (1356 + 3 * o = 1355) by omega)]
    by_cases ho : o = f_full s 1355
    · rw [if_pos (by omega), if_pos (show 1356 + 3 * o + 2 = 1356 + 3 * f_full s 1355 + 2 by omega), if_pos (show 1356 + 3 * o = 1356 + 3 * f_full s 1355 by omega)]
      exact ⟨⟨by omega, by omega⟩, hcell, ⟨by omega, by omega⟩⟩
    · have := hf.1.2.2 o q1 (by omega)
      rw [if_neg (by omega), if_neg (by omega), if_neg (by omega), if_neg (by omega), if_neg (by omega), if_neg (by omega), if_neg (by omega), if_neg (by omega), if_neg (by omega)]
      exact this
  · rw [e] at q2
    rw [mid _ (by omega), if_neg (by omega), if_neg (by omega), if_neg (by omega)]
    by_cases ho : o = f_full s 1355
    · rw [if_pos (by omega)]; omega
    · rw [if_neg (by omega), if_neg (by omega), if_neg (by omega)]; exact hfy o q1 (by omega)
section
variable {g : zGG} {Q : Int → zMem → Prop} {a : Nat} {s : Row}
theorem c_cutBetween {d : zMem} {i j : Int} (ha : isRiv a) (hR : Rel d a s) (hs : crs s) (hX : IX s) (hY : IY s) (hF8 : s 1395 ≤ 8) (hn : neck s i j) (hQ : ∀ d', butR d d' a → Rel d' a (f_cut s i j) → Q 0 d') : Ev g M_X7_cutBetween FUL FUL [zR a, zI i, zI j] d Q := by
  obtain ⟨rS, rC, rX, rW, rF⟩ := hR
  have h4 := hs.1
  obtain ⟨cX, cY⟩ := cut_IX hs hX hY hn
  have hc := cut_crs hs hX hn
  obtain ⟨t4, tlo, thi⟩ := cut_at hX hn h4.2
  have out : ∀ k, (k < 4 ∨ (155 ≤ k ∧ k < 1115) ∨ (1395 ≤ k ∧ k ≠ 1405)) → f_cut s i j k = s k := fun k hk => cut_out hX hn h4.2 hk
  have f0 := (IX_full hX)
  have f01 := f0.1.1
  have e05 : f_cut s i j 1405 = s 1405 + 1 := by rw [cut_mid hn h4.2 (by omega), if_neg (by omega), if_neg (by omega), if_neg (by omega), if_neg (by omega), if_neg (by omega), if_pos rfl]
  apply e_X7_cutBetween ha
  apply c_take ha rC hs rX hX hn
  intro d1 hb1 X1
  apply c_shorten ha (RC_keep rC hs (fun q hq => hb1 q (by omega)) (fun _ _ _ => rfl)) hs hn.1 hn.2.1 hn.2.2.1 hc t4 tlo thi
  intro d2 hb2 C2 d3 hd3
  have e3 : ∀ q, q ≠ a → d3 q = d2 q := fun q hq => by rw [hd3]; funext z; rw [mu_na hq]
  have e32 : ∀ q, q ≠ a → q ≠ a + 2 → q ≠ a + 3 → q ≠ a + 4 → d3 q = d1 q := fun q h0 h1 h2 h3 => by rw [e3 q h0, hb2 q h1 h2 h3]
  have e31 : ∀ q, (q < a ∨ q = a + 1 ∨ a + 10 ≤ q) → d3 q = d q := fun q h0 => by rw [e32 q (by omega) (by omega) (by omega) (by omega), hb1 q (by omega)]
  have ea : d2 a = d a := by rw [hb2 a (by omega) (by omega) (by omega), hb1 a (by omega)]
  refine hQ d3 (fun q hq => e31 q (by omega)) ⟨?_, ?_, ?_, ?_, ?_⟩
  · exact RS_keep rS (e31 _ (by omega)) (fun k _ _ => out k (by omega))
  · exact RC_keep C2 hc (fun q hq => e3 q (by omega)) (fun _ _ _ => rfl)
  · exact RX_keep X1 cX (fun q hq => e32 q (by omega) (by omega) (by omega) (by omega)) (fun _ _ _ => rfl)
  · exact RW_keep rW (fun q hq => e31 q (by omega)) (fun k _ _ => out k (by omega))
  · obtain ⟨f1, f2, f3, f4, f5⟩ := rF
    refine ⟨?_, fun k q1 q2 => ?_, ?_, ?_, ?_⟩
    · rw [hd3, mu_ni (by omega), ea, f1, out _ (by omega)]
    · rw [out _ (by omega)] at q2
      rw [e31 _ (by omega), f2 k q1 q2, out _ (by omega)]
    · rw [hd3, mu_ni (by omega), ea, f3, out _ (by omega)]
    · rw [hd3, mu_get, ea, f4, e05]
    · rw [hd3, mu_ni (by omega), ea, f5, out _ (by omega)]
end
