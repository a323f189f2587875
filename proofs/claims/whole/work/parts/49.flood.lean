-- floods, changed
def f_add (s : Row) (y : Int) : Row := ru (ru s (1396 + s 1395) y) 1395 (s 1395 + 1)
def f_rem (s : Row) (p : Int) : Row := fun k => if k = 1395 then s 1395 - 1 else if 1396 + p ≤ k ∧ k < 1396 + (s 1395 - 1) then s (k + 1) else s k
theorem flood_Inv {s t : Row} (hI : Inv s) (h : ∀ k, (k < 1395 ∨ 1404 ≤ k) → t k = s k) (hF : IF t) : Inv t := by
  obtain ⟨hs, hX, hY, hW, hS, -⟩ := hI
  exact ⟨crs_same (fun k q1 q2 => h k (by omega)) hs, IX_same (fun k q1 q2 => h k (by omega)) hX, IY_same (fun k q1 q2 => h k (by omega)) hX hY, IW_same (fun k q1 q2 => h k (by omega)) (h _ (by omega)) hW, IS_same (fun k q1 q2 => h k (by omega)) hS, hF⟩
theorem flood_Rel {s t : Row} {d d' : zMem} {a : Nat} (hR : Rel d a s) (hI : Inv s) (h : ∀ k, (k < 1395 ∨ 1404 ≤ k) → t k = s k) (hb : ∀ q, a < q → q < a + 13 → d' q = d q) (h8 : d' a 7 = t 1395) (h14 : ∀ k, 0 ≤ k → k < t 1395 → d' (a + 13) k = t (1396 + k)) (ho : ∀ j, j ≠ 7 → d' a j = d a j) : Rel d' a t := by
  obtain ⟨rS, rC, rX, rW, f1, f2, f3, f4, f5⟩ := hR
  obtain ⟨hs, hX, hY, hW, hS, hF⟩ := hI
  exact ⟨RS_keep rS (hb _ (by omega) (by omega)) (fun k _ _ => h k (by omega)), RC_keep rC hs (fun q hq => hb q (by omega) (by omega)) (fun k _ _ => h k (by omega)), RX_keep rX hX (fun q hq => hb q (by omega) (by omega)) (fun k _ _ => h k (by omega)), RW_keep rW (fun q hq => hb q (by omega) (by omega)) (fun k _ _ => h k (by omega)), h8, h14, by rw [ho 8 (by omega), f3, h 1404 (by omega)], by rw [ho 9 (by omega), f4, h 1405 (by omega)], by rw [ho 10 (by omega), f5, h 1406 (by omega)]⟩
theorem add_IF {s : Row} {y : Int} (hF : IF s) (h8 : s 1395 < 8) (hy : 0 ≤ y ∧ y ≤ 999) (hn : ¬ isFl s y) : IF (f_add s y) := by
  obtain ⟨g1, g2, g3, g4⟩ := hF
  have e : f_add s y 1395 = s 1395 + 1 := ru_at
  have ek : ∀ k, 0 ≤ k → k < s 1395 + 1 → f_add s y (1396 + k) = if k = s 1395 then y else s (1396 + k) := fun k q1 q2 => by
    unfold f_add
    rw [ru_ne (by omega)]
    unfold ru
    by_cases c : k = s 1395
    · rw [if_pos (by omega), if_pos c]
    · rw [if_neg (by omega), if_neg c]
  refine ⟨by rw [e]; omega, fun k q1 q2 => ?_, fun k k' q1 q2 q3 q4 he => ?_, by unfold f_add; rw [ru_ne (by omega), ru_ne (by omega)]; exact g4⟩
  · rw [e] at q2
    rw [ek k q1 q2]
    split
    · exact hy
    · exact g2 k q1 (by omega)
  · rw [e] at q2 q4
    rw [ek k q1 q2, ek k' q3 q4] at he
    by_cases c : k = s 1395 <;> by_cases c' : k' = s 1395
    · omega
    · rw [if_pos c, if_neg c'] at he
      exact absurd ⟨k', q3, by omega, he.symm⟩ hn
    · rw [if_neg c, if_pos c'] at he
      exact absurd ⟨k, q1, by omega, he⟩ hn
    · rw [if_neg c, if_neg c'] at he
      exact g3 k k' q1 (by omega) q3 (by omega) he
theorem rem_at {s : Row} {p k : Int} (h0 : 0 ≤ k) (h1 : k < s 1395 - 1) : f_rem s p (1396 + k) = if k < p then s (1396 + k) else s (1396 + (k + 1)) := by
  unfold f_rem
  rw [if_neg (by omega)]
  by_cases c : k < p
  · rw [if_pos c, if_neg (by omega)]
  · rw [if_neg c, if_pos (by omega)]
    congr 1; omega
theorem rem_IF {s : Row} {p : Int} (hF : IF s) (hp : 0 ≤ p ∧ p < s 1395) : IF (f_rem s p) := by
  obtain ⟨g1, g2, g3, g4⟩ := hF
  have e : f_rem s p 1395 = s 1395 - 1 := by unfold f_rem; rw [if_pos rfl]
  refine ⟨by rw [e]; omega, fun k q1 q2 => ?_, fun k k' q1 q2 q3 q4 he => ?_, by unfold f_rem; rw [if_neg (by omega), if_neg (by omega)]; exact g4⟩
  · rw [e] at q2
    rw [rem_at q1 q2]
    split
    · exact g2 k q1 (by omega)
    · exact g2 (k + 1) (by omega) (by omega)
  · rw [e] at q2 q4
    rw [rem_at q1 q2, rem_at q3 q4] at he
    by_cases c : k < p <;> by_cases c' : k' < p
    · rw [if_pos c, if_pos c'] at he
      exact g3 k k' q1 (by omega) q3 (by omega) he
    · rw [if_pos c, if_neg c'] at he
      have := g3 k (k' + 1) q1 (by omega) (by omega) (by omega) he
      omega
    · rw [if_neg c, if_pos c'] at he
      have := g3 (k + 1) k' (by omega) (by omega) q3 (by omega) he
      omega
    · rw [if_neg c, if_neg c'] at he
      have := g3 (k + 1) (k' + 1) (by omega) (by omega) (by omega) (by omega) he
      omega
section
variable {g : zGG} {s : Row}
theorem l_remove {d0 : zMem} {a : Nat} {Q : Int → zMem → Prop} {y p : Int} (ha : isRiv a) (hR : RF d0 a s) (hF : IF s) (hy : inR y) (hp : 0 ≤ p ∧ p < s 1395) (hpy : s (1396 + p) = y) (hQ : ∀ d', (∀ q, q ≠ a → q ≠ a + 13 → d' q = d0 q) → (∀ j, j ≠ 7 → d' a j = d0 a j) → d' a 7 = s 1395 - 1 → (∀ k, 0 ≤ k → k < s 1395 - 1 → d' (a + 13) k = f_rem s p (1396 + k)) → Q 0 d') :
    ∀ (n : Nat) (x : Int) (d : zMem), s 1395 - x = n → 0 ≤ x → but d0 d (a + 13) → (∀ k, 0 ≤ k → k < (if x ≤ p then x else x - 1) → d (a + 13) k = f_rem s p (1396 + k)) → (∀ k, x ≤ k → k < s 1395 → d (a + 13) k = s (1396 + k)) →
    Fr g (eM g M_X7_removeFlood FUL FUL Q) M_X7_removeFlood FUL 4 [some (zR a), some (zI y), some (zI (if x ≤ p then x else x - 1)), some (zI x)] [] d
  | 0, x, d, hn, hx, hd, hv, ho => by
    have hF1 := hF.1
    apply v_X7_removeFlood_4 ha
    rw [hd a (by omega), hR.1]
    rw [if_neg (by omega)] at hv ⊢
    refine ⟨⟨⟨by omega, by omega⟩, ⟨by omega, by omega⟩⟩, fun _ d1 hd1 => hQ d1 (fun q h0 h1 => by rw [hd1, mu_ne h0, hd q h1]) (fun j hj => by rw [hd1, mu_ni hj, hd a (by omega)]) (by rw [hd1, mu_get]; omega) (fun k k0 k1 => by rw [hd1, mu_ne (by omega)]; exact hv k k0 (by omega)), fun q => by omega⟩
  | n + 1, x, d, hn, hx, hd, hv, ho => by
    have hF1 := hF.1
    have hF2 := hF.2.1 x hx (by omega)
    apply v_X7_removeFlood_4 ha
    rw [hd a (by omega), hR.1, ho x (Int.le_refl _) (by omega)]
    refine ⟨⟨⟨by omega, by omega⟩, ⟨by omega, by omega⟩⟩, fun q => by omega, fun _ => ⟨⟨by omega, by omega⟩, fun q => by omega, fun _ => ⟨⟨by omega, by omega⟩, ⟨⟨⟨by omega, by omega⟩, hy⟩, fun q => ?_, fun q => ⟨⟨by omega, by omega⟩, ?_, fun d3 hd3 => ?_⟩⟩⟩⟩⟩
    · have hxp : x = p := hF.2.2.1 x p hx (by omega) hp.1 hp.2 (by rw [q, hpy])
      have := l_remove ha hR hF hy hp hpy hQ n (x + 1) d (by omega) (by omega) hd (fun k k0 k1 => hv k k0 (by rw [if_neg (by omega)] at k1; rw [if_pos (by omega)]; omega)) (fun k k0 k1 => ho k (by omega) k1)
      rw [if_neg (by omega), show x + 1 - 1 = x by omega] at this
      rw [if_pos (by omega)]
      exact this
    · by_cases c : x ≤ p
      · rw [if_pos c]; omega
      · rw [if_neg c]; omega
    · have hxp : x ≠ p := fun e => q (by rw [e, hpy])
      have e1 : (if x ≤ p then x else x - 1) + 1 = (if x + 1 ≤ p then x + 1 else x + 1 - 1) := by
        by_cases c : x ≤ p
        · rw [if_pos c, if_pos (by omega)]
        · rw [if_neg c, if_neg (by omega)]; omega
      have hval : s (1396 + x) = f_rem s p (1396 + (if x ≤ p then x else x - 1)) := by
        by_cases c : x ≤ p
        · rw [if_pos c, rem_at hx (by omega), if_pos (by omega)]
        · rw [if_neg c, rem_at (by omega) (by omega), if_neg (by omega)]
          congr 1; omega
      have hle : (if x ≤ p then x else x - 1) ≤ x := by split <;> omega
      rw [e1]
      refine l_remove ha hR hF hy hp hpy hQ n (x + 1) d3 (by omega) (by omega) (hd3 ▸ but_mu hd) (fun k k0 k1 => ?_) (fun k k0 k1 => ?_)
      · rw [← e1] at k1
        rw [hd3, mu_app, if_pos rfl]
        by_cases c : k = (if x ≤ p then x else x - 1)
        · rw [if_pos c, hval, c]
        · rw [if_neg c]; exact hv k k0 (by omega)
      · rw [hd3, mu_app, if_pos rfl, if_neg (by omega)]
        exact ho k (by omega) k1
end
