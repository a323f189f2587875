section
variable {g : zGG} {Q : Int → zMem → Prop} {a : Nat} {s : Row}
def nxt (s : Row) (i ab w v : Int) : Prop := (v = -1 ∧ ∀ u, 0 ≤ u → u < w → nbe s i u ≤ ab) ∨ (ab < v ∧ (∃ u, 0 ≤ u ∧ u < w ∧ nbe s i u = v) ∧ ∀ u, 0 ≤ u → u < w → ab < nbe s i u → v ≤ nbe s i u)
theorem nbe_range {s : Row} (hs : crs s) (i w : Int) : -1 ≤ nbe s i w ∧ nbe s i w < s 4 := by
  have h4 := hs.1
  unfold nbe
  split
  · omega
  · exact num_range s hs _
theorem l_nextBeside {d : zMem} {i ab : Int} (ha : isRiv a) (hR : RC d a s) (hs : crs s) (hi : 0 ≤ i ∧ i < s 4) (hab : -1 ≤ ab ∧ ab ≤ 1000) : ∀ (n : Nat) (w v : Int), 4 - w = n → 0 ≤ w → nxt s i ab w v → (∀ v', nxt s i ab 4 v' → Q v' d) →
    Fr g (eM g M_X1_nextBeside FUL FUL Q) M_X1_nextBeside FUL 5 [some (zR (a + 2)), some (zI i), some (zI ab), some (zI v), some (zI w), none] [] d
  | 0, w, v, hn, h0, hv, hQ => by
    apply v_X1_nextBeside_5 ha
    have : w = 4 := by omega
    subst this
    exact ⟨⟨by omega, by omega⟩, fun _ => hQ v hv, fun q => by omega⟩
  | n + 1, w, v, hn, h0, hv, hQ => by
    have h4 := hs.1
    apply v_X1_nextBeside_5 ha
    refine ⟨⟨by omega, by omega⟩, fun _ => by omega, fun q => ?_⟩
    apply c_numberBeside ha hR hs hi ⟨by omega, by omega⟩
    have hr := nbe_range hs i w
    have hvr : -1 ≤ v ∧ v < 150 := by
      rcases hv with ⟨rfl, -⟩ | ⟨-, ⟨u, -, -, rfl⟩, -⟩
      · omega
      · have := nbe_range hs i u; omega
    refine ⟨⟨⟨by omega, by omega⟩, ⟨by omega, by omega⟩⟩, fun c => ?_, fun c => ⟨⟨by omega, by omega⟩, fun c2 => ?_, fun c2 => ⟨⟨⟨by omega, by omega⟩, ⟨by omega, by omega⟩⟩, fun c3 => ?_, fun c3 => ?_⟩⟩⟩
    · refine l_nextBeside ha hR hs hi hab n (w + 1) v (by omega) (by omega) ?_ hQ
      rcases hv with ⟨rfl, h⟩ | ⟨h1, ⟨u, h2, h3, h4'⟩, h5⟩
      · exact Or.inl ⟨rfl, fun u hu hu2 => by rcases (show u < w ∨ u = w by omega) with q' | rfl; exact h u hu q'; exact c⟩
      · exact Or.inr ⟨h1, ⟨u, h2, by omega, h4'⟩, fun u hu hu2 hu3 => by rcases (show u < w ∨ u = w by omega) with q' | rfl; exact h5 u hu q' hu3; omega⟩
    · refine l_nextBeside ha hR hs hi hab n (w + 1) _ (by omega) (by omega) ?_ hQ
      rcases hv with ⟨rfl, h⟩ | ⟨h1, -, -⟩
      · exact Or.inr ⟨c, ⟨w, h0, by omega, rfl⟩, fun u hu hu2 hu3 => by rcases (show u < w ∨ u = w by omega) with q' | rfl; have := h u hu q'; omega; omega⟩
      · omega
    · refine l_nextBeside ha hR hs hi hab n (w + 1) v (by omega) (by omega) ?_ hQ
      rcases hv with ⟨rfl, h⟩ | ⟨h1, ⟨u, h2, h3, h4'⟩, h5⟩
      · omega
      · exact Or.inr ⟨h1, ⟨u, h2, by omega, h4'⟩, fun u hu hu2 hu3 => by rcases (show u < w ∨ u = w by omega) with q' | rfl; exact h5 u hu q' hu3; exact c3⟩
    · refine l_nextBeside ha hR hs hi hab n (w + 1) _ (by omega) (by omega) ?_ hQ
      rcases hv with ⟨rfl, h⟩ | ⟨h1, -, h5⟩
      · omega
      · exact Or.inr ⟨c, ⟨w, h0, by omega, rfl⟩, fun u hu hu2 hu3 => by rcases (show u < w ∨ u = w by omega) with q' | rfl; have := h5 u hu q' hu3; omega; omega⟩
theorem c_nextBeside {d : zMem} {i ab : Int} (ha : isRiv a) (hR : RC d a s) (hs : crs s) (hi : 0 ≤ i ∧ i < s 4) (hab : -1 ≤ ab ∧ ab ≤ 1000) (hQ : ∀ v', nxt s i ab 4 v' → Q v' d) : Ev g M_X1_nextBeside FUL FUL [zR (a + 2), zI i, zI ab] d Q := by
  apply e_X1_nextBeside ha
  exact l_nextBeside ha hR hs hi hab 4 0 (-1) (by omega) (by omega) (Or.inl ⟨rfl, fun u _ _ => by omega⟩) hQ
/-- every cell of the row d k but one is as it was -/
def but (d0 d : zMem) (k : Nat) : Prop := ∀ q, q ≠ k → d q = d0 q
theorem but_mu {d0 d : zMem} {k : Nat} {i v : Int} (h : but d0 d k) : but d0 (mu d k i v) k := fun q hq => by
  rw [← h q hq]; funext j; rw [mu_app, if_neg hq]
theorem but_rfl {d : zMem} {k : Nat} : but d d k := fun _ _ => rfl
/-- leaveBetween: the numbers of the cells between are -1 -/
def lvB (d0 d : zMem) (a : Nat) (lo hi : Int) : Prop := but d0 d (a + 4) ∧ (∀ m, lo < m → m < hi → d (a + 4) (d0 (a + 3) m) = -1) ∧ (∀ c, (∀ m, lo < m → m < hi → d0 (a + 3) m ≠ c) → d (a + 4) c = d0 (a + 4) c)
theorem l_leaveBetween {d0 : zMem} {lo hi : Int} (ha : isRiv a) (hlo : 0 ≤ lo) (hhi : hi ≤ d0 (a + 2) 2 ∧ d0 (a + 2) 2 ≤ 150) (hc : ∀ m, 0 ≤ m → m < hi → 0 ≤ d0 (a + 3) m ∧ d0 (a + 3) m < 240) :
    ∀ (n : Nat) (x : Int) (d : zMem), (hi - x).toNat = n → lo < x → x ≤ hi → lvB d0 d a lo x → (∀ d', lvB d0 d' a lo hi → Q 0 d') →
    Fr g (eM g M_X1_leaveBetween FUL FUL Q) M_X1_leaveBetween FUL 4 [some (zR (a + 2)), some (zI lo), some (zI hi), some (zI x), none] [] d
  | 0, x, d, hn, h0, hx, hv, hQ => by
    apply v_X1_leaveBetween_4 ha
    refine ⟨⟨⟨by omega, by omega⟩, ⟨by omega, by omega⟩⟩, fun _ => hQ d ?_, fun q => by omega⟩
    refine ⟨hv.1, fun m h1 h2 => hv.2.1 m h1 (by omega), fun c hc => hv.2.2 c (fun m h1 h2 => hc m h1 (by omega))⟩
  | n + 1, x, d, hn, h0, hx, hv, hQ => by
    apply v_X1_leaveBetween_4 ha
    have e2 : d (a + 2) = d0 (a + 2) := hv.1 _ (by omega)
    have e3 : d (a + 3) = d0 (a + 3) := hv.1 _ (by omega)
    refine ⟨⟨⟨by omega, by omega⟩, ⟨by omega, by omega⟩⟩, fun q => by omega, fun q => ?_⟩
    have hcx := hc x (by omega) q
    apply s_cellOf ha ⟨by omega, by omega⟩ (by rw [e2]; omega)
    rw [e2, e3, if_pos (by omega)]
    apply s_isOnLand ⟨by omega, by omega⟩
    rw [if_pos hcx]
    refine ⟨by decide, fun q => absurd q (by decide), fun _ => ⟨hcx, fun d3 hd3 => ?_⟩⟩
    refine l_leaveBetween ha hlo hhi hc n (x + 1) d3 (by omega) (by omega) (by omega) ?_ hQ
    subst hd3
    refine ⟨but_mu hv.1, fun m h1 h2 => ?_, fun c hcc => ?_⟩
    · rw [mu_app, if_pos rfl]
      split
      · rfl
      · rename_i hne
        rcases (show m < x ∨ m = x by omega) with q' | rfl
        · exact hv.2.1 m h1 q'
        · exact absurd rfl hne
    · rw [mu_app, if_pos rfl, if_neg (fun e => hcc x h0 (by omega) e.symm)]
      exact hv.2.2 c (fun m h1 h2 => hcc m h1 (by omega))
theorem s_leaveBetween {d : zMem} {lo hi : Int} (ha : isRiv a) (hlo : 0 ≤ lo ∧ lo < 1000) (hhi : hi ≤ d (a + 2) 2 ∧ d (a + 2) 2 ≤ 150) (hlh : lo < hi) (hc : ∀ m, 0 ≤ m → m < hi → 0 ≤ d (a + 3) m ∧ d (a + 3) m < 240) (hQ : ∀ d', lvB d d' a lo hi → Q 0 d') : Ev g M_X1_leaveBetween FUL FUL [zR (a + 2), zI lo, zI hi] d Q := by
  apply e_X1_leaveBetween ha
  exact l_leaveBetween ha hlo.1 hhi hc _ _ d rfl (by omega) (by omega) ⟨but_rfl, fun m _ _ => by omega, fun _ _ => rfl⟩ hQ
/-- numberAgain -/
def nbA (d0 d : zMem) (a : Nat) (lo hi : Int) : Prop := but d0 d (a + 4) ∧ (∀ m, lo ≤ m → m < hi → d (a + 4) (d0 (a + 3) m) = m) ∧ (∀ c, (∀ m, lo ≤ m → m < hi → d0 (a + 3) m ≠ c) → d (a + 4) c = d0 (a + 4) c)
theorem l_numberAgain {d0 : zMem} {lo : Int} (ha : isRiv a) (hlo : 0 ≤ lo) (hhi : d0 (a + 2) 2 ≤ 150) (hc : ∀ m, 0 ≤ m → m < d0 (a + 2) 2 → 0 ≤ d0 (a + 3) m ∧ d0 (a + 3) m < 240) (hd : ∀ m m', 0 ≤ m → m < d0 (a + 2) 2 → 0 ≤ m' → m' < d0 (a + 2) 2 → d0 (a + 3) m = d0 (a + 3) m' → m = m') :
    ∀ (n : Nat) (x : Int) (d : zMem), d0 (a + 2) 2 - x = n → lo ≤ x → nbA d0 d a lo x → (∀ d', nbA d0 d' a lo (d0 (a + 2) 2) → Q 0 d') →
    Fr g (eM g M_X1_numberAgain FUL FUL Q) M_X1_numberAgain FUL 2 [some (zR (a + 2)), some (zI lo), some (zI x), none] [] d
  | 0, x, d, hn, h0, hv, hQ => by
    apply v_X1_numberAgain_2 ha
    have e2 : d (a + 2) = d0 (a + 2) := hv.1 _ (by omega)
    rw [e2]
    have : x = d0 (a + 2) 2 := by omega
    subst this
    exact ⟨⟨⟨by omega, by omega⟩, ⟨by omega, by omega⟩⟩, fun _ => hQ d hv, fun q => by omega⟩
  | n + 1, x, d, hn, h0, hv, hQ => by
    apply v_X1_numberAgain_2 ha
    have e2 : d (a + 2) = d0 (a + 2) := hv.1 _ (by omega)
    have e3 : d (a + 3) = d0 (a + 3) := hv.1 _ (by omega)
    rw [e2]
    refine ⟨⟨⟨by omega, by omega⟩, ⟨by omega, by omega⟩⟩, fun q => by omega, fun q => ?_⟩
    have hcx := hc x (by omega) q
    apply s_cellOf ha ⟨by omega, by omega⟩ (by rw [e2]; omega)
    rw [e2, e3, if_pos (by omega)]
    apply s_isOnLand ⟨by omega, by omega⟩
    rw [if_pos hcx]
    refine ⟨by decide, fun q => absurd q (by decide), fun _ => ⟨hcx, fun d3 hd3 => ?_⟩⟩
    refine l_numberAgain ha hlo hhi hc hd n (x + 1) d3 (by omega) (by omega) ?_ hQ
    subst hd3
    refine ⟨but_mu hv.1, fun m h1 h2 => ?_, fun c hcc => ?_⟩
    · rw [mu_app, if_pos rfl]
      rcases (show m < x ∨ m = x by omega) with q' | rfl
      · rw [if_neg (fun e => by have := hd m x (by omega) (by omega) (by omega) (by omega) e; omega)]
        exact hv.2.1 m h1 q'
      · rw [if_pos rfl]
    · rw [mu_app, if_pos rfl, if_neg (fun e => hcc x h0 (by omega) e.symm)]
      exact hv.2.2 c (fun m h1 h2 => hcc m h1 (by omega))
theorem s_numberAgain {d : zMem} {lo : Int} (ha : isRiv a) (hlo : 0 ≤ lo ∧ lo ≤ d (a + 2) 2) (hhi : d (a + 2) 2 ≤ 150) (hc : ∀ m, 0 ≤ m → m < d (a + 2) 2 → 0 ≤ d (a + 3) m ∧ d (a + 3) m < 240) (hd : ∀ m m', 0 ≤ m → m < d (a + 2) 2 → 0 ≤ m' → m' < d (a + 2) 2 → d (a + 3) m = d (a + 3) m' → m = m') (hQ : ∀ d', nbA d d' a lo (d (a + 2) 2) → Q 0 d') : Ev g M_X1_numberAgain FUL FUL [zR (a + 2), zI lo] d Q := by
  apply e_X1_numberAgain ha
  exact l_numberAgain ha hlo.1 hhi hc hd (d (a + 2) 2 - lo).toNat _ d (by omega) (by omega) ⟨but_rfl, fun m _ _ => by omega, fun _ _ => rfl⟩ hQ
end
