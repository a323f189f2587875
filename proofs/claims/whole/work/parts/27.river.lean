-- what of the relation stays
section
variable {d d' : zMem} {a : Nat} {s t : Row}
theorem RS_keep (h : RS d a s) (he : d' (a + 1) = d (a + 1)) (hs : same s t 0 4) : RS d' a t := fun k h0 h1 => by rw [he, h k h0 h1, hs k h0 h1]
theorem RC_keep (h : RC d a s) (hc : crs s) (he : ∀ k, (k = a + 2 ∨ k = a + 3 ∨ k = a + 4) → d' k = d k) (hs : same s t 4 155) : RC d' a t := by
  have h4 := hc.1
  have e4 := hs 4 (by omega) (by omega)
  refine ⟨by rw [he _ (by omega), h.1, e4], fun i h0 h1 => ?_, fun c h0 h1 => ?_⟩
  · rw [e4] at h1
    rw [he _ (by omega), h.2.1 i h0 h1, hs _ (by omega) (by omega)]
  · rw [he _ (by omega), h.2.2 c h0 h1, num_same hs (by omega) hc]
theorem RX_keep (h : RX d a s) (hX : IX s) (he : ∀ k, (a + 5 ≤ k ∧ k < a + 10) → d' k = d k) (hs : same s t 1115 1395) : RX d' a t := by
  have hX1 := hX.1
  have e := hs 1355 (by omega) (by omega)
  refine ⟨fun c h0 h1 => by rw [he _ (by omega), h.1 c h0 h1, hs _ (by omega) (by omega)], by rw [he _ (by omega), h.2.1, e], fun o h0 h1 => ?_⟩
  rw [e] at h1
  obtain ⟨r1, r2, r3⟩ := h.2.2 o h0 h1
  rw [he (a + 8) (by omega), he (a + 9) (by omega), he (a + 7) (by omega), r1, r2, r3, hs _ (by omega) (by omega), hs _ (by omega) (by omega), hs _ (by omega) (by omega)]
  exact ⟨rfl, rfl, rfl⟩
theorem RW_keep (h : RW d a s) (he : ∀ k, (a + 10 ≤ k ∧ k < a + 13) → d' k = d k) (hs : same s t 155 1115) : RW d' a t := by
  refine ⟨fun c h0 h1 => ?_, fun k h0 h1 => by rw [he _ (by omega), h.2 k h0 h1, hs _ (by omega) (by omega)]⟩
  rw [he (a + 10) (by omega), he (a + 11) (by omega), (h.1 c h0 h1).1, (h.1 c h0 h1).2, hs _ (by omega) (by omega), hs _ (by omega) (by omega)]
  exact ⟨rfl, rfl⟩
theorem RF_keep (h : RF d a s) (h8 : s 1395 ≤ 8) (he : ∀ k, (k = a ∨ k = a + 13) → d' k = d k) (hs : same s t 1395 1407) : RF d' a t := by
  obtain ⟨h1, h2, h3, h4, h5⟩ := h
  have e := hs 1395 (by omega) (by omega)
  refine ⟨by rw [he _ (by omega), h1, e], fun k g0 g1 => ?_, by rw [he _ (by omega), h3, hs _ (by omega) (by omega)], by rw [he _ (by omega), h4, hs _ (by omega) (by omega)], by rw [he _ (by omega), h5, hs _ (by omega) (by omega)]⟩
  rw [e] at g1
  rw [he _ (by omega), h2 k g0 g1, hs _ (by omega) (by omega)]
end
def IW (s : Row) : Prop := (∀ c, 0 ≤ c → c < 240 → (0 ≤ s (155 + c) ∧ s (155 + c) ≤ 99) ∧ (s (395 + c) = 0 ∨ s (395 + c) = 1)) ∧ (∀ k, 0 ≤ k → k < 480 → 0 ≤ s (635 + k) ∧ s (635 + k) ≤ s 1404)
def IS (s : Row) : Prop := (1 ≤ s 0 ∧ s 0 ≤ 9) ∧ (1 ≤ s 1 ∧ s 1 ≤ 60) ∧ (1 ≤ s 2 ∧ s 2 ≤ 20) ∧ (1 ≤ s 3 ∧ s 3 ≤ 50)
def IF (s : Row) : Prop := (0 ≤ s 1395 ∧ s 1395 ≤ 8) ∧ (∀ k, 0 ≤ k → k < s 1395 → 0 ≤ s (1396 + k) ∧ s (1396 + k) ≤ 999) ∧ (∀ k k', 0 ≤ k → k < s 1395 → 0 ≤ k' → k' < s 1395 → s (1396 + k) = s (1396 + k') → k = k') ∧ 0 ≤ s 1404
def IY (s : Row) : Prop := ∀ o, 0 ≤ o → o < s 1355 → s (1356 + 3 * o + 1) ≤ 49
def Inv (s : Row) : Prop := crs s ∧ IX s ∧ IY s ∧ IW s ∧ IS s ∧ IF s
-- oxbows: a year
def f_inc (s : Row) (o : Int) : Row := fun k => if k = 1356 + 3 * o + 1 then s k + 1 else s k
def oxStep (silt : Int) (s : Row) (o : Int) : Row := if silt ≤ s (1356 + 3 * o + 1) + 1 then f_drop (f_inc s o) o else f_inc s o
def oxRun (silt : Int) : Nat → Row → Row
  | 0, s => s
  | n + 1, s => oxRun silt n (oxStep silt s n)
theorem f_inc_IX {s : Row} {o : Int} (hX : IX s) (hY : IY s) (h0 : 0 ≤ o) (h1 : o < s 1355) : IX (f_inc s o) := by
  have hX1 := hX.1
  have e : f_inc s o 1355 = s 1355 := by unfold f_inc; rw [if_neg (by omega)]
  refine ⟨by rw [e]; exact hX1, fun c q1 q2 => ?_, fun p q1 q2 => ?_⟩
  · rw [e]
    unfold f_inc
    rw [if_neg (by omega)]
    exact hX.2.1 c q1 q2
  · rw [e] at q2
    have := hX.2.2 p q1 q2
    have hy := hY p q1 q2
    unfold f_inc
    rw [if_neg (show ¬ (1356 + 3 * p + 2 = 1356 + 3 * o + 1) by omega), if_neg (show ¬ (1356 + 3 * p = 1356 + 3 * o + 1) by omega)]
    refine ⟨?_, this.2⟩
    split <;> omega
theorem oxStep_ok {s : Row} {silt o : Int} (hX : IX s) (hY : IY s) (hs : 1 ≤ silt ∧ silt ≤ 50) (h0 : 0 ≤ o) (h1 : o < s 1355) : IX (oxStep silt s o) ∧ IY (oxStep silt s o) ∧ o ≤ oxStep silt s o 1355 ∧ (∀ k, (k < 1115 ∨ 1395 ≤ k) → oxStep silt s o k = s k) := by
  have hX1 := hX.1
  have hi := f_inc_IX hX hY h0 h1
  have e : f_inc s o 1355 = s 1355 := by unfold f_inc; rw [if_neg (by omega)]
  unfold oxStep
  split
  · rename_i hc
    refine ⟨IX_drop hi h0 (by rw [e]; exact h1), fun p q1 q2 => ?_, ?_, fun k hk => ?_⟩
    · have e2 : f_drop (f_inc s o) o 1355 = s 1355 - 1 := by unfold f_drop; rw [if_neg (by omega), if_pos rfl, e]
      rw [e2] at q2
      unfold f_drop
      rw [if_neg (by omega), if_neg (by omega), e]
      split
      · rename_i hk
        unfold f_inc
        rw [if_neg (by omega), show 1356 + 3 * p + 1 + 3 = 1356 + 3 * (p + 1) + 1 by omega]
        exact hY (p + 1) (by omega) (by omega)
      · rename_i hk
        unfold f_inc
        rw [if_neg (by omega)]
        exact hY p q1 (by omega)
    · unfold f_drop
      rw [if_neg (by omega), if_pos rfl, e]
      omega
    · rw [f_drop_out h0 (by rw [e]; exact h1) (by rw [e]; omega) hk]
      unfold f_inc
      rw [if_neg (by omega)]
  · rename_i hc
    refine ⟨hi, fun p q1 q2 => ?_, by rw [e]; omega, fun k hk => by unfold f_inc; rw [if_neg (by omega)]⟩
    rw [e] at q2
    have hy := hY p q1 q2
    unfold f_inc
    split
    · rename_i hk
      rw [hk]
      omega
    · exact hy
theorem oxRun_ok {silt : Int} (hs : 1 ≤ silt ∧ silt ≤ 50) : ∀ (n : Nat) (s : Row), IX s → IY s → (n : Int) ≤ s 1355 → IX (oxRun silt n s) ∧ IY (oxRun silt n s) ∧ (∀ k, (k < 1115 ∨ 1395 ≤ k) → oxRun silt n s k = s k)
  | 0, s, hX, hY, _ => ⟨hX, hY, fun _ _ => rfl⟩
  | n + 1, s, hX, hY, hn => by
    obtain ⟨g1, g2, g3, g4⟩ := oxStep_ok (silt := silt) (o := n) hX hY hs (by omega) (by omega)
    obtain ⟨k1, k2, k3⟩ := oxRun_ok hs n _ g1 g2 g3
    exact ⟨k1, k2, fun k hk => (k3 k hk).trans (g4 k hk)⟩
section
variable {g : zGG} {Q : Int → zMem → Prop} {a : Nat} {s : Row}
theorem l_oxYear {d0 : zMem} {silt : Int} (ha : isRiv a) (hs : 1 ≤ silt ∧ silt ≤ 50) : ∀ (n : Nat) (d : zMem) (t : Row), butX d0 d a → RX d a t → IX t → IY t → (n : Int) ≤ t 1355 → (∀ d', butX d0 d' a → RX d' a (oxRun silt n t) → Q 0 d') →
    Fr g (eM g M_X4_passYear FUL FUL Q) M_X4_passYear FUL 12 [some (zR (a + 5)), some (zI silt), some (zI ((n : Int) - 1))] [] d
  | 0, d, t, hb, hR, hX, hY, hn, hQ => by
    apply v_X4_passYear_12 ha
    exact ⟨⟨by omega, by omega⟩, fun _ => hQ d hb hR, fun q => by omega⟩
  | n + 1, d, t, hb, hR, hX, hY, hn, hQ => by
    apply v_X4_passYear_12 ha
    have hX1 := hX.1
    obtain ⟨r1, r2, r3⟩ := hR.2.2 n (by omega) (by omega)
    have hy0 := (hX.2.2 n (by omega) (by omega)).1
    have hi := f_inc_IX (o := n) hX hY (by omega) (by omega)
    have e : f_inc t n 1355 = t 1355 := by unfold f_inc; rw [if_neg (by omega)]
    obtain ⟨g1, g2, g3, -⟩ := oxStep_ok (silt := silt) (o := n) hX hY hs (by omega) (by omega)
    rw [show ((n + 1 : Nat) : Int) - 1 = n by omega]
    refine ⟨⟨by omega, by omega⟩, fun q => by omega, fun _ => ⟨⟨by omega, by omega⟩, ⟨by omega, by omega⟩, fun d1 hd1 => ?_⟩⟩
    have hb1 : butX d0 d1 a := hd1 ▸ butX_mu hb (by omega)
    have hR1 : RX d1 a (f_inc t n) := by
      refine ⟨fun c q1 q2 => ?_, ?_, fun p q1 q2 => ?_⟩
      · rw [hd1, mu_na (by omega), hR.1 c q1 q2]
        unfold f_inc
        rw [if_neg (by omega)]
      · rw [hd1, mu_na (by omega), e]; exact hR.2.1
      · rw [e] at q2
        obtain ⟨w1, w2, w3⟩ := hR.2.2 p q1 q2
        rw [hd1, mu_na (b := a + 8) (by omega), mu_na (b := a + 7) (by omega), mu_app, if_pos rfl, w1, w3]
        unfold f_inc
        rw [if_neg (show ¬ (1356 + 3 * p + 2 = 1356 + 3 * (n : Int) + 1) by omega), if_neg (show ¬ (1356 + 3 * p = 1356 + 3 * (n : Int) + 1) by omega)]
        refine ⟨rfl, ?_, rfl⟩
        by_cases hp : p = n
        · rw [if_pos hp, if_pos (by omega), r2, hp]
        · rw [if_neg hp, if_neg (by omega), w2]
    have ev : d1 (a + 9) n = t (1356 + 3 * (n : Int) + 1) + 1 := by rw [hd1, mu_get, r2]
    rw [ev]
    refine ⟨⟨by omega, by omega⟩, ⟨⟨by omega, by omega⟩, ⟨by omega, by omega⟩⟩, fun c => ?_, fun c => ?_⟩
    · have hst : oxStep silt t n = f_inc t n := by unfold oxStep; rw [if_neg (by omega)]
      rw [show (n : Int) + (-1) = (n : Int) - 1 by omega]
      exact l_oxYear ha hs n d1 (f_inc t n) hb1 hR1 (hst ▸ g1) (hst ▸ g2) (hst ▸ g3) (fun d' q1 q2 => hQ d' q1 (by show RX d' a (oxRun silt n (oxStep silt t n)); rw [hst]; exact q2))
    · have hst : oxStep silt t n = f_drop (f_inc t n) n := by unfold oxStep; rw [if_pos (by omega)]
      apply c_drop ha hR1 hi (by omega) (by rw [e]; omega)
      intro d2 hb2 hR2
      rw [show (n : Int) + (-1) = (n : Int) - 1 by omega]
      exact l_oxYear ha hs n d2 _ (butX_trans hb1 hb2) hR2 (hst ▸ g1) (hst ▸ g2) (hst ▸ g3) (fun d' q1 q2 => hQ d' q1 (by show RX d' a (oxRun silt n (oxStep silt t n)); rw [hst]; exact q2))
theorem c_oxYear {d : zMem} {silt : Int} (ha : isRiv a) (hs : 1 ≤ silt ∧ silt ≤ 50) (hR : RX d a s) (hX : IX s) (hY : IY s) (hQ : ∀ d', butX d d' a → RX d' a (oxRun silt (s 1355).toNat s) → Q 0 d') : Ev g M_X4_passYear FUL FUL [zR (a + 5), zI silt] d Q := by
  have hX1 := hX.1
  apply e_X4_passYear ha
  rw [hR.2.1]
  refine ⟨⟨by omega, by omega⟩, ?_⟩
  rw [show min (s 1355) 12 - 1 = (((s 1355).toNat : Nat) : Int) - 1 by omega]
  exact l_oxYear ha hs _ d s butX_rfl hR hX hY (by omega) hQ
-- reading a river
theorem s_setting {d : zMem} {x : Int} (ha : isRiv a) (hx : 0 ≤ x ∧ x < 4) (h : Q (d (a + 1) x) d) : Ev g M_X7_setting FUL FUL [zR a, zI x] d Q := by
  apply e_X7_setting ha
  grind
theorem c_setting {d : zMem} {x : Int} (ha : isRiv a) (hR : RS d a s) (hx : 0 ≤ x ∧ x < 4) (h : Q (s x) d) : Ev g M_X7_setting FUL FUL [zR a, zI x] d Q := by
  apply s_setting ha hx
  rw [hR x hx.1 hx.2]; exact h
theorem c_isDike {d : zMem} {c : Int} (ha : isRiv a) (hR : RW d a s) (hW : IW s) (hc : inR c) (h1 : (0 ≤ c ∧ c < 240 ∧ s (395 + c) = 1) → Q 1 d) (h0 : ¬ (0 ≤ c ∧ c < 240 ∧ s (395 + c) = 1) → Q 0 d) : Ev g M_X7_isDike FUL FUL [zR a, zI c] d Q := by
  apply e_X7_isDike ha
  apply s_isOnLand hc
  by_cases h : 0 ≤ c ∧ c < 240
  · have hw := (hW.1 c h.1 h.2).2
    rw [if_pos h, (hR.1 c h.1 h.2).2]
    refine ⟨by decide, fun q => absurd q (by decide), fun _ => ⟨h, ⟨by omega, by omega⟩, fun q => h0 (by omega), fun q => h1 ⟨h.1, h.2, q⟩⟩⟩
  · rw [if_neg h]
    exact ⟨by decide, fun _ => h0 (by omega), fun q => absurd rfl q⟩
theorem c_wearOf {d : zMem} {c : Int} (ha : isRiv a) (hR : RW d a s) (hc : 0 ≤ c ∧ c < 240) (h : Q (s (155 + c)) d) : Ev g M_X7_wearOf FUL FUL [zR a, zI c] d Q := by
  apply e_X7_wearOf ha
  apply s_isOnLand ⟨by omega, by omega⟩
  rw [if_pos hc, (hR.1 c hc.1 hc.2).1]
  exact ⟨by decide, fun q => absurd q (by decide), fun _ => ⟨hc, h⟩⟩
/-- the bend object holds the bend -/
def hB (d : zMem) (b : Nat) (s : Row) (f l : Int) : Prop := d b 0 = f ∧ d b 1 = l ∧ d b 2 = way s (f - 1)
theorem c_bankCell {d : zMem} {b : Nat} {f l k : Int} (ha : isRiv a) (hbd : isBd b) (hR : RC d a s) (hs : crs s) (hB : hB d b s f l) (hk : 0 ≤ k ∧ k < s 4) (h : Q (bk s f k) d) : Ev g M_X7_bankCell FUL FUL [zR a, zR b, zI k] d Q := by
  have h4 := hs.1
  apply e_X7_bankCell ha hbd
  apply c_cellOf ha hR hs ⟨by omega, by omega⟩
  rw [if_pos hk, hB.2.2]
  have wr := way_range s (f - 1)
  apply s_beside (inR_cell hs hk.1 hk.2) ⟨by omega, by omega⟩
  exact h
theorem inR_bk {s : Row} {f k : Int} : inR (bk s f k) := by
  have := stp_range (s (5 + k)) (way s (f - 1))
  unfold bk
  constructor <;> omega
theorem l_isFirm {d : zMem} {b : Nat} {f l : Int} (ha : isRiv a) (hbd : isBd b) (hR : RC d a s) (hW : RW d a s) (hs : crs s) (hI : IW s) (hb : bd s f l) (hB : hB d b s f l) (h1 : firm s f l → Q 1 d) (h0 : ¬ firm s f l → Q 0 d) :
    ∀ (n : Nat) (k : Int), l + 1 - k = n → f ≤ k → (∀ m, f ≤ m → m < k → ¬ (bk s f m = -1 ∨ s (395 + bk s f m) = 1 ∨ on s (bk s f m))) →
    Fr g (eM g M_X7_isFirm FUL FUL Q) M_X7_isFirm FUL 5 [some (zR a), some (zR b), some (zI k), none] [] d
  | 0, k, hn, hk, hv => by
    have h4 := hs.1
    have hb3 := hb.2.2.1
    have hb1 := hb.1
    apply v_X7_isFirm_5 ha hbd
    rw [hB.2.1]
    refine ⟨⟨⟨by omega, by omega⟩, ⟨by omega, by omega⟩⟩, fun _ => h0 ?_, fun q => by omega⟩
    rintro ⟨m, q1, q2, q3⟩
    exact hv m q1 (by omega) q3
  | n + 1, k, hn, hk, hv => by
    have h4 := hs.1
    have hb3 := hb.2.2.1
    have hb1 := hb.1
    apply v_X7_isFirm_5 ha hbd
    rw [hB.2.1]
    refine ⟨⟨⟨by omega, by omega⟩, ⟨by omega, by omega⟩⟩, fun q => by omega, fun _ => ?_⟩
    apply c_bankCell ha hbd hR hs hB ⟨by omega, by omega⟩
    refine ⟨inR_bk, fun q => h1 ⟨k, hk, by omega, Or.inl q⟩, fun q => ?_⟩
    have hr := stp_range (s (5 + k)) (way s (f - 1))
    have hin : 0 ≤ bk s f k ∧ bk s f k < 240 := by unfold bk at q ⊢; omega
    apply c_isDike ha hW hI inR_bk
    · intro hd
      exact ⟨by decide, fun _ => h1 ⟨k, hk, by omega, Or.inr (Or.inl hd.2.2)⟩, fun q => absurd q (by decide)⟩
    · intro hd
      refine ⟨by decide, fun q => absurd rfl q, fun _ => ?_⟩
      apply c_numberOf ha hR inR_bk
      rw [if_pos hin]
      have nr := num_range s hs (bk s f k)
      refine ⟨⟨by omega, by omega⟩, fun q2 => ?_, fun q2 => h1 ⟨k, hk, by omega, Or.inr (Or.inr (Classical.not_not.mp (fun z => q2 (num_iff.mpr z))))⟩⟩
      refine l_isFirm ha hbd hR hW hs hI hb hB h1 h0 n (k + 1) (by omega) (by omega) (fun m q3 q4 => ?_)
      rcases (show m < k ∨ m = k by omega) with z | rfl
      · exact hv m q3 z
      · rintro (z | z | z)
        · exact q z
        · exact hd ⟨hin.1, hin.2, z⟩
        · exact num_iff.mp q2 z
theorem c_isFirm {d : zMem} {b : Nat} {f l : Int} (ha : isRiv a) (hbd : isBd b) (hR : RC d a s) (hW : RW d a s) (hs : crs s) (hI : IW s) (hb : bd s f l) (hB : hB d b s f l) (h1 : firm s f l → Q 1 d) (h0 : ¬ firm s f l → Q 0 d) : Ev g M_X7_isFirm FUL FUL [zR a, zR b] d Q := by
  have h12 := hb.2.1
  apply e_X7_isFirm ha hbd
  rw [hB.1]
  exact l_isFirm ha hbd hR hW hs hI hb hB h1 h0 (l + 1 - f).toNat f (by omega) (Int.le_refl _) (fun m _ _ => by omega)
def lw (s : Row) (f k v : Int) : Prop := v ≤ 99 ∧ (∀ m, f ≤ m → m < k → v ≤ s (155 + bk s f m)) ∧ (v = 99 ∨ ∃ m, f ≤ m ∧ m < k ∧ v = s (155 + bk s f m))
theorem lw_uniq {s : Row} {f k v v' : Int} (h : lw s f k v) (h' : lw s f k v') : v = v' := by
  obtain ⟨a1, a2, a3⟩ := h
  obtain ⟨b1, b2, b3⟩ := h'
  have : v ≤ v' := by
    rcases b3 with rfl | ⟨m, q1, q2, rfl⟩
    · exact a1
    · exact a2 m q1 q2
  have : v' ≤ v := by
    rcases a3 with rfl | ⟨m, q1, q2, rfl⟩
    · exact b1
    · exact b2 m q1 q2
  omega
theorem lw_step {s : Row} {f k v : Int} (h : lw s f k v) (hk : f ≤ k) : lw s f (k + 1) (min v (s (155 + bk s f k))) := by
  obtain ⟨a1, a2, a3⟩ := h
  refine ⟨by omega, fun m q1 q2 => ?_, ?_⟩
  · rcases (show m < k ∨ m = k by omega) with z | rfl
    · have := a2 m q1 z; omega
    · omega
  · rcases (show v ≤ s (155 + bk s f k) ∨ s (155 + bk s f k) < v by omega) with z | z
    · rw [show min v (s (155 + bk s f k)) = v by omega]
      rcases a3 with q | ⟨m, q1, q2, q3⟩
      · exact Or.inl q
      · exact Or.inr ⟨m, q1, by omega, q3⟩
    · rw [show min v (s (155 + bk s f k)) = s (155 + bk s f k) by omega]
      exact Or.inr ⟨k, hk, by omega, rfl⟩
theorem lw_rng {s : Row} {f l k v : Int} (hI : IW s) (hf : ¬ firm s f l) (hk : k ≤ l + 1) (h : lw s f k v) : 0 ≤ v ∧ v ≤ 99 := by
  refine ⟨?_, h.1⟩
  rcases h.2.2 with rfl | ⟨m, q1, q2, rfl⟩
  · omega
  · have := (bk_in hf (k := m) q1 (by omega)).1
    exact (hI.1 _ this.1 this.2).1.1
theorem l_leastWear {d : zMem} {b : Nat} {f l : Int} (ha : isRiv a) (hbd : isBd b) (hR : RC d a s) (hW : RW d a s) (hs : crs s) (hI : IW s) (hb : bd s f l) (hf : ¬ firm s f l) (hB : hB d b s f l) (h : ∀ v, lw s f (l + 1) v → Q v d) :
    ∀ (n : Nat) (k v : Int), l + 1 - k = n → f ≤ k → lw s f k v →
    Fr g (eM g M_X7_leastWear FUL FUL Q) M_X7_leastWear FUL 8 [some (zR a), some (zR b), some (zI v), some (zI k)] [] d
  | 0, k, v, hn, hk, hv => by
    have h4 := hs.1
    have hb3 := hb.2.2.1
    have hb1 := hb.1
    apply v_X7_leastWear_8 ha hbd
    rw [hB.2.1]
    have : k = l + 1 := by omega
    subst this
    exact ⟨⟨⟨by omega, by omega⟩, ⟨by omega, by omega⟩⟩, fun _ => h v hv, fun q => by omega⟩
  | n + 1, k, v, hn, hk, hv => by
    have h4 := hs.1
    have hb3 := hb.2.2.1
    have hb1 := hb.1
    apply v_X7_leastWear_8 ha hbd
    rw [hB.2.1]
    have hr := lw_rng hI hf (by omega) hv
    refine ⟨⟨⟨by omega, by omega⟩, ⟨by omega, by omega⟩⟩, fun q => by omega, fun _ => ?_⟩
    apply c_bankCell ha hbd hR hs hB ⟨by omega, by omega⟩
    have hin := (bk_in hf (k := k) hk (by omega)).1
    apply c_wearOf ha hW hin
    have hw := (hI.1 _ hin.1 hin.2).1
    refine ⟨⟨⟨by omega, by omega⟩, ⟨by omega, by omega⟩⟩, ?_⟩
    exact l_leastWear ha hbd hR hW hs hI hb hf hB h n (k + 1) _ (by omega) (by omega) (lw_step hv hk)
theorem c_leastWear {d : zMem} {b : Nat} {f l : Int} (ha : isRiv a) (hbd : isBd b) (hR : RC d a s) (hW : RW d a s) (hs : crs s) (hI : IW s) (hb : bd s f l) (hf : ¬ firm s f l) (hB : hB d b s f l) (h : ∀ v, lw s f (l + 1) v → Q v d) : Ev g M_X7_leastWear FUL FUL [zR a, zR b] d Q := by
  have h12 := hb.2.1
  apply e_X7_leastWear ha hbd
  rw [hB.1]
  exact l_leastWear ha hbd hR hW hs hI hb hf hB h (l + 1 - f).toNat f 99 (by omega) (Int.le_refl _) ⟨by omega, fun m _ _ => by omega, Or.inl rfl⟩
theorem grows_lw {s : Row} {f l v : Int} (hS : IS s) (h4 : s 4 ≤ 148) (hf : ¬ firm s f l) (h : lw s f (l + 1) v) : grows s f l ↔ s 1 ≤ v := by
  have h60 := hS.2.1
  constructor
  · intro ⟨_, _, q⟩
    rcases h.2.2 with rfl | ⟨m, q1, q2, rfl⟩
    · omega
    · exact q m q1 (by omega)
  · intro q
    exact ⟨h4, hf, fun k q1 q2 => by have := h.2.1 k q1 (by omega); omega⟩
theorem c_canGrow {d : zMem} {b : Nat} {f l : Int} (ha : isRiv a) (hbd : isBd b) (hR : RC d a s) (hW : RW d a s) (hRS : RS d a s) (hs : crs s) (hI : IW s) (hS : IS s) (hb : bd s f l) (hB : hB d b s f l) (h1 : grows s f l → Q 1 d) (h0 : ¬ grows s f l → Q 0 d) : Ev g M_X7_canGrow FUL FUL [zR a, zR b] d Q := by
  have h4 := hs.1
  apply e_X7_canGrow ha hbd
  apply e_X1_length ha
  rw [hR.1]
  refine ⟨⟨by omega, by omega⟩, fun q => h0 (fun z => by have := z.1; omega), fun q => ?_⟩
  apply c_isFirm ha hbd hR hW hs hI hb hB
  · intro hf
    exact ⟨by decide, fun _ => h0 (fun z => z.2.1 hf), fun q => absurd q (by decide)⟩
  · intro hf
    refine ⟨by decide, fun q => absurd rfl q, fun _ => ?_⟩
    apply c_leastWear ha hbd hR hW hs hI hb hf hB
    intro v hv
    apply c_setting ha hRS (by decide)
    have hr := lw_rng hI hf (by omega) hv
    have h60 := hS.2.1
    have hg := grows_lw hS (by omega) hf hv
    refine ⟨⟨⟨by omega, by omega⟩, ⟨by omega, by omega⟩⟩, fun q => h0 (fun z => by have := hg.mp z; omega), fun q => h1 (hg.mpr q)⟩
end
