-- one place of a row
def ru (s : Row) (i v : Int) : Row := fun k => if k = i then v else s k
theorem ru_at {s : Row} {i v : Int} : ru s i v i = v := by unfold ru; rw [if_pos rfl]
theorem ru_ne {s : Row} {i v k : Int} (h : k ≠ i) : ru s i v k = s k := by unfold ru; rw [if_neg h]
theorem rivBd {a b : Nat} (ha : isRiv a) (hb : isBd b) : b < a ∨ a + 14 ≤ b := by unfold isRiv at ha; unfold isBd at hb; omega
theorem rivNk {a b : Nat} (ha : isRiv a) (hb : isNk b) : b < a ∨ a + 14 ≤ b := by unfold isRiv at ha; unfold isNk at hb; omega
theorem riv128 {a : Nat} (ha : isRiv a) : 120 < a ∨ a + 14 ≤ 120 := by unfold isRiv at ha; omega
-- the wear of one cell of a bank
def wcell (f more : Int) (t : Row) (k : Int) : Row := ru t (155 + bk t f k) (if 99 < t (155 + bk t f k) + more ∨ t (1115 + bk t f k) ≠ -6 then 99 else t (155 + bk t f k) + more)
/-- only the wear differs -/
def wsame (s t : Row) : Prop := ∀ k, (k < 155 ∨ 395 ≤ k) → t k = s k
theorem wsame_crs {s t : Row} (h : wsame s t) : same s t 4 155 := fun k _ _ => h k (by omega)
theorem wcell_w {s t : Row} {f l more k : Int} (h : wsame s t) (hb : bd s f l) (h4 : s 4 ≤ 150) (hf : ¬ firm s f l) (h0 : f ≤ k) (h1 : k ≤ l) : wsame s (wcell f more t k) := fun i hi => by
  have b1 := hb.1
  have b3 := hb.2.2.1
  have e := bk_same (wsame_crs h) (f := f) (k := k) b1 (by omega) (by omega) (by omega)
  have := (bk_in hf h0 h1).1
  unfold wcell
  rw [ru_ne (by omega)]
  exact h i hi
theorem wcell_IW {s t : Row} {f l more k : Int} (hI : IW t) (hm : 0 ≤ more) (h : wsame s t) (hb : bd s f l) (h4 : s 4 ≤ 150) (hf : ¬ firm s f l) (h0 : f ≤ k) (h1 : k ≤ l) : IW (wcell f more t k) := by
  have b1 := hb.1
  have b3 := hb.2.2.1
  have e := bk_same (wsame_crs h) (f := f) (k := k) b1 (by omega) (by omega) (by omega)
  have hin := (bk_in hf h0 h1).1
  rw [← e] at hin
  have hw := (hI.1 _ hin.1 hin.2).1
  unfold wcell
  refine ⟨fun c q1 q2 => ⟨?_, ?_⟩, fun k q1 q2 => ?_⟩
  · unfold ru
    split
    · split <;> omega
    · exact (hI.1 c q1 q2).1
  · rw [ru_ne (by omega)]; exact (hI.1 c q1 q2).2
  · rw [ru_ne (by omega), ru_ne (by omega)]; exact hI.2 k q1 q2
theorem hB_but {d d' : zMem} {b : Nat} {s : Row} {f l : Int} (h : hB d b s f l) (e : d' b = d b) : hB d' b s f l := by unfold hB at h ⊢; rw [e]; exact h
section
variable {g : zGG} {Q : Int → zMem → Prop} {a : Nat} {s : Row}
theorem l_wearBank {d0 : zMem} {b : Nat} {f l more : Int} (ha : isRiv a) (hbd : isBd b) (hm : 0 ≤ more ∧ more ≤ 1000) (hC : RC d0 a s) (hs : crs s) (hX : RX d0 a s) (hXI : IX s) (hb : bd s f l) (hf : ¬ firm s f l) (hB : hB d0 b s f l) :
    ∀ (n : Nat) (k : Int) (d : zMem) (t : Row), l + 1 - k = n → f ≤ k → but d0 d (a + 10) → RW d a t → wsame s t → IW t → (∀ d', but d0 d' (a + 10) → RW d' a (itr (wcell f more) n k t) → Q 0 d') →
    Fr g (eM g M_X7_wearBank FUL FUL Q) M_X7_wearBank FUL 5 [some (zR a), some (zR b), some (zI more), some (zI k), none, none] [] d
  | 0, k, d, t, hn, hk, hd, hW, hw, hI, hQ => by
    have h4 := hs.1
    have b1 := hb.1
    have b3 := hb.2.2.1
    have hab := rivBd ha hbd
    apply v_X7_wearBank_5 ha hbd
    rw [hd b (by omega), hB.2.1]
    exact ⟨⟨⟨by omega, by omega⟩, ⟨by omega, by omega⟩⟩, fun _ => hQ d hd hW, fun q => by omega⟩
  | n + 1, k, d, t, hn, hk, hd, hW, hw, hI, hQ => by
    have h4 := hs.1
    have b1 := hb.1
    have b3 := hb.2.2.1
    have hab := rivBd ha hbd
    apply v_X7_wearBank_5 ha hbd
    have eb := hd b (by omega)
    rw [eb, hB.2.1]
    refine ⟨⟨⟨by omega, by omega⟩, ⟨by omega, by omega⟩⟩, fun q => by omega, fun _ => ?_⟩
    apply c_bankCell ha hbd (RC_keep hC hs (fun q hq => hd q (by omega)) (fun _ _ _ => rfl)) hs (l := l) (hB_but hB eb) ⟨by omega, by omega⟩
    have hin := (bk_in hf (k := k) hk (by omega)).1
    apply s_isOnLand inR_bk
    rw [if_pos hin]
    refine ⟨by decide, fun q => absurd q (by decide), fun _ => ?_⟩
    have e := bk_same (wsame_crs hw) (f := f) (k := k) b1 (by omega) (by omega) (by omega)
    have ho : d (a + 6) (bk s f k) = own (s (1115 + bk s f k)) := by rw [hd _ (by omega)]; exact hX.1 _ hin.1 hin.2
    have hwv := (hW.1 _ hin.1 hin.2).1
    have hwr := (hI.1 _ hin.1 hin.2).1
    have hw2 := wcell_w (more := more) hw hb (by omega) hf hk (by omega)
    have hI2 := wcell_IW (more := more) hI hm.1 hw hb (by omega) hf hk (by omega)
    have fin : ∀ d2 : zMem, but d0 d2 (a + 10) → d2 = mu d (a + 10) (bk s f k) (if 99 < t (155 + bk t f k) + more ∨ t (1115 + bk t f k) ≠ -6 then 99 else t (155 + bk t f k) + more) → RW d2 a (wcell f more t k) := by
      intro d2 hb2 h2
      refine ⟨fun c q1 q2 => ?_, fun m q1 q2 => ?_⟩
      · rw [h2, mu_na (b := a + 11) (by omega), mu_app, if_pos rfl, (hW.1 c q1 q2).1, (hW.1 c q1 q2).2]
        unfold wcell
        rw [e]
        constructor
        · unfold ru
          by_cases hc : c = bk s f k
          · rw [if_pos hc, if_pos (show 155 + c = 155 + bk s f k by omega)]
          · rw [if_neg hc, if_neg (show ¬ 155 + c = 155 + bk s f k by omega)]
        · rw [ru_ne (by omega)]
      · rw [h2, mu_na (by omega), hW.2 m q1 q2]
        unfold wcell
        rw [ru_ne (by omega)]
    have o1 : d (a + 6) (bk s f k) = -1 ↔ t (1115 + bk s f k) = -6 := by
      rw [ho, hw (1115 + bk s f k) (by omega)]
      have := hXI.2.1 _ hin.1 hin.2
      unfold own
      split <;> omega
    apply e_X4_ownerOf ha
    apply s_isOnLand inR_bk
    rw [if_pos hin]
    have hor : inR (d (a + 6) (bk s f k)) := by
      rw [ho]
      have := own_range hXI hin.1 hin.2
      have := hXI.1
      constructor <;> omega
    refine ⟨by decide, fun q => absurd q (by decide), fun _ => ⟨hin, ⟨hor, fun q => ⟨hin, ⟨by omega, by omega⟩, hin, fun d2 hd2 => ?_⟩, fun q => ⟨hin, fun d2 hd2 => ?_⟩⟩⟩⟩
    · have hb2 : but d0 d2 (a + 10) := hd2 ▸ but_mu hd
      refine l_wearBank ha hbd hm hC hs hX hXI hb hf hB n (k + 1) d2 _ (by omega) (by omega) hb2 (fin d2 hb2 ?_) hw2 hI2 hQ
      rw [hd2, hwv]
      have := o1.mp q
      congr 1
      rw [e]
      split <;> omega
    · have hb2 : but d0 d2 (a + 10) := hd2 ▸ but_mu hd
      refine l_wearBank ha hbd hm hC hs hX hXI hb hf hB n (k + 1) d2 _ (by omega) (by omega) hb2 (fin d2 hb2 ?_) hw2 hI2 hQ
      rw [hd2]
      have : t (1115 + bk s f k) ≠ -6 := fun z => q (o1.mpr z)
      congr 1
      rw [e, if_pos (Or.inr this)]
theorem c_wearBank {d : zMem} {b : Nat} {f l more : Int} (ha : isRiv a) (hbd : isBd b) (hm : 0 ≤ more ∧ more ≤ 1000) (hC : RC d a s) (hs : crs s) (hX : RX d a s) (hXI : IX s) (hW : RW d a s) (hI : IW s) (hb : bd s f l) (hf : ¬ firm s f l) (hB : hB d b s f l) (hQ : ∀ d', but d d' (a + 10) → RW d' a (itr (wcell f more) (l + 1 - f).toNat f s) → Q 0 d') : Ev g M_X7_wearBank FUL FUL [zR a, zR b, zI more] d Q := by
  have b2 := hb.2.1
  apply e_X7_wearBank ha hbd
  rw [hB.1]
  exact l_wearBank ha hbd hm hC hs hX hXI hb hf hB _ f d s (by omega) (Int.le_refl _) but_rfl hW (fun _ _ => rfl) hI hQ
theorem itr_wcell {f l more : Int} (h4 : s 4 ≤ 150) (hb : bd s f l) (hf : ¬ firm s f l) (hm : 0 ≤ more) : ∀ (n : Nat) (k : Int) (t : Row), k + n ≤ l + 1 → f ≤ k → wsame s t → IW t → wsame s (itr (wcell f more) n k t) ∧ IW (itr (wcell f more) n k t)
  | 0, k, t, _, _, h, hI => ⟨h, hI⟩
  | n + 1, k, t, hn, hk, h, hI => itr_wcell h4 hb hf hm n (k + 1) _ (by omega) (by omega) (wcell_w h hb h4 hf hk (by omega)) (wcell_IW hI hm h hb h4 hf hk (by omega))
-- a bend grows
theorem gz_eq {f k : Int} {t : Row} : gz s f t k = ru (dropAt t (bk s f k)) (155 + bk s f k) 0 := rfl
/-- what a growth has left as it was -/
def gsame (s t : Row) : Prop := ∀ k, (k < 155 ∨ (395 ≤ k ∧ k < 1115) ∨ 1395 ≤ k) → t k = s k
theorem gz_ok {f l k : Int} {t : Row} (hf : ¬ firm s f l) (h0 : f ≤ k) (h1 : k ≤ l) (hg : gsame s t) (hX : IX t) (hI : IW t) : gsame s (gz s f t k) ∧ IX (gz s f t k) ∧ IW (gz s f t k) := by
  have hin := (bk_in hf h0 h1).1
  have hd := IX_dropAt hX hin
  have ho : ∀ i, (i < 1115 ∨ 1395 ≤ i) → dropAt t (bk s f k) i = t i := fun i hi => dropAt_out hX hin hi
  have hX1 := hd.1
  rw [gz_eq]
  refine ⟨fun i hi => ?_, ⟨?_, fun c q1 q2 => ?_, fun o q1 q2 => ?_⟩, ⟨fun c q1 q2 => ⟨?_, ?_⟩, fun m q1 q2 => ?_⟩⟩
  · rw [ru_ne (by omega), ho i (by omega)]; exact hg i hi
  · rw [ru_ne (by omega)]; exact hd.1
  · rw [ru_ne (by omega), ru_ne (by omega)]; exact hd.2.1 c q1 q2
  · rw [ru_ne (by omega)] at q2
    rw [ru_ne (by omega), ru_ne (by omega), ru_ne (by omega)]; exact hd.2.2 o q1 q2
  · unfold ru
    split
    · omega
    · rw [ho _ (by omega)]; exact (hI.1 c q1 q2).1
  · rw [ru_ne (by omega), ho _ (by omega)]; exact (hI.1 c q1 q2).2
  · rw [ru_ne (by omega), ho _ (by omega), ru_ne (by omega), ho _ (by omega)]; exact hI.2 m q1 q2
theorem itr_gz {f l : Int} (hf : ¬ firm s f l) : ∀ (n : Nat) (k : Int) (t : Row), k + n ≤ l + 1 → f ≤ k → gsame s t → IX t → IW t → gsame s (itr (gz s f) n k t) ∧ IX (itr (gz s f) n k t) ∧ IW (itr (gz s f) n k t)
  | 0, k, t, _, _, h, hX, hI => ⟨h, hX, hI⟩
  | n + 1, k, t, hn, hk, h, hX, hI => by
    obtain ⟨g1, g2, g3⟩ := gz_ok hf hk (by omega) h hX hI
    exact itr_gz hf n (k + 1) _ (by omega) (by omega) g1 g2 g3
/-- the wear and the oxbows alone differ -/
def butWX (d0 d : zMem) (a : Nat) : Prop := ∀ q, (q < a + 5 ∨ a + 11 ≤ q) → d q = d0 q
theorem l_growBend {d0 : zMem} {b : Nat} {f l : Int} (ha : isRiv a) (hbd : isBd b) (hC : RC d0 a s) (hs : crs s) (h148 : s 4 ≤ 148) (hb : bd s f l) (hf : ¬ firm s f l) (hB : hB d0 b s f l) (hQ : ∀ d', butWX d0 d' a → RW d' a (gRun s f l) → RX d' a (gRun s f l) → ∀ d1, but3 d' d1 a → RC d1 a (crsG s f l) → ∀ d2, d2 = mu d1 a 10 (d1 a 10 + 1) → Q 0 d2) :
    ∀ (n : Nat) (k : Int) (d : zMem) (t : Row), l + 1 - k = n → f ≤ k → butWX d0 d a → RW d a t → RX d a t → gsame s t → IX t → IW t → itr (gz s f) n k t = gRun s f l →
    Fr g (eM g M_X7_growBend FUL FUL Q) M_X7_growBend FUL 5 [some (zR a), some (zR b), some (zI k), none] [] d
  | 0, k, d, t, hn, hk, hd, hW, hX, hg, hXI, hI, ht => by
    have h4 := hs.1
    have b1 := hb.1
    have b3 := hb.2.2.1
    have hab := rivBd ha hbd
    apply v_X7_growBend_5 ha hbd
    rw [hd b (by omega), hB.2.1, hB.1, hB.2.2]
    refine ⟨⟨⟨by omega, by omega⟩, ⟨by omega, by omega⟩⟩, fun _ => ?_, fun q => by omega⟩
    apply c_bulge ha (RC_keep hC hs (fun q hq => hd q (by omega)) (fun _ _ _ => rfl)) hs hb hf h148
    have ht' : t = gRun s f l := ht
    intro d1 h1 h2 d2 hd2
    exact hQ d hd (ht' ▸ hW) (ht' ▸ hX) d1 h1 h2 d2 hd2
  | n + 1, k, d, t, hn, hk, hd, hW, hX, hg, hXI, hI, ht => by
    have h4 := hs.1
    have b1 := hb.1
    have b3 := hb.2.2.1
    have hab := rivBd ha hbd
    apply v_X7_growBend_5 ha hbd
    have eb := hd b (by omega)
    rw [eb, hB.2.1]
    refine ⟨⟨⟨by omega, by omega⟩, ⟨by omega, by omega⟩⟩, fun q => by omega, fun _ => ?_⟩
    apply c_bankCell ha hbd (RC_keep hC hs (fun q hq => hd q (by omega)) (fun _ _ _ => rfl)) hs (l := l) (hB_but hB eb) ⟨by omega, by omega⟩
    have hin := (bk_in hf (k := k) hk (by omega)).1
    apply s_isOnLand inR_bk
    rw [if_pos hin]
    refine ⟨by decide, fun q => absurd q (by decide), fun _ => ⟨hin, fun d1 hd1 => ?_⟩⟩
    have hX1 : RX d1 a t := by rw [hd1]; exact RX_keep hX hXI (fun q hq => by funext z; rw [mu_na (by omega)]) (fun _ _ _ => rfl)
    apply c_ownerOf ha hX1 inR_bk
    rw [if_pos hin]
    apply c_dropAt ha hX1 hXI hin
    intro d2 hb2 hR2
    obtain ⟨g1, g2, g3⟩ := gz_ok hf hk (by omega) hg hXI hI
    have hdo : ∀ i, (i < 1115 ∨ 1395 ≤ i) → dropAt t (bk s f k) i = t i := fun i hi => dropAt_out hXI hin hi
    refine l_growBend ha hbd hC hs h148 hb hf hB hQ n (k + 1) d2 (gz s f t k) (by omega) (by omega) (fun q hq => ?_) ⟨fun c q1 q2 => ?_, fun m q1 q2 => ?_⟩ ?_ g1 g2 g3 ht
    · rw [hb2 q (by omega), hd1]; funext z
      rw [mu_na (by omega), hd q hq]
    · rw [hb2 _ (by omega), hb2 _ (by omega), hd1, mu_na (b := a + 11) (by omega), mu_app, if_pos rfl, gz_eq, (hW.1 c q1 q2).1, (hW.1 c q1 q2).2]
      constructor
      · unfold ru
        by_cases hc : c = bk s f k
        · rw [if_pos hc, if_pos (show 155 + c = 155 + bk s f k by omega)]
        · rw [if_neg hc, if_neg (show ¬ 155 + c = 155 + bk s f k by omega), hdo _ (by omega)]
      · rw [ru_ne (by omega), hdo _ (by omega)]
    · rw [hb2 _ (by omega), hd1, mu_na (by omega), hW.2 m q1 q2, gz_eq, ru_ne (by omega), hdo _ (by omega)]
    · refine RX_keep hR2 (IX_dropAt hXI hin) (fun _ _ => rfl) (fun i q1 q2 => ?_)
      rw [gz_eq, ru_ne (by omega)]
end
-- what is said of a row, said of one that is alike
theorem IX_same {s t : Row} (h : same s t 1115 1395) (hX : IX s) : IX t := by
  obtain ⟨g1, g2, g3⟩ := hX
  have e := h 1355 (by omega) (by omega)
  refine ⟨by rw [e]; exact g1, fun c q1 q2 => by rw [e, h _ (by omega) (by omega)]; exact g2 c q1 q2, fun o q1 q2 => ?_⟩
  rw [e] at q2
  rw [h _ (by omega) (by omega), h _ (by omega) (by omega), h _ (by omega) (by omega)]; exact g3 o q1 q2
theorem IY_same {s t : Row} (h : same s t 1115 1395) (hX : IX s) (hY : IY s) : IY t := by
  have hX1 := hX.1
  intro o q1 q2
  rw [h 1355 (by omega) (by omega)] at q2
  rw [h _ (by omega) (by omega)]; exact hY o q1 q2
theorem IW_same {s t : Row} (h : same s t 155 1115) (h4 : t 1404 = s 1404) (hW : IW s) : IW t := by
  refine ⟨fun c q1 q2 => ?_, fun k q1 q2 => ?_⟩
  · rw [h _ (by omega) (by omega), h _ (by omega) (by omega)]; exact hW.1 c q1 q2
  · rw [h _ (by omega) (by omega), h4]; exact hW.2 k q1 q2
theorem IS_same {s t : Row} (h : same s t 0 4) (hS : IS s) : IS t := by
  unfold IS
  rw [h 0 (by omega) (by omega), h 1 (by omega) (by omega), h 2 (by omega) (by omega), h 3 (by omega) (by omega)]; exact hS
theorem IF_same {s t : Row} (h : same s t 1395 1405) (hF : IF s) : IF t := by
  obtain ⟨g1, g2, g3, g4⟩ := hF
  have e := h 1395 (by omega) (by omega)
  refine ⟨by rw [e]; exact g1, fun k q1 q2 => ?_, fun k k' q1 q2 q3 q4 he => ?_, by rw [h 1404 (by omega) (by omega)]; exact g4⟩
  · rw [e] at q2
    rw [h _ (by omega) (by omega)]; exact g2 k q1 q2
  · rw [e] at q2 q4
    rw [h _ (by omega) (by omega), h _ (by omega) (by omega)] at he
    exact g3 k k' q1 q2 q3 q4 he
theorem IY_drop {s : Row} {o : Int} (hX : IX s) (hY : IY s) (h0 : 0 ≤ o) (h1 : o < s 1355) : IY (f_drop s o) := by
  have hX1 := hX.1
  have e2 : f_drop s o 1355 = s 1355 - 1 := by unfold f_drop; rw [if_neg (by omega), if_pos rfl]
  intro p q1 q2
  rw [e2] at q2
  unfold f_drop
  rw [if_neg (by omega), if_neg (by omega)]
  split
  · rw [show 1356 + 3 * p + 1 + 3 = 1356 + 3 * (p + 1) + 1 by omega]
    exact hY (p + 1) (by omega) (by omega)
  · exact hY p q1 (by omega)
theorem IY_dropAt {s : Row} {c : Int} (hX : IX s) (hY : IY s) (hc : 0 ≤ c ∧ c < 240) : IY (dropAt s c) := by
  unfold dropAt
  have := hX.2.1 c hc.1 hc.2
  split
  · exact hY
  · exact IY_drop hX hY (by omega) (by omega)
theorem itr_gzY {s : Row} {f l : Int} (hf : ¬ firm s f l) : ∀ (n : Nat) (k : Int) (t : Row), k + n ≤ l + 1 → f ≤ k → gsame s t → IX t → IW t → IY t → IY (itr (gz s f) n k t)
  | 0, k, t, _, _, h, hX, hI, hY => hY
  | n + 1, k, t, hn, hk, h, hX, hI, hY => by
    obtain ⟨g1, g2, g3⟩ := gz_ok hf hk (by omega) h hX hI
    have hin := (bk_in hf (k := k) hk (by omega)).1
    refine itr_gzY hf n (k + 1) _ (by omega) (by omega) g1 g2 g3 ?_
    refine IY_same (s := dropAt t (bk s f k)) (fun i q1 q2 => ?_) (IX_dropAt hX hin) (IY_dropAt hX hY hin)
    rw [gz_eq, ru_ne (by omega)]
theorem grow_at {s : Row} {f l k : Int} : f_grow s f l k = if k = 1406 then s 1406 + 1 else if k < 155 then crsG s f l k else gRun s f l k := by
  unfold f_grow mix; rfl
theorem grow_Inv {s : Row} {f l : Int} (hI : Inv s) (hb : bd s f l) (hg : grows s f l) : gsame s (gRun s f l) ∧ IX (gRun s f l) ∧ Inv (f_grow s f l) := by
  obtain ⟨hs, hX, hY, hW, hS, hF⟩ := hI
  have b1 := hb.1
  have b2 := hb.2.1
  have b3 := hb.2.2.1
  have hc := crsG_crs hs hb hg.2.1 hg.1
  obtain ⟨g1, g2, g3⟩ := itr_gz hg.2.1 (l + 1 - f).toNat f s (by omega) (Int.le_refl _) (fun _ _ => rfl) hX hW
  have gY := itr_gzY hg.2.1 (l + 1 - f).toNat f s (by omega) (Int.le_refl _) (fun _ _ => rfl) hX hW hY
  have lo : ∀ k, k < 155 → f_grow s f l k = crsG s f l k := fun k hk => by rw [grow_at, if_neg (by omega), if_pos hk]
  have hi : ∀ k, 155 ≤ k → k ≠ 1406 → f_grow s f l k = gRun s f l k := fun k hk h6 => by rw [grow_at, if_neg h6, if_neg (by omega)]
  refine ⟨g1, g2, crs_same (fun k _ q => lo k q) hc, IX_same (fun k _ _ => hi k (by omega) (by omega)) g2, IY_same (fun k _ _ => hi k (by omega) (by omega)) g2 gY, IW_same (fun k _ _ => hi k (by omega) (by omega)) (hi _ (by omega) (by omega)) g3, IS_same (fun k q1 q2 => ?_) hS, IF_same (fun k q1 q2 => ?_) hF⟩
  · rw [lo k (by omega)]
    unfold crsG
    rw [if_neg (by omega), if_neg (by omega), if_neg (by omega)]
  · rw [hi k (by omega) (by omega)]
    exact g1 k (by omega)
/-- only a river's cells are not as they were -/
def butR (d0 d : zMem) (a : Nat) : Prop := ∀ q, (q < a ∨ a + 14 ≤ q) → d q = d0 q
theorem butR_rfl {d : zMem} {a : Nat} : butR d d a := fun _ _ => rfl
theorem butR_trans {d0 d1 d2 : zMem} {a : Nat} (h : butR d0 d1 a) (h2 : butR d1 d2 a) : butR d0 d2 a := fun q hq => (h2 q hq).trans (h q hq)
section
variable {g : zGG} {Q : Int → zMem → Prop} {a : Nat} {s : Row}
theorem c_growBend {d : zMem} {b : Nat} {f l : Int} (ha : isRiv a) (hbd : isBd b) (hR : Rel d a s) (hI : Inv s) (hb : bd s f l) (hg : grows s f l) (hB : hB d b s f l) (hQ : ∀ d', butR d d' a → Rel d' a (f_grow s f l) → Q 0 d') : Ev g M_X7_growBend FUL FUL [zR a, zR b] d Q := by
  obtain ⟨g1, g2, hI2⟩ := grow_Inv hI hb hg
  obtain ⟨hs, hX, hY, hW, hS, hF⟩ := hI
  obtain ⟨rS, rC, rX, rW, rF⟩ := hR
  have b1 := hb.1
  have b2 := hb.2.1
  have b3 := hb.2.2.1
  have h4 := hs.1
  have hc := crsG_crs hs hb hg.2.1 hg.1
  have lo : ∀ k, k < 155 → f_grow s f l k = crsG s f l k := fun k hk => by rw [grow_at, if_neg (by omega), if_pos hk]
  have hi : ∀ k, 155 ≤ k → k ≠ 1406 → f_grow s f l k = gRun s f l k := fun k hk h6 => by rw [grow_at, if_neg h6, if_neg (by omega)]
  apply e_X7_growBend ha hbd
  rw [hB.1]
  refine l_growBend ha hbd rC hs hg.1 hb hg.2.1 hB ?_ (l + 1 - f).toNat f d s (by omega) (Int.le_refl _) (fun _ _ => rfl) rW rX (fun _ _ => rfl) hX hW rfl
  intro d1 w1 w2 w3 d2 t1 t2 d3 hd3
  have e3 : ∀ q, q ≠ a → d3 q = d2 q := fun q hq => by rw [hd3]; funext z; rw [mu_na hq]
  have e23 : ∀ q, q ≠ a → q ≠ a + 2 → q ≠ a + 3 → q ≠ a + 4 → d3 q = d1 q := fun q h0 h1 h2 h3 => by rw [e3 q h0, t1 q h1 h2 h3]
  refine hQ d3 (fun q hq => by rw [e23 q (by omega) (by omega) (by omega) (by omega), w1 q (by omega)]) ⟨?_, ?_, ?_, ?_, ?_⟩
  · refine RS_keep rS (by rw [e23 _ (by omega) (by omega) (by omega) (by omega), w1 _ (by omega)]) (fun k q1 q2 => ?_)
    rw [lo k (by omega)]
    unfold crsG
    rw [if_neg (by omega), if_neg (by omega), if_neg (by omega)]
  · exact RC_keep t2 hc (fun q hq => e3 q (by omega)) (fun k q1 q2 => lo k q2)
  · exact RX_keep w3 g2 (fun q hq => e23 q (by omega) (by omega) (by omega) (by omega)) (fun k q1 q2 => hi k (by omega) (by omega))
  · exact RW_keep w2 (fun q hq => e23 q (by omega) (by omega) (by omega) (by omega)) (fun k q1 q2 => hi k (by omega) (by omega))
  · have ea : d2 a = d a := by rw [t1 a (by omega) (by omega) (by omega), w1 a (by omega)]
    have e14 : d3 (a + 13) = d (a + 13) := by rw [e23 _ (by omega) (by omega) (by omega) (by omega), w1 _ (by omega)]
    have ek : ∀ k, 1395 ≤ k → k ≠ 1406 → f_grow s f l k = s k := fun k q1 q2 => by rw [hi k (by omega) q2, g1 k (by omega)]
    obtain ⟨f1, f2, f3, f4, f5⟩ := rF
    have hF1 := hF.1
    refine ⟨?_, fun k q1 q2 => ?_, ?_, ?_, ?_⟩
    · rw [hd3, mu_ni (by omega), ea, f1, ek _ (by omega) (by omega)]
    · rw [ek _ (by omega) (by omega)] at q2
      rw [e14, f2 k q1 q2, ek _ (by omega) (by omega)]
    · rw [hd3, mu_ni (by omega), ea, f3, ek _ (by omega) (by omega)]
    · rw [hd3, mu_ni (by omega), ea, f4, ek _ (by omega) (by omega)]
    · rw [hd3, mu_get, ea, f5, grow_at, if_pos rfl]
end
