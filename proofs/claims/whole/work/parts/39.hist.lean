-- rows alike on the numbers there are
theorem Inv_same {s t : Row} (h : same s t 0 1407) (hI : Inv s) : Inv t := by
  obtain ⟨hs, hX, hY, hW, hS, hF⟩ := hI
  exact ⟨crs_same (fun k _ _ => h k (by omega) (by omega)) hs, IX_same (fun k _ _ => h k (by omega) (by omega)) hX, IY_same (fun k _ _ => h k (by omega) (by omega)) hX hY, IW_same (fun k _ _ => h k (by omega) (by omega)) (h _ (by omega) (by omega)) hW, IS_same (fun k _ _ => h k (by omega) (by omega)) hS, IF_same (fun k _ _ => h k (by omega) (by omega)) hF⟩
theorem Rel_same {s t : Row} {d : zMem} {a : Nat} (h : same s t 0 1407) (hI : Inv s) (hR : Rel d a s) : Rel d a t := by
  obtain ⟨rS, rC, rX, rW, rF⟩ := hR
  obtain ⟨hs, hX, hY, hW, hS, hF⟩ := hI
  exact ⟨RS_keep rS rfl (fun k _ _ => h k (by omega) (by omega)), RC_keep rC hs (fun _ _ => rfl) (fun k _ _ => h k (by omega) (by omega)), RX_keep rX hX (fun _ _ => rfl) (fun k _ _ => h k (by omega) (by omega)), RW_keep rW (fun _ _ => rfl) (fun k _ _ => h k (by omega) (by omega)), RF_keep rF hF.1.2 (fun _ _ => rfl) (fun k _ _ => h k (by omega) (by omega))⟩
/-- the river at a is the row s, and all is well with it -/
def River (d : zMem) (a : Nat) (s : Row) : Prop := Rel d a s ∧ Inv s ∧ s 1404 ≤ 999
theorem River_same {s t : Row} {d : zMem} {a : Nat} (h : same s t 0 1407) (hR : River d a s) : River d a t := ⟨Rel_same h hR.2.1 hR.1, Inv_same h hR.2.1, by rw [h 1404 (by omega) (by omega)]; exact hR.2.2⟩
theorem River_keep {s : Row} {d d' : zMem} {a : Nat} (hR : River d a s) (hb : ∀ q, a ≤ q → q < a + 14 → d' q = d q) : River d' a s := ⟨Rel_keep hR.1 hR.2.1 hb, hR.2.1, hR.2.2⟩
-- what was: n rows, the t-th in the river behind the place (st + t) % 6
def hcell (st t : Int) : Nat := 33 + 14 * ((st + t) % 6).toNat
theorem hcell_riv {st t : Int} : isRiv (hcell st t) := by unfold isRiv hcell; omega
def JH (d : zMem) (st n : Int) (row : Int → Row) : Prop := (0 ≤ st ∧ st < 6) ∧ (0 ≤ n ∧ n ≤ 6) ∧ d 31 1 = st ∧ d 31 2 = n ∧ ∀ t, 0 ≤ t → t < n → River d (hcell st t) (row t)
def kRow (n : Int) (row : Int → Row) (s : Row) : Int → Row := fun t => if n = 6 then (if t = 5 then s else row (t + 1)) else (if t = n then s else row t)
theorem JH_keep {d d' : zMem} {st n : Int} {row : Int → Row} (h : JH d st n row) (h33 : d' 31 = d 31) (hb : ∀ q, 33 ≤ q → q < 117 → d' q = d q) : JH d' st n row := by
  obtain ⟨a1, a2, a3, a4, a5⟩ := h
  refine ⟨a1, a2, by rw [h33]; exact a3, by rw [h33]; exact a4, fun t q1 q2 => River_keep (a5 t q1 q2) (fun q h0 h1 => hb q ?_ ?_)⟩
  · unfold hcell at h0; omega
  · unfold hcell at h1; omega
theorem JH_same {d : zMem} {st n : Int} {row row' : Int → Row} (h : JH d st n row) (hr : ∀ t, 0 ≤ t → t < n → same (row t) (row' t) 0 1407) : JH d st n row' := ⟨h.1, h.2.1, h.2.2.1, h.2.2.2.1, fun t q1 q2 => River_same (hr t q1 q2) (h.2.2.2.2 t q1 q2)⟩
section
variable {g : zGG} {Q : Int → zMem → Prop} {s : Row}
theorem c_remember {d : zMem} {st n : Int} {row : Int → Row} (hH : JH d st n row) (hR : River d 1 s) (hQ : ∀ d', (∀ q, q ≠ 31 → (q < 33 ∨ 117 ≤ q) → d' q = d q) → JH d' (if n = 6 then (st + 1) % 6 else st) (min (n + 1) 6) (kRow n row s) → Q 0 d') : Ev g M_X2_remember FUL FUL [zR 31, zR 1] d Q := by
  obtain ⟨h1, h2, h3, h4, h5⟩ := hH
  have r1 : isRiv 1 := Or.inl rfl
  have tail : ∀ (d1 : zMem) (st' n' : Int), (0 ≤ st' ∧ st' < 6) → (0 ≤ n' ∧ n' ≤ 6) → (∀ q, q ≠ 31 → d1 q = d q) → d1 31 1 = st' → d1 31 2 = n' → st' = (if n = 6 then (st + 1) % 6 else st) → n' = min (n + 1) 6 →
      ((inR (((st) + (n)) % 6)) ∧ ((((st) + (n)) % 6) < 0 → Q 0 d1) ∧ (0 ≤ (((st) + (n)) % 6) → ((inR (((st) + (n)) % 6)) ∧ (6 ≤ (((st) + (n)) % 6) → Q 0 d1) ∧ ((((st) + (n)) % 6) < 6 → (0 ≤ (((st) + (n)) % 6) ∧ (((st) + (n)) % 6) < 6) ∧ (0 ≤ (((st) + (n)) % 6) ∧ (((st) + (n)) % 6) < 6) ∧ Ev g M_X7_copyFrom FUL FUL [zR (RT 32 ((((st) + (n)) % 6)).toNat), zR 1] d1 (fun _ d2 => Q 0 d2))))) := by
    intro d1 st' n' hst' hn' hb e1 e2 est en
    have ir : inR ((st + n) % 6) := ⟨by omega, by omega⟩
    refine ⟨ir, fun q => by omega, fun _ => ⟨ir, fun q => by omega, fun _ => ⟨⟨by omega, by omega⟩, ⟨by omega, by omega⟩, ?_⟩⟩⟩
    rw [RT34]
    have hrv : isRiv (33 + 14 * ((st + n) % 6).toNat) := hcell_riv (st := st) (t := n)
    apply c_copyFrom hrv r1 (by omega) (Rel_keep hR.1 hR.2.1 (fun q q1 q2 => hb q (by omega))) hR.2.1
    intro d2 b2 R2
    refine hQ d2 (fun q k1 k2 => by rw [b2 q (by omega), hb q k1]) ⟨est ▸ hst', en ▸ hn', by rw [b2 31 (by omega), e1, est], by rw [b2 31 (by omega), e2, en], fun t q1 q2 => ?_⟩
    unfold kRow
    by_cases c : n = 6
    · rw [if_pos c, if_pos c]
      by_cases c5 : t = 5
      · rw [if_pos c5]
        have e : hcell ((st + 1) % 6) t = 33 + 14 * ((st + n) % 6).toNat := by unfold hcell; rw [c5, c]; congr 2; omega
        rw [e]
        exact ⟨R2, hR.2.1, hR.2.2⟩
      · rw [if_neg c5]
        have e : hcell ((st + 1) % 6) t = hcell st (t + 1) := by unfold hcell; congr 2; omega
        rw [e]
        refine River_keep (h5 (t + 1) (by omega) (by omega)) (fun q k1 k2 => ?_)
        have hne : hcell st (t + 1) ≠ 33 + 14 * ((st + n) % 6).toNat := by unfold hcell; omega
        have := riv_ne (hcell_riv (st := st) (t := t + 1)) hrv hne
        have hq33 : q ≠ 31 := by unfold hcell at k1; omega
        rw [b2 q (by omega), hb q hq33]
    · rw [if_neg c, if_neg c]
      by_cases cn : t = n
      · rw [if_pos cn, cn]
        exact ⟨R2, hR.2.1, hR.2.2⟩
      · rw [if_neg cn]
        refine River_keep (h5 t q1 (by omega)) (fun q k1 k2 => ?_)
        have hne : hcell st t ≠ 33 + 14 * ((st + n) % 6).toNat := by unfold hcell; omega
        have := riv_ne (hcell_riv (st := st) (t := t)) hrv hne
        have hq33 : q ≠ 31 := by unfold hcell at k1; omega
        rw [b2 q (by omega), hb q hq33]
  apply e_X2_remember r1
  rw [h3, h4]
  refine ⟨⟨by omega, ⟨by omega, by omega⟩⟩, ⟨⟨by omega, by omega⟩, fun q d1 hd1 => ?_, fun q => ⟨⟨by omega, ⟨by omega, by omega⟩⟩, fun d1 hd1 => ?_⟩⟩⟩
  · exact tail d1 st (n + 1) h1 (by omega) (fun q hq => by rw [hd1, mu_ne hq]) (by rw [hd1, mu_ni (by omega), h3]) (by rw [hd1, mu_get]) (by rw [if_neg q]) (by omega)
  · exact tail d1 ((st + 1) % 6) n (by omega) h2 (fun q hq => by rw [hd1, mu_ne hq]) (by rw [hd1, mu_get]) (by rw [hd1, mu_ni (by omega), h4]) (by rw [if_pos q]) (by omega)
-- the reference
theorem l_know2 {d0 : zMem} {n : Int} (hn : 0 ≤ n ∧ n < 6) (hk : d0 153 3 = n) (hQ : ∀ d', (∀ q, q ≠ 153 → q ≠ 156 → d' q = d0 q) → (∀ j, j ≠ 3 → d' 153 j = d0 153 j) → d' 153 3 = n + 1 → (∀ k, d' 156 k = if 1407 * n ≤ k ∧ k < 1407 * n + 1407 then d0 154 (k - 1407 * n) else d0 156 k) → Q 0 d') :
    ∀ (m : Nat) (x : Int) (d : zMem), 1407 - x = m → 0 ≤ x → but d0 d 156 → (∀ k, d 156 k = if 1407 * n ≤ k ∧ k < 1407 * n + x then d0 154 (k - 1407 * n) else d0 156 k) →
    Fr g (eM g M_X9_know FUL FUL Q) M_X9_know FUL 52 [some (zR 153), some (zI x)] [] d
  | 0, x, d, hm, hx, hd, hv => by
    apply v_X9_know_52
    refine ⟨⟨by omega, by omega⟩, fun _ d1 hd1 => hQ d1 (fun q k1 k2 => by rw [hd1, mu_ne k1, hd q k2]) (fun j hj => by rw [hd1, mu_ni hj, hd 153 (by omega)]) (by rw [hd1, mu_get, hd 153 (by omega), hk]) (fun k => ?_), fun q => by omega⟩
    rw [hd1, mu_ne (by omega), hv, show x = 1407 by omega]
  | m + 1, x, d, hm, hx, hd, hv => by
    apply v_X9_know_52
    rw [hd 153 (by omega), hk, hd 154 (by omega)]
    refine ⟨⟨by omega, by omega⟩, fun q => by omega, fun _ => ⟨⟨by omega, by omega⟩, ⟨by omega, by omega⟩, fun d2 hd2 => l_know2 hn hk hQ m (x + 1) d2 (by omega) (by omega) (hd2 ▸ but_mu hd) (fun k => ?_)⟩⟩
    rw [hd2, mu_app, if_pos rfl]
    by_cases c : k = 1407 * n + x
    · rw [if_pos c, if_pos (show 1407 * n ≤ k ∧ k < 1407 * n + (x + 1) by omega)]
      congr 1; omega
    · rw [if_neg c, hv k]
      by_cases c2 : 1407 * n ≤ k ∧ k < 1407 * n + x
      · rw [if_pos c2, if_pos (show 1407 * n ≤ k ∧ k < 1407 * n + (x + 1) by omega)]
      · rw [if_neg c2, if_neg (show ¬ (1407 * n ≤ k ∧ k < 1407 * n + (x + 1)) by omega)]
theorem l_know1 {d0 : zMem} (hk : d0 153 3 = 6) (hQ : ∀ d', (∀ q, q ≠ 153 → q ≠ 156 → d' q = d0 q) → (∀ j, j ≠ 3 → d' 153 j = d0 153 j) → d' 153 3 = 6 → (∀ k, d' 156 k = if 7035 ≤ k ∧ k < 8442 then d0 154 (k - 7035) else if 0 ≤ k ∧ k < 7035 then d0 156 (1407 + k) else d0 156 k) → Q 0 d') :
    ∀ (m : Nat) (x : Int) (d : zMem), 7035 - x = m → 0 ≤ x → but d0 d 156 → (∀ k, d 156 k = if 0 ≤ k ∧ k < x then d0 156 (1407 + k) else d0 156 k) →
    Fr g (eM g M_X9_know FUL FUL Q) M_X9_know FUL 11 [some (zR 153), some (zI x)] [] d
  | 0, x, d, hm, hx, hd, hv => by
    apply v_X9_know_11
    refine ⟨⟨by omega, by omega⟩, fun _ d1 hd1 => ?_, fun q => by omega⟩
    have e3 : d1 153 3 = 5 := by rw [hd1, mu_get, hd 153 (by omega), hk]; rfl
    refine l_know2 (d0 := d1) (n := 5) (by omega) e3 (fun d2 k1 k2 k3 k4 => hQ d2 (fun q h0 h1 => by rw [k1 q h0 h1, hd1, mu_ne h0, hd q h1]) (fun j hj => by rw [k2 j hj, hd1, mu_ni hj, hd 153 (by omega)]) k3 (fun k => ?_)) 1407 0 d1 (by omega) (by omega) but_rfl (fun k => by rw [if_neg (by omega)])
    rw [k4 k, hd1, mu_ne (by omega), mu_ne (by omega), hd 154 (by omega), hv k, show x = 7035 by omega]
    rfl
  | m + 1, x, d, hm, hx, hd, hv => by
    apply v_X9_know_11
    have e : d 156 (1407 + x) = d0 156 (1407 + x) := by rw [hv, if_neg (by omega)]
    rw [e]
    refine ⟨⟨by omega, by omega⟩, fun q => by omega, fun _ => ⟨⟨by omega, by omega⟩, ⟨by omega, by omega⟩, fun d2 hd2 => l_know1 hk hQ m (x + 1) d2 (by omega) (by omega) (hd2 ▸ but_mu hd) (fun k => ?_)⟩⟩
    rw [hd2, mu_app, if_pos rfl]
    by_cases c : k = x
    · rw [if_pos c, if_pos (show 0 ≤ k ∧ k < x + 1 by omega), c]
    · rw [if_neg c, hv k]
      by_cases c2 : 0 ≤ k ∧ k < x
      · rw [if_pos c2, if_pos (show 0 ≤ k ∧ k < x + 1 by omega)]
      · rw [if_neg c2, if_neg (show ¬ (0 ≤ k ∧ k < x + 1) by omega)]
/-- the reference's rows that were -/
def bRow (d : zMem) : Int → Row := fun t k => d 156 (1407 * t + k)
theorem r_know {d : zMem} {n : Int} (hn : 0 ≤ n ∧ n ≤ 6) (hk : d 153 3 = n) (hQ : ∀ d', (∀ q, q ≠ 153 → q ≠ 156 → d' q = d q) → (∀ j, j ≠ 3 → d' 153 j = d 153 j) → d' 153 3 = min (n + 1) 6 → (∀ t, 0 ≤ t → t < min (n + 1) 6 → same (kRow n (bRow d) (d 154) t) (bRow d' t) 0 1407) → Q 0 d') : Ev g M_X9_know FUL FUL [zR 153] d Q := by
  apply e_X9_know
  rw [hk]
  refine ⟨⟨by omega, by omega⟩, fun q => ?_, fun q => ?_⟩
  · refine l_know2 (d0 := d) (n := n) (by omega) hk (fun d' k1 k2 k3 k4 => hQ d' k1 k2 (by rw [k3]; omega) (fun t h0 h1 k q1 q2 => ?_)) 1407 0 d (by omega) (by omega) but_rfl (fun k => by rw [if_neg (by omega)])
    unfold bRow kRow
    rw [k4, if_neg q]
    by_cases c : t = n
    · rw [if_pos c, if_pos (by omega)]
      congr 1; omega
    · rw [if_neg c, if_neg (by omega)]
  · refine l_know1 (d0 := d) (by omega) (fun d' k1 k2 k3 k4 => hQ d' k1 k2 (by rw [k3]; omega) (fun t h0 h1 k q1 q2 => ?_)) 7035 0 d (by omega) (by omega) but_rfl (fun k => by rw [if_neg (by omega)])
    unfold bRow kRow
    rw [k4, if_pos q]
    by_cases c : t = 5
    · rw [if_pos c, if_pos (by omega)]
      congr 1; omega
    · rw [if_neg c, if_neg (by omega), if_pos (by omega)]
      congr 1; omega
end
