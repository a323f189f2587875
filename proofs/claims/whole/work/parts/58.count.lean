-- bends, all or the firm ones, counted
def bdF (s : Row) (fl i : Int) : Prop := ∃ l, bd s i l ∧ (fl = 0 ∨ firm s i l)
noncomputable def e01 (s : Row) (fl i : Int) : Int := @ite Int (bdF s fl i) (Classical.propDecidable _) 1 0
theorem e01_1 {s : Row} {fl i : Int} (h : bdF s fl i) : e01 s fl i = 1 := by unfold e01; rw [if_pos h]
theorem e01_0 {s : Row} {fl i : Int} (h : ¬ bdF s fl i) : e01 s fl i = 0 := by unfold e01; rw [if_neg h]
noncomputable def cE (s : Row) (fl p : Int) : Int := upto (e01 s fl) p
theorem cE_step1 {s : Row} {fl f l : Int} (h : bd s f l) (hf : fl = 0 ∨ firm s f l) : cE s fl (f + 1) = cE s fl f + 1 := by
  have := h.1
  unfold cE
  rw [upto_succ (by omega), e01_1 ⟨l, h, hf⟩]
theorem cE_step0 {s : Row} {fl f l : Int} (h : bd s f l) (h0 : fl ≠ 0) (hf : ¬ firm s f l) : cE s fl (f + 1) = cE s fl f := by
  have := h.1
  unfold cE
  rw [upto_succ (by omega), e01_0, Int.add_zero]
  rintro ⟨l', k1, k2⟩
  rcases k2 with z | z
  · exact h0 z
  · rw [bd_uniq h k1] at hf; exact hf z
theorem cE_flat {s : Row} {fl p q : Int} (h0 : 0 ≤ p) (hpq : p ≤ q) (h : ∀ j, p ≤ j → j < q → ∀ l, ¬ bd s j l) : cE s fl q = cE s fl p :=
  upto_flat h0 (q - p).toNat q (by omega) (fun j q1 q2 => e01_0 (fun ⟨l, z, _⟩ => h j q1 q2 l z))
theorem cE_b {s : Row} {p : Int} (h0 : 0 ≤ p) : cE s 0 p = cB s p := by
  refine upto_cong h0 (fun j q1 q2 => ?_)
  by_cases c : ∃ l, bd s j l
  · obtain ⟨l, z⟩ := c
    rw [e01_1 ⟨l, z, Or.inl rfl⟩, b01_1 z]
  · rw [e01_0 (fun ⟨l, z, _⟩ => c ⟨l, z⟩), b01_0 (fun l z => c ⟨l, z⟩)]
section
variable {g : zGG} {Q : Int → zMem → Prop} {s : Row}
theorem l_countB {d0 : zMem} {fl : Int} (hfl : fl = 0 ∨ fl = 1) (hR : Rel d0 1 s) (hI : Inv s) (hQ : ∀ d', but d0 d' 123 → Q (cE s fl 150) d') :
    ∀ (n : Nat) (st c t : Int) (d : zMem), 150 - t = n → 0 ≤ t → t ≤ st → st ≤ 150 → but d0 d 123 → c = cE s fl st →
    Fr g (eM g M_X8_countBends FUL FUL Q) M_X8_countBends FUL 7 [some (zR 0), some (zI fl), some (zI c), some (zI st), some (zI t)] [] d := by
  obtain ⟨hs, hX, hY, hW, hS, hF⟩ := hI
  have h4 := hs.1
  have hfr : inR fl := by rcases hfl with e | e <;> rw [e] <;> decide
  intro n
  induction n with
  | zero =>
    intro st c t d hn ht hst hst2 hd hc
    apply v_X8_countBends_7
    refine ⟨⟨by omega, by omega⟩, fun _ => ?_, fun q => by omega⟩
    rw [hc, show st = 150 by omega]
    exact hQ d hd
  | succ n ih =>
    intro st c t d hn ht hst hst2 hd hc
    apply v_X8_countBends_7
    refine ⟨⟨by omega, by omega⟩, fun q => by omega, fun _ => ?_⟩
    have hRd : Rel d 1 s := Rel_keep hR ⟨hs, hX, hY, hW, hS, hF⟩ (fun q q1 q2 => hd q (by omega))
    apply c_seekFrom (Or.inl rfl) (Or.inr rfl) hRd.2.1 hs ⟨by omega, by omega⟩
    · intro d1 f l b1 hbd hB hle hno
      have f1 := hbd.1
      have f2 := hbd.2.1
      have f3 := hbd.2.2.1
      have hd1 : but d0 d1 123 := fun p hp => by rw [b1 p hp, hd p hp]
      have hR1 : Rel d1 1 s := Rel_keep hR ⟨hs, hX, hY, hW, hS, hF⟩ (fun q q1 q2 => hd1 q (by omega))
      have ef : c = cE s fl f := by rw [hc, cE_flat (by omega) hle (fun j q1 q2 l' => hno j l' q1 q2)]
      refine ⟨by decide, fun z => absurd z (by decide), fun _ => ⟨hfr, fun z => ?_, fun z => ?_⟩⟩
      · rw [hB.1]
        exact ih (f + 1) (c + 1) (t + 1) d1 (by omega) (by omega) (by omega) (by omega) hd1 (by rw [cE_step1 hbd (Or.inl z), ef])
      · apply c_isFirm (Or.inl rfl) (Or.inr rfl) hR1.2.1 hR1.2.2.2.1 hs hW hbd hB
        · intro hf
          refine ⟨by decide, fun z => absurd z (by decide), fun _ => ?_⟩
          rw [hB.1]
          exact ih (f + 1) (c + 1) (t + 1) d1 (by omega) (by omega) (by omega) (by omega) hd1 (by rw [cE_step1 hbd (Or.inr hf), ef])
        · intro hf
          refine ⟨by decide, fun _ => ?_, fun z => absurd rfl z⟩
          rw [hB.1]
          exact ih (f + 1) c (t + 1) d1 (by omega) (by omega) (by omega) (by omega) hd1 (by rw [cE_step0 hbd z hf, ef])
    · intro hno
      refine ⟨by decide, fun _ => ?_, fun z => absurd rfl z⟩
      rw [hc, ← cE_flat (q := 150) (by omega) hst2 (fun j q1 q2 l' => hno j l' q1)]
      exact hQ d hd
theorem c_countBends {d : zMem} {fl : Int} (hfl : fl = 0 ∨ fl = 1) (hR : Rel d 1 s) (hI : Inv s) (hQ : ∀ d', but d d' 123 → Q (cE s fl 150) d') : Ev g M_X8_countBends FUL FUL [zR 0, zI fl] d Q := by
  apply e_X8_countBends
  exact l_countB (d0 := d) hfl hR hI hQ 150 0 0 0 d (by omega) (by omega) (by omega) (by omega) but_rfl rfl
/-- where the reference's b-th bend begins, or behind all -/
def psn (d : zMem) (b : Int) : Int := if b < d 153 11 then d 160 b else 150
theorem psn_next {d : zMem} {fl b : Int} (hs : crs s) (hB : Bends d s) (hb : 0 ≤ b ∧ b < d 153 11) : cE s fl (psn d (b + 1)) = cE s fl (d 160 b + 1) := by
  have h4 := hs.1
  have hbd := hB.2.1 b hb.1 hb.2
  have f1 := hbd.1
  have f2 := hbd.2.1
  have f3 := hbd.2.2.1
  unfold psn
  by_cases c : b + 1 < d 153 11
  · rw [if_pos c]
    have hlt := hB.2.2.1 b (b + 1) hb.1 (by omega) c
    refine cE_flat (by omega) (by omega) (fun j q1 q2 l z => ?_)
    obtain ⟨b', k1, k2, k3⟩ := hB.2.2.2.1 j l z
    rcases (show b' < b ∨ b' = b ∨ b' = b + 1 ∨ b + 1 < b' by omega) with y | y | y | y
    · have := hB.2.2.1 b' b k1 y hb.2; omega
    · subst y; omega
    · subst y; omega
    · have := hB.2.2.1 (b + 1) b' (by omega) y k2; omega
  · rw [if_neg c]
    refine cE_flat (by omega) (by omega) (fun j q1 q2 l z => ?_)
    obtain ⟨b', k1, k2, k3⟩ := hB.2.2.2.1 j l z
    rcases (show b' < b ∨ b' = b by omega) with y | y
    · have := hB.2.2.1 b' b k1 y hb.2; omega
    · subst y; omega
theorem psn_0 {d : zMem} {fl : Int} (hs : crs s) (hB : Bends d s) : cE s fl (psn d 0) = 0 := by
  have hB1 := hB.1
  have e : cE s fl (psn d 0) = cE s fl 0 := by
    unfold psn
    by_cases c : 0 < d 153 11
    · rw [if_pos c]
      have hbd := hB.2.1 0 (by omega) c
      have f1 := hbd.1
      refine cE_flat (by omega) (by omega) (fun j q1 q2 l z => ?_)
      obtain ⟨b', k1, k2, k3⟩ := hB.2.2.2.1 j l z
      rcases (show b' = 0 ∨ 0 < b' by omega) with y | y
      · subst y; omega
      · have := hB.2.2.1 0 b' (by omega) y k2; omega
    · rw [if_neg c]
      refine cE_flat (by omega) (by omega) (fun j q1 q2 l z => ?_)
      obtain ⟨b', k1, k2, k3⟩ := hB.2.2.2.1 j l z
      omega
  rw [e]
  rfl
theorem l_rfirm {d : zMem} (h164 : d 154 = s) (hs : crs s) (hW : IW s) (hB : Bends d s) (hQ : Q (cE s 1 150) d) :
    ∀ (n : Nat) (b c : Int), d 153 11 - b = n → 0 ≤ b → c = cE s 1 (psn d b) →
    Fr g (eM g M_X9_firm FUL FUL Q) M_X9_firm FUL 8 [some (zR 153), some (zI c), some (zI b)] [] d
  | 0, b, c, hn, hb, hc => by
    have hB1 := hB.1
    apply v_X9_firm_8
    refine ⟨⟨⟨by omega, by omega⟩, ⟨by omega, by omega⟩⟩, fun _ => ?_, fun q => by omega⟩
    have e : psn d b = 150 := by unfold psn; rw [if_neg (by omega)]
    rw [hc, e]
    exact hQ
  | n + 1, b, c, hn, hb, hc => by
    have hB1 := hB.1
    have hbb : 0 ≤ b ∧ b < d 153 11 := ⟨hb, by omega⟩
    have hbd := hB.2.1 b hb (by omega)
    have ep : psn d b = d 160 b := by unfold psn; rw [if_pos (by omega)]
    rw [ep] at hc
    have hnx := psn_next (fl := 1) hs hB hbb
    apply v_X9_firm_8
    refine ⟨⟨⟨by omega, by omega⟩, ⟨by omega, by omega⟩⟩, fun q => by omega, fun _ => ?_⟩
    apply r_isFirm h164 hs hW hB hbb rfl rfl
    · intro hf
      exact ⟨by decide, fun z => absurd z (by decide), fun _ => l_rfirm h164 hs hW hB hQ n (b + 1) (c + 1) (by omega) (by omega) (by rw [hnx, cE_step1 hbd (Or.inr hf), hc])⟩
    · intro hf
      exact ⟨by decide, fun _ => l_rfirm h164 hs hW hB hQ n (b + 1) (c + 0) (by omega) (by omega) (by rw [hnx, cE_step0 hbd (by decide) hf, hc, Int.add_zero]), fun z => absurd rfl z⟩
theorem r_firm {d : zMem} (h164 : d 154 = s) (hs : crs s) (hW : IW s) (hQ : ∀ d', rF d d' → d' 154 = s → (∀ j, j ≠ 11 → d' 153 j = d 153 j) → Q (cE s 1 150) d') : Ev g M_X9_firm FUL FUL [zR 153] d Q := by
  apply e_X9_firm
  apply r_findBends hs h164
  intro d1 r1 q1 j1 hB
  have hB1 := hB.1
  exact l_rfirm q1 hs hW hB (hQ d1 r1 q1 j1) (d1 153 11).toNat 0 0 (by omega) (by omega) (psn_0 hs hB).symm
-- sums of wear
theorem l_wearSum {d : zMem} {a : Nat} {S : Int} (ha : isRiv a) (hQ : Q S d) : ∀ (n : Nat) (x v : Int), 240 - x = n → 0 ≤ x → sig (d (a + 10)) n x v = S →
    Fr g (eM g M_X7_wearSum FUL FUL Q) M_X7_wearSum FUL 4 [some (zR a), some (zI v), some (zI x)] [] d
  | 0, x, v, hn, hx, hs => by
    apply v_X7_wearSum_4 ha
    have hs' : v = S := hs
    exact ⟨⟨by omega, by omega⟩, fun _ => hs' ▸ hQ, fun q => by omega⟩
  | n + 1, x, v, hn, hx, hs => by
    apply v_X7_wearSum_4 ha
    exact ⟨⟨by omega, by omega⟩, fun q => by omega, fun _ => ⟨⟨by omega, by omega⟩, l_wearSum ha hQ n (x + 1) _ (by omega) (by omega) hs⟩⟩
theorem c_wearSum {d : zMem} {a : Nat} (ha : isRiv a) (hW : RW d a s) (hQ : Q (sig (fun c => s (155 + c)) 240 0 0) d) : Ev g M_X7_wearSum FUL FUL [zR a] d Q := by
  apply e_X7_wearSum ha
  refine l_wearSum ha hQ 240 0 0 (by omega) (by omega) (sig_same 240 0 0 (fun j q1 q2 => ?_))
  exact (hW.1 j q1 (by omega)).1
theorem l_allWear {d : zMem} {S : Int} (hQ : Q S d) : ∀ (n : Nat) (x v : Int), 240 - x = n → 0 ≤ x → sig (fun c => d 154 (155 + c)) n x v = S →
    Fr g (eM g M_X9_allWear FUL FUL Q) M_X9_allWear FUL 4 [some (zR 153), some (zI v), some (zI x)] [] d
  | 0, x, v, hn, hx, hs => by
    apply v_X9_allWear_4
    have hs' : v = S := hs
    exact ⟨⟨by omega, by omega⟩, fun _ => hs' ▸ hQ, fun q => by omega⟩
  | n + 1, x, v, hn, hx, hs => by
    apply v_X9_allWear_4
    exact ⟨⟨by omega, by omega⟩, fun q => by omega, fun _ => ⟨⟨by omega, by omega⟩, l_allWear hQ n (x + 1) _ (by omega) (by omega) hs⟩⟩
theorem r_allWear {d : zMem} (hQ : Q (sig (fun c => d 154 (155 + c)) 240 0 0) d) : Ev g M_X9_allWear FUL FUL [zR 153] d Q := by
  apply e_X9_allWear
  exact l_allWear hQ 240 0 0 (by omega) (by omega) rfl
-- winding
def apt (x y : Int) : Int := if y < x then x - y else y - x
theorem apt_abs (x y : Int) : (if 0 ≤ y - x then y - x else -(y - x)) = apt x y := by
  unfold apt
  by_cases c : y < x
  · rw [if_pos c, if_neg (by omega)]; omega
  · rw [if_neg c, if_pos (by omega)]
theorem apt_rng {x y : Int} (hx : 0 ≤ x ∧ x < 240) (hy : 0 ≤ y ∧ y < 240) : 0 ≤ apt x y ∧ apt x y < 240 := by
  unfold apt
  split <;> omega
theorem apt_0 {x y : Int} (h : apt x y = 0) : x = y := by
  unfold apt at h
  by_cases c : y < x
  · rw [if_pos c] at h; omega
  · rw [if_neg c] at h; omega
def wnd (s : Row) : Int := (1000 * (s 4 - 1)) / (apt (s 5 % 20) (s (5 + (s 4 - 1)) % 20) + apt (s 5 / 20) (s (5 + (s 4 - 1)) / 20))
theorem wnd_pos (hs : crs s) : 0 < apt (s 5 % 20) (s (5 + (s 4 - 1)) % 20) + apt (s 5 / 20) (s (5 + (s 4 - 1)) / 20) ∧ apt (s 5 % 20) (s (5 + (s 4 - 1)) % 20) + apt (s 5 / 20) (s (5 + (s 4 - 1)) / 20) < 500 := by
  have h4 := hs.1
  have c0 := hs.2.1 0 (by omega) (by omega)
  rw [show (5 : Int) + 0 = 5 by omega] at c0
  have c1 := hs.2.1 (s 4 - 1) (by omega) (by omega)
  have hne : s 5 ≠ s (5 + (s 4 - 1)) := fun e => by
    have := hs.2.2.1 0 (s 4 - 1) (by omega) (by omega) (by omega) (by omega) (by rw [show (5 : Int) + 0 = 5 by omega]; exact e)
    omega
  generalize s (5 + (s 4 - 1)) = y at *
  generalize s 5 = x at *
  have a1 := apt_rng (x := x % 20) (y := y % 20) (by omega) (by omega)
  have a2 := apt_rng (x := x / 20) (y := y / 20) (by omega) (by omega)
  refine ⟨?_, by omega⟩
  rcases (show 0 < apt (x % 20) (y % 20) + apt (x / 20) (y / 20) ∨ (apt (x % 20) (y % 20) = 0 ∧ apt (x / 20) (y / 20) = 0) by omega) with q | ⟨q1, q2⟩
  · exact q
  · have e1 := apt_0 q1
    have e2 := apt_0 q2
    omega
theorem c_winding {d : zMem} (hC : RC d 1 s) (hs : crs s) (hQ : Q (wnd s) d) : Ev g M_X1_winding FUL FUL [zR (1 + 2)] d Q := by
  have h4 := hs.1
  have c0 := hs.2.1 0 (by omega) (by omega)
  rw [show (5 : Int) + 0 = 5 by omega] at c0
  have c1 := hs.2.1 (s 4 - 1) (by omega) (by omega)
  have hp := wnd_pos hs
  have el : d (1 + 2) 2 = s 4 := hC.1
  unfold wnd at hQ
  apply e_X1_winding (Or.inl rfl)
  apply c_cellOf (Or.inl rfl) hC hs (by decide)
  rw [if_pos ⟨by omega, by omega⟩, show (5 : Int) + 0 = 5 by omega, el]
  apply c_cellOf (Or.inl rfl) hC hs ⟨by omega, by omega⟩
  rw [if_pos ⟨by omega, by omega⟩, apt_abs, apt_abs]
  have a1 := apt_rng (x := s 5 % 20) (y := s (5 + (s 4 - 1)) % 20) (by omega) (by omega)
  have a2 := apt_rng (x := s 5 / 20) (y := s (5 + (s 4 - 1)) / 20) (by omega) (by omega)
  rw [el]
  refine ⟨⟨by omega, ⟨by omega, by omega⟩⟩, ⟨by omega, ⟨by omega, by omega⟩⟩, ⟨by omega, by omega⟩, ⟨by omega, ⟨by omega, by omega⟩⟩, ⟨by omega, ⟨by omega, by omega⟩⟩, ⟨by omega, by omega⟩, ⟨⟨by omega, by omega⟩, fun _ => ⟨⟨by omega, ⟨by omega, by omega⟩, hp.1, ⟨by omega, by omega⟩⟩, hQ⟩, fun z => by omega⟩⟩
theorem r_apart {d : zMem} {x y : Int} (hx : 0 ≤ x ∧ x < 240) (hy : 0 ≤ y ∧ y < 240) (hQ : Q (apt x y) d) : Ev g M_X9_apart FUL FUL [zI x, zI y] d Q := by
  apply e_X9_apart
  unfold apt at hQ
  refine ⟨⟨⟨by omega, by omega⟩, ⟨by omega, by omega⟩⟩, fun q => ?_, fun q => ?_⟩
  · rw [if_neg (by omega)] at hQ; exact hQ
  · rw [if_pos q] at hQ; exact hQ
theorem r_winding {d : zMem} (h164 : d 154 = s) (hs : crs s) (hQ : Q (wnd s) d) : Ev g M_X9_winding FUL FUL [zR 153] d Q := by
  have h4 := hs.1
  have c0 := hs.2.1 0 (by omega) (by omega)
  rw [show (5 : Int) + 0 = 5 by omega] at c0
  have c1 := hs.2.1 (s 4 - 1) (by omega) (by omega)
  have hp := wnd_pos hs
  unfold wnd at hQ
  apply e_X9_winding
  rw [h164, show 5 + s 4 - 1 = 5 + (s 4 - 1) by omega]
  refine ⟨⟨by omega, by omega⟩, ⟨by omega, ⟨by omega, by omega⟩⟩, ⟨by omega, ⟨by omega, by omega⟩⟩, ?_⟩
  apply r_apart ⟨by omega, by omega⟩ ⟨by omega, by omega⟩
  refine ⟨⟨by omega, ⟨by omega, by omega⟩⟩, ⟨by omega, ⟨by omega, by omega⟩⟩, ?_⟩
  apply r_apart ⟨by omega, by omega⟩ ⟨by omega, by omega⟩
  exact ⟨⟨by omega, ⟨by omega, by omega⟩, hp.1, ⟨by omega, by omega⟩⟩, hQ⟩
end
section
variable {g : zGG} {Q : Int → Int → zMem → Prop}
theorem p_count {d : zMem} {x : Int} (hJ : J d) (hx : inR x) (hQ : ∀ v d', J d' → Q v v d') : Ev g M_X8_count FUL FUL [zR 0, zI x] d (fun v1 d1 => Ev g M_X9_count FUL FUL [zR 153, zI x] d1 (fun v2 d2 => Q v1 v2 d2)) := by
  have hR := hJ.1
  have hI := hR.2.1
  obtain ⟨hs, hX, hY, hW, hS, hF⟩ := hR.2.1
  have h4 := hs.1
  obtain ⟨rS, rC, rX, rW, rF⟩ := hR.1
  have pad := hJ.2.2.2.1.1
  have his := hJ.2.1.2.2.2.1
  -- the reference, at one place of the switch
  have rset : (12 ≤ x ∧ x ≤ 15) → Ev g M_X9_count FUL FUL [zR 153, zI x] d (fun v2 d2 => Q (d 154 (x - 12)) v2 d2) := by
    intro c
    have go : Ev g M_X9_in FUL FUL [zI x, zI 12, zI 15] d (fun v1 d1 => ((inR v1) ∧ (v1 = 0 → Q (d 154 (x - 12)) (-2) d1) ∧ (v1 ≠ 0 → (0 ≤ ((0 + x) - 12) ∧ ((0 + x) - 12) < 1407) ∧ Q (d 154 (x - 12)) (d1 154 ((0 + x) - 12)) d1))) := by
      apply s_in hx (by decide) (by decide)
      rw [if_pos c]
      refine ⟨by decide, fun z => absurd z (by decide), fun _ => ⟨by omega, ?_⟩⟩
      rw [Int.zero_add]
      exact hQ _ d hJ
    apply e_X9_count
    exact ⟨hx, fun z => by omega, fun z => by omega, fun z => by omega, fun z => by omega, fun z => by omega, fun z => by omega, fun z => by omega, fun z => by omega, fun z => by omega, fun z => by omega, fun z => by omega, fun z => by omega, fun z => by omega, fun _ => go, fun _ => go, fun _ => go, fun _ => go, fun z => by omega, fun z => by omega⟩
  have cset : (12 ≤ x ∧ x ≤ 15) → Ev g M_X7_setting FUL FUL [zR 1, zI (x - 12)] d (fun v9 d9 => Ev g M_X9_count FUL FUL [zR 153, zI x] d9 (fun v2 d2 => Q v9 v2 d2)) := fun c => c_setting (Or.inl rfl) rS ⟨by omega, by omega⟩ (rset c)
  have look : ∀ {d1 d2 : zMem} {k : Nat}, (121 ≤ k ∧ k ≤ 124) → but d d1 k → (∀ q, (q < 153 ∨ (154 < q ∧ q < 160) ∨ 164 < q) → d2 q = d1 q) → (∀ j, j ≠ 11 → j ≠ 15 → j ≠ 16 → j ≠ 17 → d2 153 j = d1 153 j) → d2 154 = d1 154 → J d2 := fun hk b1 r1 j1 q1 => J_look hJ hk b1 ⟨r1, fun j a b c e f => j1 j a c e f⟩ q1 (j1 14 (by omega) (by omega) (by omega) (by omega))
  apply e_X8_count
  refine ⟨hx, fun c => ?_, fun c => ?_, fun c => ?_, fun c => ?_, fun c => ?_, fun c => ?_, fun c => ?_, fun c => ?_, fun c => ?_, fun c => ?_, fun c => ?_, fun c => ?_, fun c => ?_, fun c => cset (by omega), fun c => cset (by omega), fun c => cset (by omega), fun c => cset (by omega), fun c => ?_, fun c => ?_⟩
  · apply e_X9_count
    refine ⟨hx, fun _ => ?_, fun z => by omega, fun z => by omega, fun z => by omega, fun z => by omega, fun z => by omega, fun z => by omega, fun z => by omega, fun z => by omega, fun z => by omega, fun z => by omega, fun z => by omega, fun z => by omega, fun z => by omega, fun z => by omega, fun z => by omega, fun z => by omega, fun z => by omega, fun z => by omega⟩
    apply s_in hx (by decide) (by decide)
    rw [if_neg (by omega)]
    exact ⟨by decide, fun _ => hQ _ d hJ, fun z => absurd rfl z⟩
  · apply e_X1_length (Or.inl rfl)
    rw [rC.1]
    apply e_X9_count
    exact ⟨hx, fun z => by omega, fun _ => hQ _ d hJ, fun z => by omega, fun z => by omega, fun z => by omega, fun z => by omega, fun z => by omega, fun z => by omega, fun z => by omega, fun z => by omega, fun z => by omega, fun z => by omega, fun z => by omega, fun z => by omega, fun z => by omega, fun z => by omega, fun z => by omega, fun z => by omega, fun z => by omega⟩
  · apply c_countBends (Or.inl rfl) hR.1 hI
    intro d1 b1
    apply e_X9_count
    refine ⟨hx, fun z => by omega, fun z => by omega, fun _ => ?_, fun z => by omega, fun z => by omega, fun z => by omega, fun z => by omega, fun z => by omega, fun z => by omega, fun z => by omega, fun z => by omega, fun z => by omega, fun z => by omega, fun z => by omega, fun z => by omega, fun z => by omega, fun z => by omega, fun z => by omega, fun z => by omega⟩
    have e164 : d1 154 = d 154 := b1 154 (by omega)
    apply r_findBends (s := d 154) hs e164
    intro d2 r2 q2 j2 hB
    rw [cE_b (by omega), Bends_all hB (by omega) (fun f l z => by have := z.2.1; have := z.2.2.1; omega)]
    exact hQ _ d2 (look (by omega) b1 r2.1 (fun j k1 k2 k3 k4 => j2 j k1) (by rw [q2, e164]))
  · apply c_countBends (Or.inr rfl) hR.1 hI
    intro d1 b1
    apply e_X9_count
    refine ⟨hx, fun z => by omega, fun z => by omega, fun z => by omega, fun _ => ?_, fun z => by omega, fun z => by omega, fun z => by omega, fun z => by omega, fun z => by omega, fun z => by omega, fun z => by omega, fun z => by omega, fun z => by omega, fun z => by omega, fun z => by omega, fun z => by omega, fun z => by omega, fun z => by omega, fun z => by omega⟩
    have e164 : d1 154 = d 154 := b1 154 (by omega)
    apply r_firm e164 hs hW
    intro d2 r2 q2 j2
    exact hQ _ d2 (look (by omega) b1 r2.1 (fun j k1 k2 k3 k4 => j2 j k1) (by rw [q2, e164]))
  · apply c_countNecks rC hs
    apply e_X9_count
    refine ⟨hx, fun z => by omega, fun z => by omega, fun z => by omega, fun z => by omega, fun _ => ?_, fun z => by omega, fun z => by omega, fun z => by omega, fun z => by omega, fun z => by omega, fun z => by omega, fun z => by omega, fun z => by omega, fun z => by omega, fun z => by omega, fun z => by omega, fun z => by omega, fun z => by omega, fun z => by omega⟩
    apply e_X9_allNecks
    apply r_num (s := d 154) ⟨Int.le_refl _, by decide⟩ rfl hs
    · intro d2 i j r2 j2 q2 _ _ _ _ e17
      rw [e17]
      exact hQ _ d2 (look (k := 124) (by omega) but_rfl r2.1 (fun j k1 k2 k3 k4 => j2 j k2 k3 k4) q2)
    · intro d2 r2 j2 q2 _ e17
      rw [e17]
      exact hQ _ d2 (look (k := 124) (by omega) but_rfl r2.1 (fun j k1 k2 k3 k4 => j2 j k2 k3 k4) q2)
  · apply e_X4_length (Or.inl rfl)
    rw [rX.2.1]
    apply e_X9_count
    exact ⟨hx, fun z => by omega, fun z => by omega, fun z => by omega, fun z => by omega, fun z => by omega, fun _ => hQ _ d hJ, fun z => by omega, fun z => by omega, fun z => by omega, fun z => by omega, fun z => by omega, fun z => by omega, fun z => by omega, fun z => by omega, fun z => by omega, fun z => by omega, fun z => by omega, fun z => by omega, fun z => by omega⟩
  · rw [rF.2.2.1]
    apply e_X9_count
    exact ⟨hx, fun z => by omega, fun z => by omega, fun z => by omega, fun z => by omega, fun z => by omega, fun z => by omega, fun _ => hQ _ d hJ, fun z => by omega, fun z => by omega, fun z => by omega, fun z => by omega, fun z => by omega, fun z => by omega, fun z => by omega, fun z => by omega, fun z => by omega, fun z => by omega, fun z => by omega, fun z => by omega⟩
  · rw [rF.1]
    apply e_X9_count
    exact ⟨hx, fun z => by omega, fun z => by omega, fun z => by omega, fun z => by omega, fun z => by omega, fun z => by omega, fun z => by omega, fun _ => hQ _ d hJ, fun z => by omega, fun z => by omega, fun z => by omega, fun z => by omega, fun z => by omega, fun z => by omega, fun z => by omega, fun z => by omega, fun z => by omega, fun z => by omega, fun z => by omega⟩
  · apply c_dikeCount (Or.inl rfl) rW
    apply e_X9_count
    exact ⟨hx, fun z => by omega, fun z => by omega, fun z => by omega, fun z => by omega, fun z => by omega, fun z => by omega, fun z => by omega, fun z => by omega, fun _ => r_dikes (hQ _ d hJ), fun z => by omega, fun z => by omega, fun z => by omega, fun z => by omega, fun z => by omega, fun z => by omega, fun z => by omega, fun z => by omega, fun z => by omega, fun z => by omega⟩
  · rw [rF.2.2.2.1]
    apply e_X9_count
    exact ⟨hx, fun z => by omega, fun z => by omega, fun z => by omega, fun z => by omega, fun z => by omega, fun z => by omega, fun z => by omega, fun z => by omega, fun z => by omega, fun _ => hQ _ d hJ, fun z => by omega, fun z => by omega, fun z => by omega, fun z => by omega, fun z => by omega, fun z => by omega, fun z => by omega, fun z => by omega, fun z => by omega⟩
  · rw [rF.2.2.2.2]
    apply e_X9_count
    exact ⟨hx, fun z => by omega, fun z => by omega, fun z => by omega, fun z => by omega, fun z => by omega, fun z => by omega, fun z => by omega, fun z => by omega, fun z => by omega, fun z => by omega, fun _ => hQ _ d hJ, fun z => by omega, fun z => by omega, fun z => by omega, fun z => by omega, fun z => by omega, fun z => by omega, fun z => by omega, fun z => by omega⟩
  · apply c_winding rC hs
    apply e_X9_count
    exact ⟨hx, fun z => by omega, fun z => by omega, fun z => by omega, fun z => by omega, fun z => by omega, fun z => by omega, fun z => by omega, fun z => by omega, fun z => by omega, fun z => by omega, fun z => by omega, fun _ => r_winding rfl hs (hQ _ d hJ), fun z => by omega, fun z => by omega, fun z => by omega, fun z => by omega, fun z => by omega, fun z => by omega, fun z => by omega⟩
  · apply c_wearSum (Or.inl rfl) rW
    apply e_X9_count
    exact ⟨hx, fun z => by omega, fun z => by omega, fun z => by omega, fun z => by omega, fun z => by omega, fun z => by omega, fun z => by omega, fun z => by omega, fun z => by omega, fun z => by omega, fun z => by omega, fun z => by omega, fun _ => r_allWear (hQ _ d hJ), fun z => by omega, fun z => by omega, fun z => by omega, fun z => by omega, fun z => by omega, fun z => by omega⟩
  · apply e_X5_length
    rw [pad]
    apply e_X9_count
    exact ⟨hx, fun z => by omega, fun z => by omega, fun z => by omega, fun z => by omega, fun z => by omega, fun z => by omega, fun z => by omega, fun z => by omega, fun z => by omega, fun z => by omega, fun z => by omega, fun z => by omega, fun z => by omega, fun z => by omega, fun z => by omega, fun z => by omega, fun z => by omega, fun _ => hQ _ d hJ, fun z => by omega⟩
  · apply e_X2_length
    rw [his]
    apply e_X9_count
    exact ⟨hx, fun z => by omega, fun z => by omega, fun z => by omega, fun z => by omega, fun z => by omega, fun z => by omega, fun z => by omega, fun z => by omega, fun z => by omega, fun z => by omega, fun z => by omega, fun z => by omega, fun z => by omega, fun z => by omega, fun z => by omega, fun z => by omega, fun z => by omega, fun z => by omega, fun _ => hQ _ d hJ⟩
end
