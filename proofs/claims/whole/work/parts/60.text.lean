-- the text of the pad
def chr (p : Int → Int) (L k : Int) : Int := if k < L then p k else 0
def dgt (p : Int → Int) (L k : Int) : Int := if 48 ≤ chr p L k ∧ chr p L k ≤ 57 then chr p L k - 48 else -1
def wyc (p : Int → Int) (L k : Int) : Int := if chr p L k = 114 then 0 else if chr p L k = 117 then 1 else if chr p L k = 108 then 2 else if chr p L k = 100 then 3 else -1
def PT (p : Int → Int) (L : Int) : Prop := (0 ≤ L ∧ L ≤ 64) ∧ ∀ k, 0 ≤ k → k < L → 33 ≤ p k ∧ p k ≤ 126
theorem chr_rng {p : Int → Int} {L k : Int} (h : PT p L) (hk : 0 ≤ k) : (L ≤ k ∧ chr p L k = 0) ∨ (k < L ∧ 33 ≤ chr p L k ∧ chr p L k ≤ 126) := by
  unfold chr
  by_cases c : k < L
  · rw [if_pos c]
    exact Or.inr ⟨c, h.2 k hk c⟩
  · rw [if_neg c]
    exact Or.inl ⟨by omega, rfl⟩
theorem dgt_rng (p : Int → Int) (L k : Int) : (dgt p L k = -1 ∧ ¬ (48 ≤ chr p L k ∧ chr p L k ≤ 57)) ∨ ((48 ≤ chr p L k ∧ chr p L k ≤ 57) ∧ dgt p L k = chr p L k - 48) := by
  unfold dgt
  by_cases c : 48 ≤ chr p L k ∧ chr p L k ≤ 57
  · rw [if_pos c]; exact Or.inr ⟨c, rfl⟩
  · rw [if_neg c]; exact Or.inl ⟨rfl, c⟩
theorem dgt_in {p : Int → Int} {L k : Int} (h : PT p L) (hk : 0 ≤ k) (hd : dgt p L k ≠ -1) : k < L := by
  rcases dgt_rng p L k with ⟨a, _⟩ | ⟨a, _⟩
  · exact absurd a hd
  · rcases chr_rng h hk with ⟨b, c⟩ | ⟨b, _⟩
    · omega
    · exact b
theorem wyc_rng (p : Int → Int) (L k : Int) : -1 ≤ wyc p L k ∧ wyc p L k < 4 := by unfold wyc; grind
theorem wyc_in {p : Int → Int} {L k : Int} (h : wyc p L k ≠ -1) : k < L := by
  unfold wyc chr at h
  by_cases c : k < L
  · exact c
  · rw [if_neg c] at h
    exact absurd rfl h
/-- a number of two digits -/
def two (p : Int → Int) (L a hi : Int) : Prop := dgt p L (a + 1) ≠ -1 ∧ 0 < dgt p L a ∧ dgt p L a * 10 + dgt p L (a + 1) ≤ hi
noncomputable def snA (p : Int → Int) (L a hi : Int) : Int := @ite Int (two p L a hi) (Classical.propDecidable _) (a + 2) (a + 1)
noncomputable def snV (p : Int → Int) (L a hi : Int) : Int := @ite Int (two p L a hi) (Classical.propDecidable _) (dgt p L a * 10 + dgt p L (a + 1)) (dgt p L a)
theorem sn_2 {p : Int → Int} {L a hi : Int} (h : two p L a hi) : snA p L a hi = a + 2 ∧ snV p L a hi = dgt p L a * 10 + dgt p L (a + 1) := by
  unfold snA snV
  rw [if_pos h, if_pos h]
  exact ⟨rfl, rfl⟩
theorem sn_1 {p : Int → Int} {L a hi : Int} (h : ¬ two p L a hi) : snA p L a hi = a + 1 ∧ snV p L a hi = dgt p L a := by
  unfold snA snV
  rw [if_neg h, if_neg h]
  exact ⟨rfl, rfl⟩
theorem sn_rng (p : Int → Int) (L a hi : Int) : a + 1 ≤ snA p L a hi ∧ snA p L a hi ≤ a + 2 := by
  by_cases c : two p L a hi
  · have := (sn_2 c).1; omega
  · have := (sn_1 c).1; omega
theorem snV_rng {p : Int → Int} {L a hi : Int} (hh : 9 ≤ hi) (h : dgt p L a ≠ -1) : 0 ≤ snV p L a hi ∧ snV p L a hi ≤ hi := by
  have d1 := dgt_rng p L a
  have d2 := dgt_rng p L (a + 1)
  by_cases c : two p L a hi
  · rw [(sn_2 c).2]
    have := c.1
    have := c.2.2
    omega
  · rw [(sn_1 c).2]
    omega
/-- the number at a, ended by e, does not stand there; and where its fault is -/
def hdF (p : Int → Int) (L a hi e : Int) : Prop := dgt p L a = -1 ∨ chr p L (snA p L a hi) ≠ e
noncomputable def hdP (p : Int → Int) (L a hi : Int) : Int := if dgt p L a = -1 then a else snA p L a hi
-- the steps
abbrev TS : Type := Int × Int × (Int → Int)
def tmz (p : Int → Int) (L a : Int) : Int := if 2 ≤ dgt p L (a + 1) then dgt p L (a + 1) else 1
def tNext (p : Int → Int) (L : Int) (q : TS) : TS := (if 2 ≤ dgt p L (q.1 + 1) then q.1 + 2 else q.1 + 1, q.2.1 + tmz p L q.1, fun k => if q.2.1 ≤ k ∧ k < q.2.1 + tmz p L q.1 then wyc p L q.1 else q.2.2 k)
def tRun (p : Int → Int) (L : Int) : Nat → TS → Int × TS
  | 0, q => (0, q)
  | m + 1, q => if L ≤ q.1 then (if 0 < q.2.1 then 1 else 0, q) else if wyc p L q.1 = -1 then (0, q) else tRun p L m (tNext p L q)
theorem tRun_end {p : Int → Int} {L : Int} {m : Nat} {q : TS} (h : L ≤ q.1) : tRun p L (m + 1) q = (if 0 < q.2.1 then 1 else 0, q) := by
  unfold tRun
  rw [if_pos h]
theorem tRun_bad {p : Int → Int} {L : Int} {m : Nat} {q : TS} (h : ¬ L ≤ q.1) (hw : wyc p L q.1 = -1) : tRun p L (m + 1) q = (0, q) := by
  unfold tRun
  rw [if_neg h, if_pos hw]
theorem tRun_on {p : Int → Int} {L : Int} {m : Nat} {q : TS} (h : ¬ L ≤ q.1) (hw : wyc p L q.1 ≠ -1) : tRun p L (m + 1) q = tRun p L m (tNext p L q) := by
  show (if L ≤ q.1 then ((if 0 < q.2.1 then 1 else 0, q) : Int × TS) else if wyc p L q.1 = -1 then (0, q) else tRun p L m (tNext p L q)) = _
  rw [if_neg h, if_neg hw]
theorem tmz_rng (p : Int → Int) (L a : Int) : 1 ≤ tmz p L a ∧ tmz p L a ≤ 9 := by
  have := dgt_rng p L (a + 1)
  unfold tmz
  split <;> omega
/-- what holds of the steps read so far -/
def tI (L : Int) (q : TS) : Prop := (0 ≤ q.1 ∧ q.1 ≤ L) ∧ (0 ≤ q.2.1 ∧ q.2.1 ≤ 10 * q.1) ∧ ∀ k, 0 ≤ k → k < q.2.1 → 0 ≤ q.2.2 k ∧ q.2.2 k < 4
theorem tI_next {p : Int → Int} {L : Int} {q : TS} (hP : PT p L) (h : tI L q) (hl : q.1 < L) (hw : wyc p L q.1 ≠ -1) : tI L (tNext p L q) := by
  obtain ⟨⟨a1, a2⟩, ⟨b1, b2⟩, c⟩ := h
  have ht := tmz_rng p L q.1
  have hwr := wyc_rng p L q.1
  have hd : 2 ≤ dgt p L (q.1 + 1) → q.1 + 1 < L := fun z => dgt_in hP (by omega) (by omega)
  have e1 : (tNext p L q).1 = if 2 ≤ dgt p L (q.1 + 1) then q.1 + 2 else q.1 + 1 := rfl
  have e2 : (tNext p L q).2.1 = q.2.1 + tmz p L q.1 := rfl
  have e3 : ∀ k, (tNext p L q).2.2 k = if q.2.1 ≤ k ∧ k < q.2.1 + tmz p L q.1 then wyc p L q.1 else q.2.2 k := fun _ => rfl
  have a : q.1 + 1 ≤ (tNext p L q).1 ∧ (tNext p L q).1 ≤ L := by
    rw [e1]
    by_cases z : 2 ≤ dgt p L (q.1 + 1)
    · have := hd z
      rw [if_pos z]; omega
    · rw [if_neg z]; omega
  refine ⟨⟨by omega, a.2⟩, ⟨by rw [e2]; omega, by rw [e2]; omega⟩, fun k k0 k1 => ?_⟩
  rw [e2] at k1
  rw [e3]
  by_cases z : q.2.1 ≤ k ∧ k < q.2.1 + tmz p L q.1
  · rw [if_pos z]; omega
  · rw [if_neg z]; exact c k k0 (by omega)
theorem tI_run {p : Int → Int} {L : Int} (hP : PT p L) : ∀ (m : Nat) (q : TS), tI L q → tI L (tRun p L m q).2 ∧ ((tRun p L m q).1 = 0 ∨ ((tRun p L m q).1 = 1 ∧ 0 < (tRun p L m q).2.2.1))
  | 0, q, h => ⟨h, Or.inl rfl⟩
  | m + 1, q, h => by
    by_cases c : L ≤ q.1
    · rw [tRun_end c]
      refine ⟨h, ?_⟩
      by_cases z : 0 < q.2.1
      · rw [if_pos z]; exact Or.inr ⟨rfl, z⟩
      · rw [if_neg z]; exact Or.inl rfl
    · by_cases w : wyc p L q.1 = -1
      · rw [tRun_bad c w]
        exact ⟨h, Or.inl rfl⟩
      · rw [tRun_on c w]
        exact tI_run hP m _ (tI_next hP h (by omega) w)
section
variable {g : zGG} {Q : Int → zMem → Prop} {p : Int → Int} {L : Int}
/-- the class's pad holds the text -/
def TX (d : zMem) (p : Int → Int) (L : Int) : Prop := d 117 2 = L ∧ ∀ k, 0 ≤ k → k < L → d 118 k = p k
theorem TX_keep {d d' : zMem} (h : TX d p L) (h2 : d' 117 2 = d 117 2) (h6 : d' 118 = d 118) : TX d' p L := by
  unfold TX
  rw [h2, h6]
  exact h
theorem c_signAt {d : zMem} {x : Int} (hT : TX d p L) (hP : PT p L) (hx : 0 ≤ x ∧ x ≤ 2000) (h : Q (chr p L x) d) : Ev g M_X5_signAt FUL FUL [zR 117, zI x] d Q := by
  apply e_X5_signAt
  have hL := hP.1
  have hr : inR x := ⟨by omega, by omega⟩
  rw [hT.1]
  unfold chr at h
  refine ⟨hr, fun z => by omega, fun _ => ⟨⟨hr, ⟨by omega, by omega⟩⟩, fun q => ?_, fun q => ⟨hr, fun z => by omega, fun _ => ⟨⟨by omega, by omega⟩, ?_⟩⟩⟩⟩
  · rw [if_neg (by omega)] at h; exact h
  · rw [if_pos q] at h; rw [hT.2 x hx.1 q]; exact h
theorem c_digitAt {d : zMem} {x : Int} (hT : TX d p L) (hP : PT p L) (hx : 0 ≤ x ∧ x ≤ 2000) (h : Q (dgt p L x) d) : Ev g M_X5_digitAt FUL FUL [zR 117, zI x] d Q := by
  apply e_X5_digitAt
  apply c_signAt hT hP hx
  have hc := chr_rng hP hx.1
  have hr : inR (chr p L x) := by constructor <;> omega
  unfold dgt at h
  refine ⟨hr, fun q => ?_, fun q => ⟨hr, fun q2 => ?_, fun q2 => ?_⟩⟩
  · rw [if_neg (by omega)] at h; exact h
  · rw [if_neg (by omega)] at h; exact h
  · rw [if_pos ⟨q, q2⟩] at h; exact h
theorem c_wayAt {d : zMem} {x : Int} (hT : TX d p L) (hP : PT p L) (hx : 0 ≤ x ∧ x ≤ 2000) (h : Q (wyc p L x) d) : Ev g M_X5_wayAt FUL FUL [zR 117, zI x] d Q := by
  apply e_X5_wayAt
  apply c_signAt hT hP hx
  have hc := chr_rng hP hx.1
  have hr : inR (chr p L x) := by constructor <;> omega
  unfold wyc at h
  generalize chr p L x = c at *
  refine ⟨hr, fun q => ?_, fun q => ?_, fun q => ?_, fun q => ?_, fun q => ?_⟩
  · rw [if_neg (show ¬ c = 114 by omega), if_neg (show ¬ c = 117 by omega), if_neg (show ¬ c = 108 by omega), if_neg (show ¬ c = 100 by omega)] at h; exact h
  · rw [if_neg (show ¬ c = 114 by omega), if_neg (show ¬ c = 117 by omega), if_neg (show ¬ c = 108 by omega), if_pos q] at h; exact h
  · rw [if_neg (show ¬ c = 114 by omega), if_neg (show ¬ c = 117 by omega), if_pos q] at h; exact h
  · rw [if_pos q] at h; exact h
  · rw [if_neg (show ¬ c = 114 by omega), if_pos q] at h; exact h
/-- only place j of cell k may have changed -/
def but1 (d0 d : zMem) (k : Nat) (j : Int) : Prop := but d0 d k ∧ ∀ i, i ≠ j → d k i = d0 k i
theorem but1_mu {d0 d : zMem} {k : Nat} {j v : Int} (h : but1 d0 d k j) : but1 d0 (mu d k j v) k j := ⟨but_mu h.1, fun i hi => by rw [mu_ni hi]; exact h.2 i hi⟩
theorem but1_rfl {d : zMem} {k : Nat} {j : Int} : but1 d d k j := ⟨but_rfl, fun _ _ => rfl⟩
theorem c_scanNumber {d : zMem} {a hi e : Int} (hT : TX d p L) (hP : PT p L) (ha : d 117 3 = a) (har : 0 ≤ a ∧ a ≤ 1000) (hh : 9 ≤ hi ∧ hi ≤ 100) (he : inR e)
    (hF : hdF p L a hi e → ∀ d', but1 d d' 117 3 → d' 117 3 = hdP p L a hi → Q (-1) d') (hO : ¬ hdF p L a hi e → ∀ d', but1 d d' 117 3 → d' 117 3 = snA p L a hi + 1 → Q (snV p L a hi) d') : Ev g M_X5_scanNumber FUL FUL [zR 117, zI hi, zI e] d Q := by
  have d1r := dgt_rng p L a
  have d2r := dgt_rng p L (a + 1)
  have sr := sn_rng p L a hi
  apply e_X5_scanNumber
  rw [ha]
  apply c_digitAt hT hP ⟨by omega, by omega⟩
  refine ⟨by constructor <;> omega, fun q => ?_, fun q => hF (Or.inl q) d but1_rfl (by unfold hdP; rw [if_pos q]; exact ha)⟩
  intro d2 hd2
  have b2 : but1 d d2 117 3 := hd2 ▸ but1_mu but1_rfl
  have a2 : d2 117 3 = a + 1 := by rw [hd2, mu_get, ha]
  have T2 : TX d2 p L := TX_keep hT (b2.2 2 (by omega)) (b2.1 118 (by omega))
  rw [ha]
  apply c_digitAt T2 hP ⟨by omega, by omega⟩
  rw [a2]
  have one : ¬ two p L a hi → Ev g M_X5_signAt FUL FUL [zR 117, zI (a + 1)] d2 (fun v3 d4 => ((inR v3 ∧ inR e) ∧ (v3 = e → ∀ d5, d5 = mu d4 117 3 (d4 117 3 + 1) → Q (dgt p L a) d5) ∧ (v3 ≠ e → Q (-1) d4))) := by
    intro hn
    have T3 : TX d2 p L := T2
    apply c_signAt T3 hP ⟨by omega, by omega⟩
    have hc := chr_rng hP (k := a + 1) (by omega)
    have hA := (sn_1 hn).1
    refine ⟨⟨by constructor <;> omega, he⟩, fun z d5 hd5 => ?_, fun z => ?_⟩
    · rw [← (sn_1 hn).2]
      exact hO (fun w => by rcases w with w | w; exact q w; exact w (by rw [hA]; exact z)) d5 (hd5 ▸ but1_mu b2) (by rw [hd5, mu_get, hA, a2])
    · exact hF (Or.inr (by rw [hA]; exact z)) d2 b2 (by unfold hdP; rw [if_neg q, a2, hA])
  refine ⟨by constructor <;> omega, fun q2 => one (fun w => w.1 q2), fun q2 => ⟨by constructor <;> omega, fun q3 => one (fun w => by have := w.2.1; omega), fun q3 => ⟨⟨by constructor <;> omega, by constructor <;> omega⟩, fun q4 => one (fun w => by have := w.2.2; omega), fun q4 => ?_⟩⟩⟩
  intro d10 hd10
  have tw : two p L a hi := ⟨q2, q3, q4⟩
  have a10 : d10 117 3 = a + 1 + 1 := by rw [hd10, mu_get]
  have b10 : but1 d d10 117 3 := hd10 ▸ but1_mu b2
  have T10 : TX d10 p L := TX_keep hT (b10.2 2 (by omega)) (b10.1 118 (by omega))
  apply c_signAt T10 hP ⟨by omega, by omega⟩
  have hc := chr_rng hP (k := a + 1 + 1) (by omega)
  have hA : snA p L a hi = a + 1 + 1 := by rw [(sn_2 tw).1]; omega
  refine ⟨⟨by constructor <;> omega, he⟩, fun z d5 hd5 => ?_, fun z => ?_⟩
  · rw [← (sn_2 tw).2]
    exact hO (fun w => by rcases w with w | w; exact q w; exact w (by rw [hA]; exact z)) d5 (hd5 ▸ but1_mu b10) (by rw [hd5, mu_get, hA, a10])
  · exact hF (Or.inr (by rw [hA]; exact z)) d10 b10 (by unfold hdP; rw [if_neg q, a10, hA])
end
