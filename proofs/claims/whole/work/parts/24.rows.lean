-- rows: what is done to them
def itr (f : Row → Int → Row) : Nat → Int → Row → Row
  | 0, _, s => s
  | n + 1, k, s => itr f n (k + 1) (f s k)
theorem itr_inv {f : Row → Int → Row} {P : Row → Prop} (hf : ∀ t k, P t → P (f t k)) : ∀ (n : Nat) (k : Int) (s : Row), P s → P (itr f n k s)
  | 0, _, _, h => h
  | n + 1, k, s, h => itr_inv hf n (k + 1) (f s k) (hf s k h)
def bk (s : Row) (f k : Int) : Int := stp (s (5 + k)) (way s (f - 1))
def bd (s : Row) (f l : Int) : Prop := 1 ≤ f ∧ f < l ∧ l < s 4 - 1 ∧ (∀ k, f ≤ k → k < l → way s k = way s f) ∧ way s l ≠ way s f ∧ way s (f - 1) ≠ way s f ∧ way s l = (way s (f - 1) + 2) % 4
def firm (s : Row) (f l : Int) : Prop := ∃ k, f ≤ k ∧ k ≤ l ∧ (bk s f k = -1 ∨ s (395 + bk s f k) = 1 ∨ on s (bk s f k))
def grows (s : Row) (f l : Int) : Prop := s 4 ≤ 148 ∧ ¬ firm s f l ∧ ∀ k, f ≤ k → k ≤ l → s 1 ≤ s (155 + bk s f k)
theorem bd_uniq {s : Row} {f l l' : Int} (h : bd s f l) (h' : bd s f l') : l = l' := by
  obtain ⟨h1, h2, h3, h4, h5, h6, h7⟩ := h
  obtain ⟨g1, g2, g3, g4, g5, g6, g7⟩ := h'
  rcases (show l < l' ∨ l = l' ∨ l' < l by omega) with q | q | q
  · exact absurd (g4 l (by omega) q) h5
  · exact q
  · exact absurd (h4 l' (by omega) q) g5
/-- rows that are alike on the course's part -/
def same (s t : Row) (lo hi : Int) : Prop := ∀ k, lo ≤ k → k < hi → t k = s k
theorem way_same {s t : Row} (h : same s t 4 155) {i : Int} (h0 : 0 ≤ i) (h1 : i < 149) : way t i = way s i := by
  unfold way
  rw [h (5 + i + 1) (by omega) (by omega), h (5 + i) (by omega) (by omega)]
theorem bk_same {s t : Row} (h : same s t 4 155) {f k : Int} (h0 : 1 ≤ f) (h1 : f < 150) (h2 : 0 ≤ k) (h3 : k < 150) : bk t f k = bk s f k := by
  unfold bk
  rw [way_same h (by omega) (by omega), h (5 + k) (by omega) (by omega)]
theorem on_same {s t : Row} (h : same s t 4 155) (h4 : s 4 ≤ 150) (c : Int) : on t c ↔ on s c := by
  unfold on
  rw [h 4 (by omega) (by omega)]
  constructor
  · rintro ⟨i, h0, h1, h2⟩
    exact ⟨i, h0, h1, by rw [← h (5 + i) (by omega) (by omega)]; exact h2⟩
  · rintro ⟨i, h0, h1, h2⟩
    exact ⟨i, h0, h1, by rw [h (5 + i) (by omega) (by omega)]; exact h2⟩
theorem num_same {s t : Row} (h : same s t 4 155) (h4 : s 4 ≤ 150) (hs : crs s) (c : Int) : num t c = num s c := by
  by_cases hc : on s c
  · have h1 := num_on hc
    have h2 := num_on ((on_same h h4 c).mpr hc)
    rw [h 4 (by omega) (by omega)] at h2
    rw [h (5 + num t c) (by omega) (by omega)] at h2
    exact hs.2.2.1 _ _ h2.1 h2.2.1 h1.1 h1.2.1 (by rw [h1.2.2, h2.2.2])
  · rw [num_off hc, num_off (fun q => hc ((on_same h h4 c).mp q))]
theorem crs_same {s t : Row} (h : same s t 4 155) (hs : crs s) : crs t := by
  obtain ⟨h1, h2, h3, h4⟩ := hs
  have e4 := h 4 (by omega) (by omega)
  refine ⟨by rw [e4]; exact h1, fun i h0 hi => ?_, fun i j h0 hi h0' hj he => ?_, fun i h0 hi => ?_⟩
  · rw [e4] at hi
    rw [h (5 + i) (by omega) (by omega)]
    exact h2 i h0 hi
  · rw [e4] at hi hj
    rw [h (5 + i) (by omega) (by omega), h (5 + j) (by omega) (by omega)] at he
    exact h3 i j h0 hi h0' hj he
  · rw [e4] at hi
    rw [h (5 + i) (by omega) (by omega), h (5 + i + 1) (by omega) (by omega)]
    exact h4 i h0 hi
theorem bd_same {s t : Row} (h : same s t 4 155) (h4 : s 4 ≤ 150) {f l : Int} : bd t f l ↔ bd s f l := by
  have key : ∀ {s t : Row}, same s t 4 155 → s 4 ≤ 150 → bd s f l → bd t f l := by
    intro s t h h4 ⟨g1, g2, g3, g4, g5, g6, g7⟩
    have e4 := h 4 (by omega) (by omega)
    have w : ∀ k, 0 ≤ k → k < 149 → way t k = way s k := fun k q1 q2 => way_same h q1 q2
    refine ⟨g1, g2, by rw [e4]; exact g3, fun k q1 q2 => ?_, ?_, ?_, ?_⟩
    · rw [w k (by omega) (by omega), w f (by omega) (by omega)]; exact g4 k q1 q2
    · rw [w l (by omega) (by omega), w f (by omega) (by omega)]; exact g5
    · rw [w (f - 1) (by omega) (by omega), w f (by omega) (by omega)]; exact g6
    · rw [w l (by omega) (by omega), w (f - 1) (by omega) (by omega)]; exact g7
  exact ⟨key (fun k q1 q2 => (h k q1 q2).symm) (by rw [h 4 (by omega) (by omega)]; exact h4), key h h4⟩
-- oxbows
def f_drop (s : Row) (o : Int) : Row := fun k =>
  if 1115 ≤ k ∧ k < 1355 then (if s k = o then -6 else if o < s k then s k - 1 else s k)
  else if k = 1355 then s 1355 - 1
  else if 1356 + 3 * o ≤ k ∧ k < 1356 + 3 * (s 1355 - 1) then s (k + 3) else s k
def dropAt (s : Row) (c : Int) : Row := if s (1115 + c) = -6 then s else f_drop s (s (1115 + c))
def mix (A t : Row) : Row := fun k => if k < 155 then A k else t k
theorem mix_drop {A t : Row} {o : Int} (ho : 0 ≤ o) : f_drop (mix A t) o = mix A (f_drop t o) := by
  funext k
  unfold f_drop mix
  grind
theorem mix_dropAt {A t : Row} {c : Int} (hc : 0 ≤ c) (ho : t (1115 + c) = -6 ∨ 0 ≤ t (1115 + c)) : dropAt (mix A t) c = mix A (dropAt t c) := by
  have e : mix A t (1115 + c) = t (1115 + c) := by unfold mix; rw [if_neg (by omega)]
  unfold dropAt
  rw [e]
  split
  · rfl
  · rw [mix_drop (by omega)]
def IX (s : Row) : Prop := (0 ≤ s 1355 ∧ s 1355 ≤ 12) ∧ (∀ c, 0 ≤ c → c < 240 → s (1115 + c) = -6 ∨ (0 ≤ s (1115 + c) ∧ s (1115 + c) < s 1355)) ∧ (∀ o, 0 ≤ o → o < s 1355 → (0 ≤ s (1356 + 3 * o + 1) ∧ s (1356 + 3 * o + 1) ≤ 50) ∧ (0 ≤ s (1356 + 3 * o + 2) ∧ s (1356 + 3 * o + 2) < 240) ∧ inR (s (1356 + 3 * o)))
theorem IX_drop {s : Row} {o : Int} (h : IX s) (h0 : 0 ≤ o) (h1 : o < s 1355) : IX (f_drop s o) := by
  obtain ⟨g1, g2, g3⟩ := h
  have e : f_drop s o 1355 = s 1355 - 1 := by unfold f_drop; grind
  refine ⟨by rw [e]; omega, fun c hc hc2 => ?_, fun p hp hp2 => ?_⟩
  · have := g2 c hc hc2
    rw [e]
    unfold f_drop
    grind
  · rw [e] at hp2
    by_cases hpo : o ≤ p
    · have e0 : f_drop s o (1356 + 3 * p) = s (1356 + 3 * (p + 1)) := by unfold f_drop; rw [if_neg (by omega), if_neg (by omega), if_pos (by omega)]; congr 1; omega
      have e1 : f_drop s o (1356 + 3 * p + 1) = s (1356 + 3 * (p + 1) + 1) := by unfold f_drop; rw [if_neg (by omega), if_neg (by omega), if_pos (by omega)]; congr 1; omega
      have e2 : f_drop s o (1356 + 3 * p + 2) = s (1356 + 3 * (p + 1) + 2) := by unfold f_drop; rw [if_neg (by omega), if_neg (by omega), if_pos (by omega)]; congr 1; omega
      rw [e0, e1, e2]
      exact g3 (p + 1) (by omega) (by omega)
    · have e0 : f_drop s o (1356 + 3 * p) = s (1356 + 3 * p) := by unfold f_drop; rw [if_neg (by omega), if_neg (by omega), if_neg (by omega)]
      have e1 : f_drop s o (1356 + 3 * p + 1) = s (1356 + 3 * p + 1) := by unfold f_drop; rw [if_neg (by omega), if_neg (by omega), if_neg (by omega)]
      have e2 : f_drop s o (1356 + 3 * p + 2) = s (1356 + 3 * p + 2) := by unfold f_drop; rw [if_neg (by omega), if_neg (by omega), if_neg (by omega)]
      rw [e0, e1, e2]
      exact g3 p hp (by omega)
theorem IX_dropAt {s : Row} {c : Int} (h : IX s) (hc : 0 ≤ c ∧ c < 240) : IX (dropAt s c) := by
  unfold dropAt
  have := h.2.1 c hc.1 hc.2
  split
  · exact h
  · exact IX_drop h (by omega) (by omega)
theorem f_drop_out {s : Row} {o k : Int} (ho : 0 ≤ o) (h1 : o < s 1355) (h2 : s 1355 ≤ 12) (hk : k < 1115 ∨ 1395 ≤ k) : f_drop s o k = s k := by
  unfold f_drop
  rw [if_neg (by omega), if_neg (by omega), if_neg (by omega)]
theorem dropAt_out {s : Row} {c k : Int} (h : IX s) (hc : 0 ≤ c ∧ c < 240) (hk : k < 1115 ∨ 1395 ≤ k) : dropAt s c k = s k := by
  unfold dropAt
  have := h.2.1 c hc.1 hc.2
  split
  · rfl
  · exact f_drop_out (by omega) (by omega) h.1.2 hk
-- a cut
def btw (s : Row) (i j c : Int) : Prop := ∃ k, i < k ∧ k < j ∧ s (5 + k) = c
def f_full (s : Row) : Row := if s 1355 = 12 then f_drop s 0 else s
noncomputable def f_cut (s : Row) (i j : Int) : Row := fun k =>
  if k = 4 then s 4 - (j - i - 1)
  else if 5 + i < k ∧ k < 5 + (s 4 - (j - i - 1)) then s (k + (j - i - 1))
  else if 1115 ≤ k ∧ k < 1355 then @ite Int (btw s i j (k - 1115)) (Classical.propDecidable _) (f_full s 1355) (f_full s k)
  else if k = 1355 then f_full s 1355 + 1
  else if k = 1356 + 3 * f_full s 1355 then j - i - 1
  else if k = 1356 + 3 * f_full s 1355 + 1 then 0
  else if k = 1356 + 3 * f_full s 1355 + 2 then s (5 + i + 1)
  else if k = 1405 then s 1405 + 1
  else f_full s k
theorem IX_full {s : Row} (h : IX s) : IX (f_full s) ∧ f_full s 1355 ≤ 11 := by
  unfold f_full
  split
  · rename_i e
    refine ⟨IX_drop h (by omega) (by omega), ?_⟩
    unfold f_drop
    rw [if_neg (by omega), if_pos rfl]
    omega
  · have := h.1
    exact ⟨h, by omega⟩
theorem f_full_out {s : Row} (h : IX s) {k : Int} (hk : k < 1115 ∨ 1395 ≤ k) : f_full s k = s k := by
  unfold f_full
  split
  · exact f_drop_out (by omega) (by omega) h.1.2 hk
  · rfl
def neck (s : Row) (i j : Int) : Prop := 0 ≤ i ∧ i + 3 ≤ j ∧ j < s 4 ∧ nbr (s (5 + i)) (s (5 + j))
theorem cut_at {s : Row} {i j : Int} (hX : IX s) (hn : neck s i j) (h150 : s 4 ≤ 150) : f_cut s i j 4 = s 4 - (j - i - 1) ∧ (∀ m, 0 ≤ m → m ≤ i → f_cut s i j (5 + m) = s (5 + m)) ∧ (∀ m, i < m → m < s 4 - (j - i - 1) → f_cut s i j (5 + m) = s (5 + m + (j - i - 1))) := by
  obtain ⟨n1, n2, n3, n4⟩ := hn
  have hf := IX_full hX
  have hf0 := hf.1.1
  refine ⟨by unfold f_cut; rw [if_pos rfl], fun m a b => ?_, fun m a b => ?_⟩
  · have := f_full_out hX (k := 5 + m) (by omega)
    unfold f_cut
    rw [if_neg (by omega), if_neg (by omega), if_neg (by omega), if_neg (by omega), if_neg (by omega), if_neg (by omega), if_neg (by omega), if_neg (by omega), this]
  · unfold f_cut
    rw [if_neg (by omega), if_pos (by omega)]
theorem cut_crs {s : Row} {i j : Int} (hs : crs s) (hX : IX s) (hn : neck s i j) : crs (f_cut s i j) := by
  obtain ⟨e4, lo, hi⟩ := cut_at hX hn hs.1.2
  obtain ⟨h1, h2, h3, h4⟩ := hs
  obtain ⟨n1, n2, n3, n4⟩ := hn
  have at' : ∀ m, 0 ≤ m → m < s 4 - (j - i - 1) → ∃ m', 0 ≤ m' ∧ m' < s 4 ∧ f_cut s i j (5 + m) = s (5 + m') ∧ ((m ≤ i ∧ m' = m) ∨ (i < m ∧ m' = m + (j - i - 1))) := by
    intro m a b
    rcases (show m ≤ i ∨ i < m by omega) with q | q
    · exact ⟨m, a, by omega, lo m a q, Or.inl ⟨q, rfl⟩⟩
    · exact ⟨m + (j - i - 1), by omega, by omega, by rw [hi m q b]; congr 1; omega, Or.inr ⟨q, rfl⟩⟩
  refine ⟨by rw [e4]; omega, fun m a b => ?_, fun m m' a b a' b' he => ?_, fun m a b => ?_⟩
  · rw [e4] at b
    obtain ⟨m', g1, g2, g3, -⟩ := at' m a b
    rw [g3]; exact h2 m' g1 g2
  · rw [e4] at b b'
    obtain ⟨p, g1, g2, g3, g4⟩ := at' m a b
    obtain ⟨q, k1, k2, k3, k4⟩ := at' m' a' b'
    rw [g3, k3] at he
    have := h3 p q g1 g2 k1 k2 he
    omega
  · rw [e4] at b
    rcases (show m < i ∨ m = i ∨ i < m by omega) with q | q | q
    · rw [lo m a (by omega), show 5 + m + 1 = 5 + (m + 1) by omega, lo (m + 1) (by omega) (by omega), show 5 + (m + 1) = 5 + m + 1 by omega]
      exact h4 m a (by omega)
    · subst q
      rw [lo m a (by omega), show 5 + m + 1 = 5 + (m + 1) by omega, hi (m + 1) (by omega) (by omega), show 5 + (m + 1) + (j - m - 1) = 5 + j by omega]
      exact n4
    · rw [hi m q (by omega), show 5 + m + 1 = 5 + (m + 1) by omega, hi (m + 1) (by omega) (by omega), show 5 + m + (j - i - 1) = 5 + (m + (j - i - 1)) by omega, show 5 + (m + 1) + (j - i - 1) = 5 + (m + (j - i - 1)) + 1 by omega]
      exact h4 _ (by omega) (by omega)
-- a growth
def crsG (s : Row) (f l : Int) : Row := fun k =>
  if k = 4 then s 4 + 2
  else if 5 + f < k ∧ k ≤ 5 + l + 1 then bk s f (k - 6)
  else if 5 + l + 2 ≤ k ∧ k < 5 + s 4 + 2 then s (k - 2) else s k
def gz (s : Row) (f : Int) (t : Row) (k : Int) : Row := fun i => if i = 155 + bk s f k then 0 else dropAt t (bk s f k) i
def gRun (s : Row) (f l : Int) : Row := itr (gz s f) (l + 1 - f).toNat f s
def f_grow (s : Row) (f l : Int) : Row := fun k => if k = 1406 then s 1406 + 1 else mix (crsG s f l) (gRun s f l) k
theorem bk_in {s : Row} {f l k : Int} (h : ¬ firm s f l) (h0 : f ≤ k) (h1 : k ≤ l) : (0 ≤ bk s f k ∧ bk s f k < 240) ∧ ¬ on s (bk s f k) ∧ s (395 + bk s f k) ≠ 1 := by
  have hr := stp_range (s (5 + k)) (way s (f - 1))
  refine ⟨?_, fun q => h ⟨k, h0, h1, Or.inr (Or.inr q)⟩, fun q => h ⟨k, h0, h1, Or.inr (Or.inl q)⟩⟩
  have : bk s f k ≠ -1 := fun q => h ⟨k, h0, h1, Or.inl q⟩
  unfold bk at this ⊢
  omega
theorem stp_comm {c u w : Int} (hc : 0 ≤ c ∧ c < 240) (hu : 0 ≤ u ∧ u < 4) (hw : 0 ≤ w ∧ w < 4) (h1 : stp c u ≠ -1) (h2 : stp c w ≠ -1) (h3 : stp (stp c u) w ≠ -1) : stp (stp c w) u = stp (stp c u) w := by
  have a : u = 0 ∨ u = 1 ∨ u = 2 ∨ u = 3 := by omega
  have b : w = 0 ∨ w = 1 ∨ w = 2 ∨ w = 3 := by omega
  rcases a with rfl | rfl | rfl | rfl <;> rcases b with rfl | rfl | rfl | rfl <;> first | rfl | (unfold stp at *; grind)
theorem way_stp {s : Row} (hs : crs s) {i : Int} (h0 : 0 ≤ i) (h1 : i + 1 < s 4) : stp (s (5 + i)) (way s i) = s (5 + i + 1) := (hs.2.2.2 i h0 h1).1
theorem crsG_at {s : Row} {f l : Int} (h0 : 1 ≤ f) (h1 : f < l) (h2 : l < s 4 - 1) : crsG s f l 4 = s 4 + 2 ∧ (∀ m, 0 ≤ m → m ≤ f → crsG s f l (5 + m) = s (5 + m)) ∧ (∀ m, f < m → m ≤ l + 1 → crsG s f l (5 + m) = bk s f (m - 1)) ∧ (∀ m, l + 2 ≤ m → m < s 4 + 2 → crsG s f l (5 + m) = s (5 + (m - 2))) := by
  refine ⟨by unfold crsG; rw [if_pos rfl], fun m a b => ?_, fun m a b => ?_, fun m a b => ?_⟩
  · unfold crsG; rw [if_neg (by omega), if_neg (by omega), if_neg (by omega)]
  · unfold crsG; rw [if_neg (by omega), if_pos (by omega)]; congr 1; omega
  · unfold crsG; rw [if_neg (by omega), if_neg (by omega), if_pos (by omega)]; congr 1; omega
theorem crsG_crs {s : Row} {f l : Int} (hs : crs s) (hb : bd s f l) (hf : ¬ firm s f l) (h148 : s 4 ≤ 148) : crs (crsG s f l) := by
  obtain ⟨b1, b2, b3, b4, b5, b6, b7⟩ := hb
  obtain ⟨e4, lo, mi, hi⟩ := crsG_at b1 b2 b3
  have hs' := hs
  obtain ⟨h1, h2, h3, h4⟩ := hs
  have wr := way_range s (f - 1)
  have dis : ∀ k k', f ≤ k → k ≤ l → f ≤ k' → k' ≤ l → bk s f k = bk s f k' → k = k' := by
    intro k k' a b a' b' he
    have := (bk_in hf a b).1
    exact h3 k k' (by omega) (by omega) (by omega) (by omega) (stp_inj2 (h2 k (by omega) (by omega)) (h2 k' (by omega) (by omega)) wr (by unfold bk at this; omega) he)
  refine ⟨by rw [e4]; omega, fun m a b => ?_, fun m m' a b a' b' he => ?_, fun m a b => ?_⟩
  · rw [e4] at b
    rcases (show m ≤ f ∨ (f < m ∧ m ≤ l + 1) ∨ l + 2 ≤ m by omega) with q | q | q
    · rw [lo m a q]; exact h2 m a (by omega)
    · rw [mi m q.1 q.2]; exact (bk_in hf (by omega) (by omega)).1
    · rw [hi m q b]; exact h2 _ (by omega) (by omega)
  · rw [e4] at b b'
    have off : ∀ k i, f ≤ k → k ≤ l → 0 ≤ i → i < s 4 → bk s f k ≠ s (5 + i) := fun k i q1 q2 q3 q4 e => (bk_in hf q1 q2).2.1 ⟨i, q3, q4, e.symm⟩
    rcases (show m ≤ f ∨ (f < m ∧ m ≤ l + 1) ∨ l + 2 ≤ m by omega) with q | q | q <;> rcases (show m' ≤ f ∨ (f < m' ∧ m' ≤ l + 1) ∨ l + 2 ≤ m' by omega) with q' | q' | q'
    · rw [lo m a q, lo m' a' q'] at he
      exact h3 _ _ a (by omega) a' (by omega) he
    · rw [lo m a q, mi m' q'.1 q'.2] at he
      exact absurd he.symm (off _ _ (by omega) (by omega) a (by omega))
    · rw [lo m a q, hi m' q' b'] at he
      have := h3 _ _ a (by omega) (by omega) (by omega) he
      omega
    · rw [mi m q.1 q.2, lo m' a' q'] at he
      exact absurd he (off _ _ (by omega) (by omega) a' (by omega))
    · rw [mi m q.1 q.2, mi m' q'.1 q'.2] at he
      have := dis _ _ (by omega) (by omega) (by omega) (by omega) he
      omega
    · rw [mi m q.1 q.2, hi m' q' b'] at he
      exact absurd he (off _ _ (by omega) (by omega) (by omega) (by omega))
    · rw [hi m q b, lo m' a' q'] at he
      have := h3 _ _ (by omega) (by omega) a' (by omega) he
      omega
    · rw [hi m q b, mi m' q'.1 q'.2] at he
      exact absurd he.symm (off _ _ (by omega) (by omega) (by omega) (by omega))
    · rw [hi m q b, hi m' q' b'] at he
      have := h3 _ _ (by omega) (by omega) (by omega) (by omega) he
      omega
  · rw [e4] at b
    rw [show 5 + m + 1 = 5 + (m + 1) by omega]
    rcases (show m < f ∨ m = f ∨ (f < m ∧ m ≤ l) ∨ m = l + 1 ∨ l + 2 ≤ m by omega) with q | q | q | q | q
    · rw [lo m a (by omega), lo (m + 1) (by omega) (by omega), show 5 + (m + 1) = 5 + m + 1 by omega]
      exact h4 m a (by omega)
    · subst q
      rw [lo m a (by omega), mi (m + 1) (by omega) (by omega), show m + 1 - 1 = m by omega]
      have := (bk_in hf (k := m) (by omega) (by omega)).1
      exact nbr_of wr (by unfold bk at this; omega)
    · rw [mi m q.1 (by omega), mi (m + 1) (by omega) (by omega), show m + 1 - 1 = m by omega]
      have k1 := (bk_in hf (k := m - 1) (by omega) (by omega)).1
      have k2 := (bk_in hf (k := m) (by omega) (by omega)).1
      have hst := way_stp hs' (i := m - 1) (by omega) (by omega)
      rw [show 5 + (m - 1) + 1 = 5 + m by omega] at hst
      have hcell := h2 m (by omega) (by omega)
      unfold bk at k1 k2 ⊢
      rw [← hst] at k2 ⊢
      have hcm := stp_comm (h2 (m - 1) (by omega) (by omega)) (way_range s (m - 1)) wr (by rw [hst]; omega) (by omega) (by omega)
      rw [← hcm]
      exact nbr_of (way_range s (m - 1)) (by rw [hcm]; omega)
    · subst q
      rw [mi (l + 1) (by omega) (by omega), hi (l + 1 + 1) (by omega) (by omega), show l + 1 - 1 = l by omega, show l + 1 + 1 - 2 = l by omega]
      have := (bk_in hf (k := l) (by omega) (by omega)).1
      exact nbr_symm (h2 l (by omega) (by omega)) (nbr_of wr (by unfold bk at this; omega))
    · rw [hi m q (by omega), hi (m + 1) (by omega) (by omega), show 5 + (m + 1 - 2) = 5 + (m - 2) + 1 by omega]
      exact h4 _ (by omega) (by omega)
