-- STATIC FACTS: rivers, methods, words
def FUL : zPhi := (166, fun _ _ => true)
def isRiv (a : Nat) : Prop := a = 1 ∨ a = 15 ∨ a = 33 ∨ a = 47 ∨ a = 61 ∨ a = 75 ∨ a = 89 ∨ a = 103 ∨ a = 125 ∨ a = 139
def isBd (a : Nat) : Prop := a = 121 ∨ a = 123
def isNk (a : Nat) : Prop := a = 122 ∨ a = 124
theorem rl0 {a : Nat} (h : isRiv a) : LAY (a) = (0, 7) := by rcases h with rfl | rfl | rfl | rfl | rfl | rfl | rfl | rfl | rfl | rfl <;> decide +kernel
theorem rlt0 {a : Nat} (h : isRiv a) : a < 166 := by rcases h with rfl | rfl | rfl | rfl | rfl | rfl | rfl | rfl | rfl | rfl <;> decide
theorem hlt0 {a n : Nat} (h : a + 4 < n) : a < n := by omega
theorem rl1 {a : Nat} (h : isRiv a) : LAY (a + 1) = (1, 4) := by rcases h with rfl | rfl | rfl | rfl | rfl | rfl | rfl | rfl | rfl | rfl <;> decide +kernel
theorem rlt1 {a : Nat} (h : isRiv a) : a + 1 < 166 := by rcases h with rfl | rfl | rfl | rfl | rfl | rfl | rfl | rfl | rfl | rfl <;> decide
theorem hlt1 {a n : Nat} (h : a + 4 < n) : a + 1 < n := by omega
theorem rl2 {a : Nat} (h : isRiv a) : LAY (a + 2) = (0, 1) := by rcases h with rfl | rfl | rfl | rfl | rfl | rfl | rfl | rfl | rfl | rfl <;> decide +kernel
theorem rlt2 {a : Nat} (h : isRiv a) : a + 2 < 166 := by rcases h with rfl | rfl | rfl | rfl | rfl | rfl | rfl | rfl | rfl | rfl <;> decide
theorem hlt2 {a n : Nat} (h : a + 4 < n) : a + 2 < n := by omega
theorem rl3 {a : Nat} (h : isRiv a) : LAY (a + 3) = (1, 150) := by rcases h with rfl | rfl | rfl | rfl | rfl | rfl | rfl | rfl | rfl | rfl <;> decide +kernel
theorem rlt3 {a : Nat} (h : isRiv a) : a + 3 < 166 := by rcases h with rfl | rfl | rfl | rfl | rfl | rfl | rfl | rfl | rfl | rfl <;> decide
theorem hlt3 {a n : Nat} (h : a + 4 < n) : a + 3 < n := by omega
theorem rl4 {a : Nat} (h : isRiv a) : LAY (a + 4) = (1, 240) := by rcases h with rfl | rfl | rfl | rfl | rfl | rfl | rfl | rfl | rfl | rfl <;> decide +kernel
theorem rlt4 {a : Nat} (h : isRiv a) : a + 4 < 166 := by rcases h with rfl | rfl | rfl | rfl | rfl | rfl | rfl | rfl | rfl | rfl <;> decide
theorem hlt4 {a n : Nat} (h : a + 4 < n) : a + 4 < n := by omega
theorem rl5 {a : Nat} (h : isRiv a) : LAY (a + 5) = (0, 4) := by rcases h with rfl | rfl | rfl | rfl | rfl | rfl | rfl | rfl | rfl | rfl <;> decide +kernel
theorem rlt5 {a : Nat} (h : isRiv a) : a + 5 < 166 := by rcases h with rfl | rfl | rfl | rfl | rfl | rfl | rfl | rfl | rfl | rfl <;> decide
theorem hlt5 {a n : Nat} (h : a + 9 < n) : a + 5 < n := by omega
theorem rl6 {a : Nat} (h : isRiv a) : LAY (a + 6) = (1, 240) := by rcases h with rfl | rfl | rfl | rfl | rfl | rfl | rfl | rfl | rfl | rfl <;> decide +kernel
theorem rlt6 {a : Nat} (h : isRiv a) : a + 6 < 166 := by rcases h with rfl | rfl | rfl | rfl | rfl | rfl | rfl | rfl | rfl | rfl <;> decide
theorem hlt6 {a n : Nat} (h : a + 9 < n) : a + 6 < n := by omega
theorem rl7 {a : Nat} (h : isRiv a) : LAY (a + 7) = (1, 12) := by rcases h with rfl | rfl | rfl | rfl | rfl | rfl | rfl | rfl | rfl | rfl <;> decide +kernel
theorem rlt7 {a : Nat} (h : isRiv a) : a + 7 < 166 := by rcases h with rfl | rfl | rfl | rfl | rfl | rfl | rfl | rfl | rfl | rfl <;> decide
theorem hlt7 {a n : Nat} (h : a + 9 < n) : a + 7 < n := by omega
theorem rl8 {a : Nat} (h : isRiv a) : LAY (a + 8) = (1, 12) := by rcases h with rfl | rfl | rfl | rfl | rfl | rfl | rfl | rfl | rfl | rfl <;> decide +kernel
theorem rlt8 {a : Nat} (h : isRiv a) : a + 8 < 166 := by rcases h with rfl | rfl | rfl | rfl | rfl | rfl | rfl | rfl | rfl | rfl <;> decide
theorem hlt8 {a n : Nat} (h : a + 9 < n) : a + 8 < n := by omega
theorem rl9 {a : Nat} (h : isRiv a) : LAY (a + 9) = (1, 12) := by rcases h with rfl | rfl | rfl | rfl | rfl | rfl | rfl | rfl | rfl | rfl <;> decide +kernel
theorem rlt9 {a : Nat} (h : isRiv a) : a + 9 < 166 := by rcases h with rfl | rfl | rfl | rfl | rfl | rfl | rfl | rfl | rfl | rfl <;> decide
theorem hlt9 {a n : Nat} (h : a + 9 < n) : a + 9 < n := by omega
theorem rl10 {a : Nat} (h : isRiv a) : LAY (a + 10) = (1, 240) := by rcases h with rfl | rfl | rfl | rfl | rfl | rfl | rfl | rfl | rfl | rfl <;> decide +kernel
theorem rlt10 {a : Nat} (h : isRiv a) : a + 10 < 166 := by rcases h with rfl | rfl | rfl | rfl | rfl | rfl | rfl | rfl | rfl | rfl <;> decide
theorem rl11 {a : Nat} (h : isRiv a) : LAY (a + 11) = (1, 240) := by rcases h with rfl | rfl | rfl | rfl | rfl | rfl | rfl | rfl | rfl | rfl <;> decide +kernel
theorem rlt11 {a : Nat} (h : isRiv a) : a + 11 < 166 := by rcases h with rfl | rfl | rfl | rfl | rfl | rfl | rfl | rfl | rfl | rfl <;> decide
theorem rl12 {a : Nat} (h : isRiv a) : LAY (a + 12) = (1, 480) := by rcases h with rfl | rfl | rfl | rfl | rfl | rfl | rfl | rfl | rfl | rfl <;> decide +kernel
theorem rlt12 {a : Nat} (h : isRiv a) : a + 12 < 166 := by rcases h with rfl | rfl | rfl | rfl | rfl | rfl | rfl | rfl | rfl | rfl <;> decide
theorem rl13 {a : Nat} (h : isRiv a) : LAY (a + 13) = (1, 8) := by rcases h with rfl | rfl | rfl | rfl | rfl | rfl | rfl | rfl | rfl | rfl <;> decide +kernel
theorem rlt13 {a : Nat} (h : isRiv a) : a + 13 < 166 := by rcases h with rfl | rfl | rfl | rfl | rfl | rfl | rfl | rfl | rfl | rfl <;> decide
theorem rt0_0 {a : Nat} (h : isRiv a) : RT a 0 = a + 1 := by rcases h with rfl | rfl | rfl | rfl | rfl | rfl | rfl | rfl | rfl | rfl <;> decide +kernel
theorem rt0_1 {a : Nat} (h : isRiv a) : RT a 1 = a + 2 := by rcases h with rfl | rfl | rfl | rfl | rfl | rfl | rfl | rfl | rfl | rfl <;> decide +kernel
theorem rt0_2 {a : Nat} (h : isRiv a) : RT a 2 = a + 5 := by rcases h with rfl | rfl | rfl | rfl | rfl | rfl | rfl | rfl | rfl | rfl <;> decide +kernel
theorem rt0_3 {a : Nat} (h : isRiv a) : RT a 3 = a + 10 := by rcases h with rfl | rfl | rfl | rfl | rfl | rfl | rfl | rfl | rfl | rfl <;> decide +kernel
theorem rt0_4 {a : Nat} (h : isRiv a) : RT a 4 = a + 11 := by rcases h with rfl | rfl | rfl | rfl | rfl | rfl | rfl | rfl | rfl | rfl <;> decide +kernel
theorem rt0_5 {a : Nat} (h : isRiv a) : RT a 5 = a + 12 := by rcases h with rfl | rfl | rfl | rfl | rfl | rfl | rfl | rfl | rfl | rfl <;> decide +kernel
theorem rt0_6 {a : Nat} (h : isRiv a) : RT a 6 = a + 13 := by rcases h with rfl | rfl | rfl | rfl | rfl | rfl | rfl | rfl | rfl | rfl <;> decide +kernel
theorem rt2_0 {a : Nat} (h : isRiv a) : RT (a + 2) 0 = a + 3 := by rcases h with rfl | rfl | rfl | rfl | rfl | rfl | rfl | rfl | rfl | rfl <;> decide +kernel
theorem rt2_1 {a : Nat} (h : isRiv a) : RT (a + 2) 1 = a + 4 := by rcases h with rfl | rfl | rfl | rfl | rfl | rfl | rfl | rfl | rfl | rfl <;> decide +kernel
theorem rt5_0 {a : Nat} (h : isRiv a) : RT (a + 5) 0 = a + 6 := by rcases h with rfl | rfl | rfl | rfl | rfl | rfl | rfl | rfl | rfl | rfl <;> decide +kernel
theorem rt5_1 {a : Nat} (h : isRiv a) : RT (a + 5) 1 = a + 7 := by rcases h with rfl | rfl | rfl | rfl | rfl | rfl | rfl | rfl | rfl | rfl <;> decide +kernel
theorem rt5_2 {a : Nat} (h : isRiv a) : RT (a + 5) 2 = a + 8 := by rcases h with rfl | rfl | rfl | rfl | rfl | rfl | rfl | rfl | rfl | rfl <;> decide +kernel
theorem rt5_3 {a : Nat} (h : isRiv a) : RT (a + 5) 3 = a + 9 := by rcases h with rfl | rfl | rfl | rfl | rfl | rfl | rfl | rfl | rfl | rfl <;> decide +kernel
theorem riv1 : isRiv 1 := by unfold isRiv; omega
theorem riv15 : isRiv 15 := by unfold isRiv; omega
theorem riv33 : isRiv 33 := by unfold isRiv; omega
theorem riv47 : isRiv 47 := by unfold isRiv; omega
theorem riv61 : isRiv 61 := by unfold isRiv; omega
theorem riv75 : isRiv 75 := by unfold isRiv; omega
theorem riv89 : isRiv 89 := by unfold isRiv; omega
theorem riv103 : isRiv 103 := by unfold isRiv; omega
theorem riv125 : isRiv 125 := by unfold isRiv; omega
theorem riv139 : isRiv 139 := by unfold isRiv; omega
theorem RT31 (n : Nat) : RT 29 n = if n = 0 then 125 else 139 := by
  have h : LAY 29 = (3, 2) := by decide +kernel
  unfold RT; rw [h]; cases n <;> rfl
theorem RT34 (n : Nat) : RT 32 n = 33 + 14 * n := by
  have h : LAY 32 = (3, 6) := by decide +kernel
  unfold RT; rw [h]; rfl
theorem rivS (n : Nat) : isRiv (RT 29 n) := by rw [RT31]; unfold isRiv; split <;> omega
theorem rivH {i : Int} (h : 0 ≤ i ∧ i < 6) : isRiv (RT 32 i.toNat) := by rw [RT34]; unfold isRiv; omega
theorem lbd {a : Nat} (h : isBd a) : LAY a = (0, 0) := by rcases h with rfl | rfl <;> decide +kernel
theorem lnk {a : Nat} (h : isNk a) : LAY a = (0, 3) := by rcases h with rfl | rfl <;> decide +kernel
theorem ltbd {a : Nat} (h : isBd a) : a < 166 := by rcases h with rfl | rfl <;> decide
theorem ltnk {a : Nat} (h : isNk a) : a < 166 := by rcases h with rfl | rfl <;> decide
theorem ly0 : LAY 0 = (0, 8) := by decide +kernel
theorem ly29 : LAY 29 = (3, 2) := by decide +kernel
theorem ly30 : LAY 30 = (2, 2) := by decide +kernel
theorem ly31 : LAY 31 = (0, 2) := by decide +kernel
theorem ly32 : LAY 32 = (3, 6) := by decide +kernel
theorem ly117 : LAY 117 = (0, 5) := by decide +kernel
theorem ly118 : LAY 118 = (1, 64) := by decide +kernel
theorem ly119 : LAY 119 = (1, 150) := by decide +kernel
theorem ly120 : LAY 120 = (0, 6) := by decide +kernel
theorem ly121 : LAY 121 = (0, 0) := by decide +kernel
theorem ly122 : LAY 122 = (0, 3) := by decide +kernel
theorem ly123 : LAY 123 = (0, 0) := by decide +kernel
theorem ly124 : LAY 124 = (0, 3) := by decide +kernel
theorem ly153 : LAY 153 = (0, 9) := by decide +kernel
theorem ly154 : LAY 154 = (1, 1407) := by decide +kernel
theorem ly155 : LAY 155 = (1, 1407) := by decide +kernel
theorem ly156 : LAY 156 = (1, 8442) := by decide +kernel
theorem ly157 : LAY 157 = (1, 2814) := by decide +kernel
theorem ly158 : LAY 158 = (2, 2) := by decide +kernel
theorem ly159 : LAY 159 = (1, 64) := by decide +kernel
theorem ly160 : LAY 160 = (1, 150) := by decide +kernel
theorem ly161 : LAY 161 = (1, 150) := by decide +kernel
theorem ly162 : LAY 162 = (2, 240) := by decide +kernel
theorem ly163 : LAY 163 = (1, 150) := by decide +kernel
theorem ly164 : LAY 164 = (2, 480) := by decide +kernel
theorem ly165 : LAY 165 = (1, 150) := by decide +kernel
theorem rt_0_0 : RT 0 0 = 1 := by decide +kernel
theorem rt_0_1 : RT 0 1 = 15 := by decide +kernel
theorem rt_0_2 : RT 0 2 = 29 := by decide +kernel
theorem rt_0_3 : RT 0 3 = 30 := by decide +kernel
theorem rt_0_4 : RT 0 4 = 31 := by decide +kernel
theorem rt_0_5 : RT 0 5 = 117 := by decide +kernel
theorem rt_0_6 : RT 0 6 = 120 := by decide +kernel
theorem rt_0_7 : RT 0 7 = 123 := by decide +kernel
theorem rt_0_8 : RT 0 8 = 124 := by decide +kernel
theorem rt_31_0 : RT 31 0 = 32 := by decide +kernel
theorem rt_117_0 : RT 117 0 = 118 := by decide +kernel
theorem rt_117_1 : RT 117 1 = 119 := by decide +kernel
theorem rt_120_0 : RT 120 0 = 121 := by decide +kernel
theorem rt_120_1 : RT 120 1 = 122 := by decide +kernel
theorem rt_153_0 : RT 153 0 = 154 := by decide +kernel
theorem rt_153_1 : RT 153 1 = 155 := by decide +kernel
theorem rt_153_2 : RT 153 2 = 156 := by decide +kernel
theorem rt_153_4 : RT 153 4 = 157 := by decide +kernel
theorem rt_153_5 : RT 153 5 = 158 := by decide +kernel
theorem rt_153_6 : RT 153 6 = 159 := by decide +kernel
theorem rt_153_8 : RT 153 8 = 160 := by decide +kernel
theorem rt_153_9 : RT 153 9 = 161 := by decide +kernel
theorem rt_153_10 : RT 153 10 = 162 := by decide +kernel
theorem rt_153_12 : RT 153 12 = 163 := by decide +kernel
theorem rt_153_18 : RT 153 18 = 164 := by decide +kernel
theorem rt_153_21 : RT 153 21 = 165 := by decide +kernel
theorem mu_get {d : zMem} {a : Nat} {i v : Int} : mu d a i v a i = v := by simp [mu, mrow, rup]
theorem mu_na {d : zMem} {a b : Nat} {i j v : Int} (h : b ≠ a) : mu d a i v b j = d b j := by simp [mu, mrow, h]
theorem mu_ni {d : zMem} {a : Nat} {i j v : Int} (h : j ≠ i) : mu d a i v a j = d a j := by simp [mu, mrow, rup, h]
section
variable {g : zGG} {e : zEE} {k : zMk} {φ : zPhi} {pc : Nat} {ls : List (Option zPV)} {st : List zPV} {d : zMem}
def zle : List (Option zPV) → List (Option zPV) → Prop
  | [], _ => True
  | _ :: _, [] => False
  | x :: xs, y :: ys => (x = none ∨ x = y) ∧ zle xs ys
theorem zle_at : ∀ (l l' : List (Option zPV)) (i : Nat) (v : zPV), zle l l' → l[i]? = some (some v) → l'[i]? = some (some v)
  | [], _, i, v, _, h => by simp at h
  | x :: xs, [], i, v, h, _ => h.elim
  | x :: xs, y :: ys, 0, v, h, h2 => by
    rw [List.getElem?_cons_zero] at h2 ⊢
    cases h2
    rcases h.1 with q | q
    · cases q
    · rw [← q]
  | x :: xs, y :: ys, i + 1, v, h, h2 => by
    rw [List.getElem?_cons_succ] at h2 ⊢
    exact zle_at xs ys i v h.2 h2
theorem Fr_weak {ls2 : List (Option zPV)} (hz : zle ls2 ls) (h : Fr g e k φ pc ls2 st d) : Fr g e k φ pc ls st d := by
  intro p ee s m args below meth c hC h0 H locs A hH hS hl
  exact h p ee s m args below meth c hC h0 H locs A hH hS ⟨hl.1, hl.2.1, fun i v hi => hl.2.2 i v (zle_at _ _ i v hz hi)⟩
theorem z_getI' (ci fk : Nat) {idx a : Nat} {fv : Int} (hL : LAY a = (0, ci)) (hci : ci < 10) (hfk : fk < ncl ci) (ht : isRf (tyc ci fk) = false) (ha : a < φ.1) (hw : Cond.fieldLink (kown k) idx (RXc ci) (TXc ci fk).2.1 (TXc ci fk).2.2.1 ∈ GW) (hd : decode (kcode k) pc = .ok (.getfield idx, 3)) (hv : d a (fk : Int) = fv) (hh : Fr g e k φ (pc + 3) ls (zI fv :: st) d) : Fr g e k φ pc ls (zR a :: st) d := z_getI ci fk hL hci hfk ht ha hw hd (by rw [hv]; exact hh)
theorem z_getIN' (ci fk : Nat) {idx a : Nat} {fv : Int} {host : String} (hL : LAY a = (0, ci)) (hci : ci < 10) (hfk : fk < ncl ci) (ht : isRf (tyc ci fk) = false) (ha : a < φ.1) (hw : Cond.fieldLinkNest (kown k) idx (RXc ci) (TXc ci fk).2.1 (TXc ci fk).2.2.1 host ∈ NW) (hd : decode (kcode k) pc = .ok (.getfield idx, 3)) (hv : d a (fk : Int) = fv) (hh : Fr g e k φ (pc + 3) ls (zI fv :: st) d) : Fr g e k φ pc ls (zR a :: st) d := z_getIN ci fk hL hci hfk ht ha hw hd (by rw [hv]; exact hh)
theorem z_iaload' {a n : Nat} {i fv : Int} (hL : LAY a = (1, n)) (ha : a < φ.1) (hn : n < 2 ^ 31) (hd : decode (kcode k) pc = .ok (.iaload, 1)) (hi : 0 ≤ i ∧ i < n) (hv : d a i = fv) (hh : Fr g e k φ (pc + 1) ls (zI fv :: st) d) : Fr g e k φ pc ls (zI i :: zR a :: st) d := z_iaload hL ha hn hd hi (by rw [hv]; exact hh)
theorem z_baload' {a n : Nat} {i fv : Int} (hL : LAY a = (2, n)) (ha : a < φ.1) (hn : n < 2 ^ 31) (hd : decode (kcode k) pc = .ok (.baload, 1)) (hi : 0 ≤ i ∧ i < n) (hv : d a i = fv) (hh : Fr g e k φ (pc + 1) ls (zI fv :: st) d) : Fr g e k φ pc ls (zI i :: zR a :: st) d := z_baload hL ha hn hd hi (by rw [hv]; exact hh)
theorem z_alen' {a q n : Nat} {v : Int} (hL : LAY a = (q, n)) (hq : q = 1 ∨ q = 2 ∨ q = 3) (ha : a < φ.1) (hv : (n : Int) = v) (hd : decode (kcode k) pc = .ok (.arraylength, 1)) (hh : Fr g e k φ (pc + 1) ls (zI v :: st) d) : Fr g e k φ pc ls (zR a :: st) d := z_alen hL hq ha hd (by rw [hv]; exact hh)
theorem zroom_self {k' : zMk} {Q : Int → zMem → Prop} (h1 : kfr k' + 1 ≤ kfr k) (h2 : 8 + (kn k' + 11) + klo k' ≤ klo k) : zroom (eM g k φ φ Q) k' φ := ⟨⟨h1, h2⟩, Nat.le_refl _, Nat.le_refl _⟩
theorem zb_if_eq {x : Int} {off : Int} {tgt : Nat} (hd : decode (kcode k) pc = .ok (.ifCond .eq off, 3)) (ht : (pc : Int) + off = (tgt : Int)) (hr : inR x) (hh : (x = 0 → Fr g e k φ tgt ls st d) ∧ (x ≠ 0 → Fr g e k φ (pc + 3) ls st d)) : Fr g e k φ pc ls (zI x :: st) d := z_if_eq hd ht hr ⟨hh.1, fun q => hh.2 q⟩
theorem zb_if_ne {x : Int} {off : Int} {tgt : Nat} (hd : decode (kcode k) pc = .ok (.ifCond .ne off, 3)) (ht : (pc : Int) + off = (tgt : Int)) (hr : inR x) (hh : (x ≠ 0 → Fr g e k φ tgt ls st d) ∧ (x = 0 → Fr g e k φ (pc + 3) ls st d)) : Fr g e k φ pc ls (zI x :: st) d := z_if_ne hd ht hr ⟨hh.1, fun q => hh.2 (Decidable.not_not.mp q)⟩
theorem zb_if_lt {x : Int} {off : Int} {tgt : Nat} (hd : decode (kcode k) pc = .ok (.ifCond .lt off, 3)) (ht : (pc : Int) + off = (tgt : Int)) (hr : inR x) (hh : (x < 0 → Fr g e k φ tgt ls st d) ∧ (0 ≤ x → Fr g e k φ (pc + 3) ls st d)) : Fr g e k φ pc ls (zI x :: st) d := z_if_lt hd ht hr ⟨hh.1, fun q => hh.2 (Int.not_lt.mp q)⟩
theorem zb_if_ge {x : Int} {off : Int} {tgt : Nat} (hd : decode (kcode k) pc = .ok (.ifCond .ge off, 3)) (ht : (pc : Int) + off = (tgt : Int)) (hr : inR x) (hh : (0 ≤ x → Fr g e k φ tgt ls st d) ∧ (x < 0 → Fr g e k φ (pc + 3) ls st d)) : Fr g e k φ pc ls (zI x :: st) d := z_if_ge hd ht hr ⟨hh.1, fun q => hh.2 (Int.not_le.mp q)⟩
theorem zb_if_gt {x : Int} {off : Int} {tgt : Nat} (hd : decode (kcode k) pc = .ok (.ifCond .gt off, 3)) (ht : (pc : Int) + off = (tgt : Int)) (hr : inR x) (hh : (0 < x → Fr g e k φ tgt ls st d) ∧ (x ≤ 0 → Fr g e k φ (pc + 3) ls st d)) : Fr g e k φ pc ls (zI x :: st) d := z_if_gt hd ht hr ⟨hh.1, fun q => hh.2 (Int.not_lt.mp q)⟩
theorem zb_if_le {x : Int} {off : Int} {tgt : Nat} (hd : decode (kcode k) pc = .ok (.ifCond .le off, 3)) (ht : (pc : Int) + off = (tgt : Int)) (hr : inR x) (hh : (x ≤ 0 → Fr g e k φ tgt ls st d) ∧ (0 < x → Fr g e k φ (pc + 3) ls st d)) : Fr g e k φ pc ls (zI x :: st) d := z_if_le hd ht hr ⟨hh.1, fun q => hh.2 (Int.not_le.mp q)⟩
theorem zb_icmp_eq {x y : Int} {off : Int} {tgt : Nat} (hd : decode (kcode k) pc = .ok (.if_icmp .eq off, 3)) (ht : (pc : Int) + off = (tgt : Int)) (hr : inR x ∧ inR y) (hh : (x = y → Fr g e k φ tgt ls st d) ∧ (x ≠ y → Fr g e k φ (pc + 3) ls st d)) : Fr g e k φ pc ls (zI y :: zI x :: st) d := z_icmp_eq hd ht hr ⟨hh.1, fun q => hh.2 q⟩
theorem zb_icmp_ne {x y : Int} {off : Int} {tgt : Nat} (hd : decode (kcode k) pc = .ok (.if_icmp .ne off, 3)) (ht : (pc : Int) + off = (tgt : Int)) (hr : inR x ∧ inR y) (hh : (x ≠ y → Fr g e k φ tgt ls st d) ∧ (x = y → Fr g e k φ (pc + 3) ls st d)) : Fr g e k φ pc ls (zI y :: zI x :: st) d := z_icmp_ne hd ht hr ⟨hh.1, fun q => hh.2 (Decidable.not_not.mp q)⟩
theorem zb_icmp_lt {x y : Int} {off : Int} {tgt : Nat} (hd : decode (kcode k) pc = .ok (.if_icmp .lt off, 3)) (ht : (pc : Int) + off = (tgt : Int)) (hr : inR x ∧ inR y) (hh : (x < y → Fr g e k φ tgt ls st d) ∧ (y ≤ x → Fr g e k φ (pc + 3) ls st d)) : Fr g e k φ pc ls (zI y :: zI x :: st) d := z_icmp_lt hd ht hr ⟨hh.1, fun q => hh.2 (Int.not_lt.mp q)⟩
theorem zb_icmp_ge {x y : Int} {off : Int} {tgt : Nat} (hd : decode (kcode k) pc = .ok (.if_icmp .ge off, 3)) (ht : (pc : Int) + off = (tgt : Int)) (hr : inR x ∧ inR y) (hh : (y ≤ x → Fr g e k φ tgt ls st d) ∧ (x < y → Fr g e k φ (pc + 3) ls st d)) : Fr g e k φ pc ls (zI y :: zI x :: st) d := z_icmp_ge hd ht hr ⟨hh.1, fun q => hh.2 (Int.not_le.mp q)⟩
theorem zb_icmp_gt {x y : Int} {off : Int} {tgt : Nat} (hd : decode (kcode k) pc = .ok (.if_icmp .gt off, 3)) (ht : (pc : Int) + off = (tgt : Int)) (hr : inR x ∧ inR y) (hh : (y < x → Fr g e k φ tgt ls st d) ∧ (x ≤ y → Fr g e k φ (pc + 3) ls st d)) : Fr g e k φ pc ls (zI y :: zI x :: st) d := z_icmp_gt hd ht hr ⟨hh.1, fun q => hh.2 (Int.not_lt.mp q)⟩
theorem zb_icmp_le {x y : Int} {off : Int} {tgt : Nat} (hd : decode (kcode k) pc = .ok (.if_icmp .le off, 3)) (ht : (pc : Int) + off = (tgt : Int)) (hr : inR x ∧ inR y) (hh : (x ≤ y → Fr g e k φ tgt ls st d) ∧ (y < x → Fr g e k φ (pc + 3) ls st d)) : Fr g e k φ pc ls (zI y :: zI x :: st) d := z_icmp_le hd ht hr ⟨hh.1, fun q => hh.2 (Int.not_le.mp q)⟩
end
def M_X0_init : zMk := (yX0_init, cX0_init, 1, none, 1, 20)
def M_X0_seekFrom : zMk := (yX0_seekFrom, cX0_seekFrom, 8, (some .boolean), 3, 67)
def M_X0_seekNumbered : zMk := (yX0_seekNumbered, cX0_seekNumbered, 5, (some .boolean), 4, 94)
def M_X0_endOfRow : zMk := (yX0_endOfRow, cX0_endOfRow, 4, (some .int), 2, 44)
def M_X1_init : zMk := (yX1_init, cX1_init, 1, none, 2, 43)
def M_X1_clear : zMk := (yX1_clear, cX1_clear, 1, none, 1, 23)
def M_X1_copyFrom : zMk := (yX1_copyFrom, cX1_copyFrom, 2, none, 1, 68)
def M_X1_length : zMk := (yX1_length, cX1_length, 1, (some .int), 0, 0)
def M_X1_append : zMk := (yX1_append, cX1_append, 2, (some .boolean), 1, 20)
def M_X1_cellOf : zMk := (yX1_cellOf, cX1_cellOf, 2, (some .int), 0, 0)
def M_X1_numberOf : zMk := (yX1_numberOf, cX1_numberOf, 2, (some .int), 1, 20)
def M_X1_numberBeside : zMk := (yX1_numberBeside, cX1_numberBeside, 3, (some .int), 2, 41)
def M_X1_nextBeside : zMk := (yX1_nextBeside, cX1_nextBeside, 6, (some .int), 3, 63)
def M_X1_wayFrom : zMk := (yX1_wayFrom, cX1_wayFrom, 4, (some .int), 1, 21)
def M_X1_winding : zMk := (yX1_winding, cX1_winding, 4, (some .int), 1, 21)
def M_X1_bulge : zMk := (yX1_bulge, cX1_bulge, 5, none, 2, 45)
def M_X1_shorten : zMk := (yX1_shorten, cX1_shorten, 5, none, 2, 45)
def M_X1_leaveBetween : zMk := (yX1_leaveBetween, cX1_leaveBetween, 5, none, 1, 21)
def M_X1_numberAgain : zMk := (yX1_numberAgain, cX1_numberAgain, 4, none, 1, 21)
def M_X2_init : zMk := (yX2_init, cX2_init, 2, none, 4, 89)
def M_X2_length : zMk := (yX2_length, cX2_length, 1, (some .int), 0, 0)
def M_X2_remember : zMk := (yX2_remember, cX2_remember, 3, none, 3, 110)
def M_X2_takeBack : zMk := (yX2_takeBack, cX2_takeBack, 3, (some .boolean), 3, 110)
def M_X3_init : zMk := (yX3_init, cX3_init, 1, none, 1, 20)
def M_X3_seekNumbered : zMk := (yX3_seekNumbered, cX3_seekNumbered, 7, (some .boolean), 4, 88)
def M_X3_seekWidest : zMk := (yX3_seekWidest, cX3_seekWidest, 8, (some .boolean), 3, 63)
def M_X4_init : zMk := (yX4_init, cX4_init, 1, none, 2, 43)
def M_X4_clear : zMk := (yX4_clear, cX4_clear, 1, none, 1, 23)
def M_X4_copyFrom : zMk := (yX4_copyFrom, cX4_copyFrom, 2, none, 1, 68)
def M_X4_length : zMk := (yX4_length, cX4_length, 1, (some .int), 0, 0)
def M_X4_has : zMk := (yX4_has, cX4_has, 2, (some .boolean), 0, 0)
def M_X4_ownerOf : zMk := (yX4_ownerOf, cX4_ownerOf, 2, (some .int), 1, 20)
def M_X4_sizeOf : zMk := (yX4_sizeOf, cX4_sizeOf, 2, (some .int), 1, 21)
def M_X4_yearsOf : zMk := (yX4_yearsOf, cX4_yearsOf, 2, (some .int), 1, 21)
def M_X4_firstCellOf : zMk := (yX4_firstCellOf, cX4_firstCellOf, 2, (some .int), 1, 21)
def M_X4_take : zMk := (yX4_take, cX4_take, 6, none, 2, 43)
def M_X4_drop : zMk := (yX4_drop, cX4_drop, 3, none, 1, 21)
def M_X4_passYear : zMk := (yX4_passYear, cX4_passYear, 3, none, 2, 43)
def M_X5_init : zMk := (yX5_init, cX5_init, 1, none, 1, 20)
def M_X5_length : zMk := (yX5_length, cX5_length, 1, (some .int), 0, 0)
def M_X5_stepCount : zMk := (yX5_stepCount, cX5_stepCount, 1, (some .int), 0, 0)
def M_X5_clear : zMk := (yX5_clear, cX5_clear, 1, none, 0, 0)
def M_X5_sizeOf : zMk := (yX5_sizeOf, cX5_sizeOf, 6, (some .int), 0, 0)
def M_X5_hasRoomFor : zMk := (yX5_hasRoomFor, cX5_hasRoomFor, 2, (some .boolean), 0, 0)
def M_X5_append : zMk := (yX5_append, cX5_append, 7, none, 0, 0)
def M_X5_scan : zMk := (yX5_scan, cX5_scan, 1, (some .int), 3, 67)
def M_X5_scanNumber : zMk := (yX5_scanNumber, cX5_scanNumber, 5, (some .int), 2, 43)
def M_X5_scanSteps : zMk := (yX5_scanSteps, cX5_scanSteps, 3, (some .boolean), 2, 43)
def M_X5_addSteps : zMk := (yX5_addSteps, cX5_addSteps, 4, none, 0, 0)
def M_X5_signAt : zMk := (yX5_signAt, cX5_signAt, 2, (some .int), 0, 0)
def M_X5_digitAt : zMk := (yX5_digitAt, cX5_digitAt, 3, (some .int), 1, 21)
def M_X5_wayAt : zMk := (yX5_wayAt, cX5_wayAt, 2, (some .int), 1, 21)
def M_X5_layCourse : zMk := (yX5_layCourse, cX5_layCourse, 5, (some .boolean), 2, 41)
def M_X6_init : zMk := (yX6_init, cX6_init, 1, none, 2, 40)
def M_X6_watch : zMk := (yX6_watch, cX6_watch, 2, none, 0, 0)
def M_X6_passYear : zMk := (yX6_passYear, cX6_passYear, 3, none, 5, 119)
def M_X6_wearBanks : zMk := (yX6_wearBanks, cX6_wearBanks, 6, none, 4, 94)
def M_X6_growBends : zMk := (yX6_growBends, cX6_growBends, 4, none, 4, 94)
def M_X6_noteTaken : zMk := (yX6_noteTaken, cX6_noteTaken, 3, none, 2, 43)
def M_X6_cutNecks : zMk := (yX6_cutNecks, cX6_cutNecks, 6, none, 4, 91)
def M_X7_init : zMk := (yX7_init, cX7_init, 2, none, 3, 68)
def M_X7_copyFrom : zMk := (yX7_copyFrom, cX7_copyFrom, 2, none, 2, 89)
def M_X7_clearAllButSettings : zMk := (yX7_clearAllButSettings, cX7_clearAllButSettings, 1, none, 2, 43)
def M_X7_setting : zMk := (yX7_setting, cX7_setting, 2, (some .int), 0, 0)
def M_X7_changeSetting : zMk := (yX7_changeSetting, cX7_changeSetting, 3, none, 0, 0)
def M_X7_isDike : zMk := (yX7_isDike, cX7_isDike, 2, (some .boolean), 1, 20)
def M_X7_changeDike : zMk := (yX7_changeDike, cX7_changeDike, 3, none, 1, 20)
def M_X7_dikeCount : zMk := (yX7_dikeCount, cX7_dikeCount, 3, (some .int), 0, 0)
def M_X7_hasFlood : zMk := (yX7_hasFlood, cX7_hasFlood, 3, (some .boolean), 0, 0)
def M_X7_changeFlood : zMk := (yX7_changeFlood, cX7_changeFlood, 3, none, 1, 23)
def M_X7_addFlood : zMk := (yX7_addFlood, cX7_addFlood, 2, none, 0, 0)
def M_X7_removeFlood : zMk := (yX7_removeFlood, cX7_removeFlood, 4, none, 0, 0)
def M_X7_wearOf : zMk := (yX7_wearOf, cX7_wearOf, 2, (some .int), 1, 20)
def M_X7_wearSum : zMk := (yX7_wearSum, cX7_wearSum, 3, (some .int), 0, 0)
def M_X7_bankCell : zMk := (yX7_bankCell, cX7_bankCell, 3, (some .int), 1, 21)
def M_X7_isFirm : zMk := (yX7_isFirm, cX7_isFirm, 4, (some .boolean), 2, 43)
def M_X7_leastWear : zMk := (yX7_leastWear, cX7_leastWear, 4, (some .int), 2, 43)
def M_X7_canGrow : zMk := (yX7_canGrow, cX7_canGrow, 2, (some .boolean), 3, 66)
def M_X7_wearBank : zMk := (yX7_wearBank, cX7_wearBank, 6, none, 2, 43)
def M_X7_growBend : zMk := (yX7_growBend, cX7_growBend, 4, none, 3, 69)
def M_X7_ageOf : zMk := (yX7_ageOf, cX7_ageOf, 7, (some .int), 1, 21)
def M_X7_agePairs : zMk := (yX7_agePairs, cX7_agePairs, 2, none, 3, 67)
def M_X7_agePair : zMk := (yX7_agePair, cX7_agePair, 7, none, 2, 41)
def M_X7_pairOf : zMk := (yX7_pairOf, cX7_pairOf, 2, (some .int), 0, 0)
def M_X7_cutBetween : zMk := (yX7_cutBetween, cX7_cutBetween, 3, none, 3, 69)
def M_X8_init : zMk := (yX8_init, cX8_init, 2, none, 5, 110)
def M_X8_set : zMk := (yX8_set, cX8_set, 4, (some .int), 4, 132)
def M_X8_read : zMk := (yX8_read, cX8_read, 1, (some .int), 4, 132)
def M_X8_dike : zMk := (yX8_dike, cX8_dike, 5, (some .int), 4, 132)
def M_X8_flood : zMk := (yX8_flood, cX8_flood, 3, (some .int), 4, 132)
def M_X8_cut : zMk := (yX8_cut, cX8_cut, 2, (some .int), 5, 132)
def M_X8_pass : zMk := (yX8_pass, cX8_pass, 4, (some .int), 6, 141)
def M_X8_cell : zMk := (yX8_cell, cX8_cell, 5, (some .int), 2, 41)
def M_X8_course : zMk := (yX8_course, cX8_course, 4, (some .int), 2, 44)
def M_X8_bend : zMk := (yX8_bend, cX8_bend, 3, (some .int), 5, 118)
def M_X8_neck : zMk := (yX8_neck, cX8_neck, 3, (some .int), 5, 114)
def M_X8_oxbow : zMk := (yX8_oxbow, cX8_oxbow, 3, (some .int), 2, 42)
def M_X8_count : zMk := (yX8_count, cX8_count, 2, (some .int), 5, 118)
def M_X8_isFlood : zMk := (yX8_isFlood, cX8_isFlood, 2, (some .int), 1, 22)
def M_X8_ifPassed : zMk := (yX8_ifPassed, cX8_ifPassed, 4, (some .int), 6, 141)
def M_X8_nextCut : zMk := (yX8_nextCut, cX8_nextCut, 3, (some .int), 6, 141)
def M_X8_taken : zMk := (yX8_taken, cX8_taken, 5, (some .int), 6, 141)
def M_X8_put : zMk := (yX8_put, cX8_put, 4, (some .int), 1, 26)
def M_X8_wipe : zMk := (yX8_wipe, cX8_wipe, 2, (some .int), 1, 20)
def M_X8_fault : zMk := (yX8_fault, cX8_fault, 1, (some .int), 4, 87)
def M_X8_undo : zMk := (yX8_undo, cX8_undo, 1, (some .int), 4, 132)
def M_X8_save : zMk := (yX8_save, cX8_save, 2, (some .int), 3, 110)
def M_X8_restore : zMk := (yX8_restore, cX8_restore, 2, (some .int), 4, 132)
def M_X8_countBends : zMk := (yX8_countBends, cX8_countBends, 5, (some .int), 4, 94)
def M_X8_countNecks : zMk := (yX8_countNecks, cX8_countNecks, 4, (some .int), 3, 63)
def M_X8_orNone : zMk := (yX8_orNone, cX8_orNone, 1, (some .int), 0, 0)
def M_X8_asNumber : zMk := (yX8_asNumber, cX8_asNumber, 1, (some .int), 0, 0)
def M_X8_cellAt : zMk := (yX8_cellAt, cX8_cellAt, 2, (some .int), 0, 0)
def M_X8_isOnLand : zMk := (yX8_isOnLand, cX8_isOnLand, 1, (some .boolean), 0, 0)
def M_X8_beside : zMk := (yX8_beside, cX8_beside, 2, (some .int), 0, 0)
def M_X8_areOpposite : zMk := (yX8_areOpposite, cX8_areOpposite, 2, (some .boolean), 1, 21)
def M_X9_init : zMk := (yX9_init, cX9_init, 2, none, 1, 21)
def M_X9_begin : zMk := (yX9_begin, cX9_begin, 2, none, 0, 0)
def M_X9_in : zMk := (yX9_in, cX9_in, 3, (some .boolean), 0, 0)
def M_X9_isCell : zMk := (yX9_isCell, cX9_isCell, 2, (some .boolean), 1, 22)
def M_X9_know : zMk := (yX9_know, cX9_know, 2, none, 0, 0)
def M_X9_putAside : zMk := (yX9_putAside, cX9_putAside, 2, none, 0, 0)
def M_X9_putBack : zMk := (yX9_putBack, cX9_putBack, 2, none, 0, 0)
def M_X9_stepped : zMk := (yX9_stepped, cX9_stepped, 4, (some .int), 2, 43)
def M_X9_way : zMk := (yX9_way, cX9_way, 3, (some .int), 0, 0)
def M_X9_numberOf : zMk := (yX9_numberOf, cX9_numberOf, 4, (some .int), 0, 0)
def M_X9_findBends : zMk := (yX9_findBends, cX9_findBends, 3, none, 1, 22)
def M_X9_wayOf : zMk := (yX9_wayOf, cX9_wayOf, 2, (some .int), 1, 22)
def M_X9_bank : zMk := (yX9_bank, cX9_bank, 3, (some .int), 3, 66)
def M_X9_isFirm : zMk := (yX9_isFirm, cX9_isFirm, 5, (some .boolean), 4, 88)
def M_X9_leastWear : zMk := (yX9_leastWear, cX9_leastWear, 5, (some .int), 4, 88)
def M_X9_canGrow : zMk := (yX9_canGrow, cX9_canGrow, 2, (some .boolean), 5, 112)
def M_X9_dropOxbow : zMk := (yX9_dropOxbow, cX9_dropOxbow, 4, none, 0, 0)
def M_X9_grow : zMk := (yX9_grow, cX9_grow, 6, (some .int), 4, 88)
def M_X9_pair : zMk := (yX9_pair, cX9_pair, 4, (some .int), 0, 0)
def M_X9_areNeighbours : zMk := (yX9_areNeighbours, cX9_areNeighbours, 4, (some .boolean), 0, 0)
def M_X9_findNeck : zMk := (yX9_findNeck, cX9_findNeck, 8, (some .boolean), 1, 23)
def M_X9_cutNeck : zMk := (yX9_cutNeck, cX9_cutNeck, 4, none, 1, 23)
def M_X9_isFloodYear : zMk := (yX9_isFloodYear, cX9_isFloodYear, 4, (some .boolean), 0, 0)
def M_X9_wear : zMk := (yX9_wear, cX9_wear, 6, none, 5, 112)
def M_X9_growAll : zMk := (yX9_growAll, cX9_growAll, 4, none, 6, 133)
def M_X9_age : zMk := (yX9_age, cX9_age, 3, none, 1, 23)
def M_X9_goOn : zMk := (yX9_goOn, cX9_goOn, 4, (some .int), 7, 156)
def M_X9_set : zMk := (yX9_set, cX9_set, 5, (some .int), 1, 22)
def M_X9_dikes : zMk := (yX9_dikes, cX9_dikes, 3, (some .int), 0, 0)
def M_X9_dike : zMk := (yX9_dike, cX9_dike, 5, (some .int), 2, 43)
def M_X9_flood : zMk := (yX9_flood, cX9_flood, 5, (some .int), 1, 23)
def M_X9_cut : zMk := (yX9_cut, cX9_cut, 2, (some .int), 2, 50)
def M_X9_pass : zMk := (yX9_pass, cX9_pass, 5, (some .int), 8, 179)
def M_X9_cell : zMk := (yX9_cell, cX9_cell, 5, (some .int), 2, 43)
def M_X9_course : zMk := (yX9_course, cX9_course, 3, (some .int), 1, 22)
def M_X9_bend : zMk := (yX9_bend, cX9_bend, 3, (some .int), 6, 133)
def M_X9_neck : zMk := (yX9_neck, cX9_neck, 3, (some .int), 2, 50)
def M_X9_oxbow : zMk := (yX9_oxbow, cX9_oxbow, 4, (some .int), 1, 22)
def M_X9_firm : zMk := (yX9_firm, cX9_firm, 3, (some .int), 5, 112)
def M_X9_apart : zMk := (yX9_apart, cX9_apart, 2, (some .int), 0, 0)
def M_X9_winding : zMk := (yX9_winding, cX9_winding, 3, (some .int), 1, 21)
def M_X9_allWear : zMk := (yX9_allWear, cX9_allWear, 3, (some .int), 0, 0)
def M_X9_allNecks : zMk := (yX9_allNecks, cX9_allNecks, 2, (some .int), 2, 50)
def M_X9_count : zMk := (yX9_count, cX9_count, 2, (some .int), 6, 134)
def M_X9_isFlood : zMk := (yX9_isFlood, cX9_isFlood, 2, (some .int), 1, 23)
def M_X9_ifPassed : zMk := (yX9_ifPassed, cX9_ifPassed, 5, (some .int), 8, 179)
def M_X9_nextCut : zMk := (yX9_nextCut, cX9_nextCut, 5, (some .int), 8, 179)
def M_X9_taken : zMk := (yX9_taken, cX9_taken, 7, (some .int), 8, 179)
def M_X9_put : zMk := (yX9_put, cX9_put, 8, (some .int), 1, 22)
def M_X9_wipe : zMk := (yX9_wipe, cX9_wipe, 2, (some .int), 0, 0)
def M_X9_sign : zMk := (yX9_sign, cX9_sign, 4, (some .int), 1, 22)
def M_X9_isNext : zMk := (yX9_isNext, cX9_isNext, 3, (some .boolean), 1, 22)
def M_X9_number : zMk := (yX9_number, cX9_number, 4, (some .int), 2, 45)
def M_X9_tell : zMk := (yX9_tell, cX9_tell, 3, none, 0, 0)
def M_X9_readPad : zMk := (yX9_readPad, cX9_readPad, 10, none, 3, 68)
def M_X9_fault : zMk := (yX9_fault, cX9_fault, 1, (some .int), 4, 97)
def M_X9_read : zMk := (yX9_read, cX9_read, 2, (some .int), 4, 97)
def M_X9_undo : zMk := (yX9_undo, cX9_undo, 2, (some .int), 0, 0)
def M_X9_save : zMk := (yX9_save, cX9_save, 3, (some .int), 1, 22)
def M_X9_restore : zMk := (yX9_restore, cX9_restore, 3, (some .int), 1, 22)
def M_J7_fill_53178 : zMk := (yJ7_fill_53178, cJ7_fill_53178, 4, none, 0, 0)
def M_L_law : zMk := (yL_law, cL_law, 4, (some .boolean), 9, 205)
theorem ok_X0_init : zok M_X0_init 0 := ⟨inGW 58 (by decide +kernel) rfl, inGW 244 (by decide +kernel) rfl, by decide +kernel, by decide +kernel⟩
theorem okI_X0_init : Cond.instanceMethod (ky M_X0_init) ∈ GW := inGW 243 (by decide +kernel) rfl
theorem ok_X0_seekFrom : zok M_X0_seekFrom 2 := ⟨inGW 58 (by decide +kernel) rfl, inGW 539 (by decide +kernel) rfl, by decide +kernel, by decide +kernel⟩
theorem okV_X0_seekFrom : zokV M_X0_seekFrom := ⟨inGW 537 (by decide +kernel) rfl, inGW 538 (by decide +kernel) rfl⟩
theorem ok_X0_seekNumbered : zok M_X0_seekNumbered 2 := ⟨inGW 58 (by decide +kernel) rfl, inGW 668 (by decide +kernel) rfl, by decide +kernel, by decide +kernel⟩
theorem okV_X0_seekNumbered : zokV M_X0_seekNumbered := ⟨inGW 666 (by decide +kernel) rfl, inGW 667 (by decide +kernel) rfl⟩
theorem ok_X0_endOfRow : zok M_X0_endOfRow 3 := ⟨inGW 58 (by decide +kernel) rfl, inGW 550 (by decide +kernel) rfl, by decide +kernel, by decide +kernel⟩
theorem okS_X0_endOfRow : Cond.static (ky M_X0_endOfRow) ∈ GW := inGW 549 (by decide +kernel) rfl
theorem ok_X1_init : zok M_X1_init 0 := ⟨inGW 51 (by decide +kernel) rfl, inGW 82 (by decide +kernel) rfl, by decide +kernel, by decide +kernel⟩
theorem okI_X1_init : Cond.instanceMethod (ky M_X1_init) ∈ GW := inGW 81 (by decide +kernel) rfl
theorem ok_X1_clear : zok M_X1_clear 0 := ⟨inGW 51 (by decide +kernel) rfl, inGW 87 (by decide +kernel) rfl, by decide +kernel, by decide +kernel⟩
theorem okV_X1_clear : zokV M_X1_clear := ⟨inGW 85 (by decide +kernel) rfl, inGW 86 (by decide +kernel) rfl⟩
theorem ok_X1_copyFrom : zok M_X1_copyFrom 1 := ⟨inGW 51 (by decide +kernel) rfl, inGW 348 (by decide +kernel) rfl, by decide +kernel, by decide +kernel⟩
theorem okV_X1_copyFrom : zokV M_X1_copyFrom := ⟨inGW 346 (by decide +kernel) rfl, inGW 347 (by decide +kernel) rfl⟩
theorem ok_X1_length : zok M_X1_length 0 := ⟨inGW 51 (by decide +kernel) rfl, inGW 423 (by decide +kernel) rfl, by decide +kernel, by decide +kernel⟩
theorem okV_X1_length : zokV M_X1_length := ⟨inGW 421 (by decide +kernel) rfl, inGW 422 (by decide +kernel) rfl⟩
theorem ok_X1_append : zok M_X1_append 1 := ⟨inGW 51 (by decide +kernel) rfl, inGW 138 (by decide +kernel) rfl, by decide +kernel, by decide +kernel⟩
theorem okV_X1_append : zokV M_X1_append := ⟨inGW 136 (by decide +kernel) rfl, inGW 137 (by decide +kernel) rfl⟩
theorem ok_X1_cellOf : zok M_X1_cellOf 1 := ⟨inGW 51 (by decide +kernel) rfl, inGW 489 (by decide +kernel) rfl, by decide +kernel, by decide +kernel⟩
theorem okV_X1_cellOf : zokV M_X1_cellOf := ⟨inGW 487 (by decide +kernel) rfl, inGW 488 (by decide +kernel) rfl⟩
theorem ok_X1_numberOf : zok M_X1_numberOf 1 := ⟨inGW 51 (by decide +kernel) rfl, inGW 432 (by decide +kernel) rfl, by decide +kernel, by decide +kernel⟩
theorem okV_X1_numberOf : zokV M_X1_numberOf := ⟨inGW 430 (by decide +kernel) rfl, inGW 431 (by decide +kernel) rfl⟩
theorem ok_X1_numberBeside : zok M_X1_numberBeside 2 := ⟨inGW 51 (by decide +kernel) rfl, inGW 485 (by decide +kernel) rfl, by decide +kernel, by decide +kernel⟩
theorem okV_X1_numberBeside : zokV M_X1_numberBeside := ⟨inGW 483 (by decide +kernel) rfl, inGW 484 (by decide +kernel) rfl⟩
theorem ok_X1_nextBeside : zok M_X1_nextBeside 2 := ⟨inGW 51 (by decide +kernel) rfl, inGW 481 (by decide +kernel) rfl, by decide +kernel, by decide +kernel⟩
theorem okV_X1_nextBeside : zokV M_X1_nextBeside := ⟨inGW 479 (by decide +kernel) rfl, inGW 480 (by decide +kernel) rfl⟩
theorem ok_X1_wayFrom : zok M_X1_wayFrom 1 := ⟨inGW 51 (by decide +kernel) rfl, inGW 547 (by decide +kernel) rfl, by decide +kernel, by decide +kernel⟩
theorem okV_X1_wayFrom : zokV M_X1_wayFrom := ⟨inGW 545 (by decide +kernel) rfl, inGW 546 (by decide +kernel) rfl⟩
theorem ok_X1_winding : zok M_X1_winding 0 := ⟨inGW 51 (by decide +kernel) rfl, inGW 716 (by decide +kernel) rfl, by decide +kernel, by decide +kernel⟩
theorem okV_X1_winding : zokV M_X1_winding := ⟨inGW 714 (by decide +kernel) rfl, inGW 715 (by decide +kernel) rfl⟩
theorem ok_X1_bulge : zok M_X1_bulge 3 := ⟨inGW 51 (by decide +kernel) rfl, inGW 612 (by decide +kernel) rfl, by decide +kernel, by decide +kernel⟩
theorem okV_X1_bulge : zokV M_X1_bulge := ⟨inGW 610 (by decide +kernel) rfl, inGW 611 (by decide +kernel) rfl⟩
theorem ok_X1_shorten : zok M_X1_shorten 2 := ⟨inGW 51 (by decide +kernel) rfl, inGW 513 (by decide +kernel) rfl, by decide +kernel, by decide +kernel⟩
theorem okV_X1_shorten : zokV M_X1_shorten := ⟨inGW 511 (by decide +kernel) rfl, inGW 512 (by decide +kernel) rfl⟩
theorem ok_X1_leaveBetween : zok M_X1_leaveBetween 2 := ⟨inGW 51 (by decide +kernel) rfl, inGW 517 (by decide +kernel) rfl, by decide +kernel, by decide +kernel⟩
theorem okV_X1_leaveBetween : zokV M_X1_leaveBetween := ⟨inGW 516 (by decide +kernel) rfl, inGW 8 (by decide +kernel) rfl⟩
theorem ok_X1_numberAgain : zok M_X1_numberAgain 1 := ⟨inGW 51 (by decide +kernel) rfl, inGW 521 (by decide +kernel) rfl, by decide +kernel, by decide +kernel⟩
theorem okV_X1_numberAgain : zokV M_X1_numberAgain := ⟨inGW 520 (by decide +kernel) rfl, inGW 9 (by decide +kernel) rfl⟩
theorem ok_X2_init : zok M_X2_init 0 := ⟨inGW 55 (by decide +kernel) rfl, inGW 191 (by decide +kernel) rfl, by decide +kernel, by decide +kernel⟩
theorem okI_X2_init : Cond.instanceMethod (ky M_X2_init) ∈ GW := inGW 190 (by decide +kernel) rfl
theorem ok_X2_length : zok M_X2_length 0 := ⟨inGW 55 (by decide +kernel) rfl, inGW 729 (by decide +kernel) rfl, by decide +kernel, by decide +kernel⟩
theorem okV_X2_length : zokV M_X2_length := ⟨inGW 727 (by decide +kernel) rfl, inGW 728 (by decide +kernel) rfl⟩
theorem ok_X2_remember : zok M_X2_remember 1 := ⟨inGW 55 (by decide +kernel) rfl, inGW 340 (by decide +kernel) rfl, by decide +kernel, by decide +kernel⟩
theorem okV_X2_remember : zokV M_X2_remember := ⟨inGW 338 (by decide +kernel) rfl, inGW 339 (by decide +kernel) rfl⟩
theorem ok_X2_takeBack : zok M_X2_takeBack 1 := ⟨inGW 55 (by decide +kernel) rfl, inGW 781 (by decide +kernel) rfl, by decide +kernel, by decide +kernel⟩
theorem okV_X2_takeBack : zokV M_X2_takeBack := ⟨inGW 779 (by decide +kernel) rfl, inGW 780 (by decide +kernel) rfl⟩
theorem ok_X3_init : zok M_X3_init 0 := ⟨inGW 59 (by decide +kernel) rfl, inGW 268 (by decide +kernel) rfl, by decide +kernel, by decide +kernel⟩
theorem okI_X3_init : Cond.instanceMethod (ky M_X3_init) ∈ GW := inGW 267 (by decide +kernel) rfl
theorem ok_X3_seekNumbered : zok M_X3_seekNumbered 2 := ⟨inGW 59 (by decide +kernel) rfl, inGW 476 (by decide +kernel) rfl, by decide +kernel, by decide +kernel⟩
theorem okV_X3_seekNumbered : zokV M_X3_seekNumbered := ⟨inGW 474 (by decide +kernel) rfl, inGW 475 (by decide +kernel) rfl⟩
theorem ok_X3_seekWidest : zok M_X3_seekWidest 2 := ⟨inGW 59 (by decide +kernel) rfl, inGW 633 (by decide +kernel) rfl, by decide +kernel, by decide +kernel⟩
theorem okV_X3_seekWidest : zokV M_X3_seekWidest := ⟨inGW 631 (by decide +kernel) rfl, inGW 632 (by decide +kernel) rfl⟩
theorem ok_X4_init : zok M_X4_init 0 := ⟨inGW 53 (by decide +kernel) rfl, inGW 106 (by decide +kernel) rfl, by decide +kernel, by decide +kernel⟩
theorem okI_X4_init : Cond.instanceMethod (ky M_X4_init) ∈ GW := inGW 105 (by decide +kernel) rfl
theorem ok_X4_clear : zok M_X4_clear 0 := ⟨inGW 53 (by decide +kernel) rfl, inGW 111 (by decide +kernel) rfl, by decide +kernel, by decide +kernel⟩
theorem okV_X4_clear : zokV M_X4_clear := ⟨inGW 109 (by decide +kernel) rfl, inGW 110 (by decide +kernel) rfl⟩
theorem ok_X4_copyFrom : zok M_X4_copyFrom 1 := ⟨inGW 53 (by decide +kernel) rfl, inGW 353 (by decide +kernel) rfl, by decide +kernel, by decide +kernel⟩
theorem okV_X4_copyFrom : zokV M_X4_copyFrom := ⟨inGW 351 (by decide +kernel) rfl, inGW 352 (by decide +kernel) rfl⟩
theorem ok_X4_length : zok M_X4_length 0 := ⟨inGW 53 (by decide +kernel) rfl, inGW 712 (by decide +kernel) rfl, by decide +kernel, by decide +kernel⟩
theorem okV_X4_length : zokV M_X4_length := ⟨inGW 710 (by decide +kernel) rfl, inGW 711 (by decide +kernel) rfl⟩
theorem ok_X4_has : zok M_X4_has 1 := ⟨inGW 53 (by decide +kernel) rfl, inGW 507 (by decide +kernel) rfl, by decide +kernel, by decide +kernel⟩
theorem okV_X4_has : zokV M_X4_has := ⟨inGW 505 (by decide +kernel) rfl, inGW 506 (by decide +kernel) rfl⟩
theorem ok_X4_ownerOf : zok M_X4_ownerOf 1 := ⟨inGW 53 (by decide +kernel) rfl, inGW 576 (by decide +kernel) rfl, by decide +kernel, by decide +kernel⟩
theorem okV_X4_ownerOf : zokV M_X4_ownerOf := ⟨inGW 574 (by decide +kernel) rfl, inGW 575 (by decide +kernel) rfl⟩
theorem ok_X4_sizeOf : zok M_X4_sizeOf 1 := ⟨inGW 53 (by decide +kernel) rfl, inGW 686 (by decide +kernel) rfl, by decide +kernel, by decide +kernel⟩
theorem okV_X4_sizeOf : zokV M_X4_sizeOf := ⟨inGW 684 (by decide +kernel) rfl, inGW 685 (by decide +kernel) rfl⟩
theorem ok_X4_yearsOf : zok M_X4_yearsOf 1 := ⟨inGW 53 (by decide +kernel) rfl, inGW 690 (by decide +kernel) rfl, by decide +kernel, by decide +kernel⟩
theorem okV_X4_yearsOf : zokV M_X4_yearsOf := ⟨inGW 688 (by decide +kernel) rfl, inGW 689 (by decide +kernel) rfl⟩
theorem ok_X4_firstCellOf : zok M_X4_firstCellOf 1 := ⟨inGW 53 (by decide +kernel) rfl, inGW 694 (by decide +kernel) rfl, by decide +kernel, by decide +kernel⟩
theorem okV_X4_firstCellOf : zokV M_X4_firstCellOf := ⟨inGW 692 (by decide +kernel) rfl, inGW 693 (by decide +kernel) rfl⟩
theorem ok_X4_take : zok M_X4_take 3 := ⟨inGW 53 (by decide +kernel) rfl, inGW 499 (by decide +kernel) rfl, by decide +kernel, by decide +kernel⟩
theorem okV_X4_take : zokV M_X4_take := ⟨inGW 497 (by decide +kernel) rfl, inGW 498 (by decide +kernel) rfl⟩
theorem ok_X4_drop : zok M_X4_drop 1 := ⟨inGW 53 (by decide +kernel) rfl, inGW 503 (by decide +kernel) rfl, by decide +kernel, by decide +kernel⟩
theorem okV_X4_drop : zokV M_X4_drop := ⟨inGW 501 (by decide +kernel) rfl, inGW 502 (by decide +kernel) rfl⟩
theorem ok_X4_passYear : zok M_X4_passYear 1 := ⟨inGW 53 (by decide +kernel) rfl, inGW 643 (by decide +kernel) rfl, by decide +kernel, by decide +kernel⟩
theorem okV_X4_passYear : zokV M_X4_passYear := ⟨inGW 641 (by decide +kernel) rfl, inGW 642 (by decide +kernel) rfl⟩
theorem ok_X5_init : zok M_X5_init 0 := ⟨inGW 56 (by decide +kernel) rfl, inGW 210 (by decide +kernel) rfl, by decide +kernel, by decide +kernel⟩
theorem okI_X5_init : Cond.instanceMethod (ky M_X5_init) ∈ GW := inGW 209 (by decide +kernel) rfl
theorem ok_X5_length : zok M_X5_length 0 := ⟨inGW 56 (by decide +kernel) rfl, inGW 725 (by decide +kernel) rfl, by decide +kernel, by decide +kernel⟩
theorem okV_X5_length : zokV M_X5_length := ⟨inGW 723 (by decide +kernel) rfl, inGW 724 (by decide +kernel) rfl⟩
theorem ok_X5_stepCount : zok M_X5_stepCount 0 := ⟨inGW 56 (by decide +kernel) rfl, inGW 398 (by decide +kernel) rfl, by decide +kernel, by decide +kernel⟩
theorem okV_X5_stepCount : zokV M_X5_stepCount := ⟨inGW 396 (by decide +kernel) rfl, inGW 397 (by decide +kernel) rfl⟩
theorem ok_X5_clear : zok M_X5_clear 0 := ⟨inGW 56 (by decide +kernel) rfl, inGW 419 (by decide +kernel) rfl, by decide +kernel, by decide +kernel⟩
theorem okV_X5_clear : zokV M_X5_clear := ⟨inGW 417 (by decide +kernel) rfl, inGW 418 (by decide +kernel) rfl⟩
theorem ok_X5_sizeOf : zok M_X5_sizeOf 1 := ⟨inGW 56 (by decide +kernel) rfl, inGW 756 (by decide +kernel) rfl, by decide +kernel, by decide +kernel⟩
theorem okS_X5_sizeOf : Cond.static (ky M_X5_sizeOf) ∈ GW := inGW 755 (by decide +kernel) rfl
theorem ok_X5_hasRoomFor : zok M_X5_hasRoomFor 1 := ⟨inGW 56 (by decide +kernel) rfl, inGW 761 (by decide +kernel) rfl, by decide +kernel, by decide +kernel⟩
theorem okV_X5_hasRoomFor : zokV M_X5_hasRoomFor := ⟨inGW 759 (by decide +kernel) rfl, inGW 760 (by decide +kernel) rfl⟩
theorem ok_X5_append : zok M_X5_append 2 := ⟨inGW 56 (by decide +kernel) rfl, inGW 765 (by decide +kernel) rfl, by decide +kernel, by decide +kernel⟩
theorem okV_X5_append : zokV M_X5_append := ⟨inGW 763 (by decide +kernel) rfl, inGW 764 (by decide +kernel) rfl⟩
theorem ok_X5_scan : zok M_X5_scan 0 := ⟨inGW 56 (by decide +kernel) rfl, inGW 370 (by decide +kernel) rfl, by decide +kernel, by decide +kernel⟩
theorem okV_X5_scan : zokV M_X5_scan := ⟨inGW 368 (by decide +kernel) rfl, inGW 369 (by decide +kernel) rfl⟩
theorem ok_X5_scanNumber : zok M_X5_scanNumber 2 := ⟨inGW 56 (by decide +kernel) rfl, inGW 374 (by decide +kernel) rfl, by decide +kernel, by decide +kernel⟩
theorem okV_X5_scanNumber : zokV M_X5_scanNumber := ⟨inGW 373 (by decide +kernel) rfl, inGW 0 (by decide +kernel) rfl⟩
theorem ok_X5_scanSteps : zok M_X5_scanSteps 0 := ⟨inGW 56 (by decide +kernel) rfl, inGW 386 (by decide +kernel) rfl, by decide +kernel, by decide +kernel⟩
theorem okV_X5_scanSteps : zokV M_X5_scanSteps := ⟨inGW 385 (by decide +kernel) rfl, inGW 3 (by decide +kernel) rfl⟩
theorem ok_X5_addSteps : zok M_X5_addSteps 2 := ⟨inGW 56 (by decide +kernel) rfl, inGW 394 (by decide +kernel) rfl, by decide +kernel, by decide +kernel⟩
theorem okV_X5_addSteps : zokV M_X5_addSteps := ⟨inGW 393 (by decide +kernel) rfl, inGW 5 (by decide +kernel) rfl⟩
theorem ok_X5_signAt : zok M_X5_signAt 1 := ⟨inGW 56 (by decide +kernel) rfl, inGW 382 (by decide +kernel) rfl, by decide +kernel, by decide +kernel⟩
theorem okV_X5_signAt : zokV M_X5_signAt := ⟨inGW 381 (by decide +kernel) rfl, inGW 2 (by decide +kernel) rfl⟩
theorem ok_X5_digitAt : zok M_X5_digitAt 1 := ⟨inGW 56 (by decide +kernel) rfl, inGW 378 (by decide +kernel) rfl, by decide +kernel, by decide +kernel⟩
theorem okV_X5_digitAt : zokV M_X5_digitAt := ⟨inGW 377 (by decide +kernel) rfl, inGW 1 (by decide +kernel) rfl⟩
theorem ok_X5_wayAt : zok M_X5_wayAt 1 := ⟨inGW 56 (by decide +kernel) rfl, inGW 390 (by decide +kernel) rfl, by decide +kernel, by decide +kernel⟩
theorem okV_X5_wayAt : zokV M_X5_wayAt := ⟨inGW 389 (by decide +kernel) rfl, inGW 4 (by decide +kernel) rfl⟩
theorem ok_X5_layCourse : zok M_X5_layCourse 1 := ⟨inGW 56 (by decide +kernel) rfl, inGW 410 (by decide +kernel) rfl, by decide +kernel, by decide +kernel⟩
theorem okV_X5_layCourse : zokV M_X5_layCourse := ⟨inGW 408 (by decide +kernel) rfl, inGW 409 (by decide +kernel) rfl⟩
theorem ok_X6_init : zok M_X6_init 0 := ⟨inGW 57 (by decide +kernel) rfl, inGW 238 (by decide +kernel) rfl, by decide +kernel, by decide +kernel⟩
theorem okI_X6_init : Cond.instanceMethod (ky M_X6_init) ∈ GW := inGW 237 (by decide +kernel) rfl
theorem ok_X6_watch : zok M_X6_watch 1 := ⟨inGW 57 (by decide +kernel) rfl, inGW 749 (by decide +kernel) rfl, by decide +kernel, by decide +kernel⟩
theorem okV_X6_watch : zokV M_X6_watch := ⟨inGW 747 (by decide +kernel) rfl, inGW 748 (by decide +kernel) rfl⟩
theorem ok_X6_passYear : zok M_X6_passYear 1 := ⟨inGW 57 (by decide +kernel) rfl, inGW 529 (by decide +kernel) rfl, by decide +kernel, by decide +kernel⟩
theorem okV_X6_passYear : zokV M_X6_passYear := ⟨inGW 527 (by decide +kernel) rfl, inGW 528 (by decide +kernel) rfl⟩
theorem ok_X6_wearBanks : zok M_X6_wearBanks 2 := ⟨inGW 57 (by decide +kernel) rfl, inGW 534 (by decide +kernel) rfl, by decide +kernel, by decide +kernel⟩
theorem okV_X6_wearBanks : zokV M_X6_wearBanks := ⟨inGW 533 (by decide +kernel) rfl, inGW 10 (by decide +kernel) rfl⟩
theorem ok_X6_growBends : zok M_X6_growBends 1 := ⟨inGW 57 (by decide +kernel) rfl, inGW 583 (by decide +kernel) rfl, by decide +kernel, by decide +kernel⟩
theorem okV_X6_growBends : zokV M_X6_growBends := ⟨inGW 582 (by decide +kernel) rfl, inGW 11 (by decide +kernel) rfl⟩
theorem ok_X6_noteTaken : zok M_X6_noteTaken 1 := ⟨inGW 57 (by decide +kernel) rfl, inGW 602 (by decide +kernel) rfl, by decide +kernel, by decide +kernel⟩
theorem okV_X6_noteTaken : zokV M_X6_noteTaken := ⟨inGW 601 (by decide +kernel) rfl, inGW 12 (by decide +kernel) rfl⟩
theorem ok_X6_cutNecks : zok M_X6_cutNecks 2 := ⟨inGW 57 (by decide +kernel) rfl, inGW 628 (by decide +kernel) rfl, by decide +kernel, by decide +kernel⟩
theorem okV_X6_cutNecks : zokV M_X6_cutNecks := ⟨inGW 627 (by decide +kernel) rfl, inGW 14 (by decide +kernel) rfl⟩
theorem ok_X7_init : zok M_X7_init 0 := ⟨inGW 50 (by decide +kernel) rfl, inGW 74 (by decide +kernel) rfl, by decide +kernel, by decide +kernel⟩
theorem okI_X7_init : Cond.instanceMethod (ky M_X7_init) ∈ GW := inGW 73 (by decide +kernel) rfl
theorem ok_X7_copyFrom : zok M_X7_copyFrom 1 := ⟨inGW 50 (by decide +kernel) rfl, inGW 344 (by decide +kernel) rfl, by decide +kernel, by decide +kernel⟩
theorem okV_X7_copyFrom : zokV M_X7_copyFrom := ⟨inGW 342 (by decide +kernel) rfl, inGW 343 (by decide +kernel) rfl⟩
theorem ok_X7_clearAllButSettings : zok M_X7_clearAllButSettings 0 := ⟨inGW 50 (by decide +kernel) rfl, inGW 403 (by decide +kernel) rfl, by decide +kernel, by decide +kernel⟩
theorem okV_X7_clearAllButSettings : zokV M_X7_clearAllButSettings := ⟨inGW 401 (by decide +kernel) rfl, inGW 402 (by decide +kernel) rfl⟩
theorem ok_X7_setting : zok M_X7_setting 1 := ⟨inGW 50 (by decide +kernel) rfl, inGW 358 (by decide +kernel) rfl, by decide +kernel, by decide +kernel⟩
theorem okV_X7_setting : zokV M_X7_setting := ⟨inGW 356 (by decide +kernel) rfl, inGW 357 (by decide +kernel) rfl⟩
theorem ok_X7_changeSetting : zok M_X7_changeSetting 2 := ⟨inGW 50 (by decide +kernel) rfl, inGW 362 (by decide +kernel) rfl, by decide +kernel, by decide +kernel⟩
theorem okV_X7_changeSetting : zokV M_X7_changeSetting := ⟨inGW 360 (by decide +kernel) rfl, inGW 361 (by decide +kernel) rfl⟩
theorem ok_X7_isDike : zok M_X7_isDike 1 := ⟨inGW 50 (by decide +kernel) rfl, inGW 436 (by decide +kernel) rfl, by decide +kernel, by decide +kernel⟩
theorem okV_X7_isDike : zokV M_X7_isDike := ⟨inGW 434 (by decide +kernel) rfl, inGW 435 (by decide +kernel) rfl⟩
theorem ok_X7_changeDike : zok M_X7_changeDike 2 := ⟨inGW 50 (by decide +kernel) rfl, inGW 441 (by decide +kernel) rfl, by decide +kernel, by decide +kernel⟩
theorem okV_X7_changeDike : zokV M_X7_changeDike := ⟨inGW 439 (by decide +kernel) rfl, inGW 440 (by decide +kernel) rfl⟩
theorem ok_X7_dikeCount : zok M_X7_dikeCount 0 := ⟨inGW 50 (by decide +kernel) rfl, inGW 448 (by decide +kernel) rfl, by decide +kernel, by decide +kernel⟩
theorem okV_X7_dikeCount : zokV M_X7_dikeCount := ⟨inGW 446 (by decide +kernel) rfl, inGW 447 (by decide +kernel) rfl⟩
theorem ok_X7_hasFlood : zok M_X7_hasFlood 1 := ⟨inGW 50 (by decide +kernel) rfl, inGW 456 (by decide +kernel) rfl, by decide +kernel, by decide +kernel⟩
theorem okV_X7_hasFlood : zokV M_X7_hasFlood := ⟨inGW 454 (by decide +kernel) rfl, inGW 455 (by decide +kernel) rfl⟩
theorem ok_X7_changeFlood : zok M_X7_changeFlood 2 := ⟨inGW 50 (by decide +kernel) rfl, inGW 460 (by decide +kernel) rfl, by decide +kernel, by decide +kernel⟩
theorem okV_X7_changeFlood : zokV M_X7_changeFlood := ⟨inGW 458 (by decide +kernel) rfl, inGW 459 (by decide +kernel) rfl⟩
theorem ok_X7_addFlood : zok M_X7_addFlood 1 := ⟨inGW 50 (by decide +kernel) rfl, inGW 464 (by decide +kernel) rfl, by decide +kernel, by decide +kernel⟩
theorem okV_X7_addFlood : zokV M_X7_addFlood := ⟨inGW 463 (by decide +kernel) rfl, inGW 6 (by decide +kernel) rfl⟩
theorem ok_X7_removeFlood : zok M_X7_removeFlood 1 := ⟨inGW 50 (by decide +kernel) rfl, inGW 468 (by decide +kernel) rfl, by decide +kernel, by decide +kernel⟩
theorem okV_X7_removeFlood : zokV M_X7_removeFlood := ⟨inGW 467 (by decide +kernel) rfl, inGW 7 (by decide +kernel) rfl⟩
theorem ok_X7_wearOf : zok M_X7_wearOf 1 := ⟨inGW 50 (by decide +kernel) rfl, inGW 597 (by decide +kernel) rfl, by decide +kernel, by decide +kernel⟩
theorem okV_X7_wearOf : zokV M_X7_wearOf := ⟨inGW 595 (by decide +kernel) rfl, inGW 596 (by decide +kernel) rfl⟩
theorem ok_X7_wearSum : zok M_X7_wearSum 0 := ⟨inGW 50 (by decide +kernel) rfl, inGW 721 (by decide +kernel) rfl, by decide +kernel, by decide +kernel⟩
theorem okV_X7_wearSum : zokV M_X7_wearSum := ⟨inGW 719 (by decide +kernel) rfl, inGW 720 (by decide +kernel) rfl⟩
theorem ok_X7_bankCell : zok M_X7_bankCell 2 := ⟨inGW 50 (by decide +kernel) rfl, inGW 564 (by decide +kernel) rfl, by decide +kernel, by decide +kernel⟩
theorem okV_X7_bankCell : zokV M_X7_bankCell := ⟨inGW 562 (by decide +kernel) rfl, inGW 563 (by decide +kernel) rfl⟩
theorem ok_X7_isFirm : zok M_X7_isFirm 1 := ⟨inGW 50 (by decide +kernel) rfl, inGW 560 (by decide +kernel) rfl, by decide +kernel, by decide +kernel⟩
theorem okV_X7_isFirm : zokV M_X7_isFirm := ⟨inGW 558 (by decide +kernel) rfl, inGW 559 (by decide +kernel) rfl⟩
theorem ok_X7_leastWear : zok M_X7_leastWear 1 := ⟨inGW 50 (by decide +kernel) rfl, inGW 593 (by decide +kernel) rfl, by decide +kernel, by decide +kernel⟩
theorem okV_X7_leastWear : zokV M_X7_leastWear := ⟨inGW 591 (by decide +kernel) rfl, inGW 592 (by decide +kernel) rfl⟩
theorem ok_X7_canGrow : zok M_X7_canGrow 1 := ⟨inGW 50 (by decide +kernel) rfl, inGW 587 (by decide +kernel) rfl, by decide +kernel, by decide +kernel⟩
theorem okV_X7_canGrow : zokV M_X7_canGrow := ⟨inGW 585 (by decide +kernel) rfl, inGW 586 (by decide +kernel) rfl⟩
theorem ok_X7_wearBank : zok M_X7_wearBank 2 := ⟨inGW 50 (by decide +kernel) rfl, inGW 572 (by decide +kernel) rfl, by decide +kernel, by decide +kernel⟩
theorem okV_X7_wearBank : zokV M_X7_wearBank := ⟨inGW 570 (by decide +kernel) rfl, inGW 571 (by decide +kernel) rfl⟩
theorem ok_X7_growBend : zok M_X7_growBend 1 := ⟨inGW 50 (by decide +kernel) rfl, inGW 607 (by decide +kernel) rfl, by decide +kernel, by decide +kernel⟩
theorem okV_X7_growBend : zokV M_X7_growBend := ⟨inGW 605 (by decide +kernel) rfl, inGW 606 (by decide +kernel) rfl⟩
theorem ok_X7_ageOf : zok M_X7_ageOf 2 := ⟨inGW 50 (by decide +kernel) rfl, inGW 638 (by decide +kernel) rfl, by decide +kernel, by decide +kernel⟩
theorem okV_X7_ageOf : zokV M_X7_ageOf := ⟨inGW 636 (by decide +kernel) rfl, inGW 637 (by decide +kernel) rfl⟩
theorem ok_X7_agePairs : zok M_X7_agePairs 0 := ⟨inGW 50 (by decide +kernel) rfl, inGW 616 (by decide +kernel) rfl, by decide +kernel, by decide +kernel⟩
theorem okV_X7_agePairs : zokV M_X7_agePairs := ⟨inGW 614 (by decide +kernel) rfl, inGW 615 (by decide +kernel) rfl⟩
theorem ok_X7_agePair : zok M_X7_agePair 2 := ⟨inGW 50 (by decide +kernel) rfl, inGW 620 (by decide +kernel) rfl, by decide +kernel, by decide +kernel⟩
theorem okV_X7_agePair : zokV M_X7_agePair := ⟨inGW 619 (by decide +kernel) rfl, inGW 13 (by decide +kernel) rfl⟩
theorem ok_X7_pairOf : zok M_X7_pairOf 2 := ⟨inGW 50 (by decide +kernel) rfl, inGW 624 (by decide +kernel) rfl, by decide +kernel, by decide +kernel⟩
theorem okS_X7_pairOf : Cond.static (ky M_X7_pairOf) ∈ GW := inGW 623 (by decide +kernel) rfl
theorem ok_X7_cutBetween : zok M_X7_cutBetween 2 := ⟨inGW 50 (by decide +kernel) rfl, inGW 495 (by decide +kernel) rfl, by decide +kernel, by decide +kernel⟩
theorem okV_X7_cutBetween : zokV M_X7_cutBetween := ⟨inGW 493 (by decide +kernel) rfl, inGW 494 (by decide +kernel) rfl⟩
theorem ok_X8_init : zok M_X8_init 0 := ⟨inGW 49 (by decide +kernel) rfl, inGW 66 (by decide +kernel) rfl, by decide +kernel, by decide +kernel⟩
theorem okI_X8_init : Cond.instanceMethod (ky M_X8_init) ∈ GW := inGW 65 (by decide +kernel) rfl
theorem ok_X8_set : zok M_X8_set 2 := ⟨inGW 49 (by decide +kernel) rfl, inGW 334 (by decide +kernel) rfl, by decide +kernel, by decide +kernel⟩
theorem okV_X8_set : zokV M_X8_set := ⟨inGW 332 (by decide +kernel) rfl, inGW 333 (by decide +kernel) rfl⟩
theorem ok_X8_read : zok M_X8_read 0 := ⟨inGW 49 (by decide +kernel) rfl, inGW 366 (by decide +kernel) rfl, by decide +kernel, by decide +kernel⟩
theorem okV_X8_read : zokV M_X8_read := ⟨inGW 364 (by decide +kernel) rfl, inGW 365 (by decide +kernel) rfl⟩
theorem ok_X8_dike : zok M_X8_dike 3 := ⟨inGW 49 (by decide +kernel) rfl, inGW 427 (by decide +kernel) rfl, by decide +kernel, by decide +kernel⟩
theorem okV_X8_dike : zokV M_X8_dike := ⟨inGW 425 (by decide +kernel) rfl, inGW 426 (by decide +kernel) rfl⟩
theorem ok_X8_flood : zok M_X8_flood 2 := ⟨inGW 49 (by decide +kernel) rfl, inGW 452 (by decide +kernel) rfl, by decide +kernel, by decide +kernel⟩
theorem okV_X8_flood : zokV M_X8_flood := ⟨inGW 450 (by decide +kernel) rfl, inGW 451 (by decide +kernel) rfl⟩
theorem ok_X8_cut : zok M_X8_cut 1 := ⟨inGW 49 (by decide +kernel) rfl, inGW 472 (by decide +kernel) rfl, by decide +kernel, by decide +kernel⟩
theorem okV_X8_cut : zokV M_X8_cut := ⟨inGW 470 (by decide +kernel) rfl, inGW 471 (by decide +kernel) rfl⟩
theorem ok_X8_pass : zok M_X8_pass 1 := ⟨inGW 49 (by decide +kernel) rfl, inGW 525 (by decide +kernel) rfl, by decide +kernel, by decide +kernel⟩
theorem okV_X8_pass : zokV M_X8_pass := ⟨inGW 523 (by decide +kernel) rfl, inGW 524 (by decide +kernel) rfl⟩
theorem ok_X8_cell : zok M_X8_cell 3 := ⟨inGW 49 (by decide +kernel) rfl, inGW 648 (by decide +kernel) rfl, by decide +kernel, by decide +kernel⟩
theorem okV_X8_cell : zokV M_X8_cell := ⟨inGW 646 (by decide +kernel) rfl, inGW 647 (by decide +kernel) rfl⟩
theorem ok_X8_course : zok M_X8_course 2 := ⟨inGW 49 (by decide +kernel) rfl, inGW 658 (by decide +kernel) rfl, by decide +kernel, by decide +kernel⟩
theorem okV_X8_course : zokV M_X8_course := ⟨inGW 656 (by decide +kernel) rfl, inGW 657 (by decide +kernel) rfl⟩
theorem ok_X8_bend : zok M_X8_bend 2 := ⟨inGW 49 (by decide +kernel) rfl, inGW 664 (by decide +kernel) rfl, by decide +kernel, by decide +kernel⟩
theorem okV_X8_bend : zokV M_X8_bend := ⟨inGW 662 (by decide +kernel) rfl, inGW 663 (by decide +kernel) rfl⟩
theorem ok_X8_neck : zok M_X8_neck 2 := ⟨inGW 49 (by decide +kernel) rfl, inGW 676 (by decide +kernel) rfl, by decide +kernel, by decide +kernel⟩
theorem okV_X8_neck : zokV M_X8_neck := ⟨inGW 674 (by decide +kernel) rfl, inGW 675 (by decide +kernel) rfl⟩
theorem ok_X8_oxbow : zok M_X8_oxbow 2 := ⟨inGW 49 (by decide +kernel) rfl, inGW 681 (by decide +kernel) rfl, by decide +kernel, by decide +kernel⟩
theorem okV_X8_oxbow : zokV M_X8_oxbow := ⟨inGW 679 (by decide +kernel) rfl, inGW 680 (by decide +kernel) rfl⟩
theorem ok_X8_count : zok M_X8_count 1 := ⟨inGW 49 (by decide +kernel) rfl, inGW 698 (by decide +kernel) rfl, by decide +kernel, by decide +kernel⟩
theorem okV_X8_count : zokV M_X8_count := ⟨inGW 696 (by decide +kernel) rfl, inGW 697 (by decide +kernel) rfl⟩
theorem ok_X8_isFlood : zok M_X8_isFlood 1 := ⟨inGW 49 (by decide +kernel) rfl, inGW 733 (by decide +kernel) rfl, by decide +kernel, by decide +kernel⟩
theorem okV_X8_isFlood : zokV M_X8_isFlood := ⟨inGW 731 (by decide +kernel) rfl, inGW 732 (by decide +kernel) rfl⟩
theorem ok_X8_ifPassed : zok M_X8_ifPassed 2 := ⟨inGW 49 (by decide +kernel) rfl, inGW 737 (by decide +kernel) rfl, by decide +kernel, by decide +kernel⟩
theorem okV_X8_ifPassed : zokV M_X8_ifPassed := ⟨inGW 735 (by decide +kernel) rfl, inGW 736 (by decide +kernel) rfl⟩
theorem ok_X8_nextCut : zok M_X8_nextCut 1 := ⟨inGW 49 (by decide +kernel) rfl, inGW 741 (by decide +kernel) rfl, by decide +kernel, by decide +kernel⟩
theorem okV_X8_nextCut : zokV M_X8_nextCut := ⟨inGW 739 (by decide +kernel) rfl, inGW 740 (by decide +kernel) rfl⟩
theorem ok_X8_taken : zok M_X8_taken 2 := ⟨inGW 49 (by decide +kernel) rfl, inGW 745 (by decide +kernel) rfl, by decide +kernel, by decide +kernel⟩
theorem okV_X8_taken : zokV M_X8_taken := ⟨inGW 743 (by decide +kernel) rfl, inGW 744 (by decide +kernel) rfl⟩
theorem ok_X8_put : zok M_X8_put 1 := ⟨inGW 49 (by decide +kernel) rfl, inGW 753 (by decide +kernel) rfl, by decide +kernel, by decide +kernel⟩
theorem okV_X8_put : zokV M_X8_put := ⟨inGW 751 (by decide +kernel) rfl, inGW 752 (by decide +kernel) rfl⟩
theorem ok_X8_wipe : zok M_X8_wipe 0 := ⟨inGW 49 (by decide +kernel) rfl, inGW 769 (by decide +kernel) rfl, by decide +kernel, by decide +kernel⟩
theorem okV_X8_wipe : zokV M_X8_wipe := ⟨inGW 767 (by decide +kernel) rfl, inGW 768 (by decide +kernel) rfl⟩
theorem ok_X8_fault : zok M_X8_fault 0 := ⟨inGW 49 (by decide +kernel) rfl, inGW 773 (by decide +kernel) rfl, by decide +kernel, by decide +kernel⟩
theorem okV_X8_fault : zokV M_X8_fault := ⟨inGW 771 (by decide +kernel) rfl, inGW 772 (by decide +kernel) rfl⟩
theorem ok_X8_undo : zok M_X8_undo 0 := ⟨inGW 49 (by decide +kernel) rfl, inGW 777 (by decide +kernel) rfl, by decide +kernel, by decide +kernel⟩
theorem okV_X8_undo : zokV M_X8_undo := ⟨inGW 775 (by decide +kernel) rfl, inGW 776 (by decide +kernel) rfl⟩
theorem ok_X8_save : zok M_X8_save 1 := ⟨inGW 49 (by decide +kernel) rfl, inGW 785 (by decide +kernel) rfl, by decide +kernel, by decide +kernel⟩
theorem okV_X8_save : zokV M_X8_save := ⟨inGW 783 (by decide +kernel) rfl, inGW 784 (by decide +kernel) rfl⟩
theorem ok_X8_restore : zok M_X8_restore 1 := ⟨inGW 49 (by decide +kernel) rfl, inGW 789 (by decide +kernel) rfl, by decide +kernel, by decide +kernel⟩
theorem okV_X8_restore : zokV M_X8_restore := ⟨inGW 787 (by decide +kernel) rfl, inGW 788 (by decide +kernel) rfl⟩
theorem ok_X8_countBends : zok M_X8_countBends 1 := ⟨inGW 49 (by decide +kernel) rfl, inGW 702 (by decide +kernel) rfl, by decide +kernel, by decide +kernel⟩
theorem okV_X8_countBends : zokV M_X8_countBends := ⟨inGW 701 (by decide +kernel) rfl, inGW 15 (by decide +kernel) rfl⟩
theorem ok_X8_countNecks : zok M_X8_countNecks 0 := ⟨inGW 49 (by decide +kernel) rfl, inGW 707 (by decide +kernel) rfl, by decide +kernel, by decide +kernel⟩
theorem okV_X8_countNecks : zokV M_X8_countNecks := ⟨inGW 706 (by decide +kernel) rfl, inGW 16 (by decide +kernel) rfl⟩
theorem ok_X8_orNone : zok M_X8_orNone 1 := ⟨inGW 49 (by decide +kernel) rfl, inGW 651 (by decide +kernel) rfl, by decide +kernel, by decide +kernel⟩
theorem okS_X8_orNone : Cond.static (ky M_X8_orNone) ∈ GW := inGW 650 (by decide +kernel) rfl
theorem ok_X8_asNumber : zok M_X8_asNumber 1 := ⟨inGW 49 (by decide +kernel) rfl, inGW 444 (by decide +kernel) rfl, by decide +kernel, by decide +kernel⟩
theorem okS_X8_asNumber : Cond.static (ky M_X8_asNumber) ∈ GW := inGW 443 (by decide +kernel) rfl
theorem ok_X8_cellAt : zok M_X8_cellAt 2 := ⟨inGW 49 (by decide +kernel) rfl, inGW 134 (by decide +kernel) rfl, by decide +kernel, by decide +kernel⟩
theorem okS_X8_cellAt : Cond.static (ky M_X8_cellAt) ∈ GW := inGW 133 (by decide +kernel) rfl
theorem ok_X8_isOnLand : zok M_X8_isOnLand 1 := ⟨inGW 49 (by decide +kernel) rfl, inGW 141 (by decide +kernel) rfl, by decide +kernel, by decide +kernel⟩
theorem okS_X8_isOnLand : Cond.static (ky M_X8_isOnLand) ∈ GW := inGW 140 (by decide +kernel) rfl
theorem ok_X8_beside : zok M_X8_beside 2 := ⟨inGW 49 (by decide +kernel) rfl, inGW 415 (by decide +kernel) rfl, by decide +kernel, by decide +kernel⟩
theorem okS_X8_beside : Cond.static (ky M_X8_beside) ∈ GW := inGW 414 (by decide +kernel) rfl
theorem ok_X8_areOpposite : zok M_X8_areOpposite 2 := ⟨inGW 49 (by decide +kernel) rfl, inGW 553 (by decide +kernel) rfl, by decide +kernel, by decide +kernel⟩
theorem okS_X8_areOpposite : Cond.static (ky M_X8_areOpposite) ∈ GW := inGW 552 (by decide +kernel) rfl
theorem ok_X9_init : zok M_X9_init 0 := ⟨inGW 60 (by decide +kernel) rfl, inGW 794 (by decide +kernel) rfl, by decide +kernel, by decide +kernel⟩
theorem okI_X9_init : Cond.instanceMethod (ky M_X9_init) ∈ GW := inGW 793 (by decide +kernel) rfl
theorem ok_X9_begin : zok M_X9_begin 0 := ⟨inGW 60 (by decide +kernel) rfl, inGW 799 (by decide +kernel) rfl, by decide +kernel, by decide +kernel⟩
theorem okV_X9_begin : zokV M_X9_begin := ⟨inGW 798 (by decide +kernel) rfl, inGW 17 (by decide +kernel) rfl⟩
theorem ok_X9_in : zok M_X9_in 3 := ⟨inGW 60 (by decide +kernel) rfl, inGW 879 (by decide +kernel) rfl, by decide +kernel, by decide +kernel⟩
theorem okS_X9_in : Cond.static (ky M_X9_in) ∈ GW := inGW 878 (by decide +kernel) rfl
theorem ok_X9_isCell : zok M_X9_isCell 2 := ⟨inGW 60 (by decide +kernel) rfl, inGW 890 (by decide +kernel) rfl, by decide +kernel, by decide +kernel⟩
theorem okS_X9_isCell : Cond.static (ky M_X9_isCell) ∈ GW := inGW 889 (by decide +kernel) rfl
theorem ok_X9_know : zok M_X9_know 0 := ⟨inGW 60 (by decide +kernel) rfl, inGW 883 (by decide +kernel) rfl, by decide +kernel, by decide +kernel⟩
theorem okV_X9_know : zokV M_X9_know := ⟨inGW 882 (by decide +kernel) rfl, inGW 18 (by decide +kernel) rfl⟩
theorem ok_X9_putAside : zok M_X9_putAside 0 := ⟨inGW 60 (by decide +kernel) rfl, inGW 1038 (by decide +kernel) rfl, by decide +kernel, by decide +kernel⟩
theorem okV_X9_putAside : zokV M_X9_putAside := ⟨inGW 1037 (by decide +kernel) rfl, inGW 41 (by decide +kernel) rfl⟩
theorem ok_X9_putBack : zok M_X9_putBack 0 := ⟨inGW 60 (by decide +kernel) rfl, inGW 1042 (by decide +kernel) rfl, by decide +kernel, by decide +kernel⟩
theorem okV_X9_putBack : zokV M_X9_putBack := ⟨inGW 1041 (by decide +kernel) rfl, inGW 42 (by decide +kernel) rfl⟩
theorem ok_X9_stepped : zok M_X9_stepped 2 := ⟨inGW 60 (by decide +kernel) rfl, inGW 963 (by decide +kernel) rfl, by decide +kernel, by decide +kernel⟩
theorem okS_X9_stepped : Cond.static (ky M_X9_stepped) ∈ GW := inGW 962 (by decide +kernel) rfl
theorem ok_X9_way : zok M_X9_way 1 := ⟨inGW 60 (by decide +kernel) rfl, inGW 948 (by decide +kernel) rfl, by decide +kernel, by decide +kernel⟩
theorem okV_X9_way : zokV M_X9_way := ⟨inGW 947 (by decide +kernel) rfl, inGW 28 (by decide +kernel) rfl⟩
theorem ok_X9_numberOf : zok M_X9_numberOf 1 := ⟨inGW 60 (by decide +kernel) rfl, inGW 894 (by decide +kernel) rfl, by decide +kernel, by decide +kernel⟩
theorem okV_X9_numberOf : zokV M_X9_numberOf := ⟨inGW 893 (by decide +kernel) rfl, inGW 19 (by decide +kernel) rfl⟩
theorem ok_X9_findBends : zok M_X9_findBends 0 := ⟨inGW 60 (by decide +kernel) rfl, inGW 944 (by decide +kernel) rfl, by decide +kernel, by decide +kernel⟩
theorem okV_X9_findBends : zokV M_X9_findBends := ⟨inGW 943 (by decide +kernel) rfl, inGW 27 (by decide +kernel) rfl⟩
theorem ok_X9_wayOf : zok M_X9_wayOf 1 := ⟨inGW 60 (by decide +kernel) rfl, inGW 960 (by decide +kernel) rfl, by decide +kernel, by decide +kernel⟩
theorem okV_X9_wayOf : zokV M_X9_wayOf := ⟨inGW 959 (by decide +kernel) rfl, inGW 31 (by decide +kernel) rfl⟩
theorem ok_X9_bank : zok M_X9_bank 2 := ⟨inGW 60 (by decide +kernel) rfl, inGW 956 (by decide +kernel) rfl, by decide +kernel, by decide +kernel⟩
theorem okV_X9_bank : zokV M_X9_bank := ⟨inGW 955 (by decide +kernel) rfl, inGW 30 (by decide +kernel) rfl⟩
theorem ok_X9_isFirm : zok M_X9_isFirm 1 := ⟨inGW 60 (by decide +kernel) rfl, inGW 952 (by decide +kernel) rfl, by decide +kernel, by decide +kernel⟩
theorem okV_X9_isFirm : zokV M_X9_isFirm := ⟨inGW 951 (by decide +kernel) rfl, inGW 29 (by decide +kernel) rfl⟩
theorem ok_X9_leastWear : zok M_X9_leastWear 1 := ⟨inGW 60 (by decide +kernel) rfl, inGW 975 (by decide +kernel) rfl, by decide +kernel, by decide +kernel⟩
theorem okV_X9_leastWear : zokV M_X9_leastWear := ⟨inGW 974 (by decide +kernel) rfl, inGW 34 (by decide +kernel) rfl⟩
theorem ok_X9_canGrow : zok M_X9_canGrow 1 := ⟨inGW 60 (by decide +kernel) rfl, inGW 971 (by decide +kernel) rfl, by decide +kernel, by decide +kernel⟩
theorem okV_X9_canGrow : zokV M_X9_canGrow := ⟨inGW 970 (by decide +kernel) rfl, inGW 33 (by decide +kernel) rfl⟩
theorem ok_X9_dropOxbow : zok M_X9_dropOxbow 1 := ⟨inGW 60 (by decide +kernel) rfl, inGW 928 (by decide +kernel) rfl, by decide +kernel, by decide +kernel⟩
theorem okV_X9_dropOxbow : zokV M_X9_dropOxbow := ⟨inGW 927 (by decide +kernel) rfl, inGW 24 (by decide +kernel) rfl⟩
theorem ok_X9_grow : zok M_X9_grow 1 := ⟨inGW 60 (by decide +kernel) rfl, inGW 979 (by decide +kernel) rfl, by decide +kernel, by decide +kernel⟩
theorem okV_X9_grow : zokV M_X9_grow := ⟨inGW 978 (by decide +kernel) rfl, inGW 35 (by decide +kernel) rfl⟩
theorem ok_X9_pair : zok M_X9_pair 2 := ⟨inGW 60 (by decide +kernel) rfl, inGW 920 (by decide +kernel) rfl, by decide +kernel, by decide +kernel⟩
theorem okS_X9_pair : Cond.static (ky M_X9_pair) ∈ GW := inGW 919 (by decide +kernel) rfl
theorem ok_X9_areNeighbours : zok M_X9_areNeighbours 2 := ⟨inGW 60 (by decide +kernel) rfl, inGW 917 (by decide +kernel) rfl, by decide +kernel, by decide +kernel⟩
theorem okS_X9_areNeighbours : Cond.static (ky M_X9_areNeighbours) ∈ GW := inGW 916 (by decide +kernel) rfl
theorem ok_X9_findNeck : zok M_X9_findNeck 2 := ⟨inGW 60 (by decide +kernel) rfl, inGW 914 (by decide +kernel) rfl, by decide +kernel, by decide +kernel⟩
theorem okV_X9_findNeck : zokV M_X9_findNeck := ⟨inGW 913 (by decide +kernel) rfl, inGW 22 (by decide +kernel) rfl⟩
theorem ok_X9_cutNeck : zok M_X9_cutNeck 0 := ⟨inGW 60 (by decide +kernel) rfl, inGW 924 (by decide +kernel) rfl, by decide +kernel, by decide +kernel⟩
theorem okV_X9_cutNeck : zokV M_X9_cutNeck := ⟨inGW 923 (by decide +kernel) rfl, inGW 23 (by decide +kernel) rfl⟩
theorem ok_X9_isFloodYear : zok M_X9_isFloodYear 1 := ⟨inGW 60 (by decide +kernel) rfl, inGW 906 (by decide +kernel) rfl, by decide +kernel, by decide +kernel⟩
theorem okV_X9_isFloodYear : zokV M_X9_isFloodYear := ⟨inGW 905 (by decide +kernel) rfl, inGW 21 (by decide +kernel) rfl⟩
theorem ok_X9_wear : zok M_X9_wear 0 := ⟨inGW 60 (by decide +kernel) rfl, inGW 940 (by decide +kernel) rfl, by decide +kernel, by decide +kernel⟩
theorem okV_X9_wear : zokV M_X9_wear := ⟨inGW 939 (by decide +kernel) rfl, inGW 26 (by decide +kernel) rfl⟩
theorem ok_X9_growAll : zok M_X9_growAll 0 := ⟨inGW 60 (by decide +kernel) rfl, inGW 967 (by decide +kernel) rfl, by decide +kernel, by decide +kernel⟩
theorem okV_X9_growAll : zokV M_X9_growAll := ⟨inGW 966 (by decide +kernel) rfl, inGW 32 (by decide +kernel) rfl⟩
theorem ok_X9_age : zok M_X9_age 0 := ⟨inGW 60 (by decide +kernel) rfl, inGW 983 (by decide +kernel) rfl, by decide +kernel, by decide +kernel⟩
theorem okV_X9_age : zokV M_X9_age := ⟨inGW 982 (by decide +kernel) rfl, inGW 36 (by decide +kernel) rfl⟩
theorem ok_X9_goOn : zok M_X9_goOn 0 := ⟨inGW 60 (by decide +kernel) rfl, inGW 936 (by decide +kernel) rfl, by decide +kernel, by decide +kernel⟩
theorem okV_X9_goOn : zokV M_X9_goOn := ⟨inGW 935 (by decide +kernel) rfl, inGW 25 (by decide +kernel) rfl⟩
theorem ok_X9_set : zok M_X9_set 2 := ⟨inGW 60 (by decide +kernel) rfl, inGW 876 (by decide +kernel) rfl, by decide +kernel, by decide +kernel⟩
theorem okV_X9_set : zokV M_X9_set := ⟨inGW 874 (by decide +kernel) rfl, inGW 875 (by decide +kernel) rfl⟩
theorem ok_X9_dikes : zok M_X9_dikes 0 := ⟨inGW 60 (by decide +kernel) rfl, inGW 898 (by decide +kernel) rfl, by decide +kernel, by decide +kernel⟩
theorem okV_X9_dikes : zokV M_X9_dikes := ⟨inGW 897 (by decide +kernel) rfl, inGW 20 (by decide +kernel) rfl⟩
theorem ok_X9_dike : zok M_X9_dike 3 := ⟨inGW 60 (by decide +kernel) rfl, inGW 887 (by decide +kernel) rfl, by decide +kernel, by decide +kernel⟩
theorem okV_X9_dike : zokV M_X9_dike := ⟨inGW 885 (by decide +kernel) rfl, inGW 886 (by decide +kernel) rfl⟩
theorem ok_X9_flood : zok M_X9_flood 2 := ⟨inGW 60 (by decide +kernel) rfl, inGW 902 (by decide +kernel) rfl, by decide +kernel, by decide +kernel⟩
theorem okV_X9_flood : zokV M_X9_flood := ⟨inGW 900 (by decide +kernel) rfl, inGW 901 (by decide +kernel) rfl⟩
theorem ok_X9_cut : zok M_X9_cut 1 := ⟨inGW 60 (by decide +kernel) rfl, inGW 910 (by decide +kernel) rfl, by decide +kernel, by decide +kernel⟩
theorem okV_X9_cut : zokV M_X9_cut := ⟨inGW 908 (by decide +kernel) rfl, inGW 909 (by decide +kernel) rfl⟩
theorem ok_X9_pass : zok M_X9_pass 1 := ⟨inGW 60 (by decide +kernel) rfl, inGW 932 (by decide +kernel) rfl, by decide +kernel, by decide +kernel⟩
theorem okV_X9_pass : zokV M_X9_pass := ⟨inGW 930 (by decide +kernel) rfl, inGW 931 (by decide +kernel) rfl⟩
theorem ok_X9_cell : zok M_X9_cell 3 := ⟨inGW 60 (by decide +kernel) rfl, inGW 987 (by decide +kernel) rfl, by decide +kernel, by decide +kernel⟩
theorem okV_X9_cell : zokV M_X9_cell := ⟨inGW 985 (by decide +kernel) rfl, inGW 986 (by decide +kernel) rfl⟩
theorem ok_X9_course : zok M_X9_course 2 := ⟨inGW 60 (by decide +kernel) rfl, inGW 991 (by decide +kernel) rfl, by decide +kernel, by decide +kernel⟩
theorem okV_X9_course : zokV M_X9_course := ⟨inGW 989 (by decide +kernel) rfl, inGW 990 (by decide +kernel) rfl⟩
theorem ok_X9_bend : zok M_X9_bend 2 := ⟨inGW 60 (by decide +kernel) rfl, inGW 995 (by decide +kernel) rfl, by decide +kernel, by decide +kernel⟩
theorem okV_X9_bend : zokV M_X9_bend := ⟨inGW 993 (by decide +kernel) rfl, inGW 994 (by decide +kernel) rfl⟩
theorem ok_X9_neck : zok M_X9_neck 2 := ⟨inGW 60 (by decide +kernel) rfl, inGW 999 (by decide +kernel) rfl, by decide +kernel, by decide +kernel⟩
theorem okV_X9_neck : zokV M_X9_neck := ⟨inGW 997 (by decide +kernel) rfl, inGW 998 (by decide +kernel) rfl⟩
theorem ok_X9_oxbow : zok M_X9_oxbow 2 := ⟨inGW 60 (by decide +kernel) rfl, inGW 1003 (by decide +kernel) rfl, by decide +kernel, by decide +kernel⟩
theorem okV_X9_oxbow : zokV M_X9_oxbow := ⟨inGW 1001 (by decide +kernel) rfl, inGW 1002 (by decide +kernel) rfl⟩
theorem ok_X9_firm : zok M_X9_firm 0 := ⟨inGW 60 (by decide +kernel) rfl, inGW 1011 (by decide +kernel) rfl, by decide +kernel, by decide +kernel⟩
theorem okV_X9_firm : zokV M_X9_firm := ⟨inGW 1010 (by decide +kernel) rfl, inGW 37 (by decide +kernel) rfl⟩
theorem ok_X9_apart : zok M_X9_apart 2 := ⟨inGW 60 (by decide +kernel) rfl, inGW 1022 (by decide +kernel) rfl, by decide +kernel, by decide +kernel⟩
theorem okS_X9_apart : Cond.static (ky M_X9_apart) ∈ GW := inGW 1021 (by decide +kernel) rfl
theorem ok_X9_winding : zok M_X9_winding 0 := ⟨inGW 60 (by decide +kernel) rfl, inGW 1019 (by decide +kernel) rfl, by decide +kernel, by decide +kernel⟩
theorem okV_X9_winding : zokV M_X9_winding := ⟨inGW 1018 (by decide +kernel) rfl, inGW 39 (by decide +kernel) rfl⟩
theorem ok_X9_allWear : zok M_X9_allWear 0 := ⟨inGW 60 (by decide +kernel) rfl, inGW 1026 (by decide +kernel) rfl, by decide +kernel, by decide +kernel⟩
theorem okV_X9_allWear : zokV M_X9_allWear := ⟨inGW 1025 (by decide +kernel) rfl, inGW 40 (by decide +kernel) rfl⟩
theorem ok_X9_allNecks : zok M_X9_allNecks 0 := ⟨inGW 60 (by decide +kernel) rfl, inGW 1015 (by decide +kernel) rfl, by decide +kernel, by decide +kernel⟩
theorem okV_X9_allNecks : zokV M_X9_allNecks := ⟨inGW 1014 (by decide +kernel) rfl, inGW 38 (by decide +kernel) rfl⟩
theorem ok_X9_count : zok M_X9_count 1 := ⟨inGW 60 (by decide +kernel) rfl, inGW 1007 (by decide +kernel) rfl, by decide +kernel, by decide +kernel⟩
theorem okV_X9_count : zokV M_X9_count := ⟨inGW 1005 (by decide +kernel) rfl, inGW 1006 (by decide +kernel) rfl⟩
theorem ok_X9_isFlood : zok M_X9_isFlood 1 := ⟨inGW 60 (by decide +kernel) rfl, inGW 1030 (by decide +kernel) rfl, by decide +kernel, by decide +kernel⟩
theorem okV_X9_isFlood : zokV M_X9_isFlood := ⟨inGW 1028 (by decide +kernel) rfl, inGW 1029 (by decide +kernel) rfl⟩
theorem ok_X9_ifPassed : zok M_X9_ifPassed 2 := ⟨inGW 60 (by decide +kernel) rfl, inGW 1034 (by decide +kernel) rfl, by decide +kernel, by decide +kernel⟩
theorem okV_X9_ifPassed : zokV M_X9_ifPassed := ⟨inGW 1032 (by decide +kernel) rfl, inGW 1033 (by decide +kernel) rfl⟩
theorem ok_X9_nextCut : zok M_X9_nextCut 1 := ⟨inGW 60 (by decide +kernel) rfl, inGW 1046 (by decide +kernel) rfl, by decide +kernel, by decide +kernel⟩
theorem okV_X9_nextCut : zokV M_X9_nextCut := ⟨inGW 1044 (by decide +kernel) rfl, inGW 1045 (by decide +kernel) rfl⟩
theorem ok_X9_taken : zok M_X9_taken 2 := ⟨inGW 60 (by decide +kernel) rfl, inGW 1050 (by decide +kernel) rfl, by decide +kernel, by decide +kernel⟩
theorem okV_X9_taken : zokV M_X9_taken := ⟨inGW 1048 (by decide +kernel) rfl, inGW 1049 (by decide +kernel) rfl⟩
theorem ok_X9_put : zok M_X9_put 1 := ⟨inGW 60 (by decide +kernel) rfl, inGW 1054 (by decide +kernel) rfl, by decide +kernel, by decide +kernel⟩
theorem okV_X9_put : zokV M_X9_put := ⟨inGW 1052 (by decide +kernel) rfl, inGW 1053 (by decide +kernel) rfl⟩
theorem ok_X9_wipe : zok M_X9_wipe 0 := ⟨inGW 60 (by decide +kernel) rfl, inGW 1059 (by decide +kernel) rfl, by decide +kernel, by decide +kernel⟩
theorem okV_X9_wipe : zokV M_X9_wipe := ⟨inGW 1057 (by decide +kernel) rfl, inGW 1058 (by decide +kernel) rfl⟩
theorem ok_X9_sign : zok M_X9_sign 2 := ⟨inGW 60 (by decide +kernel) rfl, inGW 1075 (by decide +kernel) rfl, by decide +kernel, by decide +kernel⟩
theorem okV_X9_sign : zokV M_X9_sign := ⟨inGW 1074 (by decide +kernel) rfl, inGW 45 (by decide +kernel) rfl⟩
theorem ok_X9_isNext : zok M_X9_isNext 2 := ⟨inGW 60 (by decide +kernel) rfl, inGW 1079 (by decide +kernel) rfl, by decide +kernel, by decide +kernel⟩
theorem okV_X9_isNext : zokV M_X9_isNext := ⟨inGW 1078 (by decide +kernel) rfl, inGW 46 (by decide +kernel) rfl⟩
theorem ok_X9_number : zok M_X9_number 1 := ⟨inGW 60 (by decide +kernel) rfl, inGW 1071 (by decide +kernel) rfl, by decide +kernel, by decide +kernel⟩
theorem okV_X9_number : zokV M_X9_number := ⟨inGW 1070 (by decide +kernel) rfl, inGW 44 (by decide +kernel) rfl⟩
theorem ok_X9_tell : zok M_X9_tell 1 := ⟨inGW 60 (by decide +kernel) rfl, inGW 1083 (by decide +kernel) rfl, by decide +kernel, by decide +kernel⟩
theorem okV_X9_tell : zokV M_X9_tell := ⟨inGW 1082 (by decide +kernel) rfl, inGW 47 (by decide +kernel) rfl⟩
theorem ok_X9_readPad : zok M_X9_readPad 0 := ⟨inGW 60 (by decide +kernel) rfl, inGW 1067 (by decide +kernel) rfl, by decide +kernel, by decide +kernel⟩
theorem okV_X9_readPad : zokV M_X9_readPad := ⟨inGW 1066 (by decide +kernel) rfl, inGW 43 (by decide +kernel) rfl⟩
theorem ok_X9_fault : zok M_X9_fault 0 := ⟨inGW 60 (by decide +kernel) rfl, inGW 1063 (by decide +kernel) rfl, by decide +kernel, by decide +kernel⟩
theorem okV_X9_fault : zokV M_X9_fault := ⟨inGW 1061 (by decide +kernel) rfl, inGW 1062 (by decide +kernel) rfl⟩
theorem ok_X9_read : zok M_X9_read 0 := ⟨inGW 60 (by decide +kernel) rfl, inGW 1087 (by decide +kernel) rfl, by decide +kernel, by decide +kernel⟩
theorem okV_X9_read : zokV M_X9_read := ⟨inGW 1085 (by decide +kernel) rfl, inGW 1086 (by decide +kernel) rfl⟩
theorem ok_X9_undo : zok M_X9_undo 0 := ⟨inGW 60 (by decide +kernel) rfl, inGW 1091 (by decide +kernel) rfl, by decide +kernel, by decide +kernel⟩
theorem okV_X9_undo : zokV M_X9_undo := ⟨inGW 1089 (by decide +kernel) rfl, inGW 1090 (by decide +kernel) rfl⟩
theorem ok_X9_save : zok M_X9_save 1 := ⟨inGW 60 (by decide +kernel) rfl, inGW 1095 (by decide +kernel) rfl, by decide +kernel, by decide +kernel⟩
theorem okV_X9_save : zokV M_X9_save := ⟨inGW 1093 (by decide +kernel) rfl, inGW 1094 (by decide +kernel) rfl⟩
theorem ok_X9_restore : zok M_X9_restore 1 := ⟨inGW 60 (by decide +kernel) rfl, inGW 1099 (by decide +kernel) rfl, by decide +kernel, by decide +kernel⟩
theorem okV_X9_restore : zokV M_X9_restore := ⟨inGW 1097 (by decide +kernel) rfl, inGW 1098 (by decide +kernel) rfl⟩
theorem ok_J7_fill_53178 : zok M_J7_fill_53178 2 := ⟨inGW 52 (by decide +kernel) rfl, inGW 90 (by decide +kernel) rfl, by decide +kernel, by decide +kernel⟩
theorem okS_J7_fill_53178 : Cond.static (ky M_J7_fill_53178) ∈ GW := inGW 89 (by decide +kernel) rfl
theorem wf_X0_35 : Cond.fieldLink RX0 35 (RXc 0) (TXc 0 0).2.1 (TXc 0 0).2.2.1 ∈ GW := inGW 246 (by decide +kernel) rfl
theorem wf_X0_39 : Cond.fieldLink RX0 39 (RXc 0) (TXc 0 1).2.1 (TXc 0 1).2.2.1 ∈ GW := inGW 250 (by decide +kernel) rfl
theorem wf_X0_42 : Cond.fieldLink RX0 42 (RXc 0) (TXc 0 2).2.1 (TXc 0 2).2.2.1 ∈ GW := inGW 254 (by decide +kernel) rfl
theorem wf_X1_15 : Cond.fieldLink RX1 15 (RXc 1) (TXc 1 1).2.1 (TXc 1 1).2.2.1 ∈ GW := inGW 92 (by decide +kernel) rfl
theorem wf_X1_21 : Cond.fieldLink RX1 21 (RXc 1) (TXc 1 2).2.1 (TXc 1 2).2.2.1 ∈ GW := inGW 93 (by decide +kernel) rfl
theorem wf_X1_9 : Cond.fieldLink RX1 9 (RXc 1) (TXc 1 0).2.1 (TXc 1 0).2.2.1 ∈ GW := inGW 91 (by decide +kernel) rfl
theorem wf_X2_11 : Cond.fieldLink RX2 11 (RXc 2) (TXc 2 0).2.1 (TXc 2 0).2.2.1 ∈ GW := inGW 195 (by decide +kernel) rfl
theorem wf_X2_18 : Cond.fieldLink RX2 18 (RXc 2) (TXc 2 2).2.1 (TXc 2 2).2.2.1 ∈ GW := inGW 197 (by decide +kernel) rfl
theorem wf_X2_22 : Cond.fieldLink RX2 22 (RXc 2) (TXc 2 1).2.1 (TXc 2 1).2.2.1 ∈ GW := inGW 196 (by decide +kernel) rfl
theorem wf_X3_19 : Cond.fieldLink RX3 19 (RXc 3) (TXc 3 0).2.1 (TXc 3 0).2.2.1 ∈ GW := inGW 270 (by decide +kernel) rfl
theorem wf_X3_25 : Cond.fieldLink RX3 25 (RXc 3) (TXc 3 1).2.1 (TXc 3 1).2.2.1 ∈ GW := inGW 273 (by decide +kernel) rfl
theorem wf_X3_28 : Cond.fieldLinkNest RX3 28 (RXc 7) (TXc 7 1).2.1 (TXc 7 1).2.2.1 RX8 ∈ NW := inNW 144 (by decide +kernel) rfl
theorem wf_X4_15 : Cond.fieldLink RX4 15 (RXc 4) (TXc 4 1).2.1 (TXc 4 1).2.2.1 ∈ GW := inGW 114 (by decide +kernel) rfl
theorem wf_X4_18 : Cond.fieldLink RX4 18 (RXc 4) (TXc 4 2).2.1 (TXc 4 2).2.2.1 ∈ GW := inGW 115 (by decide +kernel) rfl
theorem wf_X4_21 : Cond.fieldLink RX4 21 (RXc 4) (TXc 4 3).2.1 (TXc 4 3).2.2.1 ∈ GW := inGW 116 (by decide +kernel) rfl
theorem wf_X4_27 : Cond.fieldLink RX4 27 (RXc 4) (TXc 4 4).2.1 (TXc 4 4).2.2.1 ∈ GW := inGW 117 (by decide +kernel) rfl
theorem wf_X4_9 : Cond.fieldLink RX4 9 (RXc 4) (TXc 4 0).2.1 (TXc 4 0).2.2.1 ∈ GW := inGW 113 (by decide +kernel) rfl
theorem wf_X5_11 : Cond.fieldLink RX5 11 (RXc 5) (TXc 5 0).2.1 (TXc 5 0).2.2.1 ∈ GW := inGW 212 (by decide +kernel) rfl
theorem wf_X5_15 : Cond.fieldLink RX5 15 (RXc 5) (TXc 5 1).2.1 (TXc 5 1).2.2.1 ∈ GW := inGW 213 (by decide +kernel) rfl
theorem wf_X5_18 : Cond.fieldLink RX5 18 (RXc 5) (TXc 5 2).2.1 (TXc 5 2).2.2.1 ∈ GW := inGW 214 (by decide +kernel) rfl
theorem wf_X5_22 : Cond.fieldLink RX5 22 (RXc 5) (TXc 5 6).2.1 (TXc 5 6).2.2.1 ∈ GW := inGW 218 (by decide +kernel) rfl
theorem wf_X5_27 : Cond.fieldLink RX5 27 (RXc 5) (TXc 5 3).2.1 (TXc 5 3).2.2.1 ∈ GW := inGW 215 (by decide +kernel) rfl
theorem wf_X5_34 : Cond.fieldLink RX5 34 (RXc 5) (TXc 5 4).2.1 (TXc 5 4).2.2.1 ∈ GW := inGW 216 (by decide +kernel) rfl
theorem wf_X5_37 : Cond.fieldLink RX5 37 (RXc 5) (TXc 5 5).2.1 (TXc 5 5).2.2.1 ∈ GW := inGW 217 (by decide +kernel) rfl
theorem wf_X6_116 : Cond.fieldLinkNest RX6 116 (RXc 3) (TXc 3 0).2.1 (TXc 3 0).2.2.1 RX8 ∈ NW := inNW 272 (by decide +kernel) rfl
theorem wf_X6_119 : Cond.fieldLinkNest RX6 119 (RXc 3) (TXc 3 1).2.1 (TXc 3 1).2.2.1 RX8 ∈ NW := inNW 275 (by decide +kernel) rfl
theorem wf_X6_12 : Cond.fieldLink RX6 12 (RXc 6) (TXc 6 0).2.1 (TXc 6 0).2.2.1 ∈ GW := inGW 281 (by decide +kernel) rfl
theorem wf_X6_126 : Cond.fieldLink RX6 126 (RXc 6) (TXc 6 4).2.1 (TXc 6 4).2.2.1 ∈ GW := inGW 286 (by decide +kernel) rfl
theorem wf_X6_21 : Cond.fieldLink RX6 21 (RXc 6) (TXc 6 1).2.1 (TXc 6 1).2.2.1 ∈ GW := inGW 282 (by decide +kernel) rfl
theorem wf_X6_25 : Cond.fieldLink RX6 25 (RXc 6) (TXc 6 2).2.1 (TXc 6 2).2.2.1 ∈ GW := inGW 283 (by decide +kernel) rfl
theorem wf_X6_29 : Cond.fieldLink RX6 29 (RXc 6) (TXc 6 3).2.1 (TXc 6 3).2.2.1 ∈ GW := inGW 284 (by decide +kernel) rfl
theorem wf_X6_33 : Cond.fieldLinkNest RX6 33 (RXc 7) (TXc 7 8).2.1 (TXc 7 8).2.2.1 RX8 ∈ NW := inNW 157 (by decide +kernel) rfl
theorem wf_X6_56 : Cond.fieldLinkNest RX6 56 (RXc 7) (TXc 7 2).2.1 (TXc 7 2).2.2.1 RX8 ∈ NW := inNW 148 (by decide +kernel) rfl
theorem wf_X6_70 : Cond.fieldLinkNest RX6 70 (RXc 7) (TXc 7 1).2.1 (TXc 7 1).2.2.1 RX8 ∈ NW := inNW 146 (by decide +kernel) rfl
theorem wf_X6_86 : Cond.fieldLinkNest RX6 86 (RXc 0) (TXc 0 0).2.1 (TXc 0 0).2.2.1 RX8 ∈ NW := inNW 247 (by decide +kernel) rfl
theorem wf_X6_99 : Cond.fieldLinkNest RX6 99 (RXc 0) (TXc 0 1).2.1 (TXc 0 1).2.2.1 RX8 ∈ NW := inNW 251 (by decide +kernel) rfl
theorem wf_X7_106 : Cond.fieldLinkNest RX7 106 (RXc 0) (TXc 0 2).2.1 (TXc 0 2).2.2.1 RX8 ∈ NW := inNW 256 (by decide +kernel) rfl
theorem wf_X7_114 : Cond.fieldLinkNest RX7 114 (RXc 0) (TXc 0 0).2.1 (TXc 0 0).2.2.1 RX8 ∈ NW := inNW 249 (by decide +kernel) rfl
theorem wf_X7_117 : Cond.fieldLinkNest RX7 117 (RXc 0) (TXc 0 1).2.1 (TXc 0 1).2.2.1 RX8 ∈ NW := inNW 253 (by decide +kernel) rfl
theorem wf_X7_13 : Cond.fieldLink RX7 13 (RXc 7) (TXc 7 0).2.1 (TXc 7 0).2.2.1 ∈ GW := inGW 142 (by decide +kernel) rfl
theorem wf_X7_21 : Cond.fieldLink RX7 21 (RXc 7) (TXc 7 1).2.1 (TXc 7 1).2.2.1 ∈ GW := inGW 143 (by decide +kernel) rfl
theorem wf_X7_28 : Cond.fieldLink RX7 28 (RXc 7) (TXc 7 2).2.1 (TXc 7 2).2.2.1 ∈ GW := inGW 147 (by decide +kernel) rfl
theorem wf_X7_32 : Cond.fieldLink RX7 32 (RXc 7) (TXc 7 3).2.1 (TXc 7 3).2.2.1 ∈ GW := inGW 150 (by decide +kernel) rfl
theorem wf_X7_35 : Cond.fieldLink RX7 35 (RXc 7) (TXc 7 4).2.1 (TXc 7 4).2.2.1 ∈ GW := inGW 151 (by decide +kernel) rfl
theorem wf_X7_38 : Cond.fieldLink RX7 38 (RXc 7) (TXc 7 5).2.1 (TXc 7 5).2.2.1 ∈ GW := inGW 152 (by decide +kernel) rfl
theorem wf_X7_41 : Cond.fieldLink RX7 41 (RXc 7) (TXc 7 6).2.1 (TXc 7 6).2.2.1 ∈ GW := inGW 153 (by decide +kernel) rfl
theorem wf_X7_65 : Cond.fieldLink RX7 65 (RXc 7) (TXc 7 7).2.1 (TXc 7 7).2.2.1 ∈ GW := inGW 154 (by decide +kernel) rfl
theorem wf_X7_69 : Cond.fieldLink RX7 69 (RXc 7) (TXc 7 8).2.1 (TXc 7 8).2.2.1 ∈ GW := inGW 156 (by decide +kernel) rfl
theorem wf_X7_72 : Cond.fieldLink RX7 72 (RXc 7) (TXc 7 9).2.1 (TXc 7 9).2.2.1 ∈ GW := inGW 159 (by decide +kernel) rfl
theorem wf_X7_75 : Cond.fieldLink RX7 75 (RXc 7) (TXc 7 10).2.1 (TXc 7 10).2.2.1 ∈ GW := inGW 161 (by decide +kernel) rfl
theorem wf_X8_12 : Cond.fieldLink RX8 12 (RXc 8) (TXc 8 0).2.1 (TXc 8 0).2.2.1 ∈ GW := inGW 303 (by decide +kernel) rfl
theorem wf_X8_125 : Cond.fieldLinkNest RX8 125 (RXc 7) (TXc 7 8).2.1 (TXc 7 8).2.2.1 RX8 ∈ NW := inNW 158 (by decide +kernel) rfl
theorem wf_X8_132 : Cond.fieldLinkNest RX8 132 (RXc 7) (TXc 7 7).2.1 (TXc 7 7).2.2.1 RX8 ∈ NW := inNW 155 (by decide +kernel) rfl
theorem wf_X8_142 : Cond.fieldLinkNest RX8 142 (RXc 3) (TXc 3 0).2.1 (TXc 3 0).2.2.1 RX8 ∈ NW := inNW 271 (by decide +kernel) rfl
theorem wf_X8_145 : Cond.fieldLinkNest RX8 145 (RXc 3) (TXc 3 1).2.1 (TXc 3 1).2.2.1 RX8 ∈ NW := inNW 274 (by decide +kernel) rfl
theorem wf_X8_151 : Cond.fieldLinkNest RX8 151 (RXc 7) (TXc 7 9).2.1 (TXc 7 9).2.2.1 RX8 ∈ NW := inNW 160 (by decide +kernel) rfl
theorem wf_X8_16 : Cond.fieldLink RX8 16 (RXc 8) (TXc 8 1).2.1 (TXc 8 1).2.2.1 ∈ GW := inGW 304 (by decide +kernel) rfl
theorem wf_X8_167 : Cond.fieldLinkNest RX8 167 (RXc 7) (TXc 7 2).2.1 (TXc 7 2).2.2.1 RX8 ∈ NW := inNW 149 (by decide +kernel) rfl
theorem wf_X8_183 : Cond.fieldLinkNest RX8 183 (RXc 0) (TXc 0 0).2.1 (TXc 0 0).2.2.1 RX8 ∈ NW := inNW 248 (by decide +kernel) rfl
theorem wf_X8_186 : Cond.fieldLinkNest RX8 186 (RXc 0) (TXc 0 1).2.1 (TXc 0 1).2.2.1 RX8 ∈ NW := inNW 252 (by decide +kernel) rfl
theorem wf_X8_189 : Cond.fieldLinkNest RX8 189 (RXc 0) (TXc 0 2).2.1 (TXc 0 2).2.2.1 RX8 ∈ NW := inNW 255 (by decide +kernel) rfl
theorem wf_X8_19 : Cond.fieldLink RX8 19 (RXc 8) (TXc 8 2).2.1 (TXc 8 2).2.2.1 ∈ GW := inGW 305 (by decide +kernel) rfl
theorem wf_X8_225 : Cond.fieldLinkNest RX8 225 (RXc 7) (TXc 7 10).2.1 (TXc 7 10).2.2.1 RX8 ∈ NW := inNW 162 (by decide +kernel) rfl
theorem wf_X8_23 : Cond.fieldLink RX8 23 (RXc 8) (TXc 8 3).2.1 (TXc 8 3).2.2.1 ∈ GW := inGW 306 (by decide +kernel) rfl
theorem wf_X8_236 : Cond.fieldLinkNest RX8 236 (RXc 6) (TXc 6 4).2.1 (TXc 6 4).2.2.1 RX8 ∈ NW := inNW 287 (by decide +kernel) rfl
theorem wf_X8_243 : Cond.fieldLinkNest RX8 243 (RXc 6) (TXc 6 3).2.1 (TXc 6 3).2.2.1 RX8 ∈ NW := inNW 285 (by decide +kernel) rfl
theorem wf_X8_30 : Cond.fieldLink RX8 30 (RXc 8) (TXc 8 4).2.1 (TXc 8 4).2.2.1 ∈ GW := inGW 307 (by decide +kernel) rfl
theorem wf_X8_37 : Cond.fieldLink RX8 37 (RXc 8) (TXc 8 5).2.1 (TXc 8 5).2.2.1 ∈ GW := inGW 308 (by decide +kernel) rfl
theorem wf_X8_44 : Cond.fieldLink RX8 44 (RXc 8) (TXc 8 6).2.1 (TXc 8 6).2.2.1 ∈ GW := inGW 309 (by decide +kernel) rfl
theorem wf_X8_51 : Cond.fieldLink RX8 51 (RXc 8) (TXc 8 7).2.1 (TXc 8 7).2.2.1 ∈ GW := inGW 310 (by decide +kernel) rfl
theorem wf_X8_58 : Cond.fieldLink RX8 58 (RXc 8) (TXc 8 8).2.1 (TXc 8 8).2.2.1 ∈ GW := inGW 311 (by decide +kernel) rfl
theorem wf_X8_91 : Cond.fieldLinkNest RX8 91 (RXc 7) (TXc 7 1).2.1 (TXc 7 1).2.2.1 RX8 ∈ NW := inNW 145 (by decide +kernel) rfl
theorem wf_X9_106 : Cond.fieldLink RX9 106 (RXc 9) (TXc 9 16).2.1 (TXc 9 16).2.2.1 ∈ GW := inGW 816 (by decide +kernel) rfl
theorem wf_X9_109 : Cond.fieldLink RX9 109 (RXc 9) (TXc 9 17).2.1 (TXc 9 17).2.2.1 ∈ GW := inGW 817 (by decide +kernel) rfl
theorem wf_X9_13 : Cond.fieldLink RX9 13 (RXc 9) (TXc 9 1).2.1 (TXc 9 1).2.2.1 ∈ GW := inGW 801 (by decide +kernel) rfl
theorem wf_X9_16 : Cond.fieldLink RX9 16 (RXc 9) (TXc 9 2).2.1 (TXc 9 2).2.2.1 ∈ GW := inGW 802 (by decide +kernel) rfl
theorem wf_X9_167 : Cond.fieldLink RX9 167 (RXc 9) (TXc 9 7).2.1 (TXc 9 7).2.2.1 ∈ GW := inGW 807 (by decide +kernel) rfl
theorem wf_X9_178 : Cond.fieldLink RX9 178 (RXc 9) (TXc 9 19).2.1 (TXc 9 19).2.2.1 ∈ GW := inGW 819 (by decide +kernel) rfl
theorem wf_X9_181 : Cond.fieldLink RX9 181 (RXc 9) (TXc 9 20).2.1 (TXc 9 20).2.2.1 ∈ GW := inGW 820 (by decide +kernel) rfl
theorem wf_X9_19 : Cond.fieldLink RX9 19 (RXc 9) (TXc 9 4).2.1 (TXc 9 4).2.2.1 ∈ GW := inGW 804 (by decide +kernel) rfl
theorem wf_X9_190 : Cond.fieldLink RX9 190 (RXc 9) (TXc 9 22).2.1 (TXc 9 22).2.2.1 ∈ GW := inGW 822 (by decide +kernel) rfl
theorem wf_X9_193 : Cond.fieldLink RX9 193 (RXc 9) (TXc 9 23).2.1 (TXc 9 23).2.2.1 ∈ GW := inGW 823 (by decide +kernel) rfl
theorem wf_X9_22 : Cond.fieldLink RX9 22 (RXc 9) (TXc 9 5).2.1 (TXc 9 5).2.2.1 ∈ GW := inGW 805 (by decide +kernel) rfl
theorem wf_X9_26 : Cond.fieldLink RX9 26 (RXc 9) (TXc 9 6).2.1 (TXc 9 6).2.2.1 ∈ GW := inGW 806 (by decide +kernel) rfl
theorem wf_X9_29 : Cond.fieldLink RX9 29 (RXc 9) (TXc 9 8).2.1 (TXc 9 8).2.2.1 ∈ GW := inGW 808 (by decide +kernel) rfl
theorem wf_X9_32 : Cond.fieldLink RX9 32 (RXc 9) (TXc 9 9).2.1 (TXc 9 9).2.2.1 ∈ GW := inGW 809 (by decide +kernel) rfl
theorem wf_X9_35 : Cond.fieldLink RX9 35 (RXc 9) (TXc 9 10).2.1 (TXc 9 10).2.2.1 ∈ GW := inGW 810 (by decide +kernel) rfl
theorem wf_X9_38 : Cond.fieldLink RX9 38 (RXc 9) (TXc 9 12).2.1 (TXc 9 12).2.2.1 ∈ GW := inGW 812 (by decide +kernel) rfl
theorem wf_X9_41 : Cond.fieldLink RX9 41 (RXc 9) (TXc 9 18).2.1 (TXc 9 18).2.2.1 ∈ GW := inGW 818 (by decide +kernel) rfl
theorem wf_X9_44 : Cond.fieldLink RX9 44 (RXc 9) (TXc 9 21).2.1 (TXc 9 21).2.2.1 ∈ GW := inGW 821 (by decide +kernel) rfl
theorem wf_X9_54 : Cond.fieldLink RX9 54 (RXc 9) (TXc 9 3).2.1 (TXc 9 3).2.2.1 ∈ GW := inGW 803 (by decide +kernel) rfl
theorem wf_X9_62 : Cond.fieldLink RX9 62 (RXc 9) (TXc 9 11).2.1 (TXc 9 11).2.2.1 ∈ GW := inGW 811 (by decide +kernel) rfl
theorem wf_X9_7 : Cond.fieldLink RX9 7 (RXc 9) (TXc 9 0).2.1 (TXc 9 0).2.2.1 ∈ GW := inGW 800 (by decide +kernel) rfl
theorem wf_X9_86 : Cond.fieldLink RX9 86 (RXc 9) (TXc 9 14).2.1 (TXc 9 14).2.2.1 ∈ GW := inGW 814 (by decide +kernel) rfl
theorem wf_X9_90 : Cond.fieldLink RX9 90 (RXc 9) (TXc 9 13).2.1 (TXc 9 13).2.2.1 ∈ GW := inGW 813 (by decide +kernel) rfl
theorem wf_X9_97 : Cond.fieldLink RX9 97 (RXc 9) (TXc 9 15).2.1 (TXc 9 15).2.2.1 ∈ GW := inGW 815 (by decide +kernel) rfl
theorem wg_X8_62 : Cond.fieldLink RX8 62 RX8 "HIGHEST_SETTINGS" "[I" ∈ GW := inGW 335 (by decide +kernel) rfl
theorem wl_X5_25 : Cond.constantLong RX5 25 (255) ∈ GW := inGW 757 (by decide +kernel) rfl
theorem wl_X9_176 : Cond.constantLong RX9 176 (255) ∈ GW := inGW 1055 (by decide +kernel) rfl
theorem wm_X0_15 : Cond.methodLink RX0 15 yX1_length ∈ GW := inGW 543 (by decide +kernel) rfl
theorem wm_X0_21 : Cond.methodLink RX0 21 yX1_wayFrom ∈ GW := inGW 544 (by decide +kernel) rfl
theorem wm_X0_25 : Cond.methodLink RX0 25 yX0_endOfRow ∈ GW := inGW 548 (by decide +kernel) rfl
theorem wm_X0_31 : Cond.methodLinkNest RX0 31 yX8_areOpposite RX8 ∈ NW := inNW 551 (by decide +kernel) rfl
theorem wm_X0_45 : Cond.methodLink RX0 45 yX0_seekFrom ∈ GW := inGW 669 (by decide +kernel) rfl
theorem wm_X0_9 : Cond.methodLink RX0 9 Lib.Math.max.name ∈ GW := inGW 540 (by decide +kernel) rfl
theorem wm_X1_25 : Cond.methodLink RX1 25 yJ7_fill_53178 ∈ GW := inGW 88 (by decide +kernel) rfl
theorem wm_X1_31 : Cond.methodLink RX1 31 arraycopyName ∈ GW := inGW 349 (by decide +kernel) rfl
theorem wm_X1_37 : Cond.methodLinkNest RX1 37 yX8_isOnLand RX8 ∈ NW := inNW 139 (by decide +kernel) rfl
theorem wm_X1_41 : Cond.methodLink RX1 41 yX1_cellOf ∈ GW := inGW 486 (by decide +kernel) rfl
theorem wm_X1_45 : Cond.methodLinkNest RX1 45 yX8_beside RX8 ∈ NW := inNW 490 (by decide +kernel) rfl
theorem wm_X1_49 : Cond.methodLink RX1 49 yX1_numberOf ∈ GW := inGW 491 (by decide +kernel) rfl
theorem wm_X1_52 : Cond.methodLink RX1 52 yX1_numberBeside ∈ GW := inGW 482 (by decide +kernel) rfl
theorem wm_X1_55 : Cond.methodLink RX1 55 Lib.Math.abs.name ∈ GW := inGW 717 (by decide +kernel) rfl
theorem wm_X1_60 : Cond.methodLink RX1 60 yX1_leaveBetween ∈ GW := inGW 514 (by decide +kernel) rfl
theorem wm_X1_64 : Cond.methodLink RX1 64 yX1_numberAgain ∈ GW := inGW 518 (by decide +kernel) rfl
theorem wm_X2_25 : Cond.methodLink RX2 25 yX7_copyFrom ∈ GW := inGW 341 (by decide +kernel) rfl
theorem wm_X3_15 : Cond.methodLink RX3 15 yX1_nextBeside ∈ GW := inGW 478 (by decide +kernel) rfl
theorem wm_X3_34 : Cond.methodLink RX3 34 yX1_numberBeside ∈ GW := inGW 634 (by decide +kernel) rfl
theorem wm_X3_37 : Cond.methodLink RX3 37 yX7_ageOf ∈ GW := inGW 635 (by decide +kernel) rfl
theorem wm_X3_9 : Cond.methodLink RX3 9 yX1_length ∈ GW := inGW 477 (by decide +kernel) rfl
theorem wm_X4_31 : Cond.methodLink RX4 31 yJ7_fill_53178 ∈ GW := inGW 112 (by decide +kernel) rfl
theorem wm_X4_37 : Cond.methodLink RX4 37 arraycopyName ∈ GW := inGW 354 (by decide +kernel) rfl
theorem wm_X4_43 : Cond.methodLinkNest RX4 43 yX8_isOnLand RX8 ∈ NW := inNW 509 (by decide +kernel) rfl
theorem wm_X4_47 : Cond.methodLink RX4 47 yX4_has ∈ GW := inGW 504 (by decide +kernel) rfl
theorem wm_X4_50 : Cond.methodLink RX4 50 yX4_drop ∈ GW := inGW 500 (by decide +kernel) rfl
theorem wm_X4_54 : Cond.methodLink RX4 54 yX1_cellOf ∈ GW := inGW 508 (by decide +kernel) rfl
theorem wm_X4_60 : Cond.methodLink RX4 60 Lib.Math.min.name ∈ GW := inGW 644 (by decide +kernel) rfl
theorem wm_X5_30 : Cond.methodLink RX5 30 yX5_scanNumber ∈ GW := inGW 371 (by decide +kernel) rfl
theorem wm_X5_40 : Cond.methodLink RX5 40 yX5_scanSteps ∈ GW := inGW 383 (by decide +kernel) rfl
theorem wm_X5_44 : Cond.methodLink RX5 44 yX5_digitAt ∈ GW := inGW 375 (by decide +kernel) rfl
theorem wm_X5_48 : Cond.methodLink RX5 48 yX5_signAt ∈ GW := inGW 379 (by decide +kernel) rfl
theorem wm_X5_51 : Cond.methodLink RX5 51 yX5_wayAt ∈ GW := inGW 387 (by decide +kernel) rfl
theorem wm_X5_54 : Cond.methodLink RX5 54 yX5_addSteps ∈ GW := inGW 391 (by decide +kernel) rfl
theorem wm_X5_58 : Cond.methodLinkNest RX5 58 yX8_cellAt RX8 ∈ NW := inNW 411 (by decide +kernel) rfl
theorem wm_X5_62 : Cond.methodLink RX5 62 yX1_append ∈ GW := inGW 412 (by decide +kernel) rfl
theorem wm_X5_68 : Cond.methodLinkNest RX5 68 yX8_beside RX8 ∈ NW := inNW 413 (by decide +kernel) rfl
theorem wm_X6_102 : Cond.methodLink RX6 102 yX7_bankCell ∈ GW := inGW 603 (by decide +kernel) rfl
theorem wm_X6_106 : Cond.methodLink RX6 106 yX1_length ∈ GW := inGW 629 (by decide +kernel) rfl
theorem wm_X6_112 : Cond.methodLink RX6 112 yX3_seekWidest ∈ GW := inGW 630 (by decide +kernel) rfl
theorem wm_X6_122 : Cond.methodLink RX6 122 yX7_cutBetween ∈ GW := inGW 639 (by decide +kernel) rfl
theorem wm_X6_38 : Cond.methodLink RX6 38 yX7_hasFlood ∈ GW := inGW 530 (by decide +kernel) rfl
theorem wm_X6_42 : Cond.methodLink RX6 42 yX6_wearBanks ∈ GW := inGW 531 (by decide +kernel) rfl
theorem wm_X6_46 : Cond.methodLink RX6 46 yX6_growBends ∈ GW := inGW 580 (by decide +kernel) rfl
theorem wm_X6_50 : Cond.methodLink RX6 50 yX7_agePairs ∈ GW := inGW 613 (by decide +kernel) rfl
theorem wm_X6_53 : Cond.methodLink RX6 53 yX6_cutNecks ∈ GW := inGW 625 (by decide +kernel) rfl
theorem wm_X6_60 : Cond.methodLink RX6 60 yX7_setting ∈ GW := inGW 535 (by decide +kernel) rfl
theorem wm_X6_64 : Cond.methodLink RX6 64 yX4_passYear ∈ GW := inGW 640 (by decide +kernel) rfl
theorem wm_X6_74 : Cond.methodLink RX6 74 yX0_seekFrom ∈ GW := inGW 536 (by decide +kernel) rfl
theorem wm_X6_78 : Cond.methodLink RX6 78 yX7_isFirm ∈ GW := inGW 557 (by decide +kernel) rfl
theorem wm_X6_82 : Cond.methodLink RX6 82 yX7_wearBank ∈ GW := inGW 569 (by decide +kernel) rfl
theorem wm_X6_89 : Cond.methodLink RX6 89 yX7_canGrow ∈ GW := inGW 584 (by decide +kernel) rfl
theorem wm_X6_92 : Cond.methodLink RX6 92 yX6_noteTaken ∈ GW := inGW 599 (by decide +kernel) rfl
theorem wm_X6_95 : Cond.methodLink RX6 95 yX7_growBend ∈ GW := inGW 604 (by decide +kernel) rfl
theorem wm_X7_102 : Cond.methodLink RX7 102 yX1_cellOf ∈ GW := inGW 565 (by decide +kernel) rfl
theorem wm_X7_111 : Cond.methodLinkNest RX7 111 yX8_beside RX8 ∈ NW := inNW 566 (by decide +kernel) rfl
theorem wm_X7_120 : Cond.methodLink RX7 120 yX7_bankCell ∈ GW := inGW 561 (by decide +kernel) rfl
theorem wm_X7_124 : Cond.methodLink RX7 124 yX7_isDike ∈ GW := inGW 567 (by decide +kernel) rfl
theorem wm_X7_127 : Cond.methodLink RX7 127 yX1_numberOf ∈ GW := inGW 568 (by decide +kernel) rfl
theorem wm_X7_130 : Cond.methodLink RX7 130 yX7_wearOf ∈ GW := inGW 594 (by decide +kernel) rfl
theorem wm_X7_133 : Cond.methodLink RX7 133 Lib.Math.min.name ∈ GW := inGW 577 (by decide +kernel) rfl
theorem wm_X7_138 : Cond.methodLink RX7 138 yX1_length ∈ GW := inGW 588 (by decide +kernel) rfl
theorem wm_X7_142 : Cond.methodLink RX7 142 yX7_isFirm ∈ GW := inGW 589 (by decide +kernel) rfl
theorem wm_X7_146 : Cond.methodLink RX7 146 yX7_leastWear ∈ GW := inGW 590 (by decide +kernel) rfl
theorem wm_X7_150 : Cond.methodLink RX7 150 yX7_setting ∈ GW := inGW 598 (by decide +kernel) rfl
theorem wm_X7_153 : Cond.methodLink RX7 153 yX4_ownerOf ∈ GW := inGW 573 (by decide +kernel) rfl
theorem wm_X7_156 : Cond.methodLink RX7 156 yX4_drop ∈ GW := inGW 608 (by decide +kernel) rfl
theorem wm_X7_159 : Cond.methodLink RX7 159 yX1_bulge ∈ GW := inGW 609 (by decide +kernel) rfl
theorem wm_X7_163 : Cond.methodLink RX7 163 Lib.Math.abs.name ∈ GW := inGW 621 (by decide +kernel) rfl
theorem wm_X7_166 : Cond.methodLink RX7 166 yX7_pairOf ∈ GW := inGW 622 (by decide +kernel) rfl
theorem wm_X7_169 : Cond.methodLink RX7 169 yX7_agePair ∈ GW := inGW 617 (by decide +kernel) rfl
theorem wm_X7_173 : Cond.methodLink RX7 173 yX4_take ∈ GW := inGW 496 (by decide +kernel) rfl
theorem wm_X7_177 : Cond.methodLink RX7 177 yX1_shorten ∈ GW := inGW 510 (by decide +kernel) rfl
theorem wm_X7_44 : Cond.methodLink RX7 44 arraycopyName ∈ GW := inGW 129 (by decide +kernel) rfl
theorem wm_X7_58 : Cond.methodLink RX7 58 yX1_copyFrom ∈ GW := inGW 345 (by decide +kernel) rfl
theorem wm_X7_62 : Cond.methodLink RX7 62 yX4_copyFrom ∈ GW := inGW 350 (by decide +kernel) rfl
theorem wm_X7_78 : Cond.methodLink RX7 78 yX1_clear ∈ GW := inGW 404 (by decide +kernel) rfl
theorem wm_X7_81 : Cond.methodLink RX7 81 yX4_clear ∈ GW := inGW 405 (by decide +kernel) rfl
theorem wm_X7_82 : Cond.methodLink RX7 82 yJ7_fill_53178 ∈ GW := inGW 406 (by decide +kernel) rfl
theorem wm_X7_88 : Cond.methodLinkNest RX7 88 yX8_isOnLand RX8 ∈ NW := inNW 437 (by decide +kernel) rfl
theorem wm_X7_91 : Cond.methodLinkNest RX7 91 yX8_asNumber RX8 ∈ NW := inNW 442 (by decide +kernel) rfl
theorem wm_X7_95 : Cond.methodLink RX7 95 yX7_addFlood ∈ GW := inGW 461 (by decide +kernel) rfl
theorem wm_X7_99 : Cond.methodLink RX7 99 yX7_removeFlood ∈ GW := inGW 465 (by decide +kernel) rfl
theorem wm_X8_102 : Cond.methodLink RX8 102 yX1_length ∈ GW := inGW 420 (by decide +kernel) rfl
theorem wm_X8_107 : Cond.methodLink RX8 107 yX8_cellAt ∈ GW := inGW 428 (by decide +kernel) rfl
theorem wm_X8_111 : Cond.methodLink RX8 111 yX1_numberOf ∈ GW := inGW 429 (by decide +kernel) rfl
theorem wm_X8_114 : Cond.methodLink RX8 114 yX7_isDike ∈ GW := inGW 433 (by decide +kernel) rfl
theorem wm_X8_118 : Cond.methodLink RX8 118 yX7_changeDike ∈ GW := inGW 438 (by decide +kernel) rfl
theorem wm_X8_122 : Cond.methodLink RX8 122 yX7_dikeCount ∈ GW := inGW 445 (by decide +kernel) rfl
theorem wm_X8_129 : Cond.methodLink RX8 129 yX7_hasFlood ∈ GW := inGW 453 (by decide +kernel) rfl
theorem wm_X8_135 : Cond.methodLink RX8 135 yX7_changeFlood ∈ GW := inGW 457 (by decide +kernel) rfl
theorem wm_X8_138 : Cond.methodLink RX8 138 yX3_seekNumbered ∈ GW := inGW 473 (by decide +kernel) rfl
theorem wm_X8_148 : Cond.methodLink RX8 148 yX7_cutBetween ∈ GW := inGW 492 (by decide +kernel) rfl
theorem wm_X8_154 : Cond.methodLink RX8 154 yX6_passYear ∈ GW := inGW 526 (by decide +kernel) rfl
theorem wm_X8_157 : Cond.methodLink RX8 157 yX8_orNone ∈ GW := inGW 649 (by decide +kernel) rfl
theorem wm_X8_160 : Cond.methodLink RX8 160 yX7_wearOf ∈ GW := inGW 652 (by decide +kernel) rfl
theorem wm_X8_163 : Cond.methodLink RX8 163 yX8_asNumber ∈ GW := inGW 653 (by decide +kernel) rfl
theorem wm_X8_171 : Cond.methodLink RX8 171 yX4_ownerOf ∈ GW := inGW 654 (by decide +kernel) rfl
theorem wm_X8_176 : Cond.methodLink RX8 176 yX1_cellOf ∈ GW := inGW 659 (by decide +kernel) rfl
theorem wm_X8_179 : Cond.methodLink RX8 179 yX1_wayFrom ∈ GW := inGW 660 (by decide +kernel) rfl
theorem wm_X8_182 : Cond.methodLink RX8 182 yX0_seekNumbered ∈ GW := inGW 665 (by decide +kernel) rfl
theorem wm_X8_192 : Cond.methodLink RX8 192 yX7_isFirm ∈ GW := inGW 670 (by decide +kernel) rfl
theorem wm_X8_196 : Cond.methodLink RX8 196 yX7_leastWear ∈ GW := inGW 671 (by decide +kernel) rfl
theorem wm_X8_200 : Cond.methodLink RX8 200 yX7_canGrow ∈ GW := inGW 672 (by decide +kernel) rfl
theorem wm_X8_203 : Cond.methodLink RX8 203 yX7_ageOf ∈ GW := inGW 677 (by decide +kernel) rfl
theorem wm_X8_206 : Cond.methodLink RX8 206 yX4_has ∈ GW := inGW 682 (by decide +kernel) rfl
theorem wm_X8_209 : Cond.methodLink RX8 209 yX4_sizeOf ∈ GW := inGW 683 (by decide +kernel) rfl
theorem wm_X8_212 : Cond.methodLink RX8 212 yX4_yearsOf ∈ GW := inGW 687 (by decide +kernel) rfl
theorem wm_X8_215 : Cond.methodLink RX8 215 yX4_firstCellOf ∈ GW := inGW 691 (by decide +kernel) rfl
theorem wm_X8_218 : Cond.methodLink RX8 218 yX8_countBends ∈ GW := inGW 699 (by decide +kernel) rfl
theorem wm_X8_221 : Cond.methodLink RX8 221 yX8_countNecks ∈ GW := inGW 704 (by decide +kernel) rfl
theorem wm_X8_224 : Cond.methodLink RX8 224 yX4_length ∈ GW := inGW 709 (by decide +kernel) rfl
theorem wm_X8_228 : Cond.methodLink RX8 228 yX1_winding ∈ GW := inGW 713 (by decide +kernel) rfl
theorem wm_X8_231 : Cond.methodLink RX8 231 yX7_wearSum ∈ GW := inGW 718 (by decide +kernel) rfl
theorem wm_X8_234 : Cond.methodLink RX8 234 yX5_length ∈ GW := inGW 722 (by decide +kernel) rfl
theorem wm_X8_235 : Cond.methodLink RX8 235 yX2_length ∈ GW := inGW 726 (by decide +kernel) rfl
theorem wm_X8_239 : Cond.methodLink RX8 239 yX6_watch ∈ GW := inGW 746 (by decide +kernel) rfl
theorem wm_X8_247 : Cond.methodLink RX8 247 yX5_sizeOf ∈ GW := inGW 754 (by decide +kernel) rfl
theorem wm_X8_250 : Cond.methodLink RX8 250 yX5_hasRoomFor ∈ GW := inGW 758 (by decide +kernel) rfl
theorem wm_X8_253 : Cond.methodLink RX8 253 yX5_append ∈ GW := inGW 762 (by decide +kernel) rfl
theorem wm_X8_257 : Cond.methodLink RX8 257 yX2_takeBack ∈ GW := inGW 778 (by decide +kernel) rfl
theorem wm_X8_261 : Cond.methodLink RX8 261 yX0_seekFrom ∈ GW := inGW 703 (by decide +kernel) rfl
theorem wm_X8_264 : Cond.methodLink RX8 264 yX1_numberBeside ∈ GW := inGW 708 (by decide +kernel) rfl
theorem wm_X8_267 : Cond.methodLink RX8 267 Lib.Math.abs.name ∈ GW := inGW 554 (by decide +kernel) rfl
theorem wm_X8_66 : Cond.methodLink RX8 66 yX2_remember ∈ GW := inGW 337 (by decide +kernel) rfl
theorem wm_X8_70 : Cond.methodLink RX8 70 yX7_setting ∈ GW := inGW 355 (by decide +kernel) rfl
theorem wm_X8_74 : Cond.methodLink RX8 74 yX7_changeSetting ∈ GW := inGW 359 (by decide +kernel) rfl
theorem wm_X8_78 : Cond.methodLink RX8 78 yX5_scan ∈ GW := inGW 367 (by decide +kernel) rfl
theorem wm_X8_82 : Cond.methodLink RX8 82 yX5_stepCount ∈ GW := inGW 395 (by decide +kernel) rfl
theorem wm_X8_85 : Cond.methodLink RX8 85 yX7_copyFrom ∈ GW := inGW 399 (by decide +kernel) rfl
theorem wm_X8_88 : Cond.methodLink RX8 88 yX7_clearAllButSettings ∈ GW := inGW 400 (by decide +kernel) rfl
theorem wm_X8_95 : Cond.methodLink RX8 95 yX5_layCourse ∈ GW := inGW 407 (by decide +kernel) rfl
theorem wm_X8_99 : Cond.methodLink RX8 99 yX5_clear ∈ GW := inGW 416 (by decide +kernel) rfl
theorem wm_X9_100 : Cond.methodLink RX9 100 yX9_areNeighbours ∈ GW := inGW 915 (by decide +kernel) rfl
theorem wm_X9_103 : Cond.methodLink RX9 103 yX9_pair ∈ GW := inGW 918 (by decide +kernel) rfl
theorem wm_X9_112 : Cond.methodLink RX9 112 yX9_findBends ∈ GW := inGW 941 (by decide +kernel) rfl
theorem wm_X9_115 : Cond.methodLink RX9 115 yX9_isFloodYear ∈ GW := inGW 903 (by decide +kernel) rfl
theorem wm_X9_118 : Cond.methodLink RX9 118 yX9_canGrow ∈ GW := inGW 968 (by decide +kernel) rfl
theorem wm_X9_121 : Cond.methodLink RX9 121 yX9_grow ∈ GW := inGW 976 (by decide +kernel) rfl
theorem wm_X9_124 : Cond.methodLink RX9 124 yX9_wear ∈ GW := inGW 937 (by decide +kernel) rfl
theorem wm_X9_127 : Cond.methodLink RX9 127 yX9_growAll ∈ GW := inGW 964 (by decide +kernel) rfl
theorem wm_X9_130 : Cond.methodLink RX9 130 yX9_age ∈ GW := inGW 980 (by decide +kernel) rfl
theorem wm_X9_133 : Cond.methodLink RX9 133 yX9_findNeck ∈ GW := inGW 911 (by decide +kernel) rfl
theorem wm_X9_136 : Cond.methodLink RX9 136 yX9_cutNeck ∈ GW := inGW 921 (by decide +kernel) rfl
theorem wm_X9_139 : Cond.methodLink RX9 139 yX9_know ∈ GW := inGW 880 (by decide +kernel) rfl
theorem wm_X9_142 : Cond.methodLink RX9 142 yX9_numberOf ∈ GW := inGW 891 (by decide +kernel) rfl
theorem wm_X9_145 : Cond.methodLink RX9 145 yX9_dikes ∈ GW := inGW 895 (by decide +kernel) rfl
theorem wm_X9_149 : Cond.methodLink RX9 149 yX9_goOn ∈ GW := inGW 933 (by decide +kernel) rfl
theorem wm_X9_152 : Cond.methodLink RX9 152 yX9_apart ∈ GW := inGW 1020 (by decide +kernel) rfl
theorem wm_X9_155 : Cond.methodLink RX9 155 yX9_firm ∈ GW := inGW 1008 (by decide +kernel) rfl
theorem wm_X9_158 : Cond.methodLink RX9 158 yX9_allNecks ∈ GW := inGW 1012 (by decide +kernel) rfl
theorem wm_X9_161 : Cond.methodLink RX9 161 yX9_winding ∈ GW := inGW 1016 (by decide +kernel) rfl
theorem wm_X9_164 : Cond.methodLink RX9 164 yX9_allWear ∈ GW := inGW 1023 (by decide +kernel) rfl
theorem wm_X9_170 : Cond.methodLink RX9 170 yX9_putAside ∈ GW := inGW 1035 (by decide +kernel) rfl
theorem wm_X9_173 : Cond.methodLink RX9 173 yX9_putBack ∈ GW := inGW 1039 (by decide +kernel) rfl
theorem wm_X9_184 : Cond.methodLink RX9 184 yX9_sign ∈ GW := inGW 1072 (by decide +kernel) rfl
theorem wm_X9_187 : Cond.methodLink RX9 187 yX9_isNext ∈ GW := inGW 1076 (by decide +kernel) rfl
theorem wm_X9_196 : Cond.methodLink RX9 196 yX9_number ∈ GW := inGW 1068 (by decide +kernel) rfl
theorem wm_X9_199 : Cond.methodLink RX9 199 yX9_tell ∈ GW := inGW 1080 (by decide +kernel) rfl
theorem wm_X9_202 : Cond.methodLink RX9 202 yX9_readPad ∈ GW := inGW 1064 (by decide +kernel) rfl
theorem wm_X9_47 : Cond.methodLink RX9 47 yX9_begin ∈ GW := inGW 796 (by decide +kernel) rfl
theorem wm_X9_50 : Cond.methodLink RX9 50 yX9_in ∈ GW := inGW 877 (by decide +kernel) rfl
theorem wm_X9_58 : Cond.methodLink RX9 58 yX9_isCell ∈ GW := inGW 888 (by decide +kernel) rfl
theorem wm_X9_65 : Cond.methodLink RX9 65 yX9_way ∈ GW := inGW 945 (by decide +kernel) rfl
theorem wm_X9_69 : Cond.methodLink RX9 69 yX9_wayOf ∈ GW := inGW 957 (by decide +kernel) rfl
theorem wm_X9_72 : Cond.methodLink RX9 72 yX9_stepped ∈ GW := inGW 961 (by decide +kernel) rfl
theorem wm_X9_76 : Cond.methodLink RX9 76 yX9_bank ∈ GW := inGW 953 (by decide +kernel) rfl
theorem wm_X9_79 : Cond.methodLink RX9 79 yX9_isFirm ∈ GW := inGW 949 (by decide +kernel) rfl
theorem wm_X9_83 : Cond.methodLink RX9 83 yX9_leastWear ∈ GW := inGW 972 (by decide +kernel) rfl
theorem wm_X9_93 : Cond.methodLink RX9 93 yX9_dropOxbow ∈ GW := inGW 925 (by decide +kernel) rfl
theorem wSn : Cond.native arraycopyName ∈ GW := inGW 131 (by decide +kernel) rfl
theorem wSs : Cond.static arraycopyName ∈ GW := inGW 130 (by decide +kernel) rfl
theorem wSi : Cond.initialized "java/lang/System" ∈ GW := inGW 54 (by decide +kernel) rfl
theorem wMi : Cond.initialized "java/lang/Math" ∈ GW := inGW 61 (by decide +kernel) rfl
theorem wMs_max : Cond.static Lib.Math.max.name ∈ GW := inGW 541 (by decide +kernel) rfl
theorem wMc_max : Cond.code Lib.Math.max.name Lib.Math.max.code 2 (some .int) ∈ GW := inGW 542 (by decide +kernel) rfl
theorem wMs_min : Cond.static Lib.Math.min.name ∈ GW := inGW 578 (by decide +kernel) rfl
theorem wMc_min : Cond.code Lib.Math.min.name Lib.Math.min.code 2 (some .int) ∈ GW := inGW 579 (by decide +kernel) rfl
theorem wMs_abs : Cond.static Lib.Math.abs.name ∈ GW := inGW 555 (by decide +kernel) rfl
theorem wMc_abs : Cond.code Lib.Math.abs.name Lib.Math.abs.code 1 (some .int) ∈ GW := inGW 556 (by decide +kernel) rfl
