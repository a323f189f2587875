-- the pointers that are set
def Zr (φ : zPhi) (n : Nat) : Prop := φ.1 = n ∧ ∀ q, n ≤ q → ∀ i, φ.2 q i = false
theorem Zr_nx {φ : zPhi} {n : Nat} (h : Zr φ n) : Zr (znx φ) (n + 1) := ⟨by show φ.1 + 1 = n + 1; rw [h.1], fun q hq i => h.2 q (by omega) i⟩
theorem Zr_zw {φ : zPhi} {n c k : Nat} (h : Zr φ n) (hc : c < n) : Zr (zw φ c k) n := ⟨h.1, fun q hq i => by
  show ((q == c && i == k) || φ.2 q i) = false
  rw [h.2 q hq i, Bool.or_false, show (q == c) = false by rw [beq_eq_false_iff_ne]; omega, Bool.false_and]⟩
theorem zw_at {φ : zPhi} {c k : Nat} : (zw φ c k).2 c k = true := by
  show ((c == c && k == k) || φ.2 c k) = true
  rw [beq_self_eq_true, beq_self_eq_true]
  rfl
theorem znx_up {φ : zPhi} {q i : Nat} (h : φ.2 q i = true) : (znx φ).2 q i = true := h
theorem zw_up {φ : zPhi} {c k q i : Nat} (h : φ.2 q i = true) : (zw φ c k).2 q i = true := by
  show ((q == c && i == k) || φ.2 q i) = true
  rw [h, Bool.or_true]
section
variable {g : zGG} {e : zEE} {k : zMk} {φ : zPhi} {pc : Nat} {ls : List (Option zPV)} {st : List zPV} {d : zMem}
def zrm (e : zEE) (n : Nat) : Prop := n - e.2.1.1 ≤ e.1.cells ∧ zsl n - zsl e.2.1.1 ≤ e.1.slots
theorem zrm_eM {φ0 φ' : zPhi} {Q : Int → zMem → Prop} {n : Nat} (h : n ≤ φ'.1) : zrm (eM g k φ0 φ' Q) n := ⟨by show n - φ0.1 ≤ φ'.1 - φ0.1; omega, by show zsl n - zsl φ0.1 ≤ zsl φ'.1 - zsl φ0.1; have := zsl_mono h; omega⟩
theorem zroom_eM {φ0 φ' φ2 : zPhi} {k' : zMk} {Q : Int → zMem → Prop} (h1 : kfr k' + 1 ≤ kfr k) (h2 : 8 + (kn k' + 11) + klo k' ≤ klo k) (h : φ2.1 ≤ φ'.1) : zroom (eM g k φ0 φ' Q) k' φ2 := ⟨⟨h1, h2⟩, (zrm_eM (g := g) (k := k) (Q := Q) (φ0 := φ0) h).1, (zrm_eM (g := g) (k := k) (Q := Q) (φ0 := φ0) h).2⟩
theorem z_new' (ci : Nat) {idx n : Nat} (hz : Zr φ n) (hL : LAY n = (0, ci)) (hci : ci < 10) (hd : decode (kcode k) pc = .ok (.new idx, 3)) (w1 : Cond.classLink (kown k) idx (RXc ci) ∈ GW) (w2 : Cond.instantiable (RXc ci) (ncl ci) ∈ GW) (w3 : Cond.initialized (RXc ci) ∈ GW)
    (hroom : zrm e (n + 1)) (hh : Fr g e k (znx φ) (pc + 3) ls (zR n :: st) (mrow d n (fun _ => 0))) : Fr g e k φ pc ls st d := by
  obtain ⟨rfl, hz2⟩ := hz
  exact z_new ci hL hci (hz2 _ (Nat.le_refl _)) hd w1 w2 w3 hroom hh
theorem z_newI' {n m : Nat} {v : Int} {at' : ArrayType} (hv : (m : Int) = v) (hat : newarray.typeOf at' = .int) (hz : Zr φ n) (hL : LAY n = (1, m)) (hn : m < 2 ^ 26) (hd : decode (kcode k) pc = .ok (.newarray at', 2)) (w1 : Cond.arrayClass .int ∈ GW)
    (hroom : zrm e (n + 1)) (hh : Fr g e k (znx φ) (pc + 2) ls (zR n :: st) (mrow d n (fun _ => 0))) : Fr g e k φ pc ls (zI v :: st) d := by
  obtain ⟨rfl, hz2⟩ := hz
  subst hv
  exact z_newI hat hL trivial hn hd w1 hroom hh
theorem z_newZ' {n m : Nat} {v : Int} {at' : ArrayType} (hv : (m : Int) = v) (hat : newarray.typeOf at' = .boolean) (hz : Zr φ n) (hL : LAY n = (2, m)) (hn : m < 2 ^ 26) (hd : decode (kcode k) pc = .ok (.newarray at', 2)) (w1 : Cond.arrayClass .boolean ∈ GW)
    (hroom : zrm e (n + 1)) (hh : Fr g e k (znx φ) (pc + 2) ls (zR n :: st) (mrow d n (fun _ => 0))) : Fr g e k φ pc ls (zI v :: st) d := by
  obtain ⟨rfl, hz2⟩ := hz
  subst hv
  exact z_newZ hat hL trivial hn hd w1 hroom hh
theorem z_newR' {n m idx : Nat} {v : Int} (hv : (m : Int) = v) (hz : Zr φ n) (hL : LAY n = (3, m)) (hn : m < 2 ^ 26) (hd : decode (kcode k) pc = .ok (.anewarray idx, 3)) (w1 : Cond.classLink (kown k) idx RX7 ∈ GW)
    (hroom : zrm e (n + 1)) (hh : Fr g e k (znx φ) (pc + 3) ls (zR n :: st) (mrow d n (fun _ => 0))) : Fr g e k φ pc ls (zI v :: st) d := by
  obtain ⟨rfl, hz2⟩ := hz
  subst hv
  exact z_newR hL (hz2 _ (Nat.le_refl _)) hn hd w1 hroom hh
theorem z_aastore' {a n b j : Nat} {i : Int} (hL : LAY a = (3, n)) (ha : a < φ.1) (hn : n < 2 ^ 31) (hb : b < φ.1) (hLb : LAY b = (0, 7)) (hd : decode (kcode k) pc = .ok (.aastore, 1)) (hi : 0 ≤ i ∧ i < n) (hj : i.toNat = j) (hr : RT a j = b) (hh : Fr g e k (zw φ a j) (pc + 1) ls st d) : Fr g e k φ pc ls (zR b :: zI i :: zR a :: st) d := by
  subst hj
  exact z_aastore hL ha hn hb hLb hd hi hr hh
end
-- the first row
def row1 : Row := fun k => f1 k.toNat
def row0 : Row := f_read row1 120 (fun _ => 0) 19
theorem cel_row : ∀ m, m < 20 → cel 120 (fun _ => 0) m = 120 + (m : Int) := by decide +kernel
theorem row_lay : lay 120 (fun _ => 0) 20 := by
  intro k hk
  rw [cel_row k hk]
  refine ⟨by omega, fun k' hk' e => ?_⟩
  rw [cel_row k' (by omega)] at e
  omega
theorem row1_IS : IS row1 := by unfold IS; decide +kernel
theorem row0_crs : crs row0 := read_crs (by decide) (by decide) (by decide) (fun _ _ => by decide) row_lay
theorem row0_Inv : Inv row0 := read_Inv row1_IS (by decide) (by decide) (by decide) (fun _ _ => by decide) row_lay
theorem row0_at {k : Int} (h0 : 0 ≤ k) (h1 : k < 1407) : (if 5 ≤ k ∧ k < 25 then 120 + (k - 5) else if k = 4 then 20 else if 1115 ≤ k ∧ k < 1355 then -6 else if 4 ≤ k ∧ k < 1407 then 0 else if k = 3 then 5 else if k = 2 then 3 else if k = 1 then 6 else if k = 0 then 2 else 0) = row0 k := by
  unfold row0
  rcases (show k < 4 ∨ k = 4 ∨ (5 ≤ k ∧ k < 25) ∨ (25 ≤ k) by omega) with c | c | c | c
  · rw [if_neg (by omega), if_neg (by omega), if_neg (by omega), if_neg (by omega), read_lo c]
    rcases (show k = 0 ∨ k = 1 ∨ k = 2 ∨ k = 3 by omega) with e | e | e | e <;> subst e <;> rfl
  · subst c
    rw [if_neg (by omega), if_pos rfl, read_4]
    rfl
  · rw [if_pos c]
    have e := cel_row (k - 5).toNat (by omega)
    rw [show k = 5 + (k - 5) by omega, read_c (by omega) (by omega), e, Int.toNat_of_nonneg (by omega)]
    omega
  · rw [if_neg (by omega), if_neg (by omega)]
    unfold f_read
    rw [if_neg (show ¬ k < 4 by omega), if_neg (show ¬ k = 4 by omega), if_neg (show ¬ k < 5 + (((19 : Nat) : Int) + 1) by omega)]
    by_cases z : 1115 ≤ k ∧ k < 1355
    · rw [if_pos z, if_pos z]
    · rw [if_neg z, if_neg z, if_pos ⟨by omega, h1⟩]
-- words
theorem wIa : Cond.arrayClass .int ∈ GW := inGW 101 (by decide +kernel) rfl
theorem wZa : Cond.arrayClass .boolean ∈ GW := inGW 205 (by decide +kernel) rfl
theorem wOi : Cond.instanceMethod Lib.objectInit ∈ GW := inGW 68 (by decide +kernel) rfl
theorem wOc : Cond.code Lib.objectInit ⟨#[0xb1]⟩ 1 none ∈ GW := inGW 69 (by decide +kernel) rfl
theorem wI_0 : Cond.instantiable (RXc 0) (ncl 0) ∈ GW := inGW 241 (by decide +kernel) rfl
theorem wi_0 : Cond.initialized (RXc 0) ∈ GW := inGW 58 (by decide +kernel) rfl
theorem wI_1 : Cond.instantiable (RXc 1) (ncl 1) ∈ GW := inGW 79 (by decide +kernel) rfl
theorem wi_1 : Cond.initialized (RXc 1) ∈ GW := inGW 51 (by decide +kernel) rfl
theorem wI_2 : Cond.instantiable (RXc 2) (ncl 2) ∈ GW := inGW 188 (by decide +kernel) rfl
theorem wi_2 : Cond.initialized (RXc 2) ∈ GW := inGW 55 (by decide +kernel) rfl
theorem wI_3 : Cond.instantiable (RXc 3) (ncl 3) ∈ GW := inGW 265 (by decide +kernel) rfl
theorem wi_3 : Cond.initialized (RXc 3) ∈ GW := inGW 59 (by decide +kernel) rfl
theorem wI_4 : Cond.instantiable (RXc 4) (ncl 4) ∈ GW := inGW 103 (by decide +kernel) rfl
theorem wi_4 : Cond.initialized (RXc 4) ∈ GW := inGW 53 (by decide +kernel) rfl
theorem wI_5 : Cond.instantiable (RXc 5) (ncl 5) ∈ GW := inGW 207 (by decide +kernel) rfl
theorem wi_5 : Cond.initialized (RXc 5) ∈ GW := inGW 56 (by decide +kernel) rfl
theorem wI_6 : Cond.instantiable (RXc 6) (ncl 6) ∈ GW := inGW 235 (by decide +kernel) rfl
theorem wi_6 : Cond.initialized (RXc 6) ∈ GW := inGW 57 (by decide +kernel) rfl
theorem wI_7 : Cond.instantiable (RXc 7) (ncl 7) ∈ GW := inGW 71 (by decide +kernel) rfl
theorem wi_7 : Cond.initialized (RXc 7) ∈ GW := inGW 50 (by decide +kernel) rfl
theorem wI_8 : Cond.instantiable (RXc 8) (ncl 8) ∈ GW := inGW 63 (by decide +kernel) rfl
theorem wi_8 : Cond.initialized (RXc 8) ∈ GW := inGW 49 (by decide +kernel) rfl
theorem wI_9 : Cond.instantiable (RXc 9) (ncl 9) ∈ GW := inGW 791 (by decide +kernel) rfl
theorem wi_9 : Cond.initialized (RXc 9) ∈ GW := inGW 60 (by decide +kernel) rfl
theorem wc_X2_9 : Cond.classLink RX2 9 RX7 ∈ GW := inGW 193 (by decide +kernel) rfl
theorem wc_X6_18 : Cond.classLink RX6 18 RX3 ∈ GW := inGW 264 (by decide +kernel) rfl
theorem wc_X6_9 : Cond.classLink RX6 9 RX0 ∈ GW := inGW 240 (by decide +kernel) rfl
theorem wc_X7_18 : Cond.classLink RX7 18 RX1 ∈ GW := inGW 78 (by decide +kernel) rfl
theorem wc_X7_25 : Cond.classLink RX7 25 RX4 ∈ GW := inGW 102 (by decide +kernel) rfl
theorem wc_X8_27 : Cond.classLink RX8 27 RX2 ∈ GW := inGW 187 (by decide +kernel) rfl
theorem wc_X8_34 : Cond.classLink RX8 34 RX5 ∈ GW := inGW 206 (by decide +kernel) rfl
theorem wc_X8_41 : Cond.classLink RX8 41 RX6 ∈ GW := inGW 234 (by decide +kernel) rfl
theorem wc_X8_48 : Cond.classLink RX8 48 RX0 ∈ GW := inGW 299 (by decide +kernel) rfl
theorem wc_X8_55 : Cond.classLink RX8 55 RX3 ∈ GW := inGW 301 (by decide +kernel) rfl
theorem wc_X8_9 : Cond.classLink RX8 9 RX7 ∈ GW := inGW 70 (by decide +kernel) rfl
theorem wg_X7_9 : Cond.fieldLinkNest RX7 9 RX8 "FIRST_SETTINGS" "[I" RX8 ∈ NW := inNW 76 (by decide +kernel) rfl
theorem wm_X0_3 : Cond.methodLink RX0 3 Lib.objectInit ∈ GW := inGW 245 (by decide +kernel) rfl
theorem wm_X1_18 : Cond.methodLink RX1 18 yX1_clear ∈ GW := inGW 84 (by decide +kernel) rfl
theorem wm_X1_3 : Cond.methodLink RX1 3 Lib.objectInit ∈ GW := inGW 83 (by decide +kernel) rfl
theorem wm_X2_17 : Cond.methodLink RX2 17 yX7_init ∈ GW := inGW 194 (by decide +kernel) rfl
theorem wm_X2_3 : Cond.methodLink RX2 3 Lib.objectInit ∈ GW := inGW 192 (by decide +kernel) rfl
theorem wm_X3_3 : Cond.methodLink RX3 3 Lib.objectInit ∈ GW := inGW 269 (by decide +kernel) rfl
theorem wm_X4_24 : Cond.methodLink RX4 24 yX4_clear ∈ GW := inGW 108 (by decide +kernel) rfl
theorem wm_X4_3 : Cond.methodLink RX4 3 Lib.objectInit ∈ GW := inGW 107 (by decide +kernel) rfl
theorem wm_X5_3 : Cond.methodLink RX5 3 Lib.objectInit ∈ GW := inGW 211 (by decide +kernel) rfl
theorem wm_X6_11 : Cond.methodLinkNest RX6 11 yX0_init RX8 ∈ NW := inNW 242 (by decide +kernel) rfl
theorem wm_X6_20 : Cond.methodLinkNest RX6 20 yX3_init RX8 ∈ NW := inNW 266 (by decide +kernel) rfl
theorem wm_X6_3 : Cond.methodLink RX6 3 Lib.objectInit ∈ GW := inGW 239 (by decide +kernel) rfl
theorem wm_X7_20 : Cond.methodLink RX7 20 yX1_init ∈ GW := inGW 80 (by decide +kernel) rfl
theorem wm_X7_27 : Cond.methodLink RX7 27 yX4_init ∈ GW := inGW 104 (by decide +kernel) rfl
theorem wm_X7_3 : Cond.methodLink RX7 3 Lib.objectInit ∈ GW := inGW 75 (by decide +kernel) rfl
theorem wm_X7_50 : Cond.methodLinkNest RX7 50 yX8_cellAt RX8 ∈ NW := inNW 132 (by decide +kernel) rfl
theorem wm_X7_54 : Cond.methodLink RX7 54 yX1_append ∈ GW := inGW 135 (by decide +kernel) rfl
theorem wm_X8_11 : Cond.methodLink RX8 11 yX7_init ∈ GW := inGW 72 (by decide +kernel) rfl
theorem wm_X8_29 : Cond.methodLink RX8 29 yX2_init ∈ GW := inGW 189 (by decide +kernel) rfl
theorem wm_X8_3 : Cond.methodLink RX8 3 Lib.objectInit ∈ GW := inGW 67 (by decide +kernel) rfl
theorem wm_X8_36 : Cond.methodLinkNest RX8 36 yX5_init RX8 ∈ NW := inNW 208 (by decide +kernel) rfl
theorem wm_X8_43 : Cond.methodLinkNest RX8 43 yX6_init RX8 ∈ NW := inNW 236 (by decide +kernel) rfl
theorem wm_X8_50 : Cond.methodLinkNest RX8 50 yX0_init RX8 ∈ NW := inNW 300 (by decide +kernel) rfl
theorem wm_X8_57 : Cond.methodLinkNest RX8 57 yX3_init RX8 ∈ NW := inNW 302 (by decide +kernel) rfl
theorem wm_X9_1 : Cond.methodLink RX9 1 Lib.objectInit ∈ GW := inGW 795 (by decide +kernel) rfl
theorem ly_0 : LAY 0 = (0, 8) := by decide +kernel
theorem ly_1 : LAY 1 = (0, 7) := by decide +kernel
theorem ly_15 : LAY 15 = (0, 7) := by decide +kernel
theorem ly_29 : LAY 29 = (3, 2) := by decide +kernel
theorem ly_30 : LAY 30 = (2, 2) := by decide +kernel
theorem ly_31 : LAY 31 = (0, 2) := by decide +kernel
theorem ly_32 : LAY 32 = (3, 6) := by decide +kernel
theorem ly_33 : LAY 33 = (0, 7) := by decide +kernel
theorem ly_47 : LAY 47 = (0, 7) := by decide +kernel
theorem ly_61 : LAY 61 = (0, 7) := by decide +kernel
theorem ly_75 : LAY 75 = (0, 7) := by decide +kernel
theorem ly_89 : LAY 89 = (0, 7) := by decide +kernel
theorem ly_103 : LAY 103 = (0, 7) := by decide +kernel
theorem ly_117 : LAY 117 = (0, 5) := by decide +kernel
theorem ly_118 : LAY 118 = (1, 64) := by decide +kernel
theorem ly_119 : LAY 119 = (1, 150) := by decide +kernel
theorem ly_120 : LAY 120 = (0, 6) := by decide +kernel
theorem ly_121 : LAY 121 = (0, 0) := by decide +kernel
theorem ly_122 : LAY 122 = (0, 3) := by decide +kernel
theorem ly_123 : LAY 123 = (0, 0) := by decide +kernel
theorem ly_124 : LAY 124 = (0, 3) := by decide +kernel
theorem ly_125 : LAY 125 = (0, 7) := by decide +kernel
theorem ly_139 : LAY 139 = (0, 7) := by decide +kernel
theorem ly_153 : LAY 153 = (0, 9) := by decide +kernel
theorem ly_154 : LAY 154 = (1, 1407) := by decide +kernel
theorem ly_155 : LAY 155 = (1, 1407) := by decide +kernel
theorem ly_156 : LAY 156 = (1, 8442) := by decide +kernel
theorem ly_157 : LAY 157 = (1, 2814) := by decide +kernel
theorem ly_158 : LAY 158 = (2, 2) := by decide +kernel
theorem ly_159 : LAY 159 = (1, 64) := by decide +kernel
theorem ly_160 : LAY 160 = (1, 150) := by decide +kernel
theorem ly_161 : LAY 161 = (1, 150) := by decide +kernel
theorem ly_162 : LAY 162 = (2, 240) := by decide +kernel
theorem ly_163 : LAY 163 = (1, 150) := by decide +kernel
theorem ly_164 : LAY 164 = (2, 480) := by decide +kernel
theorem ly_165 : LAY 165 = (1, 150) := by decide +kernel
