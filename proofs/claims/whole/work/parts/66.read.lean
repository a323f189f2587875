section
variable {g : zGG} {Q : Int → zMem → Prop} {φ : zPhi}
/-- the reference's row begun anew -/
theorem l_begin2 {d0 : zMem} (h0 : 154 < φ.1) (hw0 : φ.2 153 0 = true) (hQ : ∀ d', but d0 d' 154 → (∀ k, d' 154 k = if 1115 ≤ k ∧ k < 1355 then -6 else d0 154 k) → Q 0 d') :
    ∀ (n : Nat) (x : Int) (d : zMem), 240 - x = n → 0 ≤ x → but d0 d 154 → (∀ k, d 154 k = if 1115 ≤ k ∧ k < 1115 + x then -6 else d0 154 k) →
    Fr g (eM g M_X9_begin φ φ Q) M_X9_begin φ 24 [some (zR 153), some (zI x)] [] d := by
  intro n
  induction n with
  | zero =>
    intro x d hn hx hd hv
    apply v_X9_begin_24 h0 hw0
    refine ⟨⟨by omega, by omega⟩, fun _ => hQ d hd (fun k => ?_), fun q => by omega⟩
    rw [hv, show 1115 + x = 1355 by omega]
  | succ n ih =>
    intro x d hn hx hd hv
    apply v_X9_begin_24 h0 hw0
    refine ⟨⟨by omega, by omega⟩, fun q => by omega, fun _ => ⟨⟨by omega, by omega⟩, fun d1 e1 => ih (x + 1) d1 (by omega) (by omega) (e1 ▸ but_mu hd) (fun k => ?_)⟩⟩
    rw [e1, mu_app, if_pos rfl]
    by_cases c : k = 1115 + x
    · rw [if_pos c, if_pos (by omega)]
    · rw [if_neg c, hv k]
      by_cases c2 : 1115 ≤ k ∧ k < 1115 + x
      · rw [if_pos c2, if_pos (by omega)]
      · rw [if_neg c2, if_neg (by omega)]
theorem l_begin1 {d0 : zMem} (h0 : 154 < φ.1) (hw0 : φ.2 153 0 = true) (hQ : ∀ d', but d0 d' 154 → (∀ k, d' 154 k = if 1115 ≤ k ∧ k < 1355 then -6 else if 4 ≤ k ∧ k < 1407 then 0 else d0 154 k) → Q 0 d') :
    ∀ (n : Nat) (x : Int) (d : zMem), 1407 - x = n → 4 ≤ x → but d0 d 154 → (∀ k, d 154 k = if 4 ≤ k ∧ k < x then 0 else d0 154 k) →
    Fr g (eM g M_X9_begin φ φ Q) M_X9_begin φ 2 [some (zR 153), some (zI x)] [] d := by
  intro n
  induction n with
  | zero =>
    intro x d hn hx hd hv
    apply v_X9_begin_2 h0 hw0
    refine ⟨⟨by omega, by omega⟩, fun _ => l_begin2 (d0 := d) h0 hw0 (fun d' b' v' => hQ d' (fun q hq => by rw [b' q hq, hd q hq]) (fun k => ?_)) 240 0 d (by omega) (by omega) but_rfl (fun k => by rw [if_neg (by omega)]), fun q => by omega⟩
    rw [v' k, hv k, show x = 1407 by omega]
  | succ n ih =>
    intro x d hn hx hd hv
    apply v_X9_begin_2 h0 hw0
    refine ⟨⟨by omega, by omega⟩, fun q => by omega, fun _ => ⟨⟨by omega, by omega⟩, fun d1 e1 => ih (x + 1) d1 (by omega) (by omega) (e1 ▸ but_mu hd) (fun k => ?_)⟩⟩
    rw [e1, mu_app, if_pos rfl]
    by_cases c : k = x
    · rw [if_pos c, if_pos (show 4 ≤ k ∧ k < x + 1 by omega)]
    · rw [if_neg c, hv k]
      by_cases c2 : 4 ≤ k ∧ k < x
      · rw [if_pos c2, if_pos (show 4 ≤ k ∧ k < x + 1 by omega)]
      · rw [if_neg c2, if_neg (show ¬ (4 ≤ k ∧ k < x + 1) by omega)]
theorem r_begin {d : zMem} (h0 : 154 < φ.1) (hw0 : φ.2 153 0 = true) (hQ : ∀ d', but d d' 154 → (∀ k, d' 154 k = if 1115 ≤ k ∧ k < 1355 then -6 else if 4 ≤ k ∧ k < 1407 then 0 else d 154 k) → Q 0 d') : Ev g M_X9_begin φ φ [zR 153] d Q := by
  apply e_X9_begin h0 hw0
  exact l_begin1 (d0 := d) h0 hw0 hQ 1403 4 d (by omega) (by omega) but_rfl (fun k => by rw [if_neg (by omega)])
theorem l_rread {d0 : zMem} {N : Int} (hN : 0 ≤ N ∧ N ≤ 150) (h22 : d0 153 22 = N) (hQ : ∀ d', but d0 d' 154 → (∀ k, d' 154 k = if 5 ≤ k ∧ k < 5 + N then d0 165 (k - 5) else d0 154 k) → ∀ d2, d2 = mu d' 153 7 0 → Q N d2) :
    ∀ (n : Nat) (x : Int) (d : zMem), N - x = n → 0 ≤ x → but d0 d 154 → (∀ k, d 154 k = if 5 ≤ k ∧ k < 5 + x then d0 165 (k - 5) else d0 154 k) →
    Fr g (eM g M_X9_read FUL FUL Q) M_X9_read FUL 57 [some (zR 153), some (zI x)] [] d := by
  intro n
  induction n with
  | zero =>
    intro x d hn hx hd hv
    apply v_X9_read_57
    rw [hd 153 (by omega), h22]
    refine ⟨⟨⟨by omega, by omega⟩, ⟨by omega, by omega⟩⟩, fun _ d1 e1 => hQ d hd (fun k => ?_) d1 e1, fun q => by omega⟩
    rw [hv, show x = N by omega]
  | succ n ih =>
    intro x d hn hx hd hv
    apply v_X9_read_57
    rw [hd 153 (by omega), h22, hd 165 (by omega)]
    refine ⟨⟨⟨by omega, by omega⟩, ⟨by omega, by omega⟩⟩, fun q => by omega, fun _ => ⟨⟨by omega, by omega⟩, ⟨by omega, by omega⟩, fun d1 e1 => ih (x + 1) d1 (by omega) (by omega) (e1 ▸ but_mu hd) (fun k => ?_)⟩⟩
    rw [e1, mu_app, if_pos rfl]
    by_cases c : k = 5 + x
    · rw [if_pos c, if_pos (by omega), c, show 5 + x - 5 = x by omega]
    · rw [if_neg c, hv k]
      by_cases c2 : 5 ≤ k ∧ k < 5 + x
      · rw [if_pos c2, if_pos (by omega)]
      · rw [if_neg c2, if_neg (by omega)]
end
section
variable {g : zGG} {Q : Int → zMem → Prop} {a : Nat} {s : Row}
/-- a river that has its settings alone -/
def clr (d : zMem) (a : Nat) : Prop := d (a + 2) 2 = 0 ∧ (∀ c, 0 ≤ c → c < 240 → d (a + 4) c = -1) ∧ d (a + 5) 4 = 0 ∧ (∀ c, 0 ≤ c → c < 240 → d (a + 6) c = -1) ∧ (∀ c, 0 ≤ c → c < 240 → d (a + 10) c = 0 ∧ d (a + 11) c = 0) ∧ (∀ k, 0 ≤ k → k < 480 → d (a + 12) k = 0) ∧ d a 7 = 0 ∧ d a 8 = 0 ∧ d a 9 = 0 ∧ d a 10 = 0
theorem c_clearAll {d : zMem} (ha : isRiv a) (hQ : ∀ d', butR d d' a → d' (a + 1) = d (a + 1) → clr d' a → Q 0 d') : Ev g M_X7_clearAllButSettings FUL FUL [zR a] d Q := by
  apply e_X7_clearAllButSettings ha
  apply s_clear1 ha (rlt4 ha) rfl rfl
  intro d1 b1 x1 x2
  apply s_clear4 ha (rlt9 ha) rfl
  intro d2 b2 x3 x4
  apply s_fill (rl10 ha) (rlt10 ha) (by omega)
  intro d3 b3 x5
  apply s_fill (rl11 ha) (rlt11 ha) (by omega)
  intro d4 b4 x6
  apply s_fill (rl12 ha) (rlt12 ha) (by omega)
  intro d5 b5 x7 d6 e6 d7 e7 d8 e8 d9 e9
  have bF : ∀ q, q ≠ a → d9 q = d5 q := fun q hq => by rw [e9, mu_ne hq, e8, mu_ne hq, e7, mu_ne hq, e6, mu_ne hq]
  refine hQ d9 (fun q hq => ?_) ?_ ⟨?_, fun c c0 c1 => ?_, ?_, fun c c0 c1 => ?_, fun c c0 c1 => ⟨?_, ?_⟩, fun k k0 k1 => ?_, ?_, ?_, ?_, ?_⟩
  · rw [bF q (by omega), b5 q (by omega), b4 q (by omega), b3 q (by omega), b2 q (by omega) (by omega), b1 q (by omega) (by omega)]
  · rw [bF _ (by omega), b5 _ (by omega), b4 _ (by omega), b3 _ (by omega), b2 _ (by omega) (by omega), b1 _ (by omega) (by omega)]
  · rw [bF _ (by omega), b5 _ (by omega), b4 _ (by omega), b3 _ (by omega), b2 _ (by omega) (by omega)]; exact x1
  · rw [bF _ (by omega), b5 _ (by omega), b4 _ (by omega), b3 _ (by omega), b2 _ (by omega) (by omega)]; exact x2 c c0 c1
  · rw [bF _ (by omega), b5 _ (by omega), b4 _ (by omega), b3 _ (by omega)]; exact x3
  · rw [bF _ (by omega), b5 _ (by omega), b4 _ (by omega), b3 _ (by omega)]; exact x4 c c0 c1
  · rw [bF _ (by omega), b5 _ (by omega), b4 _ (by omega)]; exact x5 c c0 (by omega)
  · rw [bF _ (by omega), b5 _ (by omega)]; exact x6 c c0 (by omega)
  · rw [bF _ (by omega)]; exact x7 k k0 (by omega)
  · rw [e9, mu_ni (by omega), e8, mu_ni (by omega), e7, mu_ni (by omega), e6, mu_get]
  · rw [e9, mu_ni (by omega), e8, mu_ni (by omega), e7, mu_get]
  · rw [e9, mu_ni (by omega), e8, mu_get]
  · rw [e9, mu_get]
end
theorem read_Rel {s : Row} {c0 : Int} {ws : Int → Int} {n a : Nat} {d d' : zMem} (hn : n + 1 ≤ 150) (hc : crs (f_read s c0 ws n)) (hS : RS d a s) (hk : clr d a) (hb : but3 d d' a) (hL : LI d' a c0 ws (n + 1)) : Rel d' a (f_read s c0 ws n) := by
  obtain ⟨k1, k2, k3, k4, k5, k6, k7, k8, k9, k10⟩ := hk
  have e : ∀ q, q ≠ a + 2 → q ≠ a + 3 → q ≠ a + 4 → d' q = d q := hb
  have z : ∀ k, 155 ≤ k → (k < 1115 ∨ 1355 ≤ k) → f_read s c0 ws n k = 0 := fun k q0 q1 => read_z hn q0 q1
  refine ⟨fun k q0 q1 => ?_, read_RC hc hL, ⟨fun c q0 q1 => ?_, ?_, fun o q0 q1 => ?_⟩, ⟨fun c q0 q1 => ⟨?_, ?_⟩, fun k q0 q1 => ?_⟩, ⟨?_, fun k q0 q1 => ?_, ?_, ?_, ?_⟩⟩
  · rw [e _ (by omega) (by omega) (by omega), read_lo q1]; exact hS k q0 q1
  · rw [e _ (by omega) (by omega) (by omega), read_o hn (by omega) (by omega), k4 c q0 q1]; rfl
  · rw [e _ (by omega) (by omega) (by omega), k3, z 1355 (by omega) (by omega)]
  · rw [z 1355 (by omega) (by omega)] at q1; omega
  · rw [e _ (by omega) (by omega) (by omega), (k5 c q0 q1).1, z _ (by omega) (by omega)]
  · rw [e _ (by omega) (by omega) (by omega), (k5 c q0 q1).2, z _ (by omega) (by omega)]
  · rw [e _ (by omega) (by omega) (by omega), k6 k q0 q1, z _ (by omega) (by omega)]
  · rw [e _ (by omega) (by omega) (by omega), k7, z _ (by omega) (by omega)]
  · rw [z 1395 (by omega) (by omega)] at q1; omega
  · rw [e _ (by omega) (by omega) (by omega), k8, z _ (by omega) (by omega)]
  · rw [e _ (by omega) (by omega) (by omega), k9, z _ (by omega) (by omega)]
  · rw [e _ (by omega) (by omega) (by omega), k10, z _ (by omega) (by omega)]
section
variable {g : zGG} {Q : Int → Int → zMem → Prop}
theorem p_read {d : zMem} (hJ : J d) (hQ : ∀ v d', J d' → Q v v d') : Ev g M_X8_read FUL FUL [zR 0] d (fun v1 d1 => Ev g M_X9_read FUL FUL [zR 153] d1 (fun v2 d2 => Q v1 v2 d2)) := by
  obtain ⟨hP, hT, hTR⟩ := JP_PT hJ.2.2.2.1
  have hR := hJ.1
  generalize hp : d 159 = p at *
  generalize hLn : d 153 7 = L at *
  -- the reference reads the text of any state that has it still
  have rc : ∀ {Qr : Int → zMem → Prop} {d1 : zMem}, d1 153 = d 153 → d1 159 = d 159 → (∀ d', (∀ c, c ≠ 153 → c ≠ 165 → d' c = d1 c) → (∀ j, j ≠ 19 → j ≠ 20 → j ≠ 22 → j ≠ 23 → d' 153 j = d1 153 j) → (txtOk p L → d' 153 20 = 0 ∧ TI d' (tC p L) (tQ p L).2.2.2 (tQ p L).2.2.1) → (¬ txtOk p L → d' 153 20 = 1 ∧ d' 153 19 = flt p L) → ((inR (d' 153 20)) ∧ ((d' 153 20) = 0 → ((inR (d' 153 22)) ∧ ((d' 153 22) ≤ 150 → ((inR (d' 153 23)) ∧ ((d' 153 23) = 0 → Ev g M_X9_know FUL FUL [zR 153] d' (fun _ d2 => Ev g M_X9_begin FUL FUL [zR 153] d2 (fun _ d3 => ∀ d4, d4 = mu d3 154 4 (d3 153 22) → (Fr g (eM g M_X9_read FUL FUL Qr) M_X9_read FUL 57 [some (zR 153), some (zI 0)] [] d4)))) ∧ ((d' 153 23) ≠ 0 → Qr (-5) d'))) ∧ (150 < (d' 153 22) → Qr (-4) d'))) ∧ ((d' 153 20) ≠ 0 → Qr (-3) d'))) → Ev g M_X9_read FUL FUL [zR 153] d1 Qr := by
    intro Qr d1 e163 e169 h
    apply e_X9_read
    have TR1 : TR d1 p L := by
      unfold TR
      rw [e163, e169, hp, hLn]
      exact ⟨rfl, fun _ _ _ => rfl⟩
    exact r_readPad TR1 hP h
  apply e_X8_read
  apply c_scan hT hP
  intro d1 b1 f2 hd
  rcases flt_ok hP with ⟨o1, o2, o3⟩ | ⟨o1, o2, o3⟩
  · rw [o2]
    obtain ⟨y4, y5, y6, y127⟩ := hd o1
    have i0 := tI_0 hP o1.2.1
    have ir : tI L (tQ p L).2 := (tI_run hP 66 _ i0).1
    have wsr := ir.2.2
    have nr := ir.2.1
    have ar := ir.1
    have hL64 := hP.1
    have x0r := snV_rng (p := p) (L := L) (a := 0) (hi := 19) (by omega) (fun z => o1.1 (Or.inl z))
    have y0r := snV_rng (p := p) (L := L) (a := tA1 p L) (hi := 11) (by omega) (fun z => o1.2.1 (Or.inl z))
    have etC : tC p L = 20 * snV p L (tA1 p L) 11 + snV p L 0 19 := rfl
    generalize hn : (tQ p L).2.2.1 = N at *
    generalize hws : (tQ p L).2.2.2 = ws at *
    refine ⟨by decide, fun _ => ?_, fun z => absurd rfl z⟩
    apply e_X5_stepCount
    rw [y6]
    refine ⟨⟨by omega, by omega⟩, fun h150 => ?_, fun h150 => ?_⟩
    · obtain ⟨n, rfl⟩ : ∃ n : Nat, N = n := ⟨N.toNat, by omega⟩
      have hn1 : 1 ≤ n := by omega
      have hn2 : n + 1 ≤ 150 := by omega
      have hwk : ∀ k : Nat, k < n → 0 ≤ ws k ∧ ws k < 4 := fun k hk => wsr k (by omega) (by omega)
      have hc0 : 0 ≤ tC p L ∧ tC p L < 240 := by omega
      have R1 : Rel d1 1 (d 154) := Rel_keep hR.1 hR.2.1 (fun q q1 q2 => b1 q (by omega) (by omega))
      apply c_copyFrom (Or.inr (Or.inl rfl)) (Or.inl rfl) (by omega) R1 hR.2.1
      intro d3 b3 R3
      apply c_clearAll (Or.inr (Or.inl rfl))
      intro d4 b4 e17 k4
      have S4 : RS d4 15 (d 154) := RS_keep R3.1 e17 (fun _ _ _ => rfl)
      have w4 : ∀ q, q ≠ 117 → q ≠ 119 → (q < 15 ∨ 29 ≤ q) → d4 q = d q := fun q q0 q1 q2 => by rw [b4 q q2, b3 q q2, b1 q q0 q1]
      have e125 : d4 117 = d1 117 := by rw [b4 117 (by omega), b3 117 (by omega)]
      have e127 : d4 119 = d1 119 := by rw [b4 119 (by omega), b3 119 (by omega)]
      have wk4 : ∀ k : Nat, k < n → d4 119 k = ws k ∧ 0 ≤ ws k ∧ ws k < 4 := fun k hk => ⟨by rw [e127]; exact y127 k (by omega) (by omega) (by omega), hwk k hk⟩
      apply c_layCourse (a := 15) (n := n) (Or.inr (Or.inl rfl)) (x0 := snV p L 0 19) (y0 := snV p L (tA1 p L) 11) ⟨by omega, by omega⟩ ⟨by omega, by omega⟩ hn2 (by rw [e125]; exact y4) (by rw [e125]; exact y5) (by rw [e125]; exact y6) wk4 k4.1 k4.2.1
      · rw [← etC]
        intro hl d5 b5 L5
        have hcr := read_crs (s := d 154) hc0 hn1 hn2 hwk hl
        have hIn := read_Inv hR.2.1.2.2.2.2.1 hc0 hn1 hn2 hwk hl
        have R5 := read_Rel hn2 hcr S4 k4 b5 L5
        generalize hs' : f_read (d 154) (tC p L) ws n = s' at *
        have s4 : s' 4 = (n : Int) + 1 := by rw [← hs']; exact read_4
        have w5 : ∀ q, q ≠ 117 → q ≠ 119 → (q < 15 ∨ 29 ≤ q) → d5 q = d q := fun q q0 q1 q2 => by rw [b5 q (by omega) (by omega) (by omega), w4 q q0 q1 q2]
        have f5 : d5 117 2 = d 117 2 := by rw [b5 117 (by omega) (by omega) (by omega), e125, f2]
        have J5 : J d5 := J_seen hJ (fun q q0 q1 q2 q3 q4 => w5 q q0 q1 q4) f5 (fun j _ _ _ _ => by rw [w5 153 (by omega) (by omega) (by omega)])
        refine ⟨by decide, fun _ => ?_, fun z => absurd z (by decide)⟩
        apply p_new J5
        intro d6 st g1 g2 g3
        have R6 : Rel d6 15 s' := Rel_keep R5 hIn (fun q q1 q2 => g1 q (by omega) (by omega))
        apply c_copyFrom (Or.inl rfl) (Or.inr (Or.inl rfl)) (by omega) R6 hIn
        intro d7 b7 R7
        apply e_X5_clear
        intro d8 e8
        apply e_X1_length (Or.inl rfl)
        have w8 : ∀ q, q ≠ 117 → d8 q = d7 q := fun q q0 => by rw [e8, mu_ne q0]
        have R8 : Rel d8 1 s' := Rel_keep R7 hIn (fun q q1 q2 => w8 q (by omega))
        rw [show d8 (1 + 2) 2 = s' 4 from R8.2.1.1, s4]
        have wq : ∀ q, q ≠ 31 → q ≠ 117 → (29 ≤ q ∧ q < 33 ∨ 117 ≤ q) → d8 q = d5 q := fun q q0 q1 q2 => by rw [w8 q q1, b7 q (by omega), g1 q q0 (by omega)]
        have H8 : JH d8 st (min (d 153 3 + 1) 6) (kRow (d 153 3) (bRow d) (d 154)) := by
          have e3 : d5 153 3 = d 153 3 := by rw [w5 153 (by omega) (by omega) (by omega)]
          have eb : bRow d5 = bRow d := by unfold bRow; rw [w5 156 (by omega) (by omega) (by omega)]
          rw [e3, eb, w5 154 (by omega) (by omega) (by omega)] at g2
          exact JH_keep g2 (by rw [w8 31 (by omega), b7 31 (by omega)]) (fun q q1 q2 => by rw [w8 q (by omega), b7 q (by omega)])
        have v163 : d8 153 = d 153 := by rw [wq 153 (by omega) (by omega) (by omega), w5 153 (by omega) (by omega) (by omega)]
        have v169 : d8 159 = d 159 := by rw [wq 159 (by omega) (by omega) (by omega), w5 159 (by omega) (by omega) (by omega)]
        have v164 : d8 154 = d 154 := by rw [wq 154 (by omega) (by omega) (by omega), w5 154 (by omega) (by omega) (by omega)]
        have v166 : d8 156 = d 156 := by rw [wq 156 (by omega) (by omega) (by omega), w5 156 (by omega) (by omega) (by omega)]
        apply rc v163 v169
        intro dr br jr hok _
        obtain ⟨z20, zT⟩ := hok o1
        obtain ⟨t1, t2, t3, t4⟩ := zT
        have z23 : dr 153 23 = 0 := (t4 (by omega)).mpr (by rw [show ((n : Int) + 1).toNat = n + 1 by omega]; exact hl)
        rw [z20, t1, z23]
        refine ⟨by decide, fun _ => ⟨⟨by omega, by omega⟩, fun _ => ⟨by decide, fun _ => ?_, fun z => absurd rfl z⟩, fun z => by omega⟩, fun z => absurd rfl z⟩
        have r3 : dr 153 3 = d 153 3 := by rw [jr 3 (by omega) (by omega) (by omega) (by omega), v163]
        apply r_know hJ.2.1.2.1 r3
        intro d9 k1 k2 k3 k4'
        have ebr : bRow dr = bRow d := by unfold bRow; rw [br 156 (by omega) (by omega), v166]
        rw [ebr, br 154 (by omega) (by omega), v164] at k4'
        apply r_begin (by decide) rfl
        intro d10 b10 v10 d11 e11
        have b11 : but d9 d11 154 := e11 ▸ but_mu b10
        have x22 : d10 153 22 = (n : Int) + 1 := by rw [b10 153 (by omega), k2 22 (by omega), t1]
        rw [x22] at e11
        have y22 : d11 153 22 = (n : Int) + 1 := by rw [e11, mu_ne (by omega), x22]
        have y175 : d11 165 = dr 165 := by rw [b11 165 (by omega), k1 165 (by omega) (by omega)]
        refine l_rread (d0 := d11) (N := (n : Int) + 1) ⟨by omega, by omega⟩ y22 (fun d12 b12 v12 d13 e13 => ?_) (n + 1) 0 d11 (by omega) (by omega) but_rfl (fun k => by rw [if_neg (by omega)])
        -- the last state, and the one before with an empty pad
        have w13 : ∀ q, q ≠ 153 → q ≠ 154 → d13 q = d9 q := fun q q0 q1 => by rw [e13, mu_ne q0, b12 q q1, b11 q q1]
        have w13' : ∀ q, q ≠ 153 → q ≠ 154 → q ≠ 156 → q ≠ 165 → d13 q = d8 q := fun q q0 q1 q2 q3 => by rw [w13 q q0 q1, k1 q q0 q2, br q q0 q3]
        have w163 : ∀ j, j ≠ 3 → j ≠ 7 → j ≠ 19 → j ≠ 20 → j ≠ 22 → j ≠ 23 → d13 153 j = d 153 j := fun j q0 q1 q2 q3 q4 q5 => by rw [e13, mu_ni q1, b12 153 (by omega), b11 153 (by omega), k2 j q0, jr j q2 q3 q4 q5, v163]
        have w7 : d13 153 7 = 0 := by rw [e13, mu_get]
        have w3 : d13 153 3 = min (d 153 3 + 1) 6 := by rw [e13, mu_ni (by omega), b12 153 (by omega), b11 153 (by omega), k3]
        have w164 : same s' (d13 154) 0 1407 := by
          intro k q0 q1
          rw [e13, mu_ne (by omega), v12 k, ← hs']
          by_cases c1 : 5 ≤ k ∧ k < 5 + ((n : Int) + 1)
          · rw [if_pos c1, y175]
            have := (t3 z23 (k - 5).toNat (by omega) (by omega)).1
            rw [Int.toNat_of_nonneg (by omega)] at this
            rw [this, show k = 5 + (k - 5) by omega, read_c (by omega) (by omega), show 5 + (k - 5) - 5 = k - 5 by omega]
          · rw [if_neg c1, e11, mu_app, if_pos rfl]
            by_cases c2 : k = 4
            · rw [if_pos c2, c2, read_4]
            · rw [if_neg c2, v10 k]
              by_cases c3 : 1115 ≤ k ∧ k < 1355
              · rw [if_pos c3, read_o hn2 c3.1 c3.2]
              · rw [if_neg c3]
                by_cases c4 : 4 ≤ k ∧ k < 1407
                · rw [if_pos c4]
                  unfold f_read
                  rw [if_neg (by omega), if_neg c2, if_neg (by omega), if_neg c3]
                · rw [if_neg c4, read_lo (by omega), k1 154 (by omega) (by omega), br 154 (by omega) (by omega), v164]
        generalize hX : (fun q => if q = 117 then d8 117 else if q = 153 then mu d 153 7 0 153 else d q : zMem) = dX
        have x125 : dX 117 = d8 117 := by rw [← hX]; rfl
        have x163 : dX 153 = mu d 153 7 0 153 := by rw [← hX]; rfl
        have xo : ∀ q, q ≠ 117 → q ≠ 153 → dX q = d q := fun q q0 q1 => by
          rw [← hX]
          show (if q = 117 then d8 117 else if q = 153 then mu d 153 7 0 153 else d q) = d q
          rw [if_neg q0, if_neg q1]
        have l8 : d8 117 2 = 0 := by rw [e8, mu_get]
        have xj : ∀ j, j ≠ 7 → dX 153 j = d 153 j := fun j hj => by rw [x163, mu_ni hj]
        have x7 : dX 153 7 = 0 := by rw [x163, mu_get]
        have JX : J dX := J_text hJ (fun q a0 a1 a2 a3 a4 a5 a6 => xo q a0 a3) (xj 3 (by omega)) (xj 13 (by omega)) (xj 14 (by omega)) ⟨by rw [x125, l8, x7], by rw [x7]; decide, fun k q0 q1 => by rw [x7] at q1; omega⟩
        have xb : bRow dX = bRow d := by unfold bRow; rw [xo 156 (by omega) (by omega)]
        refine hQ _ d13 (J_new (d2 := d8) (s' := s') (st := st) JX (fun q hq => ?_) (by rw [x125]) (by rw [xj 3 (by omega), xb, xo 154 (by omega) (by omega)]; exact H8) R8 hIn ?_ (fun q hq => w13' q (by omega) (by omega) (by omega) (by omega)) (by rw [xj 3 (by omega)]; exact w3) (by rw [w7, x7]) (fun q hq => ?_) (fun t q0 q1 => ?_) w164 ⟨?_, ?_, ?_⟩)
        · rw [wq q (by omega) (by omega) (by omega), w5 q (by omega) (by omega) (by omega), xo q (by omega) (by omega)]
        · rw [← hs', read_z hn2 (by omega) (by omega)]; decide
        · rw [w13' q (by omega) (by omega) (by omega) (by omega), wq q (by omega) (by omega) (by omega), w5 q (by omega) (by omega) (by omega), xo q (by omega) (by omega)]
        · have eb : bRow d13 = bRow d9 := by unfold bRow; rw [w13 156 (by omega) (by omega)]
          rw [xj 3 (by omega)] at q1
          rw [xj 3 (by omega), xb, xo 154 (by omega) (by omega), eb]
          exact k4' t q0 q1
        · rw [w13' 120 (by omega) (by omega) (by omega) (by omega), wq 120 (by omega) (by omega) (by omega), w5 120 (by omega) (by omega) (by omega)]
          exact hJ.2.2.2.2.1
        · rw [w163 13 (by omega) (by omega) (by omega) (by omega) (by omega) (by omega)]
          exact hJ.2.2.2.2.2.1
        · rw [w163 14 (by omega) (by omega) (by omega) (by omega) (by omega) (by omega)]
          exact hJ.2.2.2.2.2.2
      · rw [← etC]
        intro hl d5 b5
        have w5 : ∀ q, q ≠ 117 → q ≠ 119 → (q < 15 ∨ 29 ≤ q) → d5 q = d q := fun q q0 q1 q2 => by rw [b5 q (by omega) (by omega) (by omega), w4 q q0 q1 q2]
        refine ⟨by decide, fun z => absurd rfl z, fun _ => ?_⟩
        apply rc (w5 153 (by omega) (by omega) (by omega)) (w5 159 (by omega) (by omega) (by omega))
        intro dr br jr hok _
        obtain ⟨z20, t1, t2, t3, t4⟩ := hok o1
        have z23 : dr 153 23 ≠ 0 := fun z => hl (by have := (t4 (by omega)).mp z; rwa [show ((n : Int) + 1).toNat = n + 1 by omega] at this)
        have f23 : inR (dr 153 23) := by rcases t2 with e | e <;> rw [e] <;> decide
        rw [z20, t1]
        refine ⟨by decide, fun _ => ⟨⟨by omega, by omega⟩, fun _ => ⟨f23, fun z => absurd z z23, fun _ => ?_⟩, fun z => by omega⟩, fun z => absurd rfl z⟩
        exact hQ _ dr (J_seen hJ (fun q q0 q1 q2 q3 q4 => by rw [br q q2 q3, w5 q q0 q1 q4]) (by rw [br 117 (by omega) (by omega), b5 117 (by omega) (by omega) (by omega), e125, f2]) (fun j j0 j1 j2 j3 => by rw [jr j j0 j1 j2 j3, w5 153 (by omega) (by omega) (by omega)]))
    · apply rc (b1 153 (by omega) (by omega)) (b1 159 (by omega) (by omega))
      intro dr br jr hok _
      obtain ⟨z20, t1, t2, t3, t4⟩ := hok o1
      rw [z20, t1]
      refine ⟨by decide, fun _ => ⟨⟨by omega, by omega⟩, fun z => by omega, fun _ => ?_⟩, fun z => absurd rfl z⟩
      exact hQ _ dr (J_seen hJ (fun q q0 q1 q2 q3 q4 => by rw [br q q2 q3, b1 q q0 q1]) (by rw [br 117 (by omega) (by omega), f2]) (fun j j0 j1 j2 j3 => by rw [jr j j0 j1 j2 j3, b1 153 (by omega) (by omega)]))
  · refine ⟨⟨by omega, by omega⟩, fun z => by omega, fun _ => ?_⟩
    apply rc (b1 153 (by omega) (by omega)) (b1 159 (by omega) (by omega))
    intro dr br jr _ hno
    rw [(hno o1).1]
    refine ⟨by decide, fun z => absurd z (by decide), fun _ => ?_⟩
    exact hQ _ dr (J_seen hJ (fun q q0 q1 q2 q3 q4 => by rw [br q q2 q3, b1 q q0 q1]) (by rw [br 117 (by omega) (by omega), f2]) (fun j j0 j1 j2 j3 => by rw [jr j j0 j1 j2 j3, b1 153 (by omega) (by omega)]))
end
