theorem cut_Inv {s : Row} {i j : Int} (hI : Inv s) (hn : neck s i j) : Inv (f_cut s i j) ∧ f_cut s i j 1404 = s 1404 := by
  obtain ⟨hs, hX, hY, hW, hS, hF⟩ := hI
  obtain ⟨cX, cY⟩ := cut_IX hs hX hY hn
  have h4 := hs.1.2
  have out : ∀ k, (k < 4 ∨ (155 ≤ k ∧ k < 1115) ∨ (1395 ≤ k ∧ k ≠ 1405)) → f_cut s i j k = s k := fun k hk => cut_out hX hn h4 hk
  exact ⟨⟨cut_crs hs hX hn, cX, cY, IW_same (fun k _ _ => out k (by omega)) (out _ (by omega)) hW, IS_same (fun k _ _ => out k (by omega)) hS, IF_same (fun k _ _ => out k (by omega)) hF⟩, out _ (by omega)⟩
section
variable {g : zGG} {Q : Int → zMem → Prop} {a : Nat} {s : Row}
theorem c_seekN {d : zMem} {k : Nat} {X : Int} (ha : isRiv a) (hk : isNk k) (hX : inR X) (hC : RC d a s) (hs : crs s)
    (h1 : ∀ i j, neck s i j → cN s i j = X → 0 ≤ X → Q 1 (mu (mu d k 0 i) k 1 j)) (h0 : X < 0 ∨ cNT s ≤ X → Q 0 d) : Ev g M_X3_seekNumbered FUL FUL [zR k, zR (a + 2), zI X] d Q := by
  have h4 := hs.1
  apply e_X3_seekNumbered hk ha
  refine ⟨hX, fun q => ?_, fun q => h0 (Or.inl q)⟩
  exact (l_seekN ha hk ⟨q, hX⟩ hC hs (fun i j k1 k2 => h1 i j k1 k2 q) (fun z => h0 (Or.inr z)) (s 4).toNat 4 0 0 0 0 (by omega) (by omega) (by omega) (by omega) (by omega) q).2 rfl rfl
end
section
variable {g : zGG} {Q : Int → Int → zMem → Prop}
theorem p_neck {d : zMem} {x w : Int} (hJ : J d) (hx : inR x) (hw : inR w) (hQ : ∀ v d', J d' → Q v v d') : Ev g M_X8_neck FUL FUL [zR 0, zI x, zI w] d (fun v1 d1 => Ev g M_X9_neck FUL FUL [zR 153, zI x, zI w] d1 (fun v2 d2 => Q v1 v2 d2)) := by
  have hR := hJ.1
  obtain ⟨hs, hX, hY, hW, hS, hF⟩ := hR.2.1
  have h4 := hs.1
  apply e_X8_neck
  apply c_seekN (Or.inl rfl) (Or.inr rfl) hx hR.1.2.1 hs
  · intro i j hn hc hx0
    generalize hd1 : mu (mu d 124 0 i) 124 1 j = d1
    have b1 : but d d1 124 := hd1 ▸ but_mu (but_mu but_rfl)
    have e164 : d1 154 = d 154 := b1 154 (by omega)
    have e0 : d1 124 0 = i := by rw [← hd1, mu_ni (by omega), mu_get]
    have e1 : d1 124 1 = j := by rw [← hd1, mu_get]
    have R1 : Rel d1 1 (d 154) := Rel_keep hR.1 hR.2.1 (fun q q1 q2 => b1 q (by omega))
    have n1 := hn.1
    have n2 := hn.2.1
    have n3 := hn.2.2.1
    have ci := hs.2.1 i (by omega) (by omega)
    have cj := hs.2.1 j (by omega) (by omega)
    have prr := pr_range ci cj
    have rc : ∀ v, (w = 0 → v = i) → (w = 1 → v = j) → (w = 2 → v = age (d 154) i j) → ((w < 0 ∨ 2 < w) → v = -2) → Ev g M_X9_neck FUL FUL [zR 153, zI x, zI w] d1 (fun v2 d2 => Q v v2 d2) := by
      intro v a0 a1 a2 a3
      apply e_X9_neck
      refine ⟨hx, fun z => by omega, fun _ => ?_⟩
      apply r_num (s := d 154) ⟨hx0, hx⟩ e164 hs
      · intro d2 i' j' r2 j2 q164 hn' hc' f15 f16 f17
        obtain ⟨ei, ej⟩ := cN_inj h4.2 hn' hn (by rw [hc, hc'])
        subst ei
        subst ej
        have J2 : J d2 := J_look hJ (by omega) b1 r2 (by rw [q164, e164]) (j2 14 (by omega) (by omega) (by omega))
        refine ⟨by decide, fun _ => ⟨hw, fun q => ⟨hw, fun q1 => ⟨hw, fun q2 => ?_, fun q2 => ?_⟩, fun q1 => ?_⟩, fun q => ?_⟩, fun z => absurd z (by decide)⟩
        · rw [a3 (by omega)]; exact hQ _ d2 J2
        · rw [f15, f16, q164]
          refine ⟨⟨by omega, by omega⟩, ⟨by omega, by omega⟩, ?_⟩
          apply r_pair ci cj hn.2.2.2
          refine ⟨⟨by omega, by omega⟩, ?_⟩
          rw [a2 q2, q164]
          exact hQ _ d2 J2
        · rw [f16, a1 q1]; exact hQ _ d2 J2
        · rw [f15, a0 q]; exact hQ _ d2 J2
      · intro d2 r2 j2 q164 hT f17
        have := cN_ltT h4.2 hn
        omega
    refine ⟨by decide, fun _ => ⟨hw, fun q => ?_, fun q => ?_, fun q => ?_, fun q => ?_⟩, fun z => absurd z (by decide)⟩
    · exact rc _ (fun z => by omega) (fun z => by omega) (fun z => by omega) (fun _ => rfl)
    · rw [e0]; exact rc _ (fun _ => rfl) (fun z => by omega) (fun z => by omega) (fun z => by omega)
    · rw [e1]; exact rc _ (fun z => by omega) (fun _ => rfl) (fun z => by omega) (fun z => by omega)
    · rw [e0, e1]
      apply c_ageOf (Or.inl rfl) R1.2.1 hs R1.2.2.2.1 ⟨by omega, by omega⟩ ⟨by omega, by omega⟩
      exact rc _ (fun z => by omega) (fun z => by omega) (fun _ => rfl) (fun z => by omega)
  · intro hno
    refine ⟨by decide, fun z => absurd rfl z, fun _ => ?_⟩
    apply e_X9_neck
    refine ⟨hx, fun z => hQ _ d hJ, fun z => ?_⟩
    apply r_num (s := d 154) ⟨z, hx⟩ rfl hs
    · intro d2 i' j' r2 j2 q164 hn' hc' f15 f16 f17
      have := cN_ltT h4.2 hn'
      omega
    · intro d2 r2 j2 q164 hT f17
      exact ⟨by decide, fun z => absurd rfl z, fun _ => hQ _ d2 (J_look hJ (k := 124) (by omega) but_rfl r2 q164 (j2 14 (by omega) (by omega) (by omega)))⟩
theorem p_cut {d : zMem} {x : Int} (hJ : J d) (hx : inR x) (hQ : ∀ v d', J d' → Q v v d') : Ev g M_X8_cut FUL FUL [zR 0, zI x] d (fun v1 d1 => Ev g M_X9_cut FUL FUL [zR 153, zI x] d1 (fun v2 d2 => Q v1 v2 d2)) := by
  have hR := hJ.1
  obtain ⟨hs, hX, hY, hW, hS, hF⟩ := hR.2.1
  have h4 := hs.1
  apply e_X8_cut
  apply c_seekN (Or.inl rfl) (Or.inr rfl) hx hR.1.2.1 hs
  · intro i j hn hc hx0
    generalize hd1 : mu (mu d 124 0 i) 124 1 j = d1
    have b1 : but d d1 124 := hd1 ▸ but_mu (but_mu but_rfl)
    have e164 : d1 154 = d 154 := b1 154 (by omega)
    have J1 : J d1 := J_look hJ (by omega) b1 rF_rfl rfl rfl
    refine ⟨by decide, fun _ => ?_, fun z => absurd z (by decide)⟩
    apply p_new J1
    intro d2 st g1 g2 g3
    rw [e164] at g3
    have f0 : d2 124 0 = i := by rw [g1 124 (by omega) (by omega), ← hd1, mu_ni (by omega), mu_get]
    have f1 : d2 124 1 = j := by rw [g1 124 (by omega) (by omega), ← hd1, mu_get]
    rw [f0, f1]
    apply c_cutBetween (Or.inl rfl) g3 hs hX hY hF.1.2 hn
    intro d3 b3 R3
    apply e_X1_length (Or.inl rfl)
    rw [show d3 (1 + 2) 2 = f_cut (d 154) i j 4 from R3.2.1.1]
    obtain ⟨c1, c2, ⟨st', c3⟩, c4⟩ := cCh_of g1 g2 b3 R3
    have q164 : d3 154 = d 154 := by rw [c1 154 (by omega), e164]
    apply e_X9_cut
    refine ⟨hx, fun z => by omega, fun _ => ?_⟩
    apply r_num (s := d 154) ⟨hx0, hx⟩ q164 hs
    · intro d4 i' j' r4 j4 k164 hn' hc' f15 f16 f17
      obtain ⟨ei, ej⟩ := cN_inj h4.2 hn' hn (by rw [hc, hc'])
      subst ei
      subst ej
      refine ⟨by decide, fun _ => ?_, fun z => absurd z (by decide)⟩
      -- the state before both, with the reference's look made ahead
      generalize hX' : (fun q => if 153 ≤ q then d4 q else d1 q : zMem) = dX
      have x1 : ∀ q, q < 153 → dX q = d1 q := fun q hq => by rw [← hX']; show (if 153 ≤ q then d4 q else d1 q) = d1 q; rw [if_neg (by omega)]
      have x2 : ∀ q, 153 ≤ q → dX q = d4 q := fun q hq => by rw [← hX']; show (if 153 ≤ q then d4 q else d1 q) = d4 q; rw [if_pos hq]
      have x163 : ∀ j, j ≠ 15 → j ≠ 16 → j ≠ 17 → dX 153 j = d1 153 j := fun j' q1 q2 q3 => by rw [x2 153 (by omega), j4 j' q1 q2 q3, c1 153 (by omega)]
      have xo : ∀ q, (154 < q ∧ q < 160) → dX q = d1 q := fun q hq => by rw [x2 q (by omega), r4.1 q (by omega), c1 q (by omega)]
      have x164 : dX 154 = d1 154 := by rw [x2 154 (by omega), k164, e164]
      have JX : J dX := by
        refine J_look hJ (k := 124) (by omega) b1 ⟨fun q hq => ?_, fun j' q1 q2 q3 q4 q5 => x163 j' q3 q4 q5⟩ x164 (x163 14 (by omega) (by omega) (by omega))
        rcases (show q < 153 ∨ 153 ≤ q by omega) with z | z
        · exact x1 q z
        · rw [x2 q z, r4.1 q (by omega), c1 q (by omega)]
      have CX : cCh dX d4 (f_cut (d 154) i' j') := by
        refine ⟨fun q hq => ?_, ⟨?_, ?_⟩, ⟨st', ?_⟩, Rel_keep c4 (cut_Inv hR.2.1 hn).1 (fun q q1 q2 => r4.1 q (by omega))⟩
        · rcases (show q < 153 ∨ 153 ≤ q by omega) with z | z
          · rw [x1 q z, r4.1 q (by omega), c1 q (by omega)]
          · rw [x2 q z]
        · rw [x1 117 (by omega), r4.1 117 (by omega), c2.1]
        · rw [x1 120 (by omega), r4.1 120 (by omega), c2.2]
        · have e : bRow dX = bRow d1 := by unfold bRow; rw [xo 156 (by omega)]
          rw [x163 3 (by omega) (by omega) (by omega), e, x164]
          exact JH_keep c3 (r4.1 31 (by omega)) (fun q q1 q2 => r4.1 q (by omega))
      apply rn_know JX CX
      intro d5 k1 k2 k3 k4
      have k164' : d5 154 = d 154 := by rw [k1 154 (by omega) (by omega), k164]
      apply r_cutNeck k164' hs hX hn (by rw [k2 15 (by omega), f15]) (by rw [k2 16 (by omega), f16])
      intro d6 b6 q6
      rw [q6]
      have cI := cut_Inv hR.2.1 hn
      refine hQ _ d6 (J_ch JX CX cI.1 (by rw [cI.2]; exact hR.2.2) k1 k2 k3 k4 (rF_but rF_rfl (Or.inl rfl) b6) (by rw [q6]; exact same_rfl) ?_)
      rw [b6 153 (by omega), k2 14 (by omega), ← x2 153 (by omega)]
      exact JX.2.2.2.2.2.2
    · intro d4 r4 j4 k164 hT f17
      have := cN_ltT h4.2 hn
      omega
  · intro hno
    refine ⟨by decide, fun z => absurd rfl z, fun _ => ?_⟩
    apply e_X9_cut
    refine ⟨hx, fun z => hQ _ d hJ, fun z => ?_⟩
    apply r_num (s := d 154) ⟨z, hx⟩ rfl hs
    · intro d2 i' j' r2 j2 q164 hn' hc' f15 f16 f17
      have := cN_ltT h4.2 hn'
      omega
    · intro d2 r2 j2 q164 hT f17
      exact ⟨by decide, fun z => absurd rfl z, fun _ => hQ _ d2 (J_look hJ (k := 124) (by omega) but_rfl r2 q164 (j2 14 (by omega) (by omega) (by omega)))⟩
end
