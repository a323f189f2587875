theorem Bends_all {d : zMem} {s : Row} (hB : Bends d s) {p : Int} (h0 : 0 ≤ p) (hp : ∀ f l, bd s f l → f < p) : cB s p = d 153 11 := by
  have hB1 := hB.1
  by_cases c : d 153 11 = 0
  · have : cB s p = cB s 0 := cB_flat (by omega) h0 (fun j q1 q2 l z => by
      obtain ⟨b', k1, k2, k3⟩ := hB.2.2.2.1 j l z
      omega)
    rw [this, c]; rfl
  · have hn := Bends_num hB (d 153 11 - 1).toNat (by omega)
    rw [show (((d 153 11 - 1).toNat : Nat) : Int) = d 153 11 - 1 by omega] at hn
    have hb := hB.2.1 (d 153 11 - 1) (by omega) (by omega)
    have b1 := hb.1
    have hlt := hp _ _ hb
    have : cB s p = cB s (d 160 (d 153 11 - 1) + 1) := cB_flat (by omega) (by omega) (fun j q1 q2 l z => by
      obtain ⟨b', k1, k2, k3⟩ := hB.2.2.2.1 j l z
      rcases (show b' = d 153 11 - 1 ∨ b' < d 153 11 - 1 by omega) with c2 | c2
      · subst c2; omega
      · have := hB.2.2.1 b' (d 153 11 - 1) k1 c2 (by omega); omega)
    rw [this, cB_step hb, hn]
    omega
section
variable {g : zGG} {Q : Int → zMem → Prop} {a : Nat} {s : Row}
theorem l_seekB {d0 : zMem} {b : Nat} {X : Int} (ha : isRiv a) (hb : isBd b) (hC : RC d0 a s) (hs : crs s) (hX : 0 ≤ X ∧ X < 150)
    (h1 : ∀ d' f l, but d0 d' b → bd s f l → hB d' b s f l → cB s f = X → Q 1 d') (h0 : ∀ d', but d0 d' b → cB s 150 ≤ X → Q 0 d') :
    ∀ (n : Nat) (st c : Int) (d : zMem), X + 1 - c = n → 0 ≤ st → st ≤ 150 → but d0 d b → cB s st = c → (X < c → ∃ f l, bd s f l ∧ hB d b s f l ∧ cB s f = X) →
    Fr g (eM g M_X0_seekNumbered FUL FUL Q) M_X0_seekNumbered FUL 18 [some (zR b), some (zR (a + 2)), some (zI X), some (zI st), some (zI c)] [] d := by
  have h4 := hs.1
  have hab := rivBd ha hb
  intro n
  induction n with
  | zero =>
    intro st c d hn hst hst2 hd hc hf
    apply v_X0_seekNumbered_18 hb ha
    refine ⟨⟨⟨by omega, by omega⟩, ⟨by omega, by omega⟩⟩, fun q => ?_, fun q => by omega⟩
    obtain ⟨f, l, k1, k2, k3⟩ := hf q
    exact h1 d f l hd k1 k2 k3
  | succ n ih =>
    intro st c d hn hst hst2 hd hc hf
    have c0 := cB_mono (s := s) (p := 0) (q := st) (by omega) hst
    have e0 : cB s 0 = 0 := rfl
    apply v_X0_seekNumbered_18 hb ha
    refine ⟨⟨⟨by omega, by omega⟩, ⟨by omega, by omega⟩⟩, fun q => ?_, fun q => ?_⟩
    · obtain ⟨f, l, k1, k2, k3⟩ := hf q
      exact h1 d f l hd k1 k2 k3
    · have hC' : RC d a s := RC_keep hC hs (fun p hp => hd p (by clear hf; omega)) (fun _ _ _ => rfl)
      have hsr : inR st := by clear hf; constructor <;> omega
      clear hf
      apply c_seekFrom ha hb hC' hs hsr
      · intro d1 f l b1 hbd hB hle hno
        have f1 := hbd.1
        have f2 := hbd.2.1
        have f3 := hbd.2.2.1
        have ef : cB s f = c := by rw [cB_flat hst hle (fun j q1 q2 l' => hno j l' q1 q2), hc]
        refine ⟨by decide, fun _ => ?_, fun z => absurd z (by decide)⟩
        rw [hB.1]
        exact ih (f + 1) (c + 1) d1 (by omega) (by omega) (by omega) (fun p hp => by rw [b1 p hp, hd p hp]) (by rw [cB_step hbd, ef]) (fun z => ⟨f, l, hbd, hB, by omega⟩)
      · intro hno
        refine ⟨by decide, fun z => absurd rfl z, fun _ => h0 d hd ?_⟩
        rw [cB_flat hst hst2 (fun j q1 q2 l' => hno j l' q1), hc]
        exact q
theorem c_seekB {d : zMem} {b : Nat} {X : Int} (ha : isRiv a) (hb : isBd b) (hC : RC d a s) (hs : crs s) (hX : inR X)
    (h1 : ∀ d' f l, but d d' b → bd s f l → hB d' b s f l → cB s f = X → Q 1 d') (h0 : ∀ d', but d d' b → (X < 0 ∨ cB s 150 ≤ X) → Q 0 d') : Ev g M_X0_seekNumbered FUL FUL [zR b, zR (a + 2), zI X] d Q := by
  have h4 := hs.1
  apply e_X0_seekNumbered hb ha
  refine ⟨hX, fun q => h0 d but_rfl (Or.inl q), fun q => ⟨hX, fun q1 => ?_, fun q1 => h0 d but_rfl (Or.inr ?_)⟩⟩
  · exact l_seekB (d0 := d) ha hb hC hs ⟨q, q1⟩ h1 (fun d' k1 k2 => h0 d' k1 (Or.inr k2)) (X + 1).toNat 0 0 d (by omega) (by omega) (by omega) but_rfl rfl (fun z => by omega)
  · have key : ∀ n : Nat, n ≤ 150 → cB s n ≤ n := by
      intro n
      induction n with
      | zero => intro _; exact Int.le_refl _
      | succ n ih =>
        intro hn
        have := ih (by omega)
        have e : cB s ((n + 1 : Nat) : Int) = cB s n + b01 s n := by
          unfold cB
          rw [show ((n + 1 : Nat) : Int) = (n : Int) + 1 by omega, upto_succ (by omega)]
        have b : b01 s n ≤ 1 := by
          unfold b01
          split <;> decide
        omega
    have := key 150 (by omega)
    have e : cB s ((150 : Nat) : Int) = cB s 150 := rfl
    omega
end
