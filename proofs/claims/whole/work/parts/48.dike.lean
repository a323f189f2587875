/-- the sum from a place on -/
def sig (r : Int → Int) : Nat → Int → Int → Int
  | 0, _, v => v
  | n + 1, k, v => sig r n (k + 1) (v + r k)
theorem sig_same {r r' : Int → Int} : ∀ (n : Nat) (k v : Int), (∀ j, k ≤ j → j < k + n → r j = r' j) → sig r n k v = sig r' n k v
  | 0, _, _, _ => rfl
  | n + 1, k, v, h => by
    show sig r n (k + 1) (v + r k) = sig r' n (k + 1) (v + r' k)
    rw [h k (by omega) (by omega)]
    exact sig_same n (k + 1) _ (fun j q1 q2 => h j (by omega) (by omega))
section
variable {g : zGG}
theorem l_dikeCount {d : zMem} {a : Nat} {Q : Int → zMem → Prop} {S : Int} (ha : isRiv a) (hQ : Q S d) : ∀ (n : Nat) (x v : Int), 240 - x = n → 0 ≤ x → sig (d (a + 11)) n x v = S →
    Fr g (eM g M_X7_dikeCount FUL FUL Q) M_X7_dikeCount FUL 4 [some (zR a), some (zI v), some (zI x)] [] d
  | 0, x, v, hn, hx, hs => by
    apply v_X7_dikeCount_4 ha
    have hs' : v = S := hs
    exact ⟨⟨by omega, by omega⟩, fun _ => hs' ▸ hQ, fun q => by omega⟩
  | n + 1, x, v, hn, hx, hs => by
    apply v_X7_dikeCount_4 ha
    exact ⟨⟨by omega, by omega⟩, fun q => by omega, fun _ => ⟨⟨by omega, by omega⟩, l_dikeCount ha hQ n (x + 1) _ (by omega) (by omega) hs⟩⟩
theorem c_dikeCount {d : zMem} {a : Nat} {s : Row} {Q : Int → zMem → Prop} (ha : isRiv a) (hW : RW d a s) (hQ : Q (sig (fun c => s (395 + c)) 240 0 0) d) : Ev g M_X7_dikeCount FUL FUL [zR a] d Q := by
  apply e_X7_dikeCount ha
  refine l_dikeCount ha hQ 240 0 0 (by omega) (by omega) (sig_same 240 0 0 (fun j q1 q2 => ?_))
  exact (hW.1 j q1 (by omega)).2
theorem l_dikes {d : zMem} {Q : Int → zMem → Prop} {S : Int} (hQ : Q S d) : ∀ (n : Nat) (x v : Int), 240 - x = n → 0 ≤ x → sig (fun c => d 154 (395 + c)) n x v = S →
    Fr g (eM g M_X9_dikes FUL FUL Q) M_X9_dikes FUL 4 [some (zR 153), some (zI v), some (zI x)] [] d
  | 0, x, v, hn, hx, hs => by
    apply v_X9_dikes_4
    have hs' : v = S := hs
    exact ⟨⟨by omega, by omega⟩, fun _ => hs' ▸ hQ, fun q => by omega⟩
  | n + 1, x, v, hn, hx, hs => by
    apply v_X9_dikes_4
    exact ⟨⟨by omega, by omega⟩, fun q => by omega, fun _ => ⟨⟨by omega, by omega⟩, l_dikes hQ n (x + 1) _ (by omega) (by omega) hs⟩⟩
theorem r_dikes {d : zMem} {Q : Int → zMem → Prop} (hQ : Q (sig (fun c => d 154 (395 + c)) 240 0 0) d) : Ev g M_X9_dikes FUL FUL [zR 153] d Q := by
  apply e_X9_dikes
  exact l_dikes hQ 240 0 0 (by omega) (by omega) rfl
theorem dike_Inv {s : Row} {c b : Int} (hI : Inv s) (hc : 0 ≤ c ∧ c < 240) (hb : b = 0 ∨ b = 1) : Inv (ru s (395 + c) b) := by
  obtain ⟨hs, hX, hY, hW, hS, hF⟩ := hI
  refine ⟨crs_same (fun k q1 q2 => ru_ne (by omega)) hs, IX_same (fun k q1 q2 => ru_ne (by omega)) hX, IY_same (fun k q1 q2 => ru_ne (by omega)) hX hY, ⟨fun k q1 q2 => ⟨?_, ?_⟩, fun k q1 q2 => ?_⟩, IS_same (fun k q1 q2 => ru_ne (by omega)) hS, IF_same (fun k q1 q2 => ru_ne (by omega)) hF⟩
  · rw [ru_ne (by omega)]; exact (hW.1 k q1 q2).1
  · unfold ru
    split
    · exact hb
    · exact (hW.1 k q1 q2).2
  · rw [ru_ne (by omega), ru_ne (by omega)]; exact hW.2 k q1 q2
variable {Q : Int → Int → zMem → Prop}
theorem p_dike {d : zMem} {x y b : Int} (hJ : J d) (hx : inR x) (hy : inR y) (hb : b = 0 ∨ b = 1) (hQ : ∀ v d', J d' → Q v v d') : Ev g M_X8_dike FUL FUL [zR 0, zI x, zI y, zI b] d (fun v1 d1 => Ev g M_X9_dike FUL FUL [zR 153, zI x, zI y, zI b] d1 (fun v2 d2 => Q v1 v2 d2)) := by
  have hR := hJ.1
  obtain ⟨hs, hX, hY, hW, hS, hF⟩ := hR.2.1
  have h4 := hs.1
  have hbr : inR b := by rcases hb with e | e <;> rw [e] <;> decide
  apply e_X8_dike
  apply s_cellAt hx hy
  by_cases c : 0 ≤ x ∧ x < 20 ∧ 0 ≤ y ∧ y < 12
  · rw [if_pos c]
    have hc : 0 ≤ y * 20 + x ∧ y * 20 + x < 240 := by omega
    have hci : inR (y * 20 + x) := ⟨by omega, by omega⟩
    have e20 : 20 * y + x = y * 20 + x := by omega
    have nr := num_range (d 154) hs (y * 20 + x)
    have hdk := (hW.1 _ hc.1 hc.2).2
    -- the reference's way to the dike
    have rc : ∀ {Qr : Int → zMem → Prop} {d2 : zMem}, d2 154 = d 154 → (num (d 154) (y * 20 + x) ≠ -1 → Qr (-5) d2) → (num (d 154) (y * 20 + x) = -1 → d 154 (395 + (y * 20 + x)) = b → Qr (-5) d2) → (num (d 154) (y * 20 + x) = -1 → d 154 (395 + (y * 20 + x)) ≠ b → Ev g M_X9_know FUL FUL [zR 153] d2 (fun _ d3 => ∀ d4, d4 = mu d3 154 (395 + (y * 20 + x)) b → Ev g M_X9_dikes FUL FUL [zR 153] d4 (fun v d5 => Qr v d5))) → Ev g M_X9_dike FUL FUL [zR 153, zI x, zI y, zI b] d2 Qr := by
      intro Qr d2 e164 a1 a2 a3
      apply e_X9_dike
      apply s_isCell hx hy
      rw [if_pos (by omega), e20]
      refine ⟨by decide, fun _ => ?_, fun z => absurd z (by decide)⟩
      apply r_numberOf (by rw [e164]; exact hs) hci
      rw [e164]
      by_cases cn : num (d 154) (y * 20 + x) = -1
      · rw [if_pos cn]
        have know : d 154 (395 + (y * 20 + x)) ≠ b → Ev g M_X9_know FUL FUL [zR 153] d2 (fun _ d3 => ((inR b) ∧ (b = 0 → (0 ≤ (395 + (y * 20 + x)) ∧ (395 + (y * 20 + x)) < 1407) ∧ ∀ d4, d4 = mu d3 154 (395 + (y * 20 + x)) 0 → Ev g M_X9_dikes FUL FUL [zR 153] d4 (fun v3 d5 => Qr v3 d5)) ∧ (b ≠ 0 → (0 ≤ (395 + (y * 20 + x)) ∧ (395 + (y * 20 + x)) < 1407) ∧ ∀ d6, d6 = mu d3 154 (395 + (y * 20 + x)) 1 → Ev g M_X9_dikes FUL FUL [zR 153] d6 (fun v4 d7 => Qr v4 d7)))) := by
          intro hne
          refine Ev_mono (a3 cn hne) (fun v d3 h => ⟨hbr, fun e => ⟨by omega, fun d4 hd4 => h d4 (by rw [e]; exact hd4)⟩, fun e => ⟨by omega, fun d4 hd4 => h d4 (by rw [show b = 1 by omega]; exact hd4)⟩⟩)
        refine ⟨by decide, fun z => absurd rfl z, fun _ => ⟨by omega, ⟨by rcases hdk with e | e <;> rw [e] <;> decide, fun q => ⟨hbr, fun q2 => know (by omega), fun q2 => a2 cn (by omega)⟩, fun q => ⟨hbr, fun q2 => know (by omega), fun q2 => a2 cn (by omega)⟩⟩⟩⟩
      · rw [if_neg cn]
        exact ⟨⟨by omega, by omega⟩, fun _ => a1 cn, fun z => by omega⟩
    refine ⟨⟨by omega, by omega⟩, fun _ => ?_, fun q => by omega⟩
    apply c_numberOf (Or.inl rfl) hR.1.2.1 hci
    rw [if_pos hc]
    refine ⟨⟨by omega, by omega⟩, fun q => rc rfl (fun _ => hQ _ d hJ) (fun z => absurd z q) (fun z => absurd z q), fun q => ?_⟩
    have change : d 154 (395 + (y * 20 + x)) ≠ b → Ev g M_X2_remember FUL FUL [zR 31, zR 1] d (fun _ d4 => Ev g M_X7_changeDike FUL FUL [zR 1, zI (y * 20 + x), zI b] d4 (fun _ d5 => Ev g M_X7_dikeCount FUL FUL [zR 1] d5 (fun v4 d6 => Ev g M_X9_dike FUL FUL [zR 153, zI x, zI y, zI b] d6 (fun v2 d2 => Q v4 v2 d2)))) := by
      intro hne
      apply p_new hJ
      intro d1 st h1 h2 h3
      apply e_X7_changeDike (Or.inl rfl)
      apply s_isOnLand hci
      rw [if_pos hc]
      refine ⟨by decide, fun z => absurd z (by decide), fun _ => ?_⟩
      apply s_asNumber hbr
      refine ⟨hc, fun d2 hd2 => ?_⟩
      have eb : (if b = 0 then (0 : Int) else 1) = b := by rcases hb with e | e <;> rw [e] <;> rfl
      rw [eb] at hd2
      have hI2 := dike_Inv hR.2.1 hc hb
      have b2 : ∀ p, p ≠ 1 + 11 → d2 p = d1 p := fun p hp => by rw [hd2, mu_ne hp]
      obtain ⟨rS, rC, rX, rW, rF⟩ := h3
      have rW2 : RW d2 1 (ru (d 154) (395 + (y * 20 + x)) b) := by
        refine ⟨fun k k0 k1 => ⟨?_, ?_⟩, fun k k0 k1 => ?_⟩
        · rw [b2 _ (by omega), ru_ne (by omega)]; exact (rW.1 k k0 k1).1
        · rw [hd2, mu_app, if_pos rfl]
          unfold ru
          by_cases ck : k = y * 20 + x
          · rw [if_pos ck, if_pos (by omega)]
          · rw [if_neg ck, if_neg (by omega)]; exact (rW.1 k k0 k1).2
        · rw [b2 _ (by omega), ru_ne (by omega)]; exact rW.2 k k0 k1
      have hC : cCh d d2 (ru (d 154) (395 + (y * 20 + x)) b) :=
        cCh_of h1 h2 (fun p hp => b2 p (by omega)) ⟨RS_keep rS (b2 _ (by omega)) (fun k _ _ => ru_ne (by omega)), RC_keep rC hs (fun p hp => b2 p (by omega)) (fun k _ _ => ru_ne (by omega)), RX_keep rX hX (fun p hp => b2 p (by omega)) (fun k _ _ => ru_ne (by omega)), rW2, RF_keep rF hF.1.2 (fun p hp => b2 p (by omega)) (fun k _ _ => ru_ne (by omega))⟩
      apply c_dikeCount (Or.inl rfl) rW2
      have e164 : d2 154 = d 154 := hC.1 154 (by omega)
      refine rc e164 (fun z => absurd q z) (fun _ z => absurd z hne) (fun _ _ => ?_)
      apply rn_know hJ hC
      intro d3 k1 k2 k3 k4 d4 hd4
      have e4 : d4 154 = ru (d 154) (395 + (y * 20 + x)) b := by rw [hd4, mu164, k1 154 (by omega) (by omega), e164]
      apply r_dikes
      rw [e4]
      refine hQ _ d4 (J_ch hJ hC hI2 (by rw [ru_ne (by omega)]; exact hR.2.2) k1 k2 k3 k4 (hd4 ▸ rF_mu rF_rfl (by omega)) (by rw [e4]; exact same_rfl) ?_)
      rw [hd4, mu_ne (by omega), k2 14 (by omega), hC.1 153 (by omega)]
      exact hJ.2.2.2.2.2.2
    apply c_isDike (Or.inl rfl) hR.1.2.2.2.1 hW hci
    · intro z
      refine ⟨⟨by decide, hbr⟩, fun q2 => change (by omega), fun q2 => rc rfl (fun w => absurd q w) (fun _ _ => hQ _ d hJ) (fun _ w => by omega)⟩
    · intro z
      refine ⟨⟨by decide, hbr⟩, fun q2 => change (by omega), fun q2 => rc rfl (fun w => absurd q w) (fun _ _ => hQ _ d hJ) (fun _ w => by omega)⟩
  · rw [if_neg c]
    refine ⟨by decide, fun q => absurd rfl q, fun _ => ?_⟩
    apply e_X9_dike
    apply s_isCell hx hy
    rw [if_neg (by omega)]
    exact ⟨by decide, fun z => absurd rfl z, fun _ => hQ _ d hJ⟩
end
