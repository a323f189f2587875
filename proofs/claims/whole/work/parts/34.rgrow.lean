section
variable {g : zGG} {Q : Int → zMem → Prop} {s : Row}
theorem r_wayOf {d : zMem} {b f : Int} (h164 : d 154 = s) (hs : crs s) (hb : 0 ≤ b ∧ b < 150) (hf : d 160 b = f) (hf1 : 1 ≤ f ∧ f < s 4) (h : Q (way s (f - 1)) d) : Ev g M_X9_wayOf FUL FUL [zR 153, zI b] d Q := by
  apply e_X9_wayOf
  refine ⟨hb, ?_⟩
  rw [hf]
  apply r_way (h164 ▸ hs) ⟨by omega, by rw [h164]; omega⟩
  rw [h164]; exact h
theorem r_bank {d : zMem} {b f k : Int} (h164 : d 154 = s) (hs : crs s) (hb : 0 ≤ b ∧ b < 150) (hf : d 160 b = f) (hf1 : 1 ≤ f ∧ f < s 4) (hk : 0 ≤ k ∧ k < s 4) (h : Q (if bk s f k = -1 then -6 else bk s f k) d) : Ev g M_X9_bank FUL FUL [zR 153, zI b, zI k] d Q := by
  have h4 := hs.1
  apply e_X9_bank
  refine ⟨⟨by omega, by omega⟩, ?_⟩
  apply r_wayOf h164 hs hb hf hf1
  rw [h164]
  exact s_stepped (hs.2.1 k hk.1 hk.2) (way_range _ _) h
theorem l_risFirm {d : zMem} {b f l : Int} (h164 : d 154 = s) (hs : crs s) (hI : IW s) (hB : Bends d s) (hb : 0 ≤ b ∧ b < d 153 11) (hf : d 160 b = f) (hl : d 161 b = l) (h1 : firm s f l → Q 1 d) (h0 : ¬ firm s f l → Q 0 d) :
    ∀ (n : Nat) (k v : Int), l + 1 - k = n → f ≤ k → ((v = 1 ∧ firm s f l) ∨ (v = 0 ∧ ∀ m, f ≤ m → m < k → ¬ (bk s f m = -1 ∨ s (395 + bk s f m) = 1 ∨ on s (bk s f m)))) →
    Fr g (eM g M_X9_isFirm FUL FUL Q) M_X9_isFirm FUL 9 [some (zR 153), some (zI b), some (zI v), some (zI k), none] [] d := by
  have h4 := hs.1
  have hb150 : 0 ≤ b ∧ b < 150 := by have := hB.1; omega
  have hbd := hB.2.1 b hb.1 hb.2
  rw [hf, hl] at hbd
  have b1 := hbd.1
  have b2 := hbd.2.1
  have b3 := hbd.2.2.1
  intro n
  induction n with
  | zero =>
    intro k v hn hk hv
    apply v_X9_isFirm_9
    rw [hl]
    refine ⟨hb150, ⟨⟨by omega, by omega⟩, ⟨by omega, by omega⟩⟩, fun _ => ?_, fun q => by omega⟩
    rcases hv with ⟨rfl, hv⟩ | ⟨rfl, hv⟩
    · exact ⟨Or.inr rfl, h1 hv⟩
    · exact ⟨Or.inl rfl, h0 (fun ⟨m, q1, q2, q3⟩ => hv m q1 (by omega) q3)⟩
  | succ n ih =>
    intro k v hn hk hv
    apply v_X9_isFirm_9
    rw [hl]
    refine ⟨hb150, ⟨⟨by omega, by omega⟩, ⟨by omega, by omega⟩⟩, fun q => by omega, fun _ => ?_⟩
    rcases hv with ⟨rfl, hv⟩ | ⟨rfl, hv⟩
    · exact ⟨by decide, fun _ => ⟨Or.inr rfl, h1 hv⟩, fun q => absurd q (by decide)⟩
    · refine ⟨by decide, fun q => absurd rfl q, fun _ => ?_⟩
      apply r_bank h164 hs hb150 hf ⟨by omega, by omega⟩ ⟨by omega, by omega⟩
      have hr := stp_range (s (5 + k)) (way s (f - 1))
      have hbr : -1 ≤ bk s f k ∧ bk s f k < 240 := hr
      by_cases c : bk s f k = -1
      · rw [if_pos c]
        exact ⟨by decide, fun _ => ih (k + 1) 1 (by omega) (by omega) (Or.inl ⟨rfl, k, hk, by omega, Or.inl c⟩), fun q => absurd rfl q⟩
      · rw [if_neg c, h164]
        have hdk := (hI.1 (bk s f k) (by omega) hbr.2).2
        refine ⟨⟨by omega, by omega⟩, fun q => by omega, fun _ => ⟨⟨by omega, by omega⟩, ⟨by rcases hdk with e | e <;> rw [e] <;> decide, fun q => ?_, fun q => ⟨⟨by omega, by omega⟩, ?_⟩⟩⟩⟩
        · exact ih (k + 1) 1 (by omega) (by omega) (Or.inl ⟨rfl, k, hk, by omega, Or.inr (Or.inl q)⟩)
        · have hon := hB.2.2.2.2 (bk s f k) (by omega) hbr.2
          by_cases c2 : on s (bk s f k)
          · rw [hon.1 c2]
            exact ⟨by decide, fun q => absurd q (by decide), fun _ => ih (k + 1) 1 (by omega) (by omega) (Or.inl ⟨rfl, k, hk, by omega, Or.inr (Or.inr c2)⟩)⟩
          · rw [hon.2 c2]
            refine ⟨by decide, fun _ => ih (k + 1) 0 (by omega) (by omega) (Or.inr ⟨rfl, fun m q1 q2 => ?_⟩), fun q => absurd rfl q⟩
            rcases (show m < k ∨ m = k by omega) with z | rfl
            · exact hv m q1 z
            · rintro (z | z | z)
              · exact c z
              · exact q z
              · exact c2 z
theorem r_isFirm {d : zMem} {b f l : Int} (h164 : d 154 = s) (hs : crs s) (hI : IW s) (hB : Bends d s) (hb : 0 ≤ b ∧ b < d 153 11) (hf : d 160 b = f) (hl : d 161 b = l) (h1 : firm s f l → Q 1 d) (h0 : ¬ firm s f l → Q 0 d) : Ev g M_X9_isFirm FUL FUL [zR 153, zI b] d Q := by
  have hbd := hB.2.1 b hb.1 hb.2
  have b2 := hbd.2.1
  have hB1 := hB.1
  apply e_X9_isFirm
  refine ⟨⟨by omega, by omega⟩, ?_⟩
  rw [hf]
  exact l_risFirm h164 hs hI hB hb hf hl h1 h0 (l + 1 - f).toNat f 0 (by omega) (Int.le_refl _) (Or.inr ⟨rfl, fun m _ _ => by omega⟩)
theorem l_rleastWear {d : zMem} {b f l : Int} (h164 : d 154 = s) (hs : crs s) (hI : IW s) (hB : Bends d s) (hb : 0 ≤ b ∧ b < d 153 11) (hf : d 160 b = f) (hl : d 161 b = l) (hnf : ¬ firm s f l) (h : ∀ v, lw s f (l + 1) v → Q v d) :
    ∀ (n : Nat) (k v : Int), l + 1 - k = n → f ≤ k → lw s f k v →
    Fr g (eM g M_X9_leastWear FUL FUL Q) M_X9_leastWear FUL 10 [some (zR 153), some (zI b), some (zI v), some (zI k), none] [] d := by
  have h4 := hs.1
  have hb150 : 0 ≤ b ∧ b < 150 := by have := hB.1; omega
  have hbd := hB.2.1 b hb.1 hb.2
  rw [hf, hl] at hbd
  have b1 := hbd.1
  have b2 := hbd.2.1
  have b3 := hbd.2.2.1
  intro n
  induction n with
  | zero =>
    intro k v hn hk hv
    apply v_X9_leastWear_10
    rw [hl]
    have : k = l + 1 := by omega
    subst this
    exact ⟨hb150, ⟨⟨by omega, by omega⟩, ⟨by omega, by omega⟩⟩, fun _ => h v hv, fun q => by omega⟩
  | succ n ih =>
    intro k v hn hk hv
    apply v_X9_leastWear_10
    rw [hl]
    refine ⟨hb150, ⟨⟨by omega, by omega⟩, ⟨by omega, by omega⟩⟩, fun q => by omega, fun _ => ?_⟩
    apply r_bank h164 hs hb150 hf ⟨by omega, by omega⟩ ⟨by omega, by omega⟩
    have hin := (bk_in hnf (k := k) hk (by omega)).1
    have hw := (hI.1 _ hin.1 hin.2).1
    have hr := lw_rng hI hnf (by omega) hv
    rw [if_neg (by omega), h164]
    have hst := lw_step hv hk
    refine ⟨⟨by omega, by omega⟩, ⟨⟨by omega, by omega⟩, ⟨by omega, by omega⟩⟩, fun q => ?_, fun q => ?_⟩
    · rw [show min v (s (155 + bk s f k)) = v by omega] at hst
      exact ih (k + 1) v (by omega) (by omega) hst
    · rw [show min v (s (155 + bk s f k)) = s (155 + bk s f k) by omega] at hst
      exact ih (k + 1) _ (by omega) (by omega) hst
theorem r_leastWear {d : zMem} {b f l : Int} (h164 : d 154 = s) (hs : crs s) (hI : IW s) (hB : Bends d s) (hb : 0 ≤ b ∧ b < d 153 11) (hf : d 160 b = f) (hl : d 161 b = l) (hnf : ¬ firm s f l) (h : ∀ v, lw s f (l + 1) v → Q v d) : Ev g M_X9_leastWear FUL FUL [zR 153, zI b] d Q := by
  have hbd := hB.2.1 b hb.1 hb.2
  have b2 := hbd.2.1
  have hB1 := hB.1
  apply e_X9_leastWear
  refine ⟨⟨by omega, by omega⟩, ?_⟩
  rw [hf]
  exact l_rleastWear h164 hs hI hB hb hf hl hnf h (l + 1 - f).toNat f 99 (by omega) (Int.le_refl _) ⟨by omega, fun m _ _ => by omega, Or.inl rfl⟩
theorem r_canGrow {d : zMem} {b f l : Int} (h164 : d 154 = s) (hs : crs s) (hI : IW s) (hS : IS s) (hB : Bends d s) (hb : 0 ≤ b ∧ b < d 153 11) (hf : d 160 b = f) (hl : d 161 b = l) (h1 : grows s f l → Q 1 d) (h0 : ¬ grows s f l → Q 0 d) : Ev g M_X9_canGrow FUL FUL [zR 153, zI b] d Q := by
  have h4 := hs.1
  apply e_X9_canGrow
  rw [h164]
  refine ⟨⟨by omega, by omega⟩, fun q => h0 (fun z => by have := z.1; omega), fun q => ?_⟩
  apply r_isFirm h164 hs hI hB hb hf hl
  · intro hfm
    exact ⟨by decide, fun _ => h0 (fun z => z.2.1 hfm), fun q => absurd q (by decide)⟩
  · intro hfm
    refine ⟨by decide, fun q => absurd rfl q, fun _ => ?_⟩
    apply r_leastWear h164 hs hI hB hb hf hl hfm
    intro v hv
    rw [h164]
    have hr := lw_rng hI hfm (by omega) hv
    have h60 := hS.2.1
    have hg := grows_lw hS (by omega) hfm hv
    refine ⟨⟨⟨by omega, by omega⟩, ⟨by omega, by omega⟩⟩, fun q => h0 (fun z => by have := hg.mp z; omega), fun q => h1 (hg.mpr q)⟩
-- an oxbow is dropped
theorem l_rdrop2 {d0 : zMem} {o m : Int} (hm : m ≤ 11) (h0 : 0 ≤ o) (hom : o ≤ m) (hs : d0 154 1355 = m) (hQ : ∀ d', but d0 d' 154 → (∀ k, d' 154 k = if 1356 + 3 * o ≤ k ∧ k < 1356 + 3 * m then d0 154 (k + 3) else d0 154 k) → Q 0 d') :
    ∀ (n : Nat) (x : Int) (d : zMem), 1356 + 3 * m - x = n → 1356 + 3 * o ≤ x → but d0 d 154 → (∀ k, d 154 k = if 1356 + 3 * o ≤ k ∧ k < x then d0 154 (k + 3) else d0 154 k) →
    Fr g (eM g M_X9_dropOxbow FUL FUL Q) M_X9_dropOxbow FUL 78 [some (zR 153), some (zI o), some (zI x), none] [] d
  | 0, x, d, hn, hx, hd, hv => by
    apply v_X9_dropOxbow_78
    have e : d 154 1355 = m := by rw [hv, if_neg (by omega), hs]
    rw [e]
    have : x = 1356 + 3 * m := by omega
    subst this
    exact ⟨⟨⟨by omega, by omega⟩, ⟨by omega, by omega⟩⟩, fun _ => hQ d hd hv, fun q => by omega⟩
  | n + 1, x, d, hn, hx, hd, hv => by
    apply v_X9_dropOxbow_78
    have e : d 154 1355 = m := by rw [hv, if_neg (by omega), hs]
    rw [e]
    refine ⟨⟨⟨by omega, by omega⟩, ⟨by omega, by omega⟩⟩, fun q => by omega, fun _ => ⟨⟨by omega, by omega⟩, ⟨by omega, by omega⟩, fun d1 hd1 => ?_⟩⟩
    refine l_rdrop2 hm h0 hom hs hQ n (x + 1) d1 (by omega) (by omega) (hd1 ▸ but_mu hd) (fun k => ?_)
    have e3 : d 154 (x + 3) = d0 154 (x + 3) := by rw [hv, if_neg (by omega)]
    rw [hd1, mu_app, if_pos rfl, e3]
    by_cases hk : k = x
    · rw [if_pos hk, if_pos (by omega), hk]
    · rw [if_neg hk, hv k]
      by_cases c : 1356 + 3 * o ≤ k ∧ k < x
      · rw [if_pos c, if_pos (by omega)]
      · rw [if_neg c, if_neg (by omega)]
theorem l_rdrop1 {d0 : zMem} {o : Int} (h164 : d0 154 = s) (hX : IX s) (h0 : 0 ≤ o) (h1 : o < s 1355) (hQ : ∀ d', but d0 d' 154 → d' 154 = f_drop s o → Q 0 d') :
    ∀ (n : Nat) (x : Int) (d : zMem), 240 - x = n → 0 ≤ x → but d0 d 154 → (∀ k, d 154 k = if 1115 ≤ k ∧ k < 1115 + x then (if s k = o then -6 else if o < s k then s k - 1 else s k) else s k) →
    Fr g (eM g M_X9_dropOxbow FUL FUL Q) M_X9_dropOxbow FUL 2 [some (zR 153), some (zI o), some (zI x), none] [] d
  | 0, x, d, hn, hx, hd, hv => by
    have hX1 := hX.1
    apply v_X9_dropOxbow_2
    refine ⟨⟨by omega, by omega⟩, fun _ d1 hd1 => ?_, fun q => by omega⟩
    have e : d 154 1355 = s 1355 := by rw [hv, if_neg (by omega)]
    have hv1 : ∀ k, d1 154 k = if k = 1355 then s 1355 - 1 else if 1115 ≤ k ∧ k < 1355 then (if s k = o then -6 else if o < s k then s k - 1 else s k) else s k := fun k => by
      rw [hd1, mu_app, if_pos rfl, e]
      by_cases hk : k = 1355
      · rw [if_pos hk, if_pos hk]
      · rw [if_neg hk, if_neg hk, hv k, show (1115 : Int) + x = 1355 by omega]
    refine l_rdrop2 (d0 := d1) (o := o) (m := s 1355 - 1) (by omega) h0 (by omega) (by rw [hv1, if_pos rfl]) (fun d2 hb2 hv2 => hQ d2 (fun q hq => ?_) ?_) (1356 + 3 * (s 1355 - 1) - (1356 + 3 * o)).toNat _ d1 (by omega) (Int.le_refl _) but_rfl (fun k => by rw [if_neg (by omega)])
    · rw [hb2 q hq, hd1]; funext z; rw [mu_na hq, hd q hq]
    · funext k
      rw [hv2]
      unfold f_drop
      by_cases c1 : 1115 ≤ k ∧ k < 1355
      · rw [if_pos c1, if_neg (by omega), hv1, if_neg (by omega), if_pos c1]
      · rw [if_neg c1]
        by_cases c2 : k = 1355
        · rw [if_pos c2, if_neg (by omega), hv1, if_pos c2]
        · rw [if_neg c2]
          by_cases c3 : 1356 + 3 * o ≤ k ∧ k < 1356 + 3 * (s 1355 - 1)
          · rw [if_pos c3, if_pos c3, hv1, if_neg (by omega), if_neg (by omega)]
          · rw [if_neg c3, if_neg c3, hv1, if_neg c2, if_neg c1]
  | n + 1, x, d, hn, hx, hd, hv => by
    have hX1 := hX.1
    have hX2 := hX.2.1 x hx (by omega)
    apply v_X9_dropOxbow_2
    have e : d 154 (1115 + x) = s (1115 + x) := by rw [hv, if_neg (by omega)]
    rw [e]
    have step : ∀ (v : Int) (d2 : zMem), v = (if s (1115 + x) = o then -6 else if o < s (1115 + x) then s (1115 + x) - 1 else s (1115 + x)) → d2 = mu d 154 (1115 + x) v → but d0 d2 154 ∧ ∀ k, d2 154 k = if 1115 ≤ k ∧ k < 1115 + (x + 1) then (if s k = o then -6 else if o < s k then s k - 1 else s k) else s k := by
      intro v d2 hv2 hd2
      refine ⟨hd2 ▸ but_mu hd, fun k => ?_⟩
      rw [hd2, mu_app, if_pos rfl]
      by_cases hk : k = 1115 + x
      · rw [if_pos hk, if_pos (by omega), hv2, hk]
      · rw [if_neg hk, hv k]
        by_cases c : 1115 ≤ k ∧ k < 1115 + x
        · rw [if_pos c, if_pos (show 1115 ≤ k ∧ k < 1115 + (x + 1) by omega)]
        · rw [if_neg c, if_neg (show ¬ (1115 ≤ k ∧ k < 1115 + (x + 1)) by omega)]
    have ho : inR o := ⟨by omega, by omega⟩
    refine ⟨⟨by omega, by omega⟩, fun q => by omega, fun _ => ⟨⟨by omega, by omega⟩, ⟨⟨⟨by omega, by omega⟩, ho⟩, fun q => ⟨⟨⟨by omega, by omega⟩, ho⟩, fun q2 => ⟨⟨by omega, by omega⟩, fun d2 hd2 => ?_⟩, fun q2 => ⟨⟨by omega, by omega⟩, fun d2 hd2 => ?_⟩⟩, fun q => ⟨⟨by omega, by omega⟩, fun d2 hd2 => ?_⟩⟩⟩⟩
    · obtain ⟨k1, k2⟩ := step _ d2 (by rw [if_neg q, if_neg (by omega)]) hd2
      exact l_rdrop1 h164 hX h0 h1 hQ n (x + 1) d2 (by omega) (by omega) k1 k2
    · obtain ⟨k1, k2⟩ := step _ d2 (by rw [if_neg q, if_pos q2]) hd2
      exact l_rdrop1 h164 hX h0 h1 hQ n (x + 1) d2 (by omega) (by omega) k1 k2
    · obtain ⟨k1, k2⟩ := step _ d2 (by rw [if_pos q]) hd2
      exact l_rdrop1 h164 hX h0 h1 hQ n (x + 1) d2 (by omega) (by omega) k1 k2
theorem r_drop {d : zMem} {o : Int} (h164 : d 154 = s) (hX : IX s) (h0 : 0 ≤ o) (h1 : o < s 1355) (hQ : ∀ d', but d d' 154 → d' 154 = f_drop s o → Q 0 d') : Ev g M_X9_dropOxbow FUL FUL [zR 153, zI o] d Q := by
  apply e_X9_dropOxbow
  exact l_rdrop1 h164 hX h0 h1 hQ 240 0 d (by omega) (by omega) but_rfl (fun k => by rw [if_neg (by omega), h164])
-- a bend grows
theorem ru_drop {t : Row} {c o : Int} (hc : 0 ≤ c ∧ c < 240) (ho : 0 ≤ o) : f_drop (ru t (155 + c) 0) o = ru (f_drop t o) (155 + c) 0 := by
  funext k
  unfold f_drop
  have e : ru t (155 + c) 0 1355 = t 1355 := ru_ne (by omega)
  rw [e]
  by_cases c1 : 1115 ≤ k ∧ k < 1355
  · rw [if_pos c1, ru_ne (show k ≠ 155 + c by omega), ru_ne (show k ≠ 155 + c by omega), if_pos c1]
  · rw [if_neg c1]
    by_cases c2 : k = 1355
    · rw [if_pos c2, ru_ne (show k ≠ 155 + c by omega), if_neg c1, if_pos c2]
    · rw [if_neg c2]
      by_cases c3 : 1356 + 3 * o ≤ k ∧ k < 1356 + 3 * (t 1355 - 1)
      · rw [if_pos c3, ru_ne (show k ≠ 155 + c by omega), ru_ne (show k + 3 ≠ 155 + c by omega), if_neg c1, if_neg c2, if_pos c3]
      · rw [if_neg c3]
        unfold ru
        by_cases c4 : k = 155 + c
        · rw [if_pos c4, if_pos c4]
        · simp only [if_neg c4, if_neg c1, if_neg c2, if_neg c3]
def cx (s : Row) (f l x : Int) : Row := fun p => if 5 + f < p ∧ p ≤ 5 + x then bk s f (p - 6) else if 5 + l + 2 ≤ p ∧ p < 5 + s 4 + 2 then s (p - 2) else s p
theorem l_rgrow3 {d0 : zMem} {b f l w : Int} (hI : Inv s) (hb : bd s f l) (hg : grows s f l) (hw : d0 153 13 = w) (hwr : inR w) (hfl : d0 153 14 = 0 ∨ d0 153 14 = 1) (hrow : ∀ k, f ≤ k → k ≤ l → d0 163 (k - f) = bk s f k) (hQ : ∀ d', rF d0 d' → d' 153 11 = d0 153 11 → d' 154 = f_grow s f l → d' 153 14 = hitN s f l w (d0 153 14) → Q (l + 2) d') :
    ∀ (n : Nat) (k : Int) (d : zMem) (t : Row), l + 1 - k = n → f ≤ k → rF d0 d → d 153 11 = d0 153 11 → d 163 = d0 163 → d 154 = mix (cx s f l k) t → gsame s t → IX t → IW t → itr (gz s f) n k t = gRun s f l → ((∃ m, f ≤ m ∧ m < k ∧ bk s f m = w) → d 153 14 = 1) → ((¬ ∃ m, f ≤ m ∧ m < k ∧ bk s f m = w) → d 153 14 = d0 153 14) →
    Fr g (eM g M_X9_grow FUL FUL Q) M_X9_grow FUL 90 [some (zR 153), some (zI b), some (zI f), some (zI l), some (zI k), none] [] d := by
  have hs := hI.1
  have h4 := hs.1
  have hg148 := hg.1
  have hnf := hg.2.1
  have b1 := hb.1
  have b2 := hb.2.1
  have b3 := hb.2.2.1
  intro n
  induction n with
  | zero =>
    intro k d t hn hk hd h11 h173 h164 hgs hX hW ht hv1 hv0
    apply v_X9_grow_90
    refine ⟨⟨⟨by omega, by omega⟩, ⟨by omega, by omega⟩⟩, fun _ d1 hd1 d2 hd2 => ?_, fun q => by omega⟩
    have ht' : t = gRun s f l := ht
    have hkl : k = l + 1 := by omega
    subst hkl
    have r1 : d 154 4 = s 4 := by
      rw [h164]; unfold mix cx
      rw [if_pos (by omega), if_neg (by omega), if_neg (by omega)]
    have r2 : d 154 1406 = s 1406 := by
      rw [h164]; unfold mix
      rw [if_neg (by omega)]; exact hgs _ (by omega)
    refine hQ d2 (hd2 ▸ rF_mu (hd1 ▸ rF_mu hd (by omega)) (by omega)) (by rw [hd2, mu_na (by omega), hd1, mu_na (by omega), h11]) ?_ ?_
    · funext i
      have e1 : d1 154 1406 = s 1406 := by rw [hd1, mu_ni (by omega), r2]
      rw [hd2, mu_app, if_pos rfl, e1, hd1, mu_app, if_pos rfl, r1, grow_at]
      by_cases c1 : i = 1406
      · rw [if_pos c1, if_pos c1]
      · rw [if_neg c1, if_neg c1]
        by_cases c2 : i = 4
        · rw [if_pos c2, if_pos (by omega)]
          unfold crsG
          rw [if_pos c2]
        · rw [if_neg c2, h164]
          unfold mix
          by_cases c3 : i < 155
          · rw [if_pos c3, if_pos c3]
            unfold cx crsG
            rw [if_neg c2, show 5 + (l + 1) = 5 + l + 1 by omega]
          · rw [if_neg c3, if_neg c3, ht']
    · rw [hd2, mu_na (by omega), hd1, mu_na (by omega)]
      unfold hitN
      by_cases c : hit s f l w
      · rw [if_pos c]
        obtain ⟨m, q1, q2, q3⟩ := c
        exact hv1 ⟨m, q1, by omega, q3⟩
      · rw [if_neg c]
        exact hv0 (fun ⟨m, q1, q2, q3⟩ => c ⟨m, q1, by omega, q3⟩)
  | succ n ih =>
    intro k d t hn hk hd h11 h173 h164 hgs hX hW ht hv1 hv0
    have hin := (bk_in hnf (k := k) hk (by omega)).1
    apply v_X9_grow_90
    rw [h173, hrow k hk (by omega)]
    refine ⟨⟨⟨by omega, by omega⟩, ⟨by omega, by omega⟩⟩, fun q => by omega, fun _ => ⟨⟨by omega, by omega⟩, ⟨by omega, by omega⟩, fun d3 hd3 => ⟨⟨by omega, by omega⟩, fun d4 hd4 => ?_⟩⟩⟩
    have e4 : d4 154 = mix (cx s f l (k + 1)) (ru t (155 + bk s f k) 0) := by
      funext i
      rw [hd4, mu_app, if_pos rfl, hd3, mu_app, if_pos rfl, h164]
      unfold mix ru cx
      by_cases c1 : i = 155 + bk s f k
      · rw [if_pos c1, if_neg (by omega), if_pos c1]
      · rw [if_neg c1]
        by_cases c2 : i = 5 + k + 1
        · rw [if_pos c2, if_pos (by omega), if_pos (by omega)]
          congr 1; omega
        · rw [if_neg c2, if_neg c1]
          by_cases c3 : i < 155
          · rw [if_pos c3, if_pos c3]
            by_cases c4 : 5 + f < i ∧ i ≤ 5 + k
            · rw [if_pos c4, if_pos (by omega)]
            · rw [if_neg c4, if_neg (show ¬ (5 + f < i ∧ i ≤ 5 + (k + 1)) by omega)]
          · rw [if_neg c3, if_neg c3]
    have f4 : rF d0 d4 := hd4 ▸ rF_mu (hd3 ▸ rF_mu hd (by omega)) (by omega)
    have o4 : ∀ q, q ≠ 154 → d4 q = d q := fun q hq => by rw [hd4, hd3]; funext z; rw [mu_na hq, mu_na hq]
    have e1115 : d4 154 (1115 + bk s f k) = t (1115 + bk s f k) := by
      rw [e4]; unfold mix
      rw [if_neg (by omega), ru_ne (by omega)]
    obtain ⟨g1, g2, g3⟩ := gz_ok hnf hk (by omega) hgs hX hW
    have hXc := hX.2.1 _ hin.1 hin.2
    have hX1 := hX.1
    have hXr : IX (mix (cx s f l (k + 1)) (ru t (155 + bk s f k) 0)) := IX_same (s := t) (fun i q1 q2 => by unfold mix; rw [if_neg (by omega), ru_ne (by omega)]) hX
    have cont : ∀ d5 : zMem, but d4 d5 153 → (∀ j, j ≠ 14 → d5 153 j = d4 153 j) → ((∃ m, f ≤ m ∧ m < k + 1 ∧ bk s f m = w) → d5 153 14 = 1) → ((¬ ∃ m, f ≤ m ∧ m < k + 1 ∧ bk s f m = w) → d5 153 14 = d0 153 14) →
        (0 ≤ (1115 + bk s f k) ∧ (1115 + bk s f k) < 1407) ∧ ((inR (t (1115 + bk s f k))) ∧ (t (1115 + bk s f k) = (-6) → (Fr g (eM g M_X9_grow FUL FUL Q) M_X9_grow FUL 90 [some (zR 153), some (zI b), some (zI f), some (zI l), some (zI (k + 1)), none] [] d5)) ∧ (t (1115 + bk s f k) ≠ (-6) → (0 ≤ (1115 + bk s f k) ∧ (1115 + bk s f k) < 1407) ∧ Ev g M_X9_dropOxbow FUL FUL [zR 153, zI (t (1115 + bk s f k))] d5 (fun _ d6 => (Fr g (eM g M_X9_grow FUL FUL Q) M_X9_grow FUL 90 [some (zR 153), some (zI b), some (zI f), some (zI l), some (zI (k + 1)), none] [] d6)))) := by
      intro d5 hb5 hj5 hv1' hv0'
      have f5 : rF d0 d5 := ⟨fun q hq => by rw [hb5 q (by omega)]; exact f4.1 q hq, fun j a1 a2 a3 a4 a5 => by rw [hj5 j a2]; exact f4.2 j a1 a2 a3 a4 a5⟩
      refine ⟨⟨by omega, by omega⟩, ⟨⟨by omega, by omega⟩, fun q => ?_, fun q => ⟨⟨by omega, by omega⟩, ?_⟩⟩⟩
      · refine ih (k + 1) d5 (gz s f t k) (by omega) (by omega) f5 (by rw [hj5 11 (by omega), o4 153 (by omega), h11]) (by rw [hb5 163 (by omega), o4 163 (by omega), h173]) ?_ g1 g2 g3 ht hv1' hv0'
        rw [hb5 154 (by omega), e4, gz_eq]
        unfold dropAt
        rw [if_pos q]
      · apply r_drop (s := mix (cx s f l (k + 1)) (ru t (155 + bk s f k) 0)) (by rw [hb5 154 (by omega), e4]) hXr (hXc.resolve_left q).1 (by show _ < mix _ _ 1355; unfold mix; rw [if_neg (by omega), ru_ne (by omega)]; exact (hXc.resolve_left q).2)
        intro d6 hb6 h6
        refine ih (k + 1) d6 (gz s f t k) (by omega) (by omega) (rF_but f5 (by omega) hb6) (by rw [hb6 153 (by omega), hj5 11 (by omega), o4 153 (by omega), h11]) (by rw [hb6 163 (by omega), hb5 163 (by omega), o4 163 (by omega), h173]) ?_ g1 g2 g3 ht (by rw [hb6 153 (by omega)]; exact hv1') (by rw [hb6 153 (by omega)]; exact hv0')
        rw [h6, mix_drop (hXc.resolve_left q).1, ru_drop hin (hXc.resolve_left q).1, gz_eq]
        unfold dropAt
        rw [if_neg q]
    rw [hd.2 13 (by omega) (by omega) (by omega) (by omega) (by omega), hw]
    have e163 : d4 153 = d 153 := o4 153 (by omega)
    rw [e1115]
    by_cases hh : ∃ m, f ≤ m ∧ m < k ∧ bk s f m = w
    · have e14 := hv1 hh
      rw [e14]
      refine ⟨by decide, fun _ d5 hd5 => cont d5 (hd5 ▸ but_mu but_rfl) (fun j hj => by rw [hd5, mu_ni hj]) (fun _ => by rw [hd5, mu_get]) (fun z => absurd (hh.elim (fun m hm => ⟨m, hm.1, by omega, hm.2.2⟩)) z), fun q => absurd q (by decide)⟩
    · have e14 := hv0 hh
      have later : bk s f k ≠ w → ¬ ∃ m, f ≤ m ∧ m < k + 1 ∧ bk s f m = w := fun hne ⟨m, q1, q2, q3⟩ => by
        rcases (show m < k ∨ m = k by omega) with z | rfl
        · exact hh ⟨m, q1, z, q3⟩
        · exact hne q3
      refine ⟨by rw [e14]; rcases hfl with e | e <;> rw [e] <;> decide, fun q d5 hd5 => cont d5 (hd5 ▸ but_mu but_rfl) (fun j hj => by rw [hd5, mu_ni hj]) (fun _ => by rw [hd5, mu_get]) (fun _ => by rw [hd5, mu_get]; rcases hfl with e | e; exact absurd (e14.trans e) q; exact e.symm), fun q => ⟨⟨⟨by omega, by omega⟩, hwr⟩, fun q2 d5 hd5 => cont d5 (hd5 ▸ but_mu but_rfl) (fun j hj => by rw [hd5, mu_ni hj]) (fun z => absurd z (later q2)) (fun _ => by rw [hd5, mu_get]; exact q.symm.trans e14), fun q2 d5 hd5 => cont d5 (hd5 ▸ but_mu but_rfl) (fun j hj => by rw [hd5, mu_ni hj]) (fun _ => by rw [hd5, mu_get]) (fun z => absurd ⟨k, hk, by omega, q2⟩ z)⟩⟩
end
