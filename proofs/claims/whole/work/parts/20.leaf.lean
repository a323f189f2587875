theorem s_isOnLand {g : zGG} {φ : zPhi} {Q : Int → zMem → Prop} {d : zMem} {x : Int} (hr : inR x) (h : Q (if 0 ≤ x ∧ x < 240 then 1 else 0) d) : Ev g M_X8_isOnLand φ φ [zI x] d Q := by
  apply e_X8_isOnLand
  grind
theorem s_orNone {g : zGG} {Q : Int → zMem → Prop} {d : zMem} {x : Int} (hr : inR x) (h : Q (if x = -1 then -6 else x) d) : Ev g M_X8_orNone FUL FUL [zI x] d Q := by
  apply e_X8_orNone
  grind
theorem s_asNumber {g : zGG} {Q : Int → zMem → Prop} {d : zMem} {x : Int} (hr : inR x) (h : Q (if x = 0 then 0 else 1) d) : Ev g M_X8_asNumber FUL FUL [zI x] d Q := by
  apply e_X8_asNumber
  grind
theorem s_cellAt {g : zGG} {φ : zPhi} {Q : Int → zMem → Prop} {d : zMem} {x y : Int} (hx : inR x) (hy : inR y) (h : Q (if 0 ≤ x ∧ x < 20 ∧ 0 ≤ y ∧ y < 12 then y * 20 + x else -1) d) : Ev g M_X8_cellAt φ φ [zI x, zI y] d Q := by
  apply e_X8_cellAt
  grind
theorem s_areOpposite {g : zGG} {Q : Int → zMem → Prop} {d : zMem} {x y : Int} (hx : 0 ≤ x ∧ x < 4) (hy : 0 ≤ y ∧ y < 4) (h : Q (if x = (y + 2) % 4 then 1 else 0) d) : Ev g M_X8_areOpposite FUL FUL [zI x, zI y] d Q := by
  apply e_X8_areOpposite
  grind
def stp (c w : Int) : Int := if 0 ≤ c ∧ c < 240 then (if w = 0 then (if c % 20 < 19 then c + 1 else -1) else if w = 1 then (if c + 20 < 240 then c + 20 else -1) else if w = 2 then (if 0 < c % 20 then c - 1 else -1) else if w = 3 then (if 20 ≤ c then c - 20 else -1) else -1) else -1
theorem s_beside {g : zGG} {Q : Int → zMem → Prop} {d : zMem} {c w : Int} (hc : inR c) (hw : inR w) (h : Q (stp c w) d) : Ev g M_X8_beside FUL FUL [zI c, zI w] d Q := by
  apply e_X8_beside
  unfold stp at h
  grind
theorem s_cellOf {g : zGG} {Q : Int → zMem → Prop} {d : zMem} {a : Nat} {x : Int} (ha : isRiv a) (hx : inR x) (hl : 0 ≤ d (a + 2) 2 ∧ d (a + 2) 2 ≤ 150) (h : Q (if 0 ≤ x ∧ x < d (a + 2) 2 then d (a + 3) x else -1) d) : Ev g M_X1_cellOf FUL FUL [zR (a + 2), zI x] d Q := by
  apply e_X1_cellOf ha
  grind
theorem s_in {g : zGG} {Q : Int → zMem → Prop} {d : zMem} {x y z : Int} (hx : inR x) (hy : inR y) (hz : inR z) (h : Q (if y ≤ x ∧ x ≤ z then 1 else 0) d) : Ev g M_X9_in FUL FUL [zI x, zI y, zI z] d Q := by
  apply e_X9_in
  grind
theorem s_isCell {g : zGG} {Q : Int → zMem → Prop} {d : zMem} {x y : Int} (hx : inR x) (hy : inR y) (h : Q (if 0 ≤ x ∧ x ≤ 19 ∧ 0 ≤ y ∧ y ≤ 11 then 1 else 0) d) : Ev g M_X9_isCell FUL FUL [zI x, zI y] d Q := by
  apply e_X9_isCell
  apply s_in <;> try grind
  split
  · refine ⟨by decide, by grind, fun _ => ?_⟩
    apply s_in <;> grind
  · grind
theorem s_stepped {g : zGG} {Q : Int → zMem → Prop} {d : zMem} {c w : Int} (hc : 0 ≤ c ∧ c < 240) (hw : 0 ≤ w ∧ w < 4) (h : Q (if stp c w = -1 then -6 else stp c w) d) : Ev g M_X9_stepped FUL FUL [zI c, zI w] d Q := by
  apply e_X9_stepped
  unfold stp at h
  rcases (show w = 0 ∨ w = 1 ∨ w = 2 ∨ w = 3 by omega) with rfl | rfl | rfl | rfl
  all_goals repeat' first | (exfalso; omega) | omega | (apply s_isCell <;> grind) | apply And.intro | intro _
