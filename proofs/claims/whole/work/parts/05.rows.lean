-- ROWS: an instruction each, over the pure machine
section
variable {g : zGG} {e : zEE} {k : zMk} {φ : zPhi} {pc : Nat} {ls : List (Option zPV)} {st : List zPV} {d : zMem}
theorem z_eqst {st st' : List zPV} (h : st = st') (hh : Fr g e k φ pc ls st' d) : Fr g e k φ pc ls st d := h ▸ hh
theorem z_iconst {n : Int} (hd : decode (kcode k) pc = .ok (.iconst n, 1)) (hh : Fr g e k φ (pc + 1) ls (zI n :: st) d) : Fr g e k φ pc ls (st) d := by
  intro p ee s m args below meth c hC h0 H locs A hH hS hl
  have hk := hh p ee s m args below meth c hC h0 H locs A hH hS hl
  exact lv_iconst hC.1 hC.2.1 hd rfl hk
theorem z_bipush {n : Int} (hd : decode (kcode k) pc = .ok (.bipush n, 2)) (hv : (Int8.ofInt n).toInt32 = Int32.ofInt n) (hh : Fr g e k φ (pc + 2) ls (zI n :: st) d) : Fr g e k φ pc ls (st) d := by
  intro p ee s m args below meth c hC h0 H locs A hH hS hl
  have hk := hh p ee s m args below meth c hC h0 H locs A hH hS hl
  exact lv_bipush hC.1 hC.2.1 hd hv hk
theorem z_sipush {n : Int} (hd : decode (kcode k) pc = .ok (.sipush n, 3)) (hv : (Int16.ofInt n).toInt32 = Int32.ofInt n) (hh : Fr g e k φ (pc + 3) ls (zI n :: st) d) : Fr g e k φ pc ls (st) d := by
  intro p ee s m args below meth c hC h0 H locs A hH hS hl
  have hk := hh p ee s m args below meth c hC h0 H locs A hH hS hl
  exact lv_sipush hC.1 hC.2.1 hd hv hk
theorem z_lconst {n : Fin 2} (hd : decode (kcode k) pc = .ok (.lconst n, 1)) {v : Int} (hv : Int64.ofNat (n : Nat) = Int64.ofInt v) (hh : Fr g e k φ (pc + 1) ls (zL v :: st) d) : Fr g e k φ pc ls (st) d := by
  intro p ee s m args below meth c hC h0 H locs A hH hS hl
  have hk := hh p ee s m args below meth c hC h0 H locs A hH hS hl
  exact lv_lconst hC.1 hC.2.1 hd hv hk
theorem z_iload_n {kf : Fin 4} {i : Nat} {x : Int} (hd : decode (kcode k) pc = .ok (.iload_n kf, 1)) (hi : (kf : Nat) = i) (hg : ls[i]? = some (some (zI x))) (hh : Fr g e k φ (pc + 1) ls (zI x :: st) d) : Fr g e k φ pc ls (st) d := by
  intro p ee s m args below meth c hC h0 H locs A hH hS hl
  have hk := hh p ee s m args below meth c hC h0 H locs A hH hS hl
  exact lv_iload_n hC.1 hC.2.1 hd hi (hl.2.2 _ _ hg) hk
theorem z_iload {i : Nat} {x : Int} (hd : decode (kcode k) pc = .ok (.iload i, 2)) (hg : ls[i]? = some (some (zI x))) (hh : Fr g e k φ (pc + 2) ls (zI x :: st) d) : Fr g e k φ pc ls (st) d := by
  intro p ee s m args below meth c hC h0 H locs A hH hS hl
  have hk := hh p ee s m args below meth c hC h0 H locs A hH hS hl
  exact lv_iload hC.1 hC.2.1 hd (hl.2.2 _ _ hg) hk
theorem z_lload_n {kf : Fin 4} {i : Nat} {x : Int} (hd : decode (kcode k) pc = .ok (.lload_n kf, 1)) (hi : (kf : Nat) = i) (hg : ls[i]? = some (some (zL x))) (hh : Fr g e k φ (pc + 1) ls (zL x :: st) d) : Fr g e k φ pc ls (st) d := by
  intro p ee s m args below meth c hC h0 H locs A hH hS hl
  have hk := hh p ee s m args below meth c hC h0 H locs A hH hS hl
  exact lv_lload_n hC.1 hC.2.1 hd hi (hl.2.2 _ _ hg) hk
theorem z_lload {i : Nat} {x : Int} (hd : decode (kcode k) pc = .ok (.lload i, 2)) (hg : ls[i]? = some (some (zL x))) (hh : Fr g e k φ (pc + 2) ls (zL x :: st) d) : Fr g e k φ pc ls (st) d := by
  intro p ee s m args below meth c hC h0 H locs A hH hS hl
  have hk := hh p ee s m args below meth c hC h0 H locs A hH hS hl
  exact lv_lload hC.1 hC.2.1 hd (hl.2.2 _ _ hg) hk
theorem z_aloadR_n {kf : Fin 4} {i : Nat} {x : Nat} (hd : decode (kcode k) pc = .ok (.aload_n kf, 1)) (hi : (kf : Nat) = i) (hg : ls[i]? = some (some (zR x))) (hh : Fr g e k φ (pc + 1) ls (zR x :: st) d) : Fr g e k φ pc ls (st) d := by
  intro p ee s m args below meth c hC h0 H locs A hH hS hl
  have hk := hh p ee s m args below meth c hC h0 H locs A hH hS hl
  exact lv_aload_n hC.1 hC.2.1 hd hi (hl.2.2 _ _ hg) hk
theorem z_aloadR {i : Nat} {x : Nat} (hd : decode (kcode k) pc = .ok (.aload i, 2)) (hg : ls[i]? = some (some (zR x))) (hh : Fr g e k φ (pc + 2) ls (zR x :: st) d) : Fr g e k φ pc ls (st) d := by
  intro p ee s m args below meth c hC h0 H locs A hH hS hl
  have hk := hh p ee s m args below meth c hC h0 H locs A hH hS hl
  exact lv_aload hC.1 hC.2.1 hd (hl.2.2 _ _ hg) hk
theorem z_aloadX_n {kf : Fin 4} {i : Nat}  (hd : decode (kcode k) pc = .ok (.aload_n kf, 1)) (hi : (kf : Nat) = i) (hg : ls[i]? = some (some (zX))) (hh : Fr g e k φ (pc + 1) ls (zX :: st) d) : Fr g e k φ pc ls (st) d := by
  intro p ee s m args below meth c hC h0 H locs A hH hS hl
  have hk := hh p ee s m args below meth c hC h0 H locs A hH hS hl
  exact lv_aload_n hC.1 hC.2.1 hd hi (hl.2.2 _ _ hg) hk
theorem z_aloadX {i : Nat}  (hd : decode (kcode k) pc = .ok (.aload i, 2)) (hg : ls[i]? = some (some (zX))) (hh : Fr g e k φ (pc + 2) ls (zX :: st) d) : Fr g e k φ pc ls (st) d := by
  intro p ee s m args below meth c hC h0 H locs A hH hS hl
  have hk := hh p ee s m args below meth c hC h0 H locs A hH hS hl
  exact lv_aload hC.1 hC.2.1 hd (hl.2.2 _ _ hg) hk
theorem z_istore_n {kf : Fin 4} {i : Nat} {x : Int} {ls2 : List (Option zPV)} (hd : decode (kcode k) pc = .ok (.istore_n kf, 1)) (hi : (kf : Nat) = i) (hn : i < kn k) (hz : zst ls i (zI x) = ls2) (hh : Fr g e k φ (pc + 1) ls2 st d) : Fr g e k φ pc ls (zI x :: st) d := by
  subst hz
  intro p ee s m args below meth c hC h0 H locs A hH hS hl
  exact lv_istore_n hC.1 hC.2.1 hd hi hl.has hn rfl (fun A2 hA2 => hh p ee s m args below meth c hC h0 H locs A2 hH hS (zst_of (v := zI x) hA2))
theorem z_istore {i : Nat} {x : Int} {ls2 : List (Option zPV)} (hd : decode (kcode k) pc = .ok (.istore i, 2)) (hn : i < kn k) (hz : zst ls i (zI x) = ls2) (hh : Fr g e k φ (pc + 2) ls2 st d) : Fr g e k φ pc ls (zI x :: st) d := by
  subst hz
  intro p ee s m args below meth c hC h0 H locs A hH hS hl
  exact lv_istore hC.1 hC.2.1 hd hl.has hn rfl (fun A2 hA2 => hh p ee s m args below meth c hC h0 H locs A2 hH hS (zst_of (v := zI x) hA2))
theorem z_astoreR_n {kf : Fin 4} {i : Nat} {x : Nat} {ls2 : List (Option zPV)} (hd : decode (kcode k) pc = .ok (.astore_n kf, 1)) (hi : (kf : Nat) = i) (hn : i < kn k) (hz : zst ls i (zR x) = ls2) (hh : Fr g e k φ (pc + 1) ls2 st d) : Fr g e k φ pc ls (zR x :: st) d := by
  subst hz
  intro p ee s m args below meth c hC h0 H locs A hH hS hl
  exact lv_astore_n hC.1 hC.2.1 hd hi hl.has hn rfl (fun A2 hA2 => hh p ee s m args below meth c hC h0 H locs A2 hH hS (zst_of (v := zR x) hA2))
theorem z_astoreR {i : Nat} {x : Nat} {ls2 : List (Option zPV)} (hd : decode (kcode k) pc = .ok (.astore i, 2)) (hn : i < kn k) (hz : zst ls i (zR x) = ls2) (hh : Fr g e k φ (pc + 2) ls2 st d) : Fr g e k φ pc ls (zR x :: st) d := by
  subst hz
  intro p ee s m args below meth c hC h0 H locs A hH hS hl
  exact lv_astore hC.1 hC.2.1 hd hl.has hn rfl (fun A2 hA2 => hh p ee s m args below meth c hC h0 H locs A2 hH hS (zst_of (v := zR x) hA2))
theorem z_lstore_n {kf : Fin 4} {i : Nat} {x : Int} {ls2 : List (Option zPV)} (hd : decode (kcode k) pc = .ok (.lstore_n kf, 1)) (hi : (kf : Nat) = i) (hn : i + 1 < kn k) (hz : zst2 ls i (zL x) = ls2) (hh : Fr g e k φ (pc + 1) ls2 st d) : Fr g e k φ pc ls (zL x :: st) d := by
  subst hz
  intro p ee s m args below meth c hC h0 H locs A hH hS hl
  exact lv_lstore_n hC.1 hC.2.1 hd hi hl.has hn rfl (fun A2 hA2 => hh p ee s m args below meth c hC h0 H locs A2 hH hS (zst2_of (v := zL x) hA2))
theorem z_lstore {i : Nat} {x : Int} {ls2 : List (Option zPV)} (hd : decode (kcode k) pc = .ok (.lstore i, 2)) (hn : i + 1 < kn k) (hz : zst2 ls i (zL x) = ls2) (hh : Fr g e k φ (pc + 2) ls2 st d) : Fr g e k φ pc ls (zL x :: st) d := by
  subst hz
  intro p ee s m args below meth c hC h0 H locs A hH hS hl
  exact lv_lstore hC.1 hC.2.1 hd hl.has hn rfl (fun A2 hA2 => hh p ee s m args below meth c hC h0 H locs A2 hH hS (zst2_of (v := zL x) hA2))
theorem zla_get {g : zGG} {ls : List (Option zPV)} {i : Nat} {v : zPV} (h : ls[i]? = some (some v)) : ∃ kk : Nat, (zla g ls)[kk]? = some (i, zval g v) := List.getElem?_of_mem (zla_in h)
theorem z_iinc {i : Nat} {n x : Int} {ls2 : List (Option zPV)} (hd : decode (kcode k) pc = .ok (.iinc i n, 3)) (hn : i < kn k) (hg : ls[i]? = some (some (zI x))) (hz : zst ls i (zI (x + n)) = ls2) (hh : Fr g e k φ (pc + 3) ls2 st d) : Fr g e k φ pc ls st d := by
  subst hz
  intro p ee s m args below meth c hC h0 H locs A hH hS hl
  obtain ⟨kk, hkk⟩ := zla_get (g := g) hg
  exact lv_iinc (v := Int32.ofInt (x + n)) hC.1 hC.2.1 hd hl.has hkk (Int32.ofInt_add x n).symm hn rfl (fun A2 hA2 => hh p ee s m args below meth c hC h0 H locs A2 hH hS (zst_of (v := zI (x + n)) hA2))
theorem z_iadd {x y : Int} (hd : decode (kcode k) pc = .ok (.iadd, 1)) (hh : Fr g e k φ (pc + 1) ls (zI (x + y) :: st) d) : Fr g e k φ pc ls (zI y :: zI x :: st) d := by
  intro p ee s m args below meth c hC h0 H locs A hH hS hl
  have hk := hh p ee s m args below meth c hC h0 H locs A hH hS hl
  exact lv_iadd hC.1 hC.2.1 hd (W.eq (by rw [List.map_cons, zval_I, Int32.ofInt_add]; rfl) hk)
theorem z_isub {x y : Int} (hd : decode (kcode k) pc = .ok (.isub, 1)) (hh : Fr g e k φ (pc + 1) ls (zI (x - y) :: st) d) : Fr g e k φ pc ls (zI y :: zI x :: st) d := by
  intro p ee s m args below meth c hC h0 H locs A hH hS hl
  have hk := hh p ee s m args below meth c hC h0 H locs A hH hS hl
  exact lv_isub hC.1 hC.2.1 hd (W.eq (by rw [List.map_cons, zval_I, Int32.ofInt_sub]; rfl) hk)
theorem z_imul {x y : Int} (hd : decode (kcode k) pc = .ok (.imul, 1)) (hh : Fr g e k φ (pc + 1) ls (zI (x * y) :: st) d) : Fr g e k φ pc ls (zI y :: zI x :: st) d := by
  intro p ee s m args below meth c hC h0 H locs A hH hS hl
  have hk := hh p ee s m args below meth c hC h0 H locs A hH hS hl
  exact lv_imul hC.1 hC.2.1 hd (W.eq (by rw [List.map_cons, zval_I, Int32.ofInt_mul]; rfl) hk)
theorem z_ineg {x : Int} (hd : decode (kcode k) pc = .ok (.ineg, 1)) (hh : Fr g e k φ (pc + 1) ls (zI (-x) :: st) d) : Fr g e k φ pc ls (zI x :: st) d := by
  intro p ee s m args below meth c hC h0 H locs A hH hS hl
  have hk := hh p ee s m args below meth c hC h0 H locs A hH hS hl
  exact lv_ineg hC.1 hC.2.1 hd (W.eq (by rw [List.map_cons, zval_I, Int32.ofInt_neg]; rfl) hk)
theorem ofI_div {x y : Int} (hx : 0 ≤ x) (hx2 : inR x) (hy : 0 < y) (hy2 : inR y) : Int32.ofInt x / Int32.ofInt y = Int32.ofInt (x / y) := by
  obtain ⟨a, rfl⟩ := Int.eq_ofNat_of_zero_le hx
  obtain ⟨b, rfl⟩ := Int.eq_ofNat_of_zero_le (Int.le_of_lt hy)
  have h1 := hx2.2
  have h2 := hy2.2
  rw [← Int.natCast_ediv, Int32.ofInt_eq_ofNat, Int32.ofInt_eq_ofNat, Int32.ofInt_eq_ofNat]
  exact pk_div (by omega) (by omega) (by omega)
theorem ofI_rem {x y : Int} (hx : 0 ≤ x) (hx2 : inR x) (hy : 0 < y) (hy2 : inR y) : Int32.ofInt x - Int32.ofInt x / Int32.ofInt y * Int32.ofInt y = Int32.ofInt (x % y) := by
  obtain ⟨a, rfl⟩ := Int.eq_ofNat_of_zero_le hx
  obtain ⟨b, rfl⟩ := Int.eq_ofNat_of_zero_le (Int.le_of_lt hy)
  have h1 := hx2.2
  have h2 := hy2.2
  rw [← Int.natCast_emod, Int32.ofInt_eq_ofNat, Int32.ofInt_eq_ofNat, Int32.ofInt_eq_ofNat]
  exact pk_rem (by omega) (by omega) (by omega)
theorem ofI_ne0 {y : Int} (hy : 0 < y) (hy2 : inR y) : ¬ Int32.ofInt y = 0 := by
  intro q
  have h : Int32.ofInt y = Int32.ofInt 0 := q
  rw [ofI_eq hy2 inR0] at h
  omega
theorem z_idiv {x y : Int} (hd : decode (kcode k) pc = .ok (.idiv, 1)) (hx : 0 ≤ x ∧ inR x ∧ 0 < y ∧ inR y) (hh : Fr g e k φ (pc + 1) ls (zI (x / y) :: st) d) : Fr g e k φ pc ls (zI y :: zI x :: st) d := by
  intro p ee s m args below meth c hC h0 H locs A hH hS hl
  have hk := hh p ee s m args below meth c hC h0 H locs A hH hS hl
  exact lv_idiv hC.1 hC.2.1 hd (ofI_ne0 hx.2.2.1 hx.2.2.2) (W.eq (by show F0 m (pc + 1) A (.int (Int32.ofInt x / Int32.ofInt y) :: _) = _; rw [ofI_div hx.1 hx.2.1 hx.2.2.1 hx.2.2.2]; rfl) hk)
theorem z_irem {x y : Int} (hd : decode (kcode k) pc = .ok (.irem, 1)) (hx : 0 ≤ x ∧ inR x ∧ 0 < y ∧ inR y) (hh : Fr g e k φ (pc + 1) ls (zI (x % y) :: st) d) : Fr g e k φ pc ls (zI y :: zI x :: st) d := by
  intro p ee s m args below meth c hC h0 H locs A hH hS hl
  have hk := hh p ee s m args below meth c hC h0 H locs A hH hS hl
  exact lv_irem hC.1 hC.2.1 hd (ofI_ne0 hx.2.2.1 hx.2.2.2) (W.eq (by show F0 m (pc + 1) A (.int (Int32.ofInt x - Int32.ofInt x / Int32.ofInt y * Int32.ofInt y) :: _) = _; rw [ofI_rem hx.1 hx.2.1 hx.2.2.1 hx.2.2.2]; rfl) hk)
theorem z_dup {v : zPV} (hd : decode (kcode k) pc = .ok (.dup, 1)) (hv : v.1 < 6) (hh : Fr g e k φ (pc + 1) ls (v :: v :: st) d) : Fr g e k φ pc ls (v :: st) d := by
  intro p ee s m args below meth c hC h0 H locs A hH hS hl
  have hk := hh p ee s m args below meth c hC h0 H locs A hH hS hl
  exact lv_dup hC.1 hC.2.1 hd (zval_cat1 g v hv) hk
theorem z_pop {v : zPV} (hd : decode (kcode k) pc = .ok (.pop, 1)) (hv : v.1 < 6) (hh : Fr g e k φ (pc + 1) ls (st) d) : Fr g e k φ pc ls (v :: st) d := by
  intro p ee s m args below meth c hC h0 H locs A hH hS hl
  have hk := hh p ee s m args below meth c hC h0 H locs A hH hS hl
  exact lv_pop hC.1 hC.2.1 hd (zval_cat1 g v hv) hk
theorem z_dup2 {v u : zPV} (hd : decode (kcode k) pc = .ok (.dup2, 1)) (hv : v.1 < 6) (hu : u.1 < 6) (hh : Fr g e k φ (pc + 1) ls (v :: u :: v :: u :: st) d) : Fr g e k φ pc ls (v :: u :: st) d := by
  intro p ee s m args below meth c hC h0 H locs A hH hS hl
  have hk := hh p ee s m args below meth c hC h0 H locs A hH hS hl
  exact lv_dup2_11 hC.1 hC.2.1 hd (zval_cat1 g v hv) (zval_cat1 g u hu) hk
theorem z_if_eq {x : Int} {off : Int} {tgt : Nat} (hd : decode (kcode k) pc = .ok (.ifCond .eq off, 3)) (ht : (pc : Int) + off = (tgt : Int)) (hr : inR x) (hh : (x = 0 → Fr g e k φ tgt ls st d) ∧ (¬ (x = 0) → Fr g e k φ (pc + 3) ls st d)) : Fr g e k φ pc ls (zI x :: st) d := by
  intro p ee s m args below meth c hC h0 H locs A hH hS hl
  exact lv_if_eq hC.1 hC.2.1 hd ht (fun q => hh.1 ((ofI_eq hr inR0).mp q) p ee s m args below meth c hC h0 H locs A hH hS hl) (fun q => hh.2 (fun z => q ((ofI_eq hr inR0).mpr z)) p ee s m args below meth c hC h0 H locs A hH hS hl)
theorem z_icmp_eq {x y : Int} {off : Int} {tgt : Nat} (hd : decode (kcode k) pc = .ok (.if_icmp .eq off, 3)) (ht : (pc : Int) + off = (tgt : Int)) (hr : inR x ∧ inR y) (hh : (x = y → Fr g e k φ tgt ls st d) ∧ (¬ (x = y) → Fr g e k φ (pc + 3) ls st d)) : Fr g e k φ pc ls (zI y :: zI x :: st) d := by
  intro p ee s m args below meth c hC h0 H locs A hH hS hl
  exact lv_icmp_eq hC.1 hC.2.1 hd ht (fun q => hh.1 ((ofI_eq hr.1 hr.2).mp q) p ee s m args below meth c hC h0 H locs A hH hS hl) (fun q => hh.2 (fun z => q ((ofI_eq hr.1 hr.2).mpr z)) p ee s m args below meth c hC h0 H locs A hH hS hl)
theorem z_if_ne {x : Int} {off : Int} {tgt : Nat} (hd : decode (kcode k) pc = .ok (.ifCond .ne off, 3)) (ht : (pc : Int) + off = (tgt : Int)) (hr : inR x) (hh : (x ≠ 0 → Fr g e k φ tgt ls st d) ∧ (¬ (x ≠ 0) → Fr g e k φ (pc + 3) ls st d)) : Fr g e k φ pc ls (zI x :: st) d := by
  intro p ee s m args below meth c hC h0 H locs A hH hS hl
  exact lv_if_ne hC.1 hC.2.1 hd ht (fun q => hh.1 ((not_congr (ofI_eq hr inR0)).mp q) p ee s m args below meth c hC h0 H locs A hH hS hl) (fun q => hh.2 (fun z => z ((ofI_eq hr inR0).mp q)) p ee s m args below meth c hC h0 H locs A hH hS hl)
theorem z_icmp_ne {x y : Int} {off : Int} {tgt : Nat} (hd : decode (kcode k) pc = .ok (.if_icmp .ne off, 3)) (ht : (pc : Int) + off = (tgt : Int)) (hr : inR x ∧ inR y) (hh : (x ≠ y → Fr g e k φ tgt ls st d) ∧ (¬ (x ≠ y) → Fr g e k φ (pc + 3) ls st d)) : Fr g e k φ pc ls (zI y :: zI x :: st) d := by
  intro p ee s m args below meth c hC h0 H locs A hH hS hl
  exact lv_icmp_ne hC.1 hC.2.1 hd ht (fun q => hh.1 ((not_congr (ofI_eq hr.1 hr.2)).mp q) p ee s m args below meth c hC h0 H locs A hH hS hl) (fun q => hh.2 (fun z => z ((ofI_eq hr.1 hr.2).mp q)) p ee s m args below meth c hC h0 H locs A hH hS hl)
theorem z_if_lt {x : Int} {off : Int} {tgt : Nat} (hd : decode (kcode k) pc = .ok (.ifCond .lt off, 3)) (ht : (pc : Int) + off = (tgt : Int)) (hr : inR x) (hh : (x < 0 → Fr g e k φ tgt ls st d) ∧ (¬ (x < 0) → Fr g e k φ (pc + 3) ls st d)) : Fr g e k φ pc ls (zI x :: st) d := by
  intro p ee s m args below meth c hC h0 H locs A hH hS hl
  exact lv_if_lt hC.1 hC.2.1 hd ht (fun q => hh.1 ((ofI_lt hr inR0).mp q) p ee s m args below meth c hC h0 H locs A hH hS hl) (fun q => hh.2 (fun z => q ((ofI_lt hr inR0).mpr z)) p ee s m args below meth c hC h0 H locs A hH hS hl)
theorem z_icmp_lt {x y : Int} {off : Int} {tgt : Nat} (hd : decode (kcode k) pc = .ok (.if_icmp .lt off, 3)) (ht : (pc : Int) + off = (tgt : Int)) (hr : inR x ∧ inR y) (hh : (x < y → Fr g e k φ tgt ls st d) ∧ (¬ (x < y) → Fr g e k φ (pc + 3) ls st d)) : Fr g e k φ pc ls (zI y :: zI x :: st) d := by
  intro p ee s m args below meth c hC h0 H locs A hH hS hl
  exact lv_icmp_lt hC.1 hC.2.1 hd ht (fun q => hh.1 ((ofI_lt hr.1 hr.2).mp q) p ee s m args below meth c hC h0 H locs A hH hS hl) (fun q => hh.2 (fun z => q ((ofI_lt hr.1 hr.2).mpr z)) p ee s m args below meth c hC h0 H locs A hH hS hl)
theorem z_if_ge {x : Int} {off : Int} {tgt : Nat} (hd : decode (kcode k) pc = .ok (.ifCond .ge off, 3)) (ht : (pc : Int) + off = (tgt : Int)) (hr : inR x) (hh : (0 ≤ x → Fr g e k φ tgt ls st d) ∧ (¬ (0 ≤ x) → Fr g e k φ (pc + 3) ls st d)) : Fr g e k φ pc ls (zI x :: st) d := by
  intro p ee s m args below meth c hC h0 H locs A hH hS hl
  exact lv_if_ge hC.1 hC.2.1 hd ht (fun q => hh.1 ((ofI_le inR0 hr).mp q) p ee s m args below meth c hC h0 H locs A hH hS hl) (fun q => hh.2 (fun z => q ((ofI_le inR0 hr).mpr z)) p ee s m args below meth c hC h0 H locs A hH hS hl)
theorem z_icmp_ge {x y : Int} {off : Int} {tgt : Nat} (hd : decode (kcode k) pc = .ok (.if_icmp .ge off, 3)) (ht : (pc : Int) + off = (tgt : Int)) (hr : inR x ∧ inR y) (hh : (y ≤ x → Fr g e k φ tgt ls st d) ∧ (¬ (y ≤ x) → Fr g e k φ (pc + 3) ls st d)) : Fr g e k φ pc ls (zI y :: zI x :: st) d := by
  intro p ee s m args below meth c hC h0 H locs A hH hS hl
  exact lv_icmp_ge hC.1 hC.2.1 hd ht (fun q => hh.1 ((ofI_le hr.2 hr.1).mp q) p ee s m args below meth c hC h0 H locs A hH hS hl) (fun q => hh.2 (fun z => q ((ofI_le hr.2 hr.1).mpr z)) p ee s m args below meth c hC h0 H locs A hH hS hl)
theorem z_if_gt {x : Int} {off : Int} {tgt : Nat} (hd : decode (kcode k) pc = .ok (.ifCond .gt off, 3)) (ht : (pc : Int) + off = (tgt : Int)) (hr : inR x) (hh : (0 < x → Fr g e k φ tgt ls st d) ∧ (¬ (0 < x) → Fr g e k φ (pc + 3) ls st d)) : Fr g e k φ pc ls (zI x :: st) d := by
  intro p ee s m args below meth c hC h0 H locs A hH hS hl
  exact lv_if_gt hC.1 hC.2.1 hd ht (fun q => hh.1 ((ofI_lt inR0 hr).mp q) p ee s m args below meth c hC h0 H locs A hH hS hl) (fun q => hh.2 (fun z => q ((ofI_lt inR0 hr).mpr z)) p ee s m args below meth c hC h0 H locs A hH hS hl)
theorem z_icmp_gt {x y : Int} {off : Int} {tgt : Nat} (hd : decode (kcode k) pc = .ok (.if_icmp .gt off, 3)) (ht : (pc : Int) + off = (tgt : Int)) (hr : inR x ∧ inR y) (hh : (y < x → Fr g e k φ tgt ls st d) ∧ (¬ (y < x) → Fr g e k φ (pc + 3) ls st d)) : Fr g e k φ pc ls (zI y :: zI x :: st) d := by
  intro p ee s m args below meth c hC h0 H locs A hH hS hl
  exact lv_icmp_gt hC.1 hC.2.1 hd ht (fun q => hh.1 ((ofI_lt hr.2 hr.1).mp q) p ee s m args below meth c hC h0 H locs A hH hS hl) (fun q => hh.2 (fun z => q ((ofI_lt hr.2 hr.1).mpr z)) p ee s m args below meth c hC h0 H locs A hH hS hl)
theorem z_if_le {x : Int} {off : Int} {tgt : Nat} (hd : decode (kcode k) pc = .ok (.ifCond .le off, 3)) (ht : (pc : Int) + off = (tgt : Int)) (hr : inR x) (hh : (x ≤ 0 → Fr g e k φ tgt ls st d) ∧ (¬ (x ≤ 0) → Fr g e k φ (pc + 3) ls st d)) : Fr g e k φ pc ls (zI x :: st) d := by
  intro p ee s m args below meth c hC h0 H locs A hH hS hl
  exact lv_if_le hC.1 hC.2.1 hd ht (fun q => hh.1 ((ofI_le hr inR0).mp q) p ee s m args below meth c hC h0 H locs A hH hS hl) (fun q => hh.2 (fun z => q ((ofI_le hr inR0).mpr z)) p ee s m args below meth c hC h0 H locs A hH hS hl)
theorem z_icmp_le {x y : Int} {off : Int} {tgt : Nat} (hd : decode (kcode k) pc = .ok (.if_icmp .le off, 3)) (ht : (pc : Int) + off = (tgt : Int)) (hr : inR x ∧ inR y) (hh : (x ≤ y → Fr g e k φ tgt ls st d) ∧ (¬ (x ≤ y) → Fr g e k φ (pc + 3) ls st d)) : Fr g e k φ pc ls (zI y :: zI x :: st) d := by
  intro p ee s m args below meth c hC h0 H locs A hH hS hl
  exact lv_icmp_le hC.1 hC.2.1 hd ht (fun q => hh.1 ((ofI_le hr.1 hr.2).mp q) p ee s m args below meth c hC h0 H locs A hH hS hl) (fun q => hh.2 (fun z => q ((ofI_le hr.1 hr.2).mpr z)) p ee s m args below meth c hC h0 H locs A hH hS hl)
theorem z_icmp_eq_same {x : Int} {off : Int} {tgt : Nat} (hd : decode (kcode k) pc = .ok (.if_icmp .eq off, 3)) (ht : (pc : Int) + off = (tgt : Int)) (hh : Fr g e k φ tgt ls st d) : Fr g e k φ pc ls (zI x :: zI x :: st) d := by
  intro p ee s m args below meth c hC h0 H locs A hH hS hl
  exact lv_icmp_eq hC.1 hC.2.1 hd ht (fun q => hh p ee s m args below meth c hC h0 H locs A hH hS hl) (fun q => absurd rfl q)
theorem z_goto {off : Int} {tgt : Nat} (hd : decode (kcode k) pc = .ok (.goto off, 3)) (ht : (pc : Int) + off = (tgt : Int)) (hh : Fr g e k φ tgt ls (st) d) : Fr g e k φ pc ls (st) d := by
  intro p ee s m args below meth c hC h0 H locs A hH hS hl
  have hk := hh p ee s m args below meth c hC h0 H locs A hH hS hl
  exact lv_goto hC.1 hC.2.1 hd ht hk
theorem z_ifnonnull {x : Nat} {off : Int} {tgt : Nat} (hd : decode (kcode k) pc = .ok (.ifnonnull off, 3)) (ht : (pc : Int) + off = (tgt : Int)) (hh : Fr g e k φ tgt ls (st) d) : Fr g e k φ pc ls (zR x :: st) d := by
  intro p ee s m args below meth c hC h0 H locs A hH hS hl
  have hk := hh p ee s m args below meth c hC h0 H locs A hH hS hl
  exact lv_ifnonnull hC.1 hC.2.1 hd ht hk
theorem z_ifnull {x : Nat} {off : Int} (hd : decode (kcode k) pc = .ok (.ifnull off, 3)) (hh : Fr g e k φ (pc + 3) ls (st) d) : Fr g e k φ pc ls (zR x :: st) d := by
  intro p ee s m args below meth c hC h0 H locs A hH hS hl
  have hk := hh p ee s m args below meth c hC h0 H locs A hH hS hl
  exact lv_ifnull hC.1 hC.2.1 hd hk
theorem z_tsOut {x dflt lo hi : Int} {offs : Array Int} {len tgt : Nat} (hd : decode (kcode k) pc = .ok (.tableswitch dflt lo hi offs, len)) (ht : (pc : Int) + dflt = (tgt : Int)) (hr : inR x) (hx : x < lo ∨ hi < x) (hh : Fr g e k φ tgt ls (st) d) : Fr g e k φ pc ls (zI x :: st) d := by
  intro p ee s m args below meth c hC h0 H locs A hH hS hl
  have hk := hh p ee s m args below meth c hC h0 H locs A hH hS hl
  exact lv_tableOut hC.1 hC.2.1 hd (by rw [show (Int32.ofInt (zI x).2).toInt = x from ti_of hr]; exact hx) ht hk
theorem z_tsCase (i : Int) {x dflt lo hi off : Int} {offs : Array Int} {len tgt : Nat} (hd : decode (kcode k) pc = .ok (.tableswitch dflt lo hi offs, len)) (ho : offs[(i - lo).toNat]? = some off) (ht : (pc : Int) + off = (tgt : Int)) (hi : lo ≤ i ∧ i ≤ hi ∧ inR i) (hx : x = i) (hh : Fr g e k φ tgt ls (st) d) : Fr g e k φ pc ls (zI x :: st) d := by
  intro p ee s m args below meth c hC h0 H locs A hH hS hl
  have hk := hh p ee s m args below meth c hC h0 H locs A hH hS hl
  subst hx; exact lv_tableIn hC.1 hC.2.1 hd (by rw [show (Int32.ofInt (zI x).2).toInt = x from ti_of hi.2.2]; have := hi.1; omega) (by rw [show (Int32.ofInt (zI x).2).toInt = x from ti_of hi.2.2]; have := hi.2.1; omega) (by rw [show (Int32.ofInt (zI x).2).toInt = x from ti_of hi.2.2]; exact ho) ht hk
theorem z_lk {x dflt off : Int} {ps : Array (Int × Int)} {len tgt : Nat} (hd : decode (kcode k) pc = .ok (.lookupswitch dflt ps, len)) (hp : (ps.toList.zip (ps.toList.drop 1)).all (fun (a, next) => a.1 < next.1) = true) (hr : inR x) (ho : Op.lookupswitch.offset ps.toList dflt x = off) (ht : (pc : Int) + off = (tgt : Int)) (hh : Fr g e k φ tgt ls (st) d) : Fr g e k φ pc ls (zI x :: st) d := by
  intro p ee s m args below meth c hC h0 H locs A hH hS hl
  have hk := hh p ee s m args below meth c hC h0 H locs A hH hS hl
  exact lv_lookup hC.1 hC.2.1 hd hp (by rw [show (Int32.ofInt (zI x).2).toInt = x from ti_of hr]; exact ho) ht hk
end
