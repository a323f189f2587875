-- THE LAW'S CALLS
theorem wl_L_83 : Cond.constantLong RL 83 (4294967295) ∈ GW := inGW 1100 (by decide +kernel) rfl
theorem wm_L_101 : Cond.methodLink RL 101 yX9_undo ∈ GW := inGW 1088 (by decide +kernel) rfl
theorem wm_L_102 : Cond.methodLink RL 102 yX8_save ∈ GW := inGW 782 (by decide +kernel) rfl
theorem wm_L_105 : Cond.methodLink RL 105 yX9_save ∈ GW := inGW 1092 (by decide +kernel) rfl
theorem wm_L_106 : Cond.methodLink RL 106 yX8_restore ∈ GW := inGW 786 (by decide +kernel) rfl
theorem wm_L_109 : Cond.methodLink RL 109 yX9_restore ∈ GW := inGW 1096 (by decide +kernel) rfl
theorem wm_L_13 : Cond.methodLink RL 13 yX8_set ∈ GW := inGW 331 (by decide +kernel) rfl
theorem wm_L_17 : Cond.methodLink RL 17 yX9_set ∈ GW := inGW 873 (by decide +kernel) rfl
theorem wm_L_18 : Cond.methodLink RL 18 yX8_read ∈ GW := inGW 363 (by decide +kernel) rfl
theorem wm_L_22 : Cond.methodLink RL 22 yX9_read ∈ GW := inGW 1084 (by decide +kernel) rfl
theorem wm_L_23 : Cond.methodLink RL 23 yX8_dike ∈ GW := inGW 424 (by decide +kernel) rfl
theorem wm_L_27 : Cond.methodLink RL 27 yX9_dike ∈ GW := inGW 884 (by decide +kernel) rfl
theorem wm_L_28 : Cond.methodLink RL 28 yX8_flood ∈ GW := inGW 449 (by decide +kernel) rfl
theorem wm_L_32 : Cond.methodLink RL 32 yX9_flood ∈ GW := inGW 899 (by decide +kernel) rfl
theorem wm_L_33 : Cond.methodLink RL 33 yX8_cut ∈ GW := inGW 469 (by decide +kernel) rfl
theorem wm_L_37 : Cond.methodLink RL 37 yX9_cut ∈ GW := inGW 907 (by decide +kernel) rfl
theorem wm_L_38 : Cond.methodLink RL 38 yX8_pass ∈ GW := inGW 522 (by decide +kernel) rfl
theorem wm_L_41 : Cond.methodLink RL 41 yX9_pass ∈ GW := inGW 929 (by decide +kernel) rfl
theorem wm_L_42 : Cond.methodLink RL 42 yX8_cell ∈ GW := inGW 645 (by decide +kernel) rfl
theorem wm_L_46 : Cond.methodLink RL 46 yX9_cell ∈ GW := inGW 984 (by decide +kernel) rfl
theorem wm_L_47 : Cond.methodLink RL 47 yX8_course ∈ GW := inGW 655 (by decide +kernel) rfl
theorem wm_L_50 : Cond.methodLink RL 50 yX9_course ∈ GW := inGW 988 (by decide +kernel) rfl
theorem wm_L_51 : Cond.methodLink RL 51 yX8_bend ∈ GW := inGW 661 (by decide +kernel) rfl
theorem wm_L_54 : Cond.methodLink RL 54 yX9_bend ∈ GW := inGW 992 (by decide +kernel) rfl
theorem wm_L_55 : Cond.methodLink RL 55 yX8_neck ∈ GW := inGW 673 (by decide +kernel) rfl
theorem wm_L_58 : Cond.methodLink RL 58 yX9_neck ∈ GW := inGW 996 (by decide +kernel) rfl
theorem wm_L_59 : Cond.methodLink RL 59 yX8_oxbow ∈ GW := inGW 678 (by decide +kernel) rfl
theorem wm_L_62 : Cond.methodLink RL 62 yX9_oxbow ∈ GW := inGW 1000 (by decide +kernel) rfl
theorem wm_L_63 : Cond.methodLink RL 63 yX8_count ∈ GW := inGW 695 (by decide +kernel) rfl
theorem wm_L_66 : Cond.methodLink RL 66 yX9_count ∈ GW := inGW 1004 (by decide +kernel) rfl
theorem wm_L_67 : Cond.methodLink RL 67 yX8_isFlood ∈ GW := inGW 730 (by decide +kernel) rfl
theorem wm_L_70 : Cond.methodLink RL 70 yX9_isFlood ∈ GW := inGW 1027 (by decide +kernel) rfl
theorem wm_L_71 : Cond.methodLink RL 71 yX8_ifPassed ∈ GW := inGW 734 (by decide +kernel) rfl
theorem wm_L_74 : Cond.methodLink RL 74 yX9_ifPassed ∈ GW := inGW 1031 (by decide +kernel) rfl
theorem wm_L_75 : Cond.methodLink RL 75 yX8_nextCut ∈ GW := inGW 738 (by decide +kernel) rfl
theorem wm_L_78 : Cond.methodLink RL 78 yX9_nextCut ∈ GW := inGW 1043 (by decide +kernel) rfl
theorem wm_L_79 : Cond.methodLink RL 79 yX8_taken ∈ GW := inGW 742 (by decide +kernel) rfl
theorem wm_L_82 : Cond.methodLink RL 82 yX9_taken ∈ GW := inGW 1047 (by decide +kernel) rfl
theorem wm_L_85 : Cond.methodLink RL 85 yX8_put ∈ GW := inGW 750 (by decide +kernel) rfl
theorem wm_L_89 : Cond.methodLink RL 89 yX9_put ∈ GW := inGW 1051 (by decide +kernel) rfl
theorem wm_L_90 : Cond.methodLink RL 90 yX8_wipe ∈ GW := inGW 766 (by decide +kernel) rfl
theorem wm_L_93 : Cond.methodLink RL 93 yX9_wipe ∈ GW := inGW 1056 (by decide +kernel) rfl
theorem wm_L_94 : Cond.methodLink RL 94 yX8_fault ∈ GW := inGW 770 (by decide +kernel) rfl
theorem wm_L_97 : Cond.methodLink RL 97 yX9_fault ∈ GW := inGW 1060 (by decide +kernel) rfl
theorem wm_L_98 : Cond.methodLink RL 98 yX8_undo ∈ GW := inGW 774 (by decide +kernel) rfl
set_option maxRecDepth 20000 in
theorem lc_set {g : zGG} {nm : String} {d : zMem} {i : Int} (hN : gN g < 2 ^ 31) (hi : 0 ≤ i ∧ i + 3 < gN g) (hJ : J d) (next : ∀ d2, J d2 → Fr g eL (kL nm) FUL 784 [some zX, some (zR 0), some (zR 153), some (zI i)] [] d2) : Fr g eL (kL nm) FUL 136 [some zX, some (zR 0), some (zR 153), some (zI i)] [] d := by
  have tr : ∀ x : Int32, inR x.toInt := fun x => ⟨by have := Int32.le_toInt x; omega, by have := Int32.toInt_lt x; omega⟩
  obtain ⟨a1, e1⟩ : ∃ a, (gxs g (i + 1).toNat).toInt = a := ⟨_, rfl⟩
  have r1 : inR a1 := e1 ▸ tr _
  obtain ⟨a2, e2⟩ : ∃ a, (gxs g (i + 2).toNat).toInt = a := ⟨_, rfl⟩
  have r2 : inR a2 := e2 ▸ tr _
  obtain ⟨a3, e3⟩ : ∃ a, (gxs g (i + 3).toNat).toInt = a := ⟨_, rfl⟩
  have r3 : inR a3 := e3 ▸ tr _
  refine z_aloadR_n (i := 1) dL_law_136 rfl rfl ?_
  refine z_aloadX_n (i := 0) dL_law_137 rfl rfl ?_
  refine z_iload_n (i := 3) dL_law_138 rfl rfl ?_
  refine z_iconst dL_law_139 ?_
  refine z_iadd dL_law_140 ?_
  refine z_sld dL_law_141 ⟨by omega, by omega⟩ hN ?_
  rw [show (gxs g (i + 1).toNat).toInt = a1 from e1]
  refine z_aloadX_n (i := 0) dL_law_142 rfl rfl ?_
  refine z_iload_n (i := 3) dL_law_143 rfl rfl ?_
  refine z_iconst dL_law_144 ?_
  refine z_iadd dL_law_145 ?_
  refine z_sld dL_law_146 ⟨by omega, by omega⟩ hN ?_
  rw [show (gxs g (i + 2).toNat).toInt = a2 from e2]
  refine z_callVi (k' := M_X8_set) (φ' := FUL) (As := [zI a1, zI a2]) (st := []) dL_law_147 rfl ly_0 (by decide) rfl (show 0 < 166 by decide) wm_L_13 ok_X8_set okV_X8_set rfl (zroom_eL (by decide) (by decide) (Nat.le_refl _)) (Nat.le_of_ble_eq_true rfl) (Nat.le_refl _) rfl ?_
  refine Ev_mono (p_set (Q := fun v1 v2 d2 => v1 = v2 ∧ J d2) hJ (r1) (r2) (fun v d2 h => ⟨rfl, h⟩)) (fun v1 d1 h => ?_)
  refine z_aloadR_n (i := 2) dL_law_150 rfl rfl ?_
  refine z_aloadX_n (i := 0) dL_law_151 rfl rfl ?_
  refine z_iload_n (i := 3) dL_law_152 rfl rfl ?_
  refine z_iconst dL_law_153 ?_
  refine z_iadd dL_law_154 ?_
  refine z_sld dL_law_155 ⟨by omega, by omega⟩ hN ?_
  rw [show (gxs g (i + 1).toNat).toInt = a1 from e1]
  refine z_aloadX_n (i := 0) dL_law_156 rfl rfl ?_
  refine z_iload_n (i := 3) dL_law_157 rfl rfl ?_
  refine z_iconst dL_law_158 ?_
  refine z_iadd dL_law_159 ?_
  refine z_sld dL_law_160 ⟨by omega, by omega⟩ hN ?_
  rw [show (gxs g (i + 2).toNat).toInt = a2 from e2]
  refine z_callVi (k' := M_X9_set) (φ' := FUL) (As := [zI a1, zI a2]) (st := [zI v1]) dL_law_161 rfl ly_153 (by decide) rfl (show 153 < 166 by decide) wm_L_17 ok_X9_set okV_X9_set rfl (zroom_eL (by decide) (by decide) (Nat.le_refl _)) (Nat.le_of_ble_eq_true rfl) (Nat.le_refl _) rfl (Ev_mono h (fun v2 d2 hh => ?_))
  obtain ⟨rfl, hJ2⟩ := hh
  exact z_icmp_self (tgt := 784) dL_law_164 (by decide) (next d2 hJ2)
set_option maxRecDepth 20000 in
theorem lc_read {g : zGG} {nm : String} {d : zMem} {i : Int} (hN : gN g < 2 ^ 31) (hi : 0 ≤ i ∧ i + 3 < gN g) (hJ : J d) (next : ∀ d2, J d2 → Fr g eL (kL nm) FUL 784 [some zX, some (zR 0), some (zR 153), some (zI i)] [] d2) : Fr g eL (kL nm) FUL 169 [some zX, some (zR 0), some (zR 153), some (zI i)] [] d := by
  have tr : ∀ x : Int32, inR x.toInt := fun x => ⟨by have := Int32.le_toInt x; omega, by have := Int32.toInt_lt x; omega⟩
  obtain ⟨a1, e1⟩ : ∃ a, (gxs g (i + 1).toNat).toInt = a := ⟨_, rfl⟩
  have r1 : inR a1 := e1 ▸ tr _
  obtain ⟨a2, e2⟩ : ∃ a, (gxs g (i + 2).toNat).toInt = a := ⟨_, rfl⟩
  have r2 : inR a2 := e2 ▸ tr _
  obtain ⟨a3, e3⟩ : ∃ a, (gxs g (i + 3).toNat).toInt = a := ⟨_, rfl⟩
  have r3 : inR a3 := e3 ▸ tr _
  refine z_aloadR_n (i := 1) dL_law_169 rfl rfl ?_
  refine z_callVi (k' := M_X8_read) (φ' := FUL) (As := []) (st := []) dL_law_170 rfl ly_0 (by decide) rfl (show 0 < 166 by decide) wm_L_18 ok_X8_read okV_X8_read rfl (zroom_eL (by decide) (by decide) (Nat.le_refl _)) (Nat.le_of_ble_eq_true rfl) (Nat.le_refl _) rfl ?_
  refine Ev_mono (p_read (Q := fun v1 v2 d2 => v1 = v2 ∧ J d2) hJ  (fun v d2 h => ⟨rfl, h⟩)) (fun v1 d1 h => ?_)
  refine z_aloadR_n (i := 2) dL_law_173 rfl rfl ?_
  refine z_callVi (k' := M_X9_read) (φ' := FUL) (As := []) (st := [zI v1]) dL_law_174 rfl ly_153 (by decide) rfl (show 153 < 166 by decide) wm_L_22 ok_X9_read okV_X9_read rfl (zroom_eL (by decide) (by decide) (Nat.le_refl _)) (Nat.le_of_ble_eq_true rfl) (Nat.le_refl _) rfl (Ev_mono h (fun v2 d2 hh => ?_))
  obtain ⟨rfl, hJ2⟩ := hh
  exact z_icmp_self (tgt := 784) dL_law_177 (by decide) (next d2 hJ2)
set_option maxRecDepth 20000 in
theorem lc_dike {g : zGG} {nm : String} {d : zMem} {i : Int} (hN : gN g < 2 ^ 31) (hi : 0 ≤ i ∧ i + 3 < gN g) (hJ : J d) (next : ∀ d2, J d2 → Fr g eL (kL nm) FUL 784 [some zX, some (zR 0), some (zR 153), some (zI i)] [] d2) : Fr g eL (kL nm) FUL 182 [some zX, some (zR 0), some (zR 153), some (zI i)] [] d := by
  have tr : ∀ x : Int32, inR x.toInt := fun x => ⟨by have := Int32.le_toInt x; omega, by have := Int32.toInt_lt x; omega⟩
  obtain ⟨a1, e1⟩ : ∃ a, (gxs g (i + 1).toNat).toInt = a := ⟨_, rfl⟩
  have r1 : inR a1 := e1 ▸ tr _
  obtain ⟨a2, e2⟩ : ∃ a, (gxs g (i + 2).toNat).toInt = a := ⟨_, rfl⟩
  have r2 : inR a2 := e2 ▸ tr _
  obtain ⟨a3, e3⟩ : ∃ a, (gxs g (i + 3).toNat).toInt = a := ⟨_, rfl⟩
  have r3 : inR a3 := e3 ▸ tr _
  by_cases cb : a3 = 0
  · refine z_aloadR_n (i := 1) dL_law_182 rfl rfl ?_
    refine z_aloadX_n (i := 0) dL_law_183 rfl rfl ?_
    refine z_iload_n (i := 3) dL_law_184 rfl rfl ?_
    refine z_iconst dL_law_185 ?_
    refine z_iadd dL_law_186 ?_
    refine z_sld dL_law_187 ⟨by omega, by omega⟩ hN ?_
    rw [show (gxs g (i + 1).toNat).toInt = a1 from e1]
    refine z_aloadX_n (i := 0) dL_law_188 rfl rfl ?_
    refine z_iload_n (i := 3) dL_law_189 rfl rfl ?_
    refine z_iconst dL_law_190 ?_
    refine z_iadd dL_law_191 ?_
    refine z_sld dL_law_192 ⟨by omega, by omega⟩ hN ?_
    rw [show (gxs g (i + 2).toNat).toInt = a2 from e2]
    refine z_aloadX_n (i := 0) dL_law_193 rfl rfl ?_
    refine z_iload_n (i := 3) dL_law_194 rfl rfl ?_
    refine z_iconst dL_law_195 ?_
    refine z_iadd dL_law_196 ?_
    refine z_sld dL_law_197 ⟨by omega, by omega⟩ hN ?_
    rw [show (gxs g (i + 3).toNat).toInt = a3 from e3]
    refine zb_if_eq (tgt := 205) dL_law_198 (by decide) r3 ⟨fun _ => ?_, fun q => absurd cb q⟩
    refine z_iconst dL_law_205 ?_
    refine z_callVi (k' := M_X8_dike) (φ' := FUL) (As := [zI a1, zI a2, zI 0]) (st := []) dL_law_206 rfl ly_0 (by decide) rfl (show 0 < 166 by decide) wm_L_23 ok_X8_dike okV_X8_dike rfl (zroom_eL (by decide) (by decide) (Nat.le_refl _)) (Nat.le_of_ble_eq_true rfl) (Nat.le_refl _) rfl ?_
    refine Ev_mono (p_dike (Q := fun v1 v2 d2 => v1 = v2 ∧ J d2) hJ r1 r2 (Or.inl rfl) (fun v d2 h => ⟨rfl, h⟩)) (fun v1 d1 h => ?_)
    refine z_aloadR_n (i := 2) dL_law_209 rfl rfl ?_
    refine z_aloadX_n (i := 0) dL_law_210 rfl rfl ?_
    refine z_iload_n (i := 3) dL_law_211 rfl rfl ?_
    refine z_iconst dL_law_212 ?_
    refine z_iadd dL_law_213 ?_
    refine z_sld dL_law_214 ⟨by omega, by omega⟩ hN ?_
    rw [show (gxs g (i + 1).toNat).toInt = a1 from e1]
    refine z_aloadX_n (i := 0) dL_law_215 rfl rfl ?_
    refine z_iload_n (i := 3) dL_law_216 rfl rfl ?_
    refine z_iconst dL_law_217 ?_
    refine z_iadd dL_law_218 ?_
    refine z_sld dL_law_219 ⟨by omega, by omega⟩ hN ?_
    rw [show (gxs g (i + 2).toNat).toInt = a2 from e2]
    refine z_aloadX_n (i := 0) dL_law_220 rfl rfl ?_
    refine z_iload_n (i := 3) dL_law_221 rfl rfl ?_
    refine z_iconst dL_law_222 ?_
    refine z_iadd dL_law_223 ?_
    refine z_sld dL_law_224 ⟨by omega, by omega⟩ hN ?_
    rw [show (gxs g (i + 3).toNat).toInt = a3 from e3]
    refine zb_if_eq (tgt := 232) dL_law_225 (by decide) r3 ⟨fun _ => ?_, fun q => absurd cb q⟩
    refine z_iconst dL_law_232 ?_
    refine z_callVi (k' := M_X9_dike) (φ' := FUL) (As := [zI a1, zI a2, zI 0]) (st := [zI v1]) dL_law_233 rfl ly_153 (by decide) rfl (show 153 < 166 by decide) wm_L_27 ok_X9_dike okV_X9_dike rfl (zroom_eL (by decide) (by decide) (Nat.le_refl _)) (Nat.le_of_ble_eq_true rfl) (Nat.le_refl _) rfl (Ev_mono h (fun v2 d2 hh => ?_))
    obtain ⟨rfl, hJ2⟩ := hh
    exact z_icmp_self (tgt := 784) dL_law_236 (by decide) (next d2 hJ2)
  · refine z_aloadR_n (i := 1) dL_law_182 rfl rfl ?_
    refine z_aloadX_n (i := 0) dL_law_183 rfl rfl ?_
    refine z_iload_n (i := 3) dL_law_184 rfl rfl ?_
    refine z_iconst dL_law_185 ?_
    refine z_iadd dL_law_186 ?_
    refine z_sld dL_law_187 ⟨by omega, by omega⟩ hN ?_
    rw [show (gxs g (i + 1).toNat).toInt = a1 from e1]
    refine z_aloadX_n (i := 0) dL_law_188 rfl rfl ?_
    refine z_iload_n (i := 3) dL_law_189 rfl rfl ?_
    refine z_iconst dL_law_190 ?_
    refine z_iadd dL_law_191 ?_
    refine z_sld dL_law_192 ⟨by omega, by omega⟩ hN ?_
    rw [show (gxs g (i + 2).toNat).toInt = a2 from e2]
    refine z_aloadX_n (i := 0) dL_law_193 rfl rfl ?_
    refine z_iload_n (i := 3) dL_law_194 rfl rfl ?_
    refine z_iconst dL_law_195 ?_
    refine z_iadd dL_law_196 ?_
    refine z_sld dL_law_197 ⟨by omega, by omega⟩ hN ?_
    rw [show (gxs g (i + 3).toNat).toInt = a3 from e3]
    refine zb_if_eq (tgt := 205) dL_law_198 (by decide) r3 ⟨fun q => absurd q cb, fun _ => ?_⟩
    refine z_iconst dL_law_201 ?_
    refine z_goto (tgt := 206) dL_law_202 (by decide) ?_
    refine z_callVi (k' := M_X8_dike) (φ' := FUL) (As := [zI a1, zI a2, zI 1]) (st := []) dL_law_206 rfl ly_0 (by decide) rfl (show 0 < 166 by decide) wm_L_23 ok_X8_dike okV_X8_dike rfl (zroom_eL (by decide) (by decide) (Nat.le_refl _)) (Nat.le_of_ble_eq_true rfl) (Nat.le_refl _) rfl ?_
    refine Ev_mono (p_dike (Q := fun v1 v2 d2 => v1 = v2 ∧ J d2) hJ r1 r2 (Or.inr rfl) (fun v d2 h => ⟨rfl, h⟩)) (fun v1 d1 h => ?_)
    refine z_aloadR_n (i := 2) dL_law_209 rfl rfl ?_
    refine z_aloadX_n (i := 0) dL_law_210 rfl rfl ?_
    refine z_iload_n (i := 3) dL_law_211 rfl rfl ?_
    refine z_iconst dL_law_212 ?_
    refine z_iadd dL_law_213 ?_
    refine z_sld dL_law_214 ⟨by omega, by omega⟩ hN ?_
    rw [show (gxs g (i + 1).toNat).toInt = a1 from e1]
    refine z_aloadX_n (i := 0) dL_law_215 rfl rfl ?_
    refine z_iload_n (i := 3) dL_law_216 rfl rfl ?_
    refine z_iconst dL_law_217 ?_
    refine z_iadd dL_law_218 ?_
    refine z_sld dL_law_219 ⟨by omega, by omega⟩ hN ?_
    rw [show (gxs g (i + 2).toNat).toInt = a2 from e2]
    refine z_aloadX_n (i := 0) dL_law_220 rfl rfl ?_
    refine z_iload_n (i := 3) dL_law_221 rfl rfl ?_
    refine z_iconst dL_law_222 ?_
    refine z_iadd dL_law_223 ?_
    refine z_sld dL_law_224 ⟨by omega, by omega⟩ hN ?_
    rw [show (gxs g (i + 3).toNat).toInt = a3 from e3]
    refine zb_if_eq (tgt := 232) dL_law_225 (by decide) r3 ⟨fun q => absurd q cb, fun _ => ?_⟩
    refine z_iconst dL_law_228 ?_
    refine z_goto (tgt := 233) dL_law_229 (by decide) ?_
    refine z_callVi (k' := M_X9_dike) (φ' := FUL) (As := [zI a1, zI a2, zI 1]) (st := [zI v1]) dL_law_233 rfl ly_153 (by decide) rfl (show 153 < 166 by decide) wm_L_27 ok_X9_dike okV_X9_dike rfl (zroom_eL (by decide) (by decide) (Nat.le_refl _)) (Nat.le_of_ble_eq_true rfl) (Nat.le_refl _) rfl (Ev_mono h (fun v2 d2 hh => ?_))
    obtain ⟨rfl, hJ2⟩ := hh
    exact z_icmp_self (tgt := 784) dL_law_236 (by decide) (next d2 hJ2)
set_option maxRecDepth 20000 in
theorem lc_flood {g : zGG} {nm : String} {d : zMem} {i : Int} (hN : gN g < 2 ^ 31) (hi : 0 ≤ i ∧ i + 3 < gN g) (hJ : J d) (next : ∀ d2, J d2 → Fr g eL (kL nm) FUL 784 [some zX, some (zR 0), some (zR 153), some (zI i)] [] d2) : Fr g eL (kL nm) FUL 241 [some zX, some (zR 0), some (zR 153), some (zI i)] [] d := by
  have tr : ∀ x : Int32, inR x.toInt := fun x => ⟨by have := Int32.le_toInt x; omega, by have := Int32.toInt_lt x; omega⟩
  obtain ⟨a1, e1⟩ : ∃ a, (gxs g (i + 1).toNat).toInt = a := ⟨_, rfl⟩
  have r1 : inR a1 := e1 ▸ tr _
  obtain ⟨a2, e2⟩ : ∃ a, (gxs g (i + 2).toNat).toInt = a := ⟨_, rfl⟩
  have r2 : inR a2 := e2 ▸ tr _
  obtain ⟨a3, e3⟩ : ∃ a, (gxs g (i + 3).toNat).toInt = a := ⟨_, rfl⟩
  have r3 : inR a3 := e3 ▸ tr _
  by_cases cb : a2 = 0
  · refine z_aloadR_n (i := 1) dL_law_241 rfl rfl ?_
    refine z_aloadX_n (i := 0) dL_law_242 rfl rfl ?_
    refine z_iload_n (i := 3) dL_law_243 rfl rfl ?_
    refine z_iconst dL_law_244 ?_
    refine z_iadd dL_law_245 ?_
    refine z_sld dL_law_246 ⟨by omega, by omega⟩ hN ?_
    rw [show (gxs g (i + 1).toNat).toInt = a1 from e1]
    refine z_aloadX_n (i := 0) dL_law_247 rfl rfl ?_
    refine z_iload_n (i := 3) dL_law_248 rfl rfl ?_
    refine z_iconst dL_law_249 ?_
    refine z_iadd dL_law_250 ?_
    refine z_sld dL_law_251 ⟨by omega, by omega⟩ hN ?_
    rw [show (gxs g (i + 2).toNat).toInt = a2 from e2]
    refine zb_if_eq (tgt := 259) dL_law_252 (by decide) r2 ⟨fun _ => ?_, fun q => absurd cb q⟩
    refine z_iconst dL_law_259 ?_
    refine z_callVi (k' := M_X8_flood) (φ' := FUL) (As := [zI a1, zI 0]) (st := []) dL_law_260 rfl ly_0 (by decide) rfl (show 0 < 166 by decide) wm_L_28 ok_X8_flood okV_X8_flood rfl (zroom_eL (by decide) (by decide) (Nat.le_refl _)) (Nat.le_of_ble_eq_true rfl) (Nat.le_refl _) rfl ?_
    refine Ev_mono (p_flood (Q := fun v1 v2 d2 => v1 = v2 ∧ J d2) hJ r1 (Or.inl rfl) (fun v d2 h => ⟨rfl, h⟩)) (fun v1 d1 h => ?_)
    refine z_aloadR_n (i := 2) dL_law_263 rfl rfl ?_
    refine z_aloadX_n (i := 0) dL_law_264 rfl rfl ?_
    refine z_iload_n (i := 3) dL_law_265 rfl rfl ?_
    refine z_iconst dL_law_266 ?_
    refine z_iadd dL_law_267 ?_
    refine z_sld dL_law_268 ⟨by omega, by omega⟩ hN ?_
    rw [show (gxs g (i + 1).toNat).toInt = a1 from e1]
    refine z_aloadX_n (i := 0) dL_law_269 rfl rfl ?_
    refine z_iload_n (i := 3) dL_law_270 rfl rfl ?_
    refine z_iconst dL_law_271 ?_
    refine z_iadd dL_law_272 ?_
    refine z_sld dL_law_273 ⟨by omega, by omega⟩ hN ?_
    rw [show (gxs g (i + 2).toNat).toInt = a2 from e2]
    refine zb_if_eq (tgt := 281) dL_law_274 (by decide) r2 ⟨fun _ => ?_, fun q => absurd cb q⟩
    refine z_iconst dL_law_281 ?_
    refine z_callVi (k' := M_X9_flood) (φ' := FUL) (As := [zI a1, zI 0]) (st := [zI v1]) dL_law_282 rfl ly_153 (by decide) rfl (show 153 < 166 by decide) wm_L_32 ok_X9_flood okV_X9_flood rfl (zroom_eL (by decide) (by decide) (Nat.le_refl _)) (Nat.le_of_ble_eq_true rfl) (Nat.le_refl _) rfl (Ev_mono h (fun v2 d2 hh => ?_))
    obtain ⟨rfl, hJ2⟩ := hh
    exact z_icmp_self (tgt := 784) dL_law_285 (by decide) (next d2 hJ2)
  · refine z_aloadR_n (i := 1) dL_law_241 rfl rfl ?_
    refine z_aloadX_n (i := 0) dL_law_242 rfl rfl ?_
    refine z_iload_n (i := 3) dL_law_243 rfl rfl ?_
    refine z_iconst dL_law_244 ?_
    refine z_iadd dL_law_245 ?_
    refine z_sld dL_law_246 ⟨by omega, by omega⟩ hN ?_
    rw [show (gxs g (i + 1).toNat).toInt = a1 from e1]
    refine z_aloadX_n (i := 0) dL_law_247 rfl rfl ?_
    refine z_iload_n (i := 3) dL_law_248 rfl rfl ?_
    refine z_iconst dL_law_249 ?_
    refine z_iadd dL_law_250 ?_
    refine z_sld dL_law_251 ⟨by omega, by omega⟩ hN ?_
    rw [show (gxs g (i + 2).toNat).toInt = a2 from e2]
    refine zb_if_eq (tgt := 259) dL_law_252 (by decide) r2 ⟨fun q => absurd q cb, fun _ => ?_⟩
    refine z_iconst dL_law_255 ?_
    refine z_goto (tgt := 260) dL_law_256 (by decide) ?_
    refine z_callVi (k' := M_X8_flood) (φ' := FUL) (As := [zI a1, zI 1]) (st := []) dL_law_260 rfl ly_0 (by decide) rfl (show 0 < 166 by decide) wm_L_28 ok_X8_flood okV_X8_flood rfl (zroom_eL (by decide) (by decide) (Nat.le_refl _)) (Nat.le_of_ble_eq_true rfl) (Nat.le_refl _) rfl ?_
    refine Ev_mono (p_flood (Q := fun v1 v2 d2 => v1 = v2 ∧ J d2) hJ r1 (Or.inr rfl) (fun v d2 h => ⟨rfl, h⟩)) (fun v1 d1 h => ?_)
    refine z_aloadR_n (i := 2) dL_law_263 rfl rfl ?_
    refine z_aloadX_n (i := 0) dL_law_264 rfl rfl ?_
    refine z_iload_n (i := 3) dL_law_265 rfl rfl ?_
    refine z_iconst dL_law_266 ?_
    refine z_iadd dL_law_267 ?_
    refine z_sld dL_law_268 ⟨by omega, by omega⟩ hN ?_
    rw [show (gxs g (i + 1).toNat).toInt = a1 from e1]
    refine z_aloadX_n (i := 0) dL_law_269 rfl rfl ?_
    refine z_iload_n (i := 3) dL_law_270 rfl rfl ?_
    refine z_iconst dL_law_271 ?_
    refine z_iadd dL_law_272 ?_
    refine z_sld dL_law_273 ⟨by omega, by omega⟩ hN ?_
    rw [show (gxs g (i + 2).toNat).toInt = a2 from e2]
    refine zb_if_eq (tgt := 281) dL_law_274 (by decide) r2 ⟨fun q => absurd q cb, fun _ => ?_⟩
    refine z_iconst dL_law_277 ?_
    refine z_goto (tgt := 282) dL_law_278 (by decide) ?_
    refine z_callVi (k' := M_X9_flood) (φ' := FUL) (As := [zI a1, zI 1]) (st := [zI v1]) dL_law_282 rfl ly_153 (by decide) rfl (show 153 < 166 by decide) wm_L_32 ok_X9_flood okV_X9_flood rfl (zroom_eL (by decide) (by decide) (Nat.le_refl _)) (Nat.le_of_ble_eq_true rfl) (Nat.le_refl _) rfl (Ev_mono h (fun v2 d2 hh => ?_))
    obtain ⟨rfl, hJ2⟩ := hh
    exact z_icmp_self (tgt := 784) dL_law_285 (by decide) (next d2 hJ2)
set_option maxRecDepth 20000 in
theorem lc_cut {g : zGG} {nm : String} {d : zMem} {i : Int} (hN : gN g < 2 ^ 31) (hi : 0 ≤ i ∧ i + 3 < gN g) (hJ : J d) (next : ∀ d2, J d2 → Fr g eL (kL nm) FUL 784 [some zX, some (zR 0), some (zR 153), some (zI i)] [] d2) : Fr g eL (kL nm) FUL 290 [some zX, some (zR 0), some (zR 153), some (zI i)] [] d := by
  have tr : ∀ x : Int32, inR x.toInt := fun x => ⟨by have := Int32.le_toInt x; omega, by have := Int32.toInt_lt x; omega⟩
  obtain ⟨a1, e1⟩ : ∃ a, (gxs g (i + 1).toNat).toInt = a := ⟨_, rfl⟩
  have r1 : inR a1 := e1 ▸ tr _
  obtain ⟨a2, e2⟩ : ∃ a, (gxs g (i + 2).toNat).toInt = a := ⟨_, rfl⟩
  have r2 : inR a2 := e2 ▸ tr _
  obtain ⟨a3, e3⟩ : ∃ a, (gxs g (i + 3).toNat).toInt = a := ⟨_, rfl⟩
  have r3 : inR a3 := e3 ▸ tr _
  refine z_aloadR_n (i := 1) dL_law_290 rfl rfl ?_
  refine z_aloadX_n (i := 0) dL_law_291 rfl rfl ?_
  refine z_iload_n (i := 3) dL_law_292 rfl rfl ?_
  refine z_iconst dL_law_293 ?_
  refine z_iadd dL_law_294 ?_
  refine z_sld dL_law_295 ⟨by omega, by omega⟩ hN ?_
  rw [show (gxs g (i + 1).toNat).toInt = a1 from e1]
  refine z_callVi (k' := M_X8_cut) (φ' := FUL) (As := [zI a1]) (st := []) dL_law_296 rfl ly_0 (by decide) rfl (show 0 < 166 by decide) wm_L_33 ok_X8_cut okV_X8_cut rfl (zroom_eL (by decide) (by decide) (Nat.le_refl _)) (Nat.le_of_ble_eq_true rfl) (Nat.le_refl _) rfl ?_
  refine Ev_mono (p_cut (Q := fun v1 v2 d2 => v1 = v2 ∧ J d2) hJ r1 (fun v d2 h => ⟨rfl, h⟩)) (fun v1 d1 h => ?_)
  refine z_aloadR_n (i := 2) dL_law_299 rfl rfl ?_
  refine z_aloadX_n (i := 0) dL_law_300 rfl rfl ?_
  refine z_iload_n (i := 3) dL_law_301 rfl rfl ?_
  refine z_iconst dL_law_302 ?_
  refine z_iadd dL_law_303 ?_
  refine z_sld dL_law_304 ⟨by omega, by omega⟩ hN ?_
  rw [show (gxs g (i + 1).toNat).toInt = a1 from e1]
  refine z_callVi (k' := M_X9_cut) (φ' := FUL) (As := [zI a1]) (st := [zI v1]) dL_law_305 rfl ly_153 (by decide) rfl (show 153 < 166 by decide) wm_L_37 ok_X9_cut okV_X9_cut rfl (zroom_eL (by decide) (by decide) (Nat.le_refl _)) (Nat.le_of_ble_eq_true rfl) (Nat.le_refl _) rfl (Ev_mono h (fun v2 d2 hh => ?_))
  obtain ⟨rfl, hJ2⟩ := hh
  exact z_icmp_self (tgt := 784) dL_law_308 (by decide) (next d2 hJ2)
set_option maxRecDepth 20000 in
theorem lc_pass {g : zGG} {nm : String} {d : zMem} {i : Int} (hN : gN g < 2 ^ 31) (hi : 0 ≤ i ∧ i + 3 < gN g) (hJ : J d) (next : ∀ d2, J d2 → Fr g eL (kL nm) FUL 784 [some zX, some (zR 0), some (zR 153), some (zI i)] [] d2) : Fr g eL (kL nm) FUL 313 [some zX, some (zR 0), some (zR 153), some (zI i)] [] d := by
  have tr : ∀ x : Int32, inR x.toInt := fun x => ⟨by have := Int32.le_toInt x; omega, by have := Int32.toInt_lt x; omega⟩
  obtain ⟨a1, e1⟩ : ∃ a, (gxs g (i + 1).toNat).toInt = a := ⟨_, rfl⟩
  have r1 : inR a1 := e1 ▸ tr _
  obtain ⟨a2, e2⟩ : ∃ a, (gxs g (i + 2).toNat).toInt = a := ⟨_, rfl⟩
  have r2 : inR a2 := e2 ▸ tr _
  obtain ⟨a3, e3⟩ : ∃ a, (gxs g (i + 3).toNat).toInt = a := ⟨_, rfl⟩
  have r3 : inR a3 := e3 ▸ tr _
  refine z_aloadR_n (i := 1) dL_law_313 rfl rfl ?_
  refine z_aloadX_n (i := 0) dL_law_314 rfl rfl ?_
  refine z_iload_n (i := 3) dL_law_315 rfl rfl ?_
  refine z_iconst dL_law_316 ?_
  refine z_iadd dL_law_317 ?_
  refine z_sld dL_law_318 ⟨by omega, by omega⟩ hN ?_
  rw [show (gxs g (i + 1).toNat).toInt = a1 from e1]
  refine z_callVi (k' := M_X8_pass) (φ' := FUL) (As := [zI a1]) (st := []) dL_law_319 rfl ly_0 (by decide) rfl (show 0 < 166 by decide) wm_L_38 ok_X8_pass okV_X8_pass rfl (zroom_eL (by decide) (by decide) (Nat.le_refl _)) (Nat.le_of_ble_eq_true rfl) (Nat.le_refl _) rfl ?_
  refine Ev_mono (p_pass (Q := fun v1 v2 d2 => v1 = v2 ∧ J d2) hJ r1 (fun v d2 h => ⟨rfl, h⟩)) (fun v1 d1 h => ?_)
  refine z_aloadR_n (i := 2) dL_law_322 rfl rfl ?_
  refine z_aloadX_n (i := 0) dL_law_323 rfl rfl ?_
  refine z_iload_n (i := 3) dL_law_324 rfl rfl ?_
  refine z_iconst dL_law_325 ?_
  refine z_iadd dL_law_326 ?_
  refine z_sld dL_law_327 ⟨by omega, by omega⟩ hN ?_
  rw [show (gxs g (i + 1).toNat).toInt = a1 from e1]
  refine z_callVi (k' := M_X9_pass) (φ' := FUL) (As := [zI a1]) (st := [zI v1]) dL_law_328 rfl ly_153 (by decide) rfl (show 153 < 166 by decide) wm_L_41 ok_X9_pass okV_X9_pass rfl (zroom_eL (by decide) (by decide) (Nat.le_refl _)) (Nat.le_of_ble_eq_true rfl) (Nat.le_refl _) rfl (Ev_mono h (fun v2 d2 hh => ?_))
  obtain ⟨rfl, hJ2⟩ := hh
  exact z_icmp_self (tgt := 784) dL_law_331 (by decide) (next d2 hJ2)
set_option maxRecDepth 20000 in
theorem lc_cell {g : zGG} {nm : String} {d : zMem} {i : Int} (hN : gN g < 2 ^ 31) (hi : 0 ≤ i ∧ i + 3 < gN g) (hJ : J d) (next : ∀ d2, J d2 → Fr g eL (kL nm) FUL 784 [some zX, some (zR 0), some (zR 153), some (zI i)] [] d2) : Fr g eL (kL nm) FUL 336 [some zX, some (zR 0), some (zR 153), some (zI i)] [] d := by
  have tr : ∀ x : Int32, inR x.toInt := fun x => ⟨by have := Int32.le_toInt x; omega, by have := Int32.toInt_lt x; omega⟩
  obtain ⟨a1, e1⟩ : ∃ a, (gxs g (i + 1).toNat).toInt = a := ⟨_, rfl⟩
  have r1 : inR a1 := e1 ▸ tr _
  obtain ⟨a2, e2⟩ : ∃ a, (gxs g (i + 2).toNat).toInt = a := ⟨_, rfl⟩
  have r2 : inR a2 := e2 ▸ tr _
  obtain ⟨a3, e3⟩ : ∃ a, (gxs g (i + 3).toNat).toInt = a := ⟨_, rfl⟩
  have r3 : inR a3 := e3 ▸ tr _
  refine z_aloadR_n (i := 1) dL_law_336 rfl rfl ?_
  refine z_aloadX_n (i := 0) dL_law_337 rfl rfl ?_
  refine z_iload_n (i := 3) dL_law_338 rfl rfl ?_
  refine z_iconst dL_law_339 ?_
  refine z_iadd dL_law_340 ?_
  refine z_sld dL_law_341 ⟨by omega, by omega⟩ hN ?_
  rw [show (gxs g (i + 1).toNat).toInt = a1 from e1]
  refine z_aloadX_n (i := 0) dL_law_342 rfl rfl ?_
  refine z_iload_n (i := 3) dL_law_343 rfl rfl ?_
  refine z_iconst dL_law_344 ?_
  refine z_iadd dL_law_345 ?_
  refine z_sld dL_law_346 ⟨by omega, by omega⟩ hN ?_
  rw [show (gxs g (i + 2).toNat).toInt = a2 from e2]
  refine z_aloadX_n (i := 0) dL_law_347 rfl rfl ?_
  refine z_iload_n (i := 3) dL_law_348 rfl rfl ?_
  refine z_iconst dL_law_349 ?_
  refine z_iadd dL_law_350 ?_
  refine z_sld dL_law_351 ⟨by omega, by omega⟩ hN ?_
  rw [show (gxs g (i + 3).toNat).toInt = a3 from e3]
  refine z_callVi (k' := M_X8_cell) (φ' := FUL) (As := [zI a1, zI a2, zI a3]) (st := []) dL_law_352 rfl ly_0 (by decide) rfl (show 0 < 166 by decide) wm_L_42 ok_X8_cell okV_X8_cell rfl (zroom_eL (by decide) (by decide) (Nat.le_refl _)) (Nat.le_of_ble_eq_true rfl) (Nat.le_refl _) rfl ?_
  refine Ev_mono (p_cell (Q := fun v1 v2 d2 => v1 = v2 ∧ J d2) hJ r1 r2 r3 (fun v d2 h => ⟨rfl, h⟩)) (fun v1 d1 h => ?_)
  refine z_aloadR_n (i := 2) dL_law_355 rfl rfl ?_
  refine z_aloadX_n (i := 0) dL_law_356 rfl rfl ?_
  refine z_iload_n (i := 3) dL_law_357 rfl rfl ?_
  refine z_iconst dL_law_358 ?_
  refine z_iadd dL_law_359 ?_
  refine z_sld dL_law_360 ⟨by omega, by omega⟩ hN ?_
  rw [show (gxs g (i + 1).toNat).toInt = a1 from e1]
  refine z_aloadX_n (i := 0) dL_law_361 rfl rfl ?_
  refine z_iload_n (i := 3) dL_law_362 rfl rfl ?_
  refine z_iconst dL_law_363 ?_
  refine z_iadd dL_law_364 ?_
  refine z_sld dL_law_365 ⟨by omega, by omega⟩ hN ?_
  rw [show (gxs g (i + 2).toNat).toInt = a2 from e2]
  refine z_aloadX_n (i := 0) dL_law_366 rfl rfl ?_
  refine z_iload_n (i := 3) dL_law_367 rfl rfl ?_
  refine z_iconst dL_law_368 ?_
  refine z_iadd dL_law_369 ?_
  refine z_sld dL_law_370 ⟨by omega, by omega⟩ hN ?_
  rw [show (gxs g (i + 3).toNat).toInt = a3 from e3]
  refine z_callVi (k' := M_X9_cell) (φ' := FUL) (As := [zI a1, zI a2, zI a3]) (st := [zI v1]) dL_law_371 rfl ly_153 (by decide) rfl (show 153 < 166 by decide) wm_L_46 ok_X9_cell okV_X9_cell rfl (zroom_eL (by decide) (by decide) (Nat.le_refl _)) (Nat.le_of_ble_eq_true rfl) (Nat.le_refl _) rfl (Ev_mono h (fun v2 d2 hh => ?_))
  obtain ⟨rfl, hJ2⟩ := hh
  exact z_icmp_self (tgt := 784) dL_law_374 (by decide) (next d2 hJ2)
set_option maxRecDepth 20000 in
theorem lc_course {g : zGG} {nm : String} {d : zMem} {i : Int} (hN : gN g < 2 ^ 31) (hi : 0 ≤ i ∧ i + 3 < gN g) (hJ : J d) (next : ∀ d2, J d2 → Fr g eL (kL nm) FUL 784 [some zX, some (zR 0), some (zR 153), some (zI i)] [] d2) : Fr g eL (kL nm) FUL 379 [some zX, some (zR 0), some (zR 153), some (zI i)] [] d := by
  have tr : ∀ x : Int32, inR x.toInt := fun x => ⟨by have := Int32.le_toInt x; omega, by have := Int32.toInt_lt x; omega⟩
  obtain ⟨a1, e1⟩ : ∃ a, (gxs g (i + 1).toNat).toInt = a := ⟨_, rfl⟩
  have r1 : inR a1 := e1 ▸ tr _
  obtain ⟨a2, e2⟩ : ∃ a, (gxs g (i + 2).toNat).toInt = a := ⟨_, rfl⟩
  have r2 : inR a2 := e2 ▸ tr _
  obtain ⟨a3, e3⟩ : ∃ a, (gxs g (i + 3).toNat).toInt = a := ⟨_, rfl⟩
  have r3 : inR a3 := e3 ▸ tr _
  refine z_aloadR_n (i := 1) dL_law_379 rfl rfl ?_
  refine z_aloadX_n (i := 0) dL_law_380 rfl rfl ?_
  refine z_iload_n (i := 3) dL_law_381 rfl rfl ?_
  refine z_iconst dL_law_382 ?_
  refine z_iadd dL_law_383 ?_
  refine z_sld dL_law_384 ⟨by omega, by omega⟩ hN ?_
  rw [show (gxs g (i + 1).toNat).toInt = a1 from e1]
  refine z_aloadX_n (i := 0) dL_law_385 rfl rfl ?_
  refine z_iload_n (i := 3) dL_law_386 rfl rfl ?_
  refine z_iconst dL_law_387 ?_
  refine z_iadd dL_law_388 ?_
  refine z_sld dL_law_389 ⟨by omega, by omega⟩ hN ?_
  rw [show (gxs g (i + 2).toNat).toInt = a2 from e2]
  refine z_callVi (k' := M_X8_course) (φ' := FUL) (As := [zI a1, zI a2]) (st := []) dL_law_390 rfl ly_0 (by decide) rfl (show 0 < 166 by decide) wm_L_47 ok_X8_course okV_X8_course rfl (zroom_eL (by decide) (by decide) (Nat.le_refl _)) (Nat.le_of_ble_eq_true rfl) (Nat.le_refl _) rfl ?_
  refine Ev_mono (p_course (Q := fun v1 v2 d2 => v1 = v2 ∧ J d2) hJ r1 r2 (fun v d2 h => ⟨rfl, h⟩)) (fun v1 d1 h => ?_)
  refine z_aloadR_n (i := 2) dL_law_393 rfl rfl ?_
  refine z_aloadX_n (i := 0) dL_law_394 rfl rfl ?_
  refine z_iload_n (i := 3) dL_law_395 rfl rfl ?_
  refine z_iconst dL_law_396 ?_
  refine z_iadd dL_law_397 ?_
  refine z_sld dL_law_398 ⟨by omega, by omega⟩ hN ?_
  rw [show (gxs g (i + 1).toNat).toInt = a1 from e1]
  refine z_aloadX_n (i := 0) dL_law_399 rfl rfl ?_
  refine z_iload_n (i := 3) dL_law_400 rfl rfl ?_
  refine z_iconst dL_law_401 ?_
  refine z_iadd dL_law_402 ?_
  refine z_sld dL_law_403 ⟨by omega, by omega⟩ hN ?_
  rw [show (gxs g (i + 2).toNat).toInt = a2 from e2]
  refine z_callVi (k' := M_X9_course) (φ' := FUL) (As := [zI a1, zI a2]) (st := [zI v1]) dL_law_404 rfl ly_153 (by decide) rfl (show 153 < 166 by decide) wm_L_50 ok_X9_course okV_X9_course rfl (zroom_eL (by decide) (by decide) (Nat.le_refl _)) (Nat.le_of_ble_eq_true rfl) (Nat.le_refl _) rfl (Ev_mono h (fun v2 d2 hh => ?_))
  obtain ⟨rfl, hJ2⟩ := hh
  exact z_icmp_self (tgt := 784) dL_law_407 (by decide) (next d2 hJ2)
set_option maxRecDepth 20000 in
theorem lc_bend {g : zGG} {nm : String} {d : zMem} {i : Int} (hN : gN g < 2 ^ 31) (hi : 0 ≤ i ∧ i + 3 < gN g) (hJ : J d) (next : ∀ d2, J d2 → Fr g eL (kL nm) FUL 784 [some zX, some (zR 0), some (zR 153), some (zI i)] [] d2) : Fr g eL (kL nm) FUL 412 [some zX, some (zR 0), some (zR 153), some (zI i)] [] d := by
  have tr : ∀ x : Int32, inR x.toInt := fun x => ⟨by have := Int32.le_toInt x; omega, by have := Int32.toInt_lt x; omega⟩
  obtain ⟨a1, e1⟩ : ∃ a, (gxs g (i + 1).toNat).toInt = a := ⟨_, rfl⟩
  have r1 : inR a1 := e1 ▸ tr _
  obtain ⟨a2, e2⟩ : ∃ a, (gxs g (i + 2).toNat).toInt = a := ⟨_, rfl⟩
  have r2 : inR a2 := e2 ▸ tr _
  obtain ⟨a3, e3⟩ : ∃ a, (gxs g (i + 3).toNat).toInt = a := ⟨_, rfl⟩
  have r3 : inR a3 := e3 ▸ tr _
  refine z_aloadR_n (i := 1) dL_law_412 rfl rfl ?_
  refine z_aloadX_n (i := 0) dL_law_413 rfl rfl ?_
  refine z_iload_n (i := 3) dL_law_414 rfl rfl ?_
  refine z_iconst dL_law_415 ?_
  refine z_iadd dL_law_416 ?_
  refine z_sld dL_law_417 ⟨by omega, by omega⟩ hN ?_
  rw [show (gxs g (i + 1).toNat).toInt = a1 from e1]
  refine z_aloadX_n (i := 0) dL_law_418 rfl rfl ?_
  refine z_iload_n (i := 3) dL_law_419 rfl rfl ?_
  refine z_iconst dL_law_420 ?_
  refine z_iadd dL_law_421 ?_
  refine z_sld dL_law_422 ⟨by omega, by omega⟩ hN ?_
  rw [show (gxs g (i + 2).toNat).toInt = a2 from e2]
  refine z_callVi (k' := M_X8_bend) (φ' := FUL) (As := [zI a1, zI a2]) (st := []) dL_law_423 rfl ly_0 (by decide) rfl (show 0 < 166 by decide) wm_L_51 ok_X8_bend okV_X8_bend rfl (zroom_eL (by decide) (by decide) (Nat.le_refl _)) (Nat.le_of_ble_eq_true rfl) (Nat.le_refl _) rfl ?_
  refine Ev_mono (p_bend (Q := fun v1 v2 d2 => v1 = v2 ∧ J d2) hJ r1 r2 (fun v d2 h => ⟨rfl, h⟩)) (fun v1 d1 h => ?_)
  refine z_aloadR_n (i := 2) dL_law_426 rfl rfl ?_
  refine z_aloadX_n (i := 0) dL_law_427 rfl rfl ?_
  refine z_iload_n (i := 3) dL_law_428 rfl rfl ?_
  refine z_iconst dL_law_429 ?_
  refine z_iadd dL_law_430 ?_
  refine z_sld dL_law_431 ⟨by omega, by omega⟩ hN ?_
  rw [show (gxs g (i + 1).toNat).toInt = a1 from e1]
  refine z_aloadX_n (i := 0) dL_law_432 rfl rfl ?_
  refine z_iload_n (i := 3) dL_law_433 rfl rfl ?_
  refine z_iconst dL_law_434 ?_
  refine z_iadd dL_law_435 ?_
  refine z_sld dL_law_436 ⟨by omega, by omega⟩ hN ?_
  rw [show (gxs g (i + 2).toNat).toInt = a2 from e2]
  refine z_callVi (k' := M_X9_bend) (φ' := FUL) (As := [zI a1, zI a2]) (st := [zI v1]) dL_law_437 rfl ly_153 (by decide) rfl (show 153 < 166 by decide) wm_L_54 ok_X9_bend okV_X9_bend rfl (zroom_eL (by decide) (by decide) (Nat.le_refl _)) (Nat.le_of_ble_eq_true rfl) (Nat.le_refl _) rfl (Ev_mono h (fun v2 d2 hh => ?_))
  obtain ⟨rfl, hJ2⟩ := hh
  exact z_icmp_self (tgt := 784) dL_law_440 (by decide) (next d2 hJ2)
set_option maxRecDepth 20000 in
theorem lc_neck {g : zGG} {nm : String} {d : zMem} {i : Int} (hN : gN g < 2 ^ 31) (hi : 0 ≤ i ∧ i + 3 < gN g) (hJ : J d) (next : ∀ d2, J d2 → Fr g eL (kL nm) FUL 784 [some zX, some (zR 0), some (zR 153), some (zI i)] [] d2) : Fr g eL (kL nm) FUL 445 [some zX, some (zR 0), some (zR 153), some (zI i)] [] d := by
  have tr : ∀ x : Int32, inR x.toInt := fun x => ⟨by have := Int32.le_toInt x; omega, by have := Int32.toInt_lt x; omega⟩
  obtain ⟨a1, e1⟩ : ∃ a, (gxs g (i + 1).toNat).toInt = a := ⟨_, rfl⟩
  have r1 : inR a1 := e1 ▸ tr _
  obtain ⟨a2, e2⟩ : ∃ a, (gxs g (i + 2).toNat).toInt = a := ⟨_, rfl⟩
  have r2 : inR a2 := e2 ▸ tr _
  obtain ⟨a3, e3⟩ : ∃ a, (gxs g (i + 3).toNat).toInt = a := ⟨_, rfl⟩
  have r3 : inR a3 := e3 ▸ tr _
  refine z_aloadR_n (i := 1) dL_law_445 rfl rfl ?_
  refine z_aloadX_n (i := 0) dL_law_446 rfl rfl ?_
  refine z_iload_n (i := 3) dL_law_447 rfl rfl ?_
  refine z_iconst dL_law_448 ?_
  refine z_iadd dL_law_449 ?_
  refine z_sld dL_law_450 ⟨by omega, by omega⟩ hN ?_
  rw [show (gxs g (i + 1).toNat).toInt = a1 from e1]
  refine z_aloadX_n (i := 0) dL_law_451 rfl rfl ?_
  refine z_iload_n (i := 3) dL_law_452 rfl rfl ?_
  refine z_iconst dL_law_453 ?_
  refine z_iadd dL_law_454 ?_
  refine z_sld dL_law_455 ⟨by omega, by omega⟩ hN ?_
  rw [show (gxs g (i + 2).toNat).toInt = a2 from e2]
  refine z_callVi (k' := M_X8_neck) (φ' := FUL) (As := [zI a1, zI a2]) (st := []) dL_law_456 rfl ly_0 (by decide) rfl (show 0 < 166 by decide) wm_L_55 ok_X8_neck okV_X8_neck rfl (zroom_eL (by decide) (by decide) (Nat.le_refl _)) (Nat.le_of_ble_eq_true rfl) (Nat.le_refl _) rfl ?_
  refine Ev_mono (p_neck (Q := fun v1 v2 d2 => v1 = v2 ∧ J d2) hJ r1 r2 (fun v d2 h => ⟨rfl, h⟩)) (fun v1 d1 h => ?_)
  refine z_aloadR_n (i := 2) dL_law_459 rfl rfl ?_
  refine z_aloadX_n (i := 0) dL_law_460 rfl rfl ?_
  refine z_iload_n (i := 3) dL_law_461 rfl rfl ?_
  refine z_iconst dL_law_462 ?_
  refine z_iadd dL_law_463 ?_
  refine z_sld dL_law_464 ⟨by omega, by omega⟩ hN ?_
  rw [show (gxs g (i + 1).toNat).toInt = a1 from e1]
  refine z_aloadX_n (i := 0) dL_law_465 rfl rfl ?_
  refine z_iload_n (i := 3) dL_law_466 rfl rfl ?_
  refine z_iconst dL_law_467 ?_
  refine z_iadd dL_law_468 ?_
  refine z_sld dL_law_469 ⟨by omega, by omega⟩ hN ?_
  rw [show (gxs g (i + 2).toNat).toInt = a2 from e2]
  refine z_callVi (k' := M_X9_neck) (φ' := FUL) (As := [zI a1, zI a2]) (st := [zI v1]) dL_law_470 rfl ly_153 (by decide) rfl (show 153 < 166 by decide) wm_L_58 ok_X9_neck okV_X9_neck rfl (zroom_eL (by decide) (by decide) (Nat.le_refl _)) (Nat.le_of_ble_eq_true rfl) (Nat.le_refl _) rfl (Ev_mono h (fun v2 d2 hh => ?_))
  obtain ⟨rfl, hJ2⟩ := hh
  exact z_icmp_self (tgt := 784) dL_law_473 (by decide) (next d2 hJ2)
set_option maxRecDepth 20000 in
theorem lc_oxbow {g : zGG} {nm : String} {d : zMem} {i : Int} (hN : gN g < 2 ^ 31) (hi : 0 ≤ i ∧ i + 3 < gN g) (hJ : J d) (next : ∀ d2, J d2 → Fr g eL (kL nm) FUL 784 [some zX, some (zR 0), some (zR 153), some (zI i)] [] d2) : Fr g eL (kL nm) FUL 478 [some zX, some (zR 0), some (zR 153), some (zI i)] [] d := by
  have tr : ∀ x : Int32, inR x.toInt := fun x => ⟨by have := Int32.le_toInt x; omega, by have := Int32.toInt_lt x; omega⟩
  obtain ⟨a1, e1⟩ : ∃ a, (gxs g (i + 1).toNat).toInt = a := ⟨_, rfl⟩
  have r1 : inR a1 := e1 ▸ tr _
  obtain ⟨a2, e2⟩ : ∃ a, (gxs g (i + 2).toNat).toInt = a := ⟨_, rfl⟩
  have r2 : inR a2 := e2 ▸ tr _
  obtain ⟨a3, e3⟩ : ∃ a, (gxs g (i + 3).toNat).toInt = a := ⟨_, rfl⟩
  have r3 : inR a3 := e3 ▸ tr _
  refine z_aloadR_n (i := 1) dL_law_478 rfl rfl ?_
  refine z_aloadX_n (i := 0) dL_law_479 rfl rfl ?_
  refine z_iload_n (i := 3) dL_law_480 rfl rfl ?_
  refine z_iconst dL_law_481 ?_
  refine z_iadd dL_law_482 ?_
  refine z_sld dL_law_483 ⟨by omega, by omega⟩ hN ?_
  rw [show (gxs g (i + 1).toNat).toInt = a1 from e1]
  refine z_aloadX_n (i := 0) dL_law_484 rfl rfl ?_
  refine z_iload_n (i := 3) dL_law_485 rfl rfl ?_
  refine z_iconst dL_law_486 ?_
  refine z_iadd dL_law_487 ?_
  refine z_sld dL_law_488 ⟨by omega, by omega⟩ hN ?_
  rw [show (gxs g (i + 2).toNat).toInt = a2 from e2]
  refine z_callVi (k' := M_X8_oxbow) (φ' := FUL) (As := [zI a1, zI a2]) (st := []) dL_law_489 rfl ly_0 (by decide) rfl (show 0 < 166 by decide) wm_L_59 ok_X8_oxbow okV_X8_oxbow rfl (zroom_eL (by decide) (by decide) (Nat.le_refl _)) (Nat.le_of_ble_eq_true rfl) (Nat.le_refl _) rfl ?_
  refine Ev_mono (p_oxbow (Q := fun v1 v2 d2 => v1 = v2 ∧ J d2) hJ r1 r2 (fun v d2 h => ⟨rfl, h⟩)) (fun v1 d1 h => ?_)
  refine z_aloadR_n (i := 2) dL_law_492 rfl rfl ?_
  refine z_aloadX_n (i := 0) dL_law_493 rfl rfl ?_
  refine z_iload_n (i := 3) dL_law_494 rfl rfl ?_
  refine z_iconst dL_law_495 ?_
  refine z_iadd dL_law_496 ?_
  refine z_sld dL_law_497 ⟨by omega, by omega⟩ hN ?_
  rw [show (gxs g (i + 1).toNat).toInt = a1 from e1]
  refine z_aloadX_n (i := 0) dL_law_498 rfl rfl ?_
  refine z_iload_n (i := 3) dL_law_499 rfl rfl ?_
  refine z_iconst dL_law_500 ?_
  refine z_iadd dL_law_501 ?_
  refine z_sld dL_law_502 ⟨by omega, by omega⟩ hN ?_
  rw [show (gxs g (i + 2).toNat).toInt = a2 from e2]
  refine z_callVi (k' := M_X9_oxbow) (φ' := FUL) (As := [zI a1, zI a2]) (st := [zI v1]) dL_law_503 rfl ly_153 (by decide) rfl (show 153 < 166 by decide) wm_L_62 ok_X9_oxbow okV_X9_oxbow rfl (zroom_eL (by decide) (by decide) (Nat.le_refl _)) (Nat.le_of_ble_eq_true rfl) (Nat.le_refl _) rfl (Ev_mono h (fun v2 d2 hh => ?_))
  obtain ⟨rfl, hJ2⟩ := hh
  exact z_icmp_self (tgt := 784) dL_law_506 (by decide) (next d2 hJ2)
set_option maxRecDepth 20000 in
theorem lc_count {g : zGG} {nm : String} {d : zMem} {i : Int} (hN : gN g < 2 ^ 31) (hi : 0 ≤ i ∧ i + 3 < gN g) (hJ : J d) (next : ∀ d2, J d2 → Fr g eL (kL nm) FUL 784 [some zX, some (zR 0), some (zR 153), some (zI i)] [] d2) : Fr g eL (kL nm) FUL 511 [some zX, some (zR 0), some (zR 153), some (zI i)] [] d := by
  have tr : ∀ x : Int32, inR x.toInt := fun x => ⟨by have := Int32.le_toInt x; omega, by have := Int32.toInt_lt x; omega⟩
  obtain ⟨a1, e1⟩ : ∃ a, (gxs g (i + 1).toNat).toInt = a := ⟨_, rfl⟩
  have r1 : inR a1 := e1 ▸ tr _
  obtain ⟨a2, e2⟩ : ∃ a, (gxs g (i + 2).toNat).toInt = a := ⟨_, rfl⟩
  have r2 : inR a2 := e2 ▸ tr _
  obtain ⟨a3, e3⟩ : ∃ a, (gxs g (i + 3).toNat).toInt = a := ⟨_, rfl⟩
  have r3 : inR a3 := e3 ▸ tr _
  refine z_aloadR_n (i := 1) dL_law_511 rfl rfl ?_
  refine z_aloadX_n (i := 0) dL_law_512 rfl rfl ?_
  refine z_iload_n (i := 3) dL_law_513 rfl rfl ?_
  refine z_iconst dL_law_514 ?_
  refine z_iadd dL_law_515 ?_
  refine z_sld dL_law_516 ⟨by omega, by omega⟩ hN ?_
  rw [show (gxs g (i + 1).toNat).toInt = a1 from e1]
  refine z_callVi (k' := M_X8_count) (φ' := FUL) (As := [zI a1]) (st := []) dL_law_517 rfl ly_0 (by decide) rfl (show 0 < 166 by decide) wm_L_63 ok_X8_count okV_X8_count rfl (zroom_eL (by decide) (by decide) (Nat.le_refl _)) (Nat.le_of_ble_eq_true rfl) (Nat.le_refl _) rfl ?_
  refine Ev_mono (p_count (Q := fun v1 v2 d2 => v1 = v2 ∧ J d2) hJ r1 (fun v d2 h => ⟨rfl, h⟩)) (fun v1 d1 h => ?_)
  refine z_aloadR_n (i := 2) dL_law_520 rfl rfl ?_
  refine z_aloadX_n (i := 0) dL_law_521 rfl rfl ?_
  refine z_iload_n (i := 3) dL_law_522 rfl rfl ?_
  refine z_iconst dL_law_523 ?_
  refine z_iadd dL_law_524 ?_
  refine z_sld dL_law_525 ⟨by omega, by omega⟩ hN ?_
  rw [show (gxs g (i + 1).toNat).toInt = a1 from e1]
  refine z_callVi (k' := M_X9_count) (φ' := FUL) (As := [zI a1]) (st := [zI v1]) dL_law_526 rfl ly_153 (by decide) rfl (show 153 < 166 by decide) wm_L_66 ok_X9_count okV_X9_count rfl (zroom_eL (by decide) (by decide) (Nat.le_refl _)) (Nat.le_of_ble_eq_true rfl) (Nat.le_refl _) rfl (Ev_mono h (fun v2 d2 hh => ?_))
  obtain ⟨rfl, hJ2⟩ := hh
  exact z_icmp_self (tgt := 784) dL_law_529 (by decide) (next d2 hJ2)
set_option maxRecDepth 20000 in
theorem lc_isFlood {g : zGG} {nm : String} {d : zMem} {i : Int} (hN : gN g < 2 ^ 31) (hi : 0 ≤ i ∧ i + 3 < gN g) (hJ : J d) (next : ∀ d2, J d2 → Fr g eL (kL nm) FUL 784 [some zX, some (zR 0), some (zR 153), some (zI i)] [] d2) : Fr g eL (kL nm) FUL 534 [some zX, some (zR 0), some (zR 153), some (zI i)] [] d := by
  have tr : ∀ x : Int32, inR x.toInt := fun x => ⟨by have := Int32.le_toInt x; omega, by have := Int32.toInt_lt x; omega⟩
  obtain ⟨a1, e1⟩ : ∃ a, (gxs g (i + 1).toNat).toInt = a := ⟨_, rfl⟩
  have r1 : inR a1 := e1 ▸ tr _
  obtain ⟨a2, e2⟩ : ∃ a, (gxs g (i + 2).toNat).toInt = a := ⟨_, rfl⟩
  have r2 : inR a2 := e2 ▸ tr _
  obtain ⟨a3, e3⟩ : ∃ a, (gxs g (i + 3).toNat).toInt = a := ⟨_, rfl⟩
  have r3 : inR a3 := e3 ▸ tr _
  refine z_aloadR_n (i := 1) dL_law_534 rfl rfl ?_
  refine z_aloadX_n (i := 0) dL_law_535 rfl rfl ?_
  refine z_iload_n (i := 3) dL_law_536 rfl rfl ?_
  refine z_iconst dL_law_537 ?_
  refine z_iadd dL_law_538 ?_
  refine z_sld dL_law_539 ⟨by omega, by omega⟩ hN ?_
  rw [show (gxs g (i + 1).toNat).toInt = a1 from e1]
  refine z_callVi (k' := M_X8_isFlood) (φ' := FUL) (As := [zI a1]) (st := []) dL_law_540 rfl ly_0 (by decide) rfl (show 0 < 166 by decide) wm_L_67 ok_X8_isFlood okV_X8_isFlood rfl (zroom_eL (by decide) (by decide) (Nat.le_refl _)) (Nat.le_of_ble_eq_true rfl) (Nat.le_refl _) rfl ?_
  refine Ev_mono (p_isFlood (Q := fun v1 v2 d2 => v1 = v2 ∧ J d2) hJ r1 (fun v d2 h => ⟨rfl, h⟩)) (fun v1 d1 h => ?_)
  refine z_aloadR_n (i := 2) dL_law_543 rfl rfl ?_
  refine z_aloadX_n (i := 0) dL_law_544 rfl rfl ?_
  refine z_iload_n (i := 3) dL_law_545 rfl rfl ?_
  refine z_iconst dL_law_546 ?_
  refine z_iadd dL_law_547 ?_
  refine z_sld dL_law_548 ⟨by omega, by omega⟩ hN ?_
  rw [show (gxs g (i + 1).toNat).toInt = a1 from e1]
  refine z_callVi (k' := M_X9_isFlood) (φ' := FUL) (As := [zI a1]) (st := [zI v1]) dL_law_549 rfl ly_153 (by decide) rfl (show 153 < 166 by decide) wm_L_70 ok_X9_isFlood okV_X9_isFlood rfl (zroom_eL (by decide) (by decide) (Nat.le_refl _)) (Nat.le_of_ble_eq_true rfl) (Nat.le_refl _) rfl (Ev_mono h (fun v2 d2 hh => ?_))
  obtain ⟨rfl, hJ2⟩ := hh
  exact z_icmp_self (tgt := 784) dL_law_552 (by decide) (next d2 hJ2)
set_option maxRecDepth 20000 in
theorem lc_ifPassed {g : zGG} {nm : String} {d : zMem} {i : Int} (hN : gN g < 2 ^ 31) (hi : 0 ≤ i ∧ i + 3 < gN g) (hJ : J d) (next : ∀ d2, J d2 → Fr g eL (kL nm) FUL 784 [some zX, some (zR 0), some (zR 153), some (zI i)] [] d2) : Fr g eL (kL nm) FUL 557 [some zX, some (zR 0), some (zR 153), some (zI i)] [] d := by
  have tr : ∀ x : Int32, inR x.toInt := fun x => ⟨by have := Int32.le_toInt x; omega, by have := Int32.toInt_lt x; omega⟩
  obtain ⟨a1, e1⟩ : ∃ a, (gxs g (i + 1).toNat).toInt = a := ⟨_, rfl⟩
  have r1 : inR a1 := e1 ▸ tr _
  obtain ⟨a2, e2⟩ : ∃ a, (gxs g (i + 2).toNat).toInt = a := ⟨_, rfl⟩
  have r2 : inR a2 := e2 ▸ tr _
  obtain ⟨a3, e3⟩ : ∃ a, (gxs g (i + 3).toNat).toInt = a := ⟨_, rfl⟩
  have r3 : inR a3 := e3 ▸ tr _
  refine z_aloadR_n (i := 1) dL_law_557 rfl rfl ?_
  refine z_aloadX_n (i := 0) dL_law_558 rfl rfl ?_
  refine z_iload_n (i := 3) dL_law_559 rfl rfl ?_
  refine z_iconst dL_law_560 ?_
  refine z_iadd dL_law_561 ?_
  refine z_sld dL_law_562 ⟨by omega, by omega⟩ hN ?_
  rw [show (gxs g (i + 1).toNat).toInt = a1 from e1]
  refine z_aloadX_n (i := 0) dL_law_563 rfl rfl ?_
  refine z_iload_n (i := 3) dL_law_564 rfl rfl ?_
  refine z_iconst dL_law_565 ?_
  refine z_iadd dL_law_566 ?_
  refine z_sld dL_law_567 ⟨by omega, by omega⟩ hN ?_
  rw [show (gxs g (i + 2).toNat).toInt = a2 from e2]
  refine z_callVi (k' := M_X8_ifPassed) (φ' := FUL) (As := [zI a1, zI a2]) (st := []) dL_law_568 rfl ly_0 (by decide) rfl (show 0 < 166 by decide) wm_L_71 ok_X8_ifPassed okV_X8_ifPassed rfl (zroom_eL (by decide) (by decide) (Nat.le_refl _)) (Nat.le_of_ble_eq_true rfl) (Nat.le_refl _) rfl ?_
  refine Ev_mono (p_ifPassed (Q := fun v1 v2 d2 => v1 = v2 ∧ J d2) hJ r1 r2 (fun v d2 h => ⟨rfl, h⟩)) (fun v1 d1 h => ?_)
  refine z_aloadR_n (i := 2) dL_law_571 rfl rfl ?_
  refine z_aloadX_n (i := 0) dL_law_572 rfl rfl ?_
  refine z_iload_n (i := 3) dL_law_573 rfl rfl ?_
  refine z_iconst dL_law_574 ?_
  refine z_iadd dL_law_575 ?_
  refine z_sld dL_law_576 ⟨by omega, by omega⟩ hN ?_
  rw [show (gxs g (i + 1).toNat).toInt = a1 from e1]
  refine z_aloadX_n (i := 0) dL_law_577 rfl rfl ?_
  refine z_iload_n (i := 3) dL_law_578 rfl rfl ?_
  refine z_iconst dL_law_579 ?_
  refine z_iadd dL_law_580 ?_
  refine z_sld dL_law_581 ⟨by omega, by omega⟩ hN ?_
  rw [show (gxs g (i + 2).toNat).toInt = a2 from e2]
  refine z_callVi (k' := M_X9_ifPassed) (φ' := FUL) (As := [zI a1, zI a2]) (st := [zI v1]) dL_law_582 rfl ly_153 (by decide) rfl (show 153 < 166 by decide) wm_L_74 ok_X9_ifPassed okV_X9_ifPassed rfl (zroom_eL (by decide) (by decide) (Nat.le_refl _)) (Nat.le_of_ble_eq_true rfl) (Nat.le_refl _) rfl (Ev_mono h (fun v2 d2 hh => ?_))
  obtain ⟨rfl, hJ2⟩ := hh
  exact z_icmp_self (tgt := 784) dL_law_585 (by decide) (next d2 hJ2)
set_option maxRecDepth 20000 in
theorem lc_nextCut {g : zGG} {nm : String} {d : zMem} {i : Int} (hN : gN g < 2 ^ 31) (hi : 0 ≤ i ∧ i + 3 < gN g) (hJ : J d) (next : ∀ d2, J d2 → Fr g eL (kL nm) FUL 784 [some zX, some (zR 0), some (zR 153), some (zI i)] [] d2) : Fr g eL (kL nm) FUL 590 [some zX, some (zR 0), some (zR 153), some (zI i)] [] d := by
  have tr : ∀ x : Int32, inR x.toInt := fun x => ⟨by have := Int32.le_toInt x; omega, by have := Int32.toInt_lt x; omega⟩
  obtain ⟨a1, e1⟩ : ∃ a, (gxs g (i + 1).toNat).toInt = a := ⟨_, rfl⟩
  have r1 : inR a1 := e1 ▸ tr _
  obtain ⟨a2, e2⟩ : ∃ a, (gxs g (i + 2).toNat).toInt = a := ⟨_, rfl⟩
  have r2 : inR a2 := e2 ▸ tr _
  obtain ⟨a3, e3⟩ : ∃ a, (gxs g (i + 3).toNat).toInt = a := ⟨_, rfl⟩
  have r3 : inR a3 := e3 ▸ tr _
  refine z_aloadR_n (i := 1) dL_law_590 rfl rfl ?_
  refine z_aloadX_n (i := 0) dL_law_591 rfl rfl ?_
  refine z_iload_n (i := 3) dL_law_592 rfl rfl ?_
  refine z_iconst dL_law_593 ?_
  refine z_iadd dL_law_594 ?_
  refine z_sld dL_law_595 ⟨by omega, by omega⟩ hN ?_
  rw [show (gxs g (i + 1).toNat).toInt = a1 from e1]
  refine z_callVi (k' := M_X8_nextCut) (φ' := FUL) (As := [zI a1]) (st := []) dL_law_596 rfl ly_0 (by decide) rfl (show 0 < 166 by decide) wm_L_75 ok_X8_nextCut okV_X8_nextCut rfl (zroom_eL (by decide) (by decide) (Nat.le_refl _)) (Nat.le_of_ble_eq_true rfl) (Nat.le_refl _) rfl ?_
  refine Ev_mono (p_nextCut (Q := fun v1 v2 d2 => v1 = v2 ∧ J d2) hJ r1 (fun v d2 h => ⟨rfl, h⟩)) (fun v1 d1 h => ?_)
  refine z_aloadR_n (i := 2) dL_law_599 rfl rfl ?_
  refine z_aloadX_n (i := 0) dL_law_600 rfl rfl ?_
  refine z_iload_n (i := 3) dL_law_601 rfl rfl ?_
  refine z_iconst dL_law_602 ?_
  refine z_iadd dL_law_603 ?_
  refine z_sld dL_law_604 ⟨by omega, by omega⟩ hN ?_
  rw [show (gxs g (i + 1).toNat).toInt = a1 from e1]
  refine z_callVi (k' := M_X9_nextCut) (φ' := FUL) (As := [zI a1]) (st := [zI v1]) dL_law_605 rfl ly_153 (by decide) rfl (show 153 < 166 by decide) wm_L_78 ok_X9_nextCut okV_X9_nextCut rfl (zroom_eL (by decide) (by decide) (Nat.le_refl _)) (Nat.le_of_ble_eq_true rfl) (Nat.le_refl _) rfl (Ev_mono h (fun v2 d2 hh => ?_))
  obtain ⟨rfl, hJ2⟩ := hh
  exact z_icmp_self (tgt := 784) dL_law_608 (by decide) (next d2 hJ2)
set_option maxRecDepth 20000 in
theorem lc_taken {g : zGG} {nm : String} {d : zMem} {i : Int} (hN : gN g < 2 ^ 31) (hi : 0 ≤ i ∧ i + 3 < gN g) (hJ : J d) (next : ∀ d2, J d2 → Fr g eL (kL nm) FUL 784 [some zX, some (zR 0), some (zR 153), some (zI i)] [] d2) : Fr g eL (kL nm) FUL 613 [some zX, some (zR 0), some (zR 153), some (zI i)] [] d := by
  have tr : ∀ x : Int32, inR x.toInt := fun x => ⟨by have := Int32.le_toInt x; omega, by have := Int32.toInt_lt x; omega⟩
  obtain ⟨a1, e1⟩ : ∃ a, (gxs g (i + 1).toNat).toInt = a := ⟨_, rfl⟩
  have r1 : inR a1 := e1 ▸ tr _
  obtain ⟨a2, e2⟩ : ∃ a, (gxs g (i + 2).toNat).toInt = a := ⟨_, rfl⟩
  have r2 : inR a2 := e2 ▸ tr _
  obtain ⟨a3, e3⟩ : ∃ a, (gxs g (i + 3).toNat).toInt = a := ⟨_, rfl⟩
  have r3 : inR a3 := e3 ▸ tr _
  refine z_aloadR_n (i := 1) dL_law_613 rfl rfl ?_
  refine z_aloadX_n (i := 0) dL_law_614 rfl rfl ?_
  refine z_iload_n (i := 3) dL_law_615 rfl rfl ?_
  refine z_iconst dL_law_616 ?_
  refine z_iadd dL_law_617 ?_
  refine z_sld dL_law_618 ⟨by omega, by omega⟩ hN ?_
  rw [show (gxs g (i + 1).toNat).toInt = a1 from e1]
  refine z_aloadX_n (i := 0) dL_law_619 rfl rfl ?_
  refine z_iload_n (i := 3) dL_law_620 rfl rfl ?_
  refine z_iconst dL_law_621 ?_
  refine z_iadd dL_law_622 ?_
  refine z_sld dL_law_623 ⟨by omega, by omega⟩ hN ?_
  rw [show (gxs g (i + 2).toNat).toInt = a2 from e2]
  refine z_callVi (k' := M_X8_taken) (φ' := FUL) (As := [zI a1, zI a2]) (st := []) dL_law_624 rfl ly_0 (by decide) rfl (show 0 < 166 by decide) wm_L_79 ok_X8_taken okV_X8_taken rfl (zroom_eL (by decide) (by decide) (Nat.le_refl _)) (Nat.le_of_ble_eq_true rfl) (Nat.le_refl _) rfl ?_
  refine Ev_mono (p_taken (Q := fun v1 v2 d2 => v1 = v2 ∧ J d2) hJ r1 r2 (fun v d2 h => ⟨rfl, h⟩)) (fun v1 d1 h => ?_)
  refine z_aloadR_n (i := 2) dL_law_627 rfl rfl ?_
  refine z_aloadX_n (i := 0) dL_law_628 rfl rfl ?_
  refine z_iload_n (i := 3) dL_law_629 rfl rfl ?_
  refine z_iconst dL_law_630 ?_
  refine z_iadd dL_law_631 ?_
  refine z_sld dL_law_632 ⟨by omega, by omega⟩ hN ?_
  rw [show (gxs g (i + 1).toNat).toInt = a1 from e1]
  refine z_aloadX_n (i := 0) dL_law_633 rfl rfl ?_
  refine z_iload_n (i := 3) dL_law_634 rfl rfl ?_
  refine z_iconst dL_law_635 ?_
  refine z_iadd dL_law_636 ?_
  refine z_sld dL_law_637 ⟨by omega, by omega⟩ hN ?_
  rw [show (gxs g (i + 2).toNat).toInt = a2 from e2]
  refine z_callVi (k' := M_X9_taken) (φ' := FUL) (As := [zI a1, zI a2]) (st := [zI v1]) dL_law_638 rfl ly_153 (by decide) rfl (show 153 < 166 by decide) wm_L_82 ok_X9_taken okV_X9_taken rfl (zroom_eL (by decide) (by decide) (Nat.le_refl _)) (Nat.le_of_ble_eq_true rfl) (Nat.le_refl _) rfl (Ev_mono h (fun v2 d2 hh => ?_))
  obtain ⟨rfl, hJ2⟩ := hh
  exact z_icmp_self (tgt := 784) dL_law_641 (by decide) (next d2 hJ2)
set_option maxRecDepth 20000 in
theorem lc_put {g : zGG} {nm : String} {d : zMem} {i : Int} (hN : gN g < 2 ^ 31) (hi : 0 ≤ i ∧ i + 3 < gN g) (hJ : J d) (next : ∀ d2, J d2 → Fr g eL (kL nm) FUL 784 [some zX, some (zR 0), some (zR 153), some (zI i)] [] d2) : Fr g eL (kL nm) FUL 646 [some zX, some (zR 0), some (zR 153), some (zI i)] [] d := by
  have tr : ∀ x : Int32, inR x.toInt := fun x => ⟨by have := Int32.le_toInt x; omega, by have := Int32.toInt_lt x; omega⟩
  obtain ⟨a1, e1⟩ : ∃ a, (gxs g (i + 1).toNat).toInt = a := ⟨_, rfl⟩
  have r1 : inR a1 := e1 ▸ tr _
  obtain ⟨a2, e2⟩ : ∃ a, (gxs g (i + 2).toNat).toInt = a := ⟨_, rfl⟩
  have r2 : inR a2 := e2 ▸ tr _
  obtain ⟨a3, e3⟩ : ∃ a, (gxs g (i + 3).toNat).toInt = a := ⟨_, rfl⟩
  have r3 : inR a3 := e3 ▸ tr _
  obtain ⟨l1, hl1, h1⟩ := ex64 (Int64.ofInt a1 <<< ((Int32.ofInt 32).toInt64 &&& 63))
  obtain ⟨l2, hl2, h2⟩ := ex64 (Int64.ofInt a2 &&& Int64.ofInt 4294967295)
  obtain ⟨l3, hl3, h3⟩ := ex64 (Int64.ofInt l1 ||| Int64.ofInt l2)
  refine z_aloadR_n (i := 1) dL_law_646 rfl rfl ?_
  refine z_aloadX_n (i := 0) dL_law_647 rfl rfl ?_
  refine z_iload_n (i := 3) dL_law_648 rfl rfl ?_
  refine z_iconst dL_law_649 ?_
  refine z_iadd dL_law_650 ?_
  refine z_sld dL_law_651 ⟨by omega, by omega⟩ hN ?_
  rw [show (gxs g (i + 1).toNat).toInt = a1 from e1]
  refine z_i2l r1 dL_law_652 ?_
  refine z_bipush dL_law_653 (by decide +kernel) ?_
  refine z_lshl32 (r := l1) h1 dL_law_655 ?_
  refine z_aloadX_n (i := 0) dL_law_656 rfl rfl ?_
  refine z_iload_n (i := 3) dL_law_657 rfl rfl ?_
  refine z_iconst dL_law_658 ?_
  refine z_iadd dL_law_659 ?_
  refine z_sld dL_law_660 ⟨by omega, by omega⟩ hN ?_
  rw [show (gxs g (i + 2).toNat).toInt = a2 from e2]
  refine z_i2l r2 dL_law_661 ?_
  refine z_ldc2 (n := 4294967295) (v := 4294967295) (by decide +kernel) wl_L_83 dL_law_662 ?_
  refine z_land (r := l2) h2 dL_law_665 ?_
  refine z_lor (r := l3) h3 dL_law_666 ?_
  refine z_callVi (k' := M_X8_put) (φ' := FUL) (As := [zL l3]) (st := []) dL_law_667 rfl ly_0 (by decide) rfl (show 0 < 166 by decide) wm_L_85 ok_X8_put okV_X8_put rfl (zroom_eL (by decide) (by decide) (Nat.le_refl _)) (Nat.le_of_ble_eq_true rfl) (Nat.le_refl _) rfl ?_
  refine Ev_mono (p_put (Q := fun v1 v2 d2 => v1 = v2 ∧ J d2) hJ hl3 (fun v d2 h => ⟨rfl, h⟩)) (fun v1 d1 h => ?_)
  refine z_aloadR_n (i := 2) dL_law_670 rfl rfl ?_
  refine z_aloadX_n (i := 0) dL_law_671 rfl rfl ?_
  refine z_iload_n (i := 3) dL_law_672 rfl rfl ?_
  refine z_iconst dL_law_673 ?_
  refine z_iadd dL_law_674 ?_
  refine z_sld dL_law_675 ⟨by omega, by omega⟩ hN ?_
  rw [show (gxs g (i + 1).toNat).toInt = a1 from e1]
  refine z_i2l r1 dL_law_676 ?_
  refine z_bipush dL_law_677 (by decide +kernel) ?_
  refine z_lshl32 (r := l1) h1 dL_law_679 ?_
  refine z_aloadX_n (i := 0) dL_law_680 rfl rfl ?_
  refine z_iload_n (i := 3) dL_law_681 rfl rfl ?_
  refine z_iconst dL_law_682 ?_
  refine z_iadd dL_law_683 ?_
  refine z_sld dL_law_684 ⟨by omega, by omega⟩ hN ?_
  rw [show (gxs g (i + 2).toNat).toInt = a2 from e2]
  refine z_i2l r2 dL_law_685 ?_
  refine z_ldc2 (n := 4294967295) (v := 4294967295) (by decide +kernel) wl_L_83 dL_law_686 ?_
  refine z_land (r := l2) h2 dL_law_689 ?_
  refine z_lor (r := l3) h3 dL_law_690 ?_
  refine z_callVi (k' := M_X9_put) (φ' := FUL) (As := [zL l3]) (st := [zI v1]) dL_law_691 rfl ly_153 (by decide) rfl (show 153 < 166 by decide) wm_L_89 ok_X9_put okV_X9_put rfl (zroom_eL (by decide) (by decide) (Nat.le_refl _)) (Nat.le_of_ble_eq_true rfl) (Nat.le_refl _) rfl (Ev_mono h (fun v2 d2 hh => ?_))
  obtain ⟨rfl, hJ2⟩ := hh
  exact z_icmp_self (tgt := 784) dL_law_694 (by decide) (next d2 hJ2)
set_option maxRecDepth 20000 in
theorem lc_wipe {g : zGG} {nm : String} {d : zMem} {i : Int} (hN : gN g < 2 ^ 31) (hi : 0 ≤ i ∧ i + 3 < gN g) (hJ : J d) (next : ∀ d2, J d2 → Fr g eL (kL nm) FUL 784 [some zX, some (zR 0), some (zR 153), some (zI i)] [] d2) : Fr g eL (kL nm) FUL 699 [some zX, some (zR 0), some (zR 153), some (zI i)] [] d := by
  have tr : ∀ x : Int32, inR x.toInt := fun x => ⟨by have := Int32.le_toInt x; omega, by have := Int32.toInt_lt x; omega⟩
  obtain ⟨a1, e1⟩ : ∃ a, (gxs g (i + 1).toNat).toInt = a := ⟨_, rfl⟩
  have r1 : inR a1 := e1 ▸ tr _
  obtain ⟨a2, e2⟩ : ∃ a, (gxs g (i + 2).toNat).toInt = a := ⟨_, rfl⟩
  have r2 : inR a2 := e2 ▸ tr _
  obtain ⟨a3, e3⟩ : ∃ a, (gxs g (i + 3).toNat).toInt = a := ⟨_, rfl⟩
  have r3 : inR a3 := e3 ▸ tr _
  refine z_aloadR_n (i := 1) dL_law_699 rfl rfl ?_
  refine z_callVi (k' := M_X8_wipe) (φ' := FUL) (As := []) (st := []) dL_law_700 rfl ly_0 (by decide) rfl (show 0 < 166 by decide) wm_L_90 ok_X8_wipe okV_X8_wipe rfl (zroom_eL (by decide) (by decide) (Nat.le_refl _)) (Nat.le_of_ble_eq_true rfl) (Nat.le_refl _) rfl ?_
  refine Ev_mono (p_wipe (Q := fun v1 v2 d2 => v1 = v2 ∧ J d2) hJ  (fun v d2 h => ⟨rfl, h⟩)) (fun v1 d1 h => ?_)
  refine z_aloadR_n (i := 2) dL_law_703 rfl rfl ?_
  refine z_callVi (k' := M_X9_wipe) (φ' := FUL) (As := []) (st := [zI v1]) dL_law_704 rfl ly_153 (by decide) rfl (show 153 < 166 by decide) wm_L_93 ok_X9_wipe okV_X9_wipe rfl (zroom_eL (by decide) (by decide) (Nat.le_refl _)) (Nat.le_of_ble_eq_true rfl) (Nat.le_refl _) rfl (Ev_mono h (fun v2 d2 hh => ?_))
  obtain ⟨rfl, hJ2⟩ := hh
  exact z_icmp_self (tgt := 784) dL_law_707 (by decide) (next d2 hJ2)
set_option maxRecDepth 20000 in
theorem lc_fault {g : zGG} {nm : String} {d : zMem} {i : Int} (hN : gN g < 2 ^ 31) (hi : 0 ≤ i ∧ i + 3 < gN g) (hJ : J d) (next : ∀ d2, J d2 → Fr g eL (kL nm) FUL 784 [some zX, some (zR 0), some (zR 153), some (zI i)] [] d2) : Fr g eL (kL nm) FUL 712 [some zX, some (zR 0), some (zR 153), some (zI i)] [] d := by
  have tr : ∀ x : Int32, inR x.toInt := fun x => ⟨by have := Int32.le_toInt x; omega, by have := Int32.toInt_lt x; omega⟩
  obtain ⟨a1, e1⟩ : ∃ a, (gxs g (i + 1).toNat).toInt = a := ⟨_, rfl⟩
  have r1 : inR a1 := e1 ▸ tr _
  obtain ⟨a2, e2⟩ : ∃ a, (gxs g (i + 2).toNat).toInt = a := ⟨_, rfl⟩
  have r2 : inR a2 := e2 ▸ tr _
  obtain ⟨a3, e3⟩ : ∃ a, (gxs g (i + 3).toNat).toInt = a := ⟨_, rfl⟩
  have r3 : inR a3 := e3 ▸ tr _
  refine z_aloadR_n (i := 1) dL_law_712 rfl rfl ?_
  refine z_callVi (k' := M_X8_fault) (φ' := FUL) (As := []) (st := []) dL_law_713 rfl ly_0 (by decide) rfl (show 0 < 166 by decide) wm_L_94 ok_X8_fault okV_X8_fault rfl (zroom_eL (by decide) (by decide) (Nat.le_refl _)) (Nat.le_of_ble_eq_true rfl) (Nat.le_refl _) rfl ?_
  refine Ev_mono (p_fault (Q := fun v1 v2 d2 => v1 = v2 ∧ J d2) hJ  (fun v d2 h => ⟨rfl, h⟩)) (fun v1 d1 h => ?_)
  refine z_aloadR_n (i := 2) dL_law_716 rfl rfl ?_
  refine z_callVi (k' := M_X9_fault) (φ' := FUL) (As := []) (st := [zI v1]) dL_law_717 rfl ly_153 (by decide) rfl (show 153 < 166 by decide) wm_L_97 ok_X9_fault okV_X9_fault rfl (zroom_eL (by decide) (by decide) (Nat.le_refl _)) (Nat.le_of_ble_eq_true rfl) (Nat.le_refl _) rfl (Ev_mono h (fun v2 d2 hh => ?_))
  obtain ⟨rfl, hJ2⟩ := hh
  exact z_icmp_self (tgt := 784) dL_law_720 (by decide) (next d2 hJ2)
set_option maxRecDepth 20000 in
theorem lc_undo {g : zGG} {nm : String} {d : zMem} {i : Int} (hN : gN g < 2 ^ 31) (hi : 0 ≤ i ∧ i + 3 < gN g) (hJ : J d) (next : ∀ d2, J d2 → Fr g eL (kL nm) FUL 784 [some zX, some (zR 0), some (zR 153), some (zI i)] [] d2) : Fr g eL (kL nm) FUL 725 [some zX, some (zR 0), some (zR 153), some (zI i)] [] d := by
  have tr : ∀ x : Int32, inR x.toInt := fun x => ⟨by have := Int32.le_toInt x; omega, by have := Int32.toInt_lt x; omega⟩
  obtain ⟨a1, e1⟩ : ∃ a, (gxs g (i + 1).toNat).toInt = a := ⟨_, rfl⟩
  have r1 : inR a1 := e1 ▸ tr _
  obtain ⟨a2, e2⟩ : ∃ a, (gxs g (i + 2).toNat).toInt = a := ⟨_, rfl⟩
  have r2 : inR a2 := e2 ▸ tr _
  obtain ⟨a3, e3⟩ : ∃ a, (gxs g (i + 3).toNat).toInt = a := ⟨_, rfl⟩
  have r3 : inR a3 := e3 ▸ tr _
  refine z_aloadR_n (i := 1) dL_law_725 rfl rfl ?_
  refine z_callVi (k' := M_X8_undo) (φ' := FUL) (As := []) (st := []) dL_law_726 rfl ly_0 (by decide) rfl (show 0 < 166 by decide) wm_L_98 ok_X8_undo okV_X8_undo rfl (zroom_eL (by decide) (by decide) (Nat.le_refl _)) (Nat.le_of_ble_eq_true rfl) (Nat.le_refl _) rfl ?_
  refine Ev_mono (p_undo (Q := fun v1 v2 d2 => v1 = v2 ∧ J d2) hJ  (fun v d2 h => ⟨rfl, h⟩)) (fun v1 d1 h => ?_)
  refine z_aloadR_n (i := 2) dL_law_729 rfl rfl ?_
  refine z_callVi (k' := M_X9_undo) (φ' := FUL) (As := []) (st := [zI v1]) dL_law_730 rfl ly_153 (by decide) rfl (show 153 < 166 by decide) wm_L_101 ok_X9_undo okV_X9_undo rfl (zroom_eL (by decide) (by decide) (Nat.le_refl _)) (Nat.le_of_ble_eq_true rfl) (Nat.le_refl _) rfl (Ev_mono h (fun v2 d2 hh => ?_))
  obtain ⟨rfl, hJ2⟩ := hh
  exact z_icmp_self (tgt := 784) dL_law_733 (by decide) (next d2 hJ2)
set_option maxRecDepth 20000 in
theorem lc_save {g : zGG} {nm : String} {d : zMem} {i : Int} (hN : gN g < 2 ^ 31) (hi : 0 ≤ i ∧ i + 3 < gN g) (hJ : J d) (next : ∀ d2, J d2 → Fr g eL (kL nm) FUL 784 [some zX, some (zR 0), some (zR 153), some (zI i)] [] d2) : Fr g eL (kL nm) FUL 738 [some zX, some (zR 0), some (zR 153), some (zI i)] [] d := by
  have tr : ∀ x : Int32, inR x.toInt := fun x => ⟨by have := Int32.le_toInt x; omega, by have := Int32.toInt_lt x; omega⟩
  obtain ⟨a1, e1⟩ : ∃ a, (gxs g (i + 1).toNat).toInt = a := ⟨_, rfl⟩
  have r1 : inR a1 := e1 ▸ tr _
  obtain ⟨a2, e2⟩ : ∃ a, (gxs g (i + 2).toNat).toInt = a := ⟨_, rfl⟩
  have r2 : inR a2 := e2 ▸ tr _
  obtain ⟨a3, e3⟩ : ∃ a, (gxs g (i + 3).toNat).toInt = a := ⟨_, rfl⟩
  have r3 : inR a3 := e3 ▸ tr _
  refine z_aloadR_n (i := 1) dL_law_738 rfl rfl ?_
  refine z_aloadX_n (i := 0) dL_law_739 rfl rfl ?_
  refine z_iload_n (i := 3) dL_law_740 rfl rfl ?_
  refine z_iconst dL_law_741 ?_
  refine z_iadd dL_law_742 ?_
  refine z_sld dL_law_743 ⟨by omega, by omega⟩ hN ?_
  rw [show (gxs g (i + 1).toNat).toInt = a1 from e1]
  refine z_callVi (k' := M_X8_save) (φ' := FUL) (As := [zI a1]) (st := []) dL_law_744 rfl ly_0 (by decide) rfl (show 0 < 166 by decide) wm_L_102 ok_X8_save okV_X8_save rfl (zroom_eL (by decide) (by decide) (Nat.le_refl _)) (Nat.le_of_ble_eq_true rfl) (Nat.le_refl _) rfl ?_
  refine Ev_mono (p_save (Q := fun v1 v2 d2 => v1 = v2 ∧ J d2) hJ r1 (fun v d2 h => ⟨rfl, h⟩)) (fun v1 d1 h => ?_)
  refine z_aloadR_n (i := 2) dL_law_747 rfl rfl ?_
  refine z_aloadX_n (i := 0) dL_law_748 rfl rfl ?_
  refine z_iload_n (i := 3) dL_law_749 rfl rfl ?_
  refine z_iconst dL_law_750 ?_
  refine z_iadd dL_law_751 ?_
  refine z_sld dL_law_752 ⟨by omega, by omega⟩ hN ?_
  rw [show (gxs g (i + 1).toNat).toInt = a1 from e1]
  refine z_callVi (k' := M_X9_save) (φ' := FUL) (As := [zI a1]) (st := [zI v1]) dL_law_753 rfl ly_153 (by decide) rfl (show 153 < 166 by decide) wm_L_105 ok_X9_save okV_X9_save rfl (zroom_eL (by decide) (by decide) (Nat.le_refl _)) (Nat.le_of_ble_eq_true rfl) (Nat.le_refl _) rfl (Ev_mono h (fun v2 d2 hh => ?_))
  obtain ⟨rfl, hJ2⟩ := hh
  exact z_icmp_self (tgt := 784) dL_law_756 (by decide) (next d2 hJ2)
set_option maxRecDepth 20000 in
theorem lc_restore {g : zGG} {nm : String} {d : zMem} {i : Int} (hN : gN g < 2 ^ 31) (hi : 0 ≤ i ∧ i + 3 < gN g) (hJ : J d) (next : ∀ d2, J d2 → Fr g eL (kL nm) FUL 784 [some zX, some (zR 0), some (zR 153), some (zI i)] [] d2) : Fr g eL (kL nm) FUL 761 [some zX, some (zR 0), some (zR 153), some (zI i)] [] d := by
  have tr : ∀ x : Int32, inR x.toInt := fun x => ⟨by have := Int32.le_toInt x; omega, by have := Int32.toInt_lt x; omega⟩
  obtain ⟨a1, e1⟩ : ∃ a, (gxs g (i + 1).toNat).toInt = a := ⟨_, rfl⟩
  have r1 : inR a1 := e1 ▸ tr _
  obtain ⟨a2, e2⟩ : ∃ a, (gxs g (i + 2).toNat).toInt = a := ⟨_, rfl⟩
  have r2 : inR a2 := e2 ▸ tr _
  obtain ⟨a3, e3⟩ : ∃ a, (gxs g (i + 3).toNat).toInt = a := ⟨_, rfl⟩
  have r3 : inR a3 := e3 ▸ tr _
  refine z_aloadR_n (i := 1) dL_law_761 rfl rfl ?_
  refine z_aloadX_n (i := 0) dL_law_762 rfl rfl ?_
  refine z_iload_n (i := 3) dL_law_763 rfl rfl ?_
  refine z_iconst dL_law_764 ?_
  refine z_iadd dL_law_765 ?_
  refine z_sld dL_law_766 ⟨by omega, by omega⟩ hN ?_
  rw [show (gxs g (i + 1).toNat).toInt = a1 from e1]
  refine z_callVi (k' := M_X8_restore) (φ' := FUL) (As := [zI a1]) (st := []) dL_law_767 rfl ly_0 (by decide) rfl (show 0 < 166 by decide) wm_L_106 ok_X8_restore okV_X8_restore rfl (zroom_eL (by decide) (by decide) (Nat.le_refl _)) (Nat.le_of_ble_eq_true rfl) (Nat.le_refl _) rfl ?_
  refine Ev_mono (p_restore (Q := fun v1 v2 d2 => v1 = v2 ∧ J d2) hJ r1 (fun v d2 h => ⟨rfl, h⟩)) (fun v1 d1 h => ?_)
  refine z_aloadR_n (i := 2) dL_law_770 rfl rfl ?_
  refine z_aloadX_n (i := 0) dL_law_771 rfl rfl ?_
  refine z_iload_n (i := 3) dL_law_772 rfl rfl ?_
  refine z_iconst dL_law_773 ?_
  refine z_iadd dL_law_774 ?_
  refine z_sld dL_law_775 ⟨by omega, by omega⟩ hN ?_
  rw [show (gxs g (i + 1).toNat).toInt = a1 from e1]
  refine z_callVi (k' := M_X9_restore) (φ' := FUL) (As := [zI a1]) (st := [zI v1]) dL_law_776 rfl ly_153 (by decide) rfl (show 153 < 166 by decide) wm_L_109 ok_X9_restore okV_X9_restore rfl (zroom_eL (by decide) (by decide) (Nat.le_refl _)) (Nat.le_of_ble_eq_true rfl) (Nat.le_refl _) rfl (Ev_mono h (fun v2 d2 hh => ?_))
  obtain ⟨rfl, hJ2⟩ := hh
  exact z_icmp_self (tgt := 784) dL_law_779 (by decide) (next d2 hJ2)
set_option maxRecDepth 20000 in
theorem l_law {g : zGG} {nm : String} (hN : gN g ≤ 2048) : ∀ (n : Nat) (i : Int) (d : zMem), 3000 - i ≤ n → 0 ≤ i → i ≤ 2100 → J d → Fr g eL (kL nm) FUL 18 [some zX, some (zR 0), some (zR 153), some (zI i)] [] d := by
  intro n
  induction n with
  | zero => intro i d hn hi hi2; omega
  | succ n ih =>
    intro i d hn hi hi2 hJ
    refine z_iload_n (i := 3) dL_law_18 rfl rfl ?_
    refine z_aloadX_n (i := 0) dL_law_19 rfl rfl ?_
    refine z_slen dL_law_20 ?_
    refine z_iconst dL_law_21 ?_
    refine z_isub dL_law_22 ?_
    refine zb_icmp_gt (tgt := 790) dL_law_23 (by decide) ⟨⟨by omega, by omega⟩, ⟨by omega, by omega⟩⟩ ⟨fun _ => ?_, fun q => ?_⟩
    · refine z_iconst dL_law_790 ?_
      exact zlaw_end (Nat.le_refl _) dL_law_791
    · have hN31 : gN g < 2 ^ 31 := by omega
      have next : ∀ d2, J d2 → Fr g eL (kL nm) FUL 784 [some zX, some (zR 0), some (zR 153), some (zI i)] [] d2 := by
        intro d2 hJ2
        refine z_iinc (i := 3) (ls2 := [some zX, some (zR 0), some (zR 153), some (zI (i + 4))]) dL_law_784 (show 3 < 4 by decide) rfl rfl ?_
        refine z_goto (tgt := 18) dL_law_787 (by decide) ?_
        exact ih (i + 4) d2 (by omega) (by omega) (by omega) hJ2
      refine z_aloadX_n (i := 0) dL_law_26 rfl rfl ?_
      refine z_iload_n (i := 3) dL_law_27 rfl rfl ?_
      refine z_sld dL_law_28 ⟨by omega, by omega⟩ hN31 ?_
      refine z_bipush dL_law_29 (by decide +kernel) ?_
      refine z_iand31 dL_law_31 (fun r hr0 hr1 => ?_)
      have hr : inR r := ⟨by omega, by omega⟩
      rcases (show (r < 0 ∨ 21 < r) ∨ r = 0 ∨ r = 1 ∨ r = 2 ∨ r = 3 ∨ r = 4 ∨ r = 5 ∨ r = 6 ∨ r = 7 ∨ r = 8 ∨ r = 9 ∨ r = 10 ∨ r = 11 ∨ r = 12 ∨ r = 13 ∨ r = 14 ∨ r = 15 ∨ r = 16 ∨ r = 17 ∨ r = 18 ∨ r = 19 ∨ r = 20 ∨ r = 21 by omega) with c | c | c | c | c | c | c | c | c | c | c | c | c | c | c | c | c | c | c | c | c | c | c
      · refine z_tsOut (tgt := 784) dL_law_32 (by decide) hr c ?_
        exact next d hJ
      · refine z_tsCase 0 (off := 104) (tgt := 136) dL_law_32 rfl (by decide) (by decide) c ?_
        exact lc_set hN31 ⟨hi, by omega⟩ hJ next
      · refine z_tsCase 1 (off := 137) (tgt := 169) dL_law_32 rfl (by decide) (by decide) c ?_
        exact lc_read hN31 ⟨hi, by omega⟩ hJ next
      · refine z_tsCase 2 (off := 150) (tgt := 182) dL_law_32 rfl (by decide) (by decide) c ?_
        exact lc_dike hN31 ⟨hi, by omega⟩ hJ next
      · refine z_tsCase 3 (off := 209) (tgt := 241) dL_law_32 rfl (by decide) (by decide) c ?_
        exact lc_flood hN31 ⟨hi, by omega⟩ hJ next
      · refine z_tsCase 4 (off := 258) (tgt := 290) dL_law_32 rfl (by decide) (by decide) c ?_
        exact lc_cut hN31 ⟨hi, by omega⟩ hJ next
      · refine z_tsCase 5 (off := 281) (tgt := 313) dL_law_32 rfl (by decide) (by decide) c ?_
        exact lc_pass hN31 ⟨hi, by omega⟩ hJ next
      · refine z_tsCase 6 (off := 304) (tgt := 336) dL_law_32 rfl (by decide) (by decide) c ?_
        exact lc_cell hN31 ⟨hi, by omega⟩ hJ next
      · refine z_tsCase 7 (off := 347) (tgt := 379) dL_law_32 rfl (by decide) (by decide) c ?_
        exact lc_course hN31 ⟨hi, by omega⟩ hJ next
      · refine z_tsCase 8 (off := 380) (tgt := 412) dL_law_32 rfl (by decide) (by decide) c ?_
        exact lc_bend hN31 ⟨hi, by omega⟩ hJ next
      · refine z_tsCase 9 (off := 413) (tgt := 445) dL_law_32 rfl (by decide) (by decide) c ?_
        exact lc_neck hN31 ⟨hi, by omega⟩ hJ next
      · refine z_tsCase 10 (off := 446) (tgt := 478) dL_law_32 rfl (by decide) (by decide) c ?_
        exact lc_oxbow hN31 ⟨hi, by omega⟩ hJ next
      · refine z_tsCase 11 (off := 479) (tgt := 511) dL_law_32 rfl (by decide) (by decide) c ?_
        exact lc_count hN31 ⟨hi, by omega⟩ hJ next
      · refine z_tsCase 12 (off := 502) (tgt := 534) dL_law_32 rfl (by decide) (by decide) c ?_
        exact lc_isFlood hN31 ⟨hi, by omega⟩ hJ next
      · refine z_tsCase 13 (off := 525) (tgt := 557) dL_law_32 rfl (by decide) (by decide) c ?_
        exact lc_ifPassed hN31 ⟨hi, by omega⟩ hJ next
      · refine z_tsCase 14 (off := 558) (tgt := 590) dL_law_32 rfl (by decide) (by decide) c ?_
        exact lc_nextCut hN31 ⟨hi, by omega⟩ hJ next
      · refine z_tsCase 15 (off := 581) (tgt := 613) dL_law_32 rfl (by decide) (by decide) c ?_
        exact lc_taken hN31 ⟨hi, by omega⟩ hJ next
      · refine z_tsCase 16 (off := 614) (tgt := 646) dL_law_32 rfl (by decide) (by decide) c ?_
        exact lc_put hN31 ⟨hi, by omega⟩ hJ next
      · refine z_tsCase 17 (off := 667) (tgt := 699) dL_law_32 rfl (by decide) (by decide) c ?_
        exact lc_wipe hN31 ⟨hi, by omega⟩ hJ next
      · refine z_tsCase 18 (off := 680) (tgt := 712) dL_law_32 rfl (by decide) (by decide) c ?_
        exact lc_fault hN31 ⟨hi, by omega⟩ hJ next
      · refine z_tsCase 19 (off := 693) (tgt := 725) dL_law_32 rfl (by decide) (by decide) c ?_
        exact lc_undo hN31 ⟨hi, by omega⟩ hJ next
      · refine z_tsCase 20 (off := 706) (tgt := 738) dL_law_32 rfl (by decide) (by decide) c ?_
        exact lc_save hN31 ⟨hi, by omega⟩ hJ next
      · refine z_tsCase 21 (off := 729) (tgt := 761) dL_law_32 rfl (by decide) (by decide) c ?_
        exact lc_restore hN31 ⟨hi, by omega⟩ hJ next
