/-! CONSTRUCTOR of the model -/
section
variable {O : amO} {K S n u us : Nat} {Q : amP} {ls t : List amV} {hr : amR} {hd : amD}
theorem clr_id {α : Type} {f : Nat → Nat → α} {a : Nat} {z : α} (h : ∀ i, n ≤ i → i ≤ n + a → f i = fun _ => z) : am_clr f n a z = f := by
  funext i
  unfold am_clr
  by_cases c : n ≤ i ∧ i ≤ n + a
  · rw [if_pos c, h i c.1 c.2]
  · rw [if_neg c]
theorem s_oM2 {x y : Int} (hs : am_slen n = 2) (h0 : hr n = fun _ => 0) (h1 : hr (n + 1) = fun _ => 0) (h2 : hr (n + 2) = fun _ => 0) (g0 : hd n = fun _ => 0) (g1 : hd (n + 1) = fun _ => 0) (g2 : hd (n + 2) = fun _ => 0) : wpO am_shp am_slen O K S oM Q ls (vI y :: vI x :: t) hr hd n u us = ((am_shp n = 9 ∧ x = 2 ∧ y = (am_slen (n + 1) : Int) ∧ am_slen (n + 1) < 1000000 ∧ (am_shp (n + 1) = 1 ∧ am_shp (n + 2) = 1 ∧ am_slen (n + 2) = am_slen (n + 1)) ∧ u + 3 ≤ K ∧ us + 2 + 2 * am_slen (n + 1) ≤ S) ∧ Q ls (vR n :: t) (am_up (am_up hr n 0 (n + 1)) n 1 (n + 2)) hd (n + 3) (u + 3) (us + 2 + 2 * am_slen (n + 1))) := by
  have e2 : am_clr hd n 2 0 = hd := clr_id (fun i a b => by
    rcases (by omega : i = n ∨ i = n + 1 ∨ i = n + 2) with rfl | rfl | rfl
    · exact g0
    · exact g1
    · exact g2)
  have e1 : am_row (am_clr hr n 2 0) n (fun j => if j < 2 then n + 1 + j else 0) = am_up (am_up hr n 0 (n + 1)) n 1 (n + 2) := by
    rw [clr_id (fun i a b => by
      rcases (by omega : i = n ∨ i = n + 1 ∨ i = n + 2) with rfl | rfl | rfl
      · exact h0
      · exact h1
      · exact h2)]
    funext i j
    unfold am_row
    by_cases c : i = n
    · rw [if_pos c, up_at, if_pos c, up_at, if_pos c, c, h0]
      show (if j < 2 then n + 1 + j else 0) = if j = 1 then n + 2 else if j = 0 then n + 1 else 0
      by_cases c1 : j = 1
      · rw [if_pos (by omega), if_pos c1]
        omega
      · rw [if_neg c1]
        by_cases c0 : j = 0
        · rw [if_pos (by omega), if_pos c0]
          omega
        · rw [if_neg (by omega), if_neg c0]
    · rw [if_neg c, up_ne c, up_ne c]
  show ((am_shp n = 9 ∧ x = (am_slen n : Int) ∧ am_slen n < 10 ∧ y = (am_slen (n + 1) : Int) ∧ am_slen (n + 1) < 1000000 ∧ (∀ j, j < am_slen n → am_shp (n + 1 + j) = 1 ∧ am_slen (n + 1 + j) = am_slen (n + 1)) ∧ u + 1 + am_slen n ≤ K ∧ us + am_slen n + am_slen n * am_slen (n + 1) ≤ S) ∧ Q ls (vR n :: t) (am_row (am_clr hr n (am_slen n) 0) n (fun j => if j < am_slen n then n + 1 + j else 0)) (am_clr hd n (am_slen n) 0) (n + 1 + am_slen n) (u + 1 + am_slen n) (us + am_slen n + am_slen n * am_slen (n + 1))) = _
  rw [hs, e1, e2]
  apply propext
  constructor
  · rintro ⟨⟨a1, a2, a3, a4, a5, a6, a7, a8⟩, b⟩
    exact ⟨⟨a1, a2, a4, a5, ⟨(a6 0 (by omega)).1, (a6 1 (by omega)).1, (a6 1 (by omega)).2⟩, by omega, by omega⟩, b⟩
  · rintro ⟨⟨a1, a2, a4, a5, ⟨c1, c2, c3⟩, a7, a8⟩, b⟩
    refine ⟨⟨a1, a2, by omega, a4, a5, fun j hj => ?_, by omega, by omega⟩, b⟩
    rcases (by omega : j = 0 ∨ j = 1) with rfl | rfl
    · exact ⟨c1, rfl⟩
    · exact ⟨c2, c3⟩
theorem s_oM3 {x y : Int} (hs : am_slen n = 3) (h0 : hr n = fun _ => 0) (h1 : hr (n + 1) = fun _ => 0) (h2 : hr (n + 2) = fun _ => 0) (h3 : hr (n + 3) = fun _ => 0) (g0 : hd n = fun _ => 0) (g1 : hd (n + 1) = fun _ => 0) (g2 : hd (n + 2) = fun _ => 0) (g3 : hd (n + 3) = fun _ => 0) : wpO am_shp am_slen O K S oM Q ls (vI y :: vI x :: t) hr hd n u us = ((am_shp n = 9 ∧ x = 3 ∧ y = (am_slen (n + 1) : Int) ∧ am_slen (n + 1) < 1000000 ∧ (am_shp (n + 1) = 1 ∧ am_shp (n + 2) = 1 ∧ am_slen (n + 2) = am_slen (n + 1) ∧ am_shp (n + 3) = 1 ∧ am_slen (n + 3) = am_slen (n + 1)) ∧ u + 4 ≤ K ∧ us + 3 + 3 * am_slen (n + 1) ≤ S) ∧ Q ls (vR n :: t) (am_up (am_up (am_up hr n 0 (n + 1)) n 1 (n + 2)) n 2 (n + 3)) hd (n + 4) (u + 4) (us + 3 + 3 * am_slen (n + 1))) := by
  have e2 : am_clr hd n 3 0 = hd := clr_id (fun i a b => by
    rcases (by omega : i = n ∨ i = n + 1 ∨ i = n + 2 ∨ i = n + 3) with rfl | rfl | rfl | rfl
    · exact g0
    · exact g1
    · exact g2
    · exact g3)
  have e1 : am_row (am_clr hr n 3 0) n (fun j => if j < 3 then n + 1 + j else 0) = am_up (am_up (am_up hr n 0 (n + 1)) n 1 (n + 2)) n 2 (n + 3) := by
    rw [clr_id (fun i a b => by
      rcases (by omega : i = n ∨ i = n + 1 ∨ i = n + 2 ∨ i = n + 3) with rfl | rfl | rfl | rfl
      · exact h0
      · exact h1
      · exact h2
      · exact h3)]
    funext i j
    unfold am_row
    by_cases c : i = n
    · rw [if_pos c, up_at, if_pos c, up_at, if_pos c, up_at, if_pos c, c, h0]
      show (if j < 3 then n + 1 + j else 0) = if j = 2 then n + 3 else if j = 1 then n + 2 else if j = 0 then n + 1 else 0
      by_cases c2 : j = 2
      · rw [if_pos (by omega), if_pos c2]
        omega
      · rw [if_neg c2]
        by_cases c1 : j = 1
        · rw [if_pos (by omega), if_pos c1]
          omega
        · rw [if_neg c1]
          by_cases c0 : j = 0
          · rw [if_pos (by omega), if_pos c0]
            omega
          · rw [if_neg (by omega), if_neg c0]
    · rw [if_neg c, up_ne c, up_ne c, up_ne c]
  show ((am_shp n = 9 ∧ x = (am_slen n : Int) ∧ am_slen n < 10 ∧ y = (am_slen (n + 1) : Int) ∧ am_slen (n + 1) < 1000000 ∧ (∀ j, j < am_slen n → am_shp (n + 1 + j) = 1 ∧ am_slen (n + 1 + j) = am_slen (n + 1)) ∧ u + 1 + am_slen n ≤ K ∧ us + am_slen n + am_slen n * am_slen (n + 1) ≤ S) ∧ Q ls (vR n :: t) (am_row (am_clr hr n (am_slen n) 0) n (fun j => if j < am_slen n then n + 1 + j else 0)) (am_clr hd n (am_slen n) 0) (n + 1 + am_slen n) (u + 1 + am_slen n) (us + am_slen n + am_slen n * am_slen (n + 1))) = _
  rw [hs, e1, e2]
  apply propext
  constructor
  · rintro ⟨⟨a1, a2, a3, a4, a5, a6, a7, a8⟩, b⟩
    exact ⟨⟨a1, a2, a4, a5, ⟨(a6 0 (by omega)).1, (a6 1 (by omega)).1, (a6 1 (by omega)).2, (a6 2 (by omega)).1, (a6 2 (by omega)).2⟩, by omega, by omega⟩, b⟩
  · rintro ⟨⟨a1, a2, a4, a5, ⟨c1, c2, c3, c4, c5⟩, a7, a8⟩, b⟩
    refine ⟨⟨a1, a2, by omega, a4, a5, fun j hj => ?_, by omega, by omega⟩, b⟩
    rcases (by omega : j = 0 ∨ j = 1 ∨ j = 2) with rfl | rfl | rfl
    · exact ⟨c1, rfl⟩
    · exact ⟨c2, c3⟩
    · exact ⟨c4, c5⟩
end
section
variable {d : Nat} {Q : amQ} {hr : amR} {hd : amD}
set_option maxRecDepth 100000 in
set_option maxHeartbeats 4000000 in
theorem c_X12_98 (hd9 : 1 ≤ d) (zr : ∀ i, 98 < i → hr i = fun _ => 0) (zd : ∀ i, 98 < i → hd i = fun _ => 0) (h : Q none (am_up (am_up (am_up (am_up (am_up (am_up (am_up (am_up (am_up (am_up (am_up (am_up (am_up (am_up (am_up (am_up (am_up (am_up (am_up (am_up (am_up (am_up (am_up (am_up (am_up (am_up (am_up (am_up (am_up (am_up (am_up (am_up (am_up (am_up (am_up (am_up (am_up (am_up (am_up (am_up (am_up (am_up (am_up (am_up (am_up (am_up (am_up (am_up (am_up (am_up (am_up (am_up (am_up (am_up (am_up (am_up (am_up (am_up (am_up (am_up (am_up (am_up (am_up (am_up (am_up (am_up (am_up hr 98 0 99) 98 1 100) 101 0 102) 101 1 103) 98 7 101) 104 0 105) 104 1 106) 98 8 104) 107 0 108) 107 1 109) 98 9 107) 110 0 111) 110 1 112) 98 10 110) 113 0 114) 113 1 115) 98 11 113) 116 0 117) 116 1 118) 98 12 116) 119 0 120) 119 1 121) 98 13 119) 122 0 123) 122 1 124) 98 14 122) 125 0 126) 125 1 127) 98 15 125) 128 0 129) 128 1 130) 98 16 128) 131 0 132) 131 1 133) 98 17 131) 98 18 134) 135 0 1) 135 1 2) 135 2 3) 135 3 4) 135 4 5) 135 5 6) 135 6 7) 98 22 135) 98 23 136) 98 24 137) 98 25 138) 98 26 139) 98 34 140) 98 35 141) 98 36 142) 98 37 143) 98 42 144) 98 43 145) 98 44 146) 98 45 147) 98 46 148) 98 48 149) 98 49 150) 98 52 151) 98 53 152) 98 54 153) 154 0 155) 154 1 156) 154 2 157) 98 57 154) 98 58 158) (am_up (am_up (am_up hd 98 30 (-1)) 98 31 (-1)) 98 33 (-1)) 159) : wpM d 212 [vR 98] Q hr hd 99 := by
  obtain ⟨e, rfl, he⟩ := am_dep hd9
  apply en212
  simp only [trX12_init, am_In, am_lay, am_pad, am_st1, am_st2, am_kill, am_get, am_isI, am_isL, am_isR, am_cat, am_cats, am_b, fin0_4, fin1_4, fin2_4, fin3_4, List.length_cons, List.length_nil, List.take, List.drop, List.reverse_cons, List.reverse_nil, List.nil_append, List.cons_append, s_wL, s_wQ, s_wW, s_wB, s_wJ, s_wR, s_wS, s_nil, s_cons, s_oR, s_iconst, s_bipush, s_sipush, s_lconst, s_null, s_iload, s_iload_n, s_lload, s_lload_n, s_aload, s_aload_n, s_istore, s_istore_n, s_astore, s_astore_n, s_lstore, s_lstore_n, s_iinc, s_iadd, s_isub, s_imul, s_iand, s_ior, s_ixor, s_ishl, s_ishr, s_iushr, s_idiv, s_ladd, s_lsub, s_lmul, s_land, s_ldiv, s_lrem, s_lshl, s_lshr, s_lcmp, s_i2l, s_l2i, s_i2b, s_i2c, s_dup, s_dup2, s_pop, s_arraylength, s_iaload, s_baload, s_laload, s_aaload, s_iastore, s_bastore, s_lastore, s_aastore, s_oG, s_oP0, s_oP1, s_oP2, s_oP3, s_oC, s_oN, s_oA, s_oI, s_oL, s_oS, s_oX0, s_oX1, s_oX2, s_oX3, s_oX4, s_oX5, s_goto, s_ifeq, s_iceq, s_ifne, s_icne, s_iflt, s_iclt, s_ifge, s_icge, s_ifgt, s_icgt, s_ifle, s_icle, s_ifnull, s_ifnonnull, s_ireturn, s_lreturn, s_areturn, s_return, s_sw, s_sw0, s_sw1, s_push0, s_push1, s_rd0, s_rd1, s_rd2, s_rd3, s_rty0, s_rtyi, s_rtyz, s_rtyl, s_rtyo, s_rtya, s_rok, s_lab0, s_labs, s_len, s_reci, s_rec0]
  simp [am_In, am_lay, am_pad, am_st1, am_st2, am_kill, am_get, am_isI, am_isL, am_isR, am_cat, am_cats, am_b, fin0_4, fin1_4, fin2_4, fin3_4, List.length_cons, List.length_nil, List.take, List.drop, List.reverse_cons, List.reverse_nil, List.nil_append, List.cons_append, s_wL, s_wQ, s_wW, s_wB, s_wJ, s_wR, s_wS, s_nil, s_cons, s_oR, s_iconst, s_bipush, s_sipush, s_lconst, s_null, s_iload, s_iload_n, s_lload, s_lload_n, s_aload, s_aload_n, s_istore, s_istore_n, s_astore, s_astore_n, s_lstore, s_lstore_n, s_iinc, s_iadd, s_isub, s_imul, s_iand, s_ior, s_ixor, s_ishl, s_ishr, s_iushr, s_idiv, s_ladd, s_lsub, s_lmul, s_land, s_ldiv, s_lrem, s_lshl, s_lshr, s_lcmp, s_i2l, s_l2i, s_i2b, s_i2c, s_dup, s_dup2, s_pop, s_arraylength, s_iaload, s_baload, s_laload, s_aaload, s_iastore, s_bastore, s_lastore, s_aastore, s_oG, s_oP0, s_oP1, s_oP2, s_oP3, s_oC, s_oN, s_oA, s_oI, s_oL, s_oS, s_oX0, s_oX1, s_oX2, s_oX3, s_oX4, s_oX5, s_goto, s_ifeq, s_iceq, s_ifne, s_icne, s_iflt, s_iclt, s_ifge, s_icge, s_ifgt, s_icgt, s_ifle, s_icle, s_ifnull, s_ifnonnull, s_ireturn, s_lreturn, s_areturn, s_return, s_sw, s_sw0, s_sw1, s_push0, s_push1, s_rd0, s_rd1, s_rd2, s_rd3, s_rty0, s_rtyi, s_rtyz, s_rtyl, s_rtyo, s_rtya, s_rok, s_lab0, s_labs, s_len, s_reci, s_rec0, s_oM2 sl_101, s_oM2 sl_104, s_oM2 sl_107, s_oM2 sl_110, s_oM2 sl_113, s_oM2 sl_116, s_oM2 sl_119, s_oM2 sl_122, s_oM2 sl_125, s_oM2 sl_128, s_oM2 sl_131, s_oM3 sl_154, sh_98, sh_99, sh_100, sh_101, sh_102, sh_103, sh_104, sh_105, sh_106, sh_107, sh_108, sh_109, sh_110, sh_111, sh_112, sh_113, sh_114, sh_115, sh_116, sh_117, sh_118, sh_119, sh_120, sh_121, sh_122, sh_123, sh_124, sh_125, sh_126, sh_127, sh_128, sh_129, sh_130, sh_131, sh_132, sh_133, sh_134, sh_135, sh_136, sh_137, sh_138, sh_139, sh_140, sh_141, sh_142, sh_143, sh_144, sh_145, sh_146, sh_147, sh_148, sh_149, sh_150, sh_151, sh_152, sh_153, sh_154, sh_155, sh_156, sh_157, sh_158, sl_99, sl_100, sl_101, sl_102, sl_103, sl_104, sl_105, sl_106, sl_107, sl_108, sl_109, sl_110, sl_111, sl_112, sl_113, sl_114, sl_115, sl_116, sl_117, sl_118, sl_119, sl_120, sl_121, sl_122, sl_123, sl_124, sl_125, sl_126, sl_127, sl_128, sl_129, sl_130, sl_131, sl_132, sl_133, sl_134, sl_135, sl_136, sl_137, sl_138, sl_139, sl_140, sl_141, sl_142, sl_143, sl_144, sl_145, sl_146, sl_147, sl_148, sl_149, sl_150, sl_151, sl_152, sl_153, sl_154, sl_155, sl_156, sl_157, sl_158, row_id, up_ne, zr, zd]
  exact h
end
