/-! the model's rows and ways -/
/-- r counts, by first days and numbers, the wants below w that have P -/
def rwOk (L : Lnd) (P : Nat → Prop) (w rn : Nat) (r : Nat → Nat) : Prop := (∀ i, i < rn → r i < w ∧ P (r i)) ∧ (∀ v, v < w → P v → ∃ i, i < rn ∧ r i = v) ∧ ∀ i j, i < j → j < rn → L 8 (r i) < L 8 (r j) ∨ L 8 (r i) = L 8 (r j) ∧ r i < r j
theorem rwOk_eq {L : Lnd} {P : Nat → Prop} {w rn rn' : Nat} {r r' : Nat → Nat} (h : rwOk L P w rn r) (h' : rwOk L P w rn' r') : rn = rn' ∧ ∀ i, i < rn → r i = r' i := by
  have key : ∀ {a a' : Nat} {q q' : Nat → Nat}, rwOk L P w a q → rwOk L P w a' q' → ∀ i, (∀ j, j < i → j < a → q j = q' j) → i < a → i < a' ∧ (i < a' → q i = q' i) := by
    intro a a' q q' g g' i hi hia
    obtain ⟨k, k1, k2⟩ := g'.2.1 (q i) (g.1 i hia).1 (g.1 i hia).2
    have hk : i ≤ k := by
      by_cases hc : k < i
      · have e := hi k hc (by omega)
        have := g.2.2 k i hc hia
        rw [e, k2] at this
        omega
      · omega
    refine ⟨by omega, fun hia' => ?_⟩
    obtain ⟨m, m1, m2⟩ := g.2.1 (q' i) (g'.1 i hia').1 (g'.1 i hia').2
    by_cases hki : k = i
    · rw [← hki, k2, hki]
    · have a1 := g'.2.2 i k (by omega) k1
      rw [k2] at a1
      by_cases hmi : m < i
      · have e := hi m hmi (by omega)
        have := g'.2.2 m i hmi hia'
        rw [← e, m2] at this
        omega
      · by_cases hm2 : m = i
        · rw [← m2, hm2]
        · have a2 := g.2.2 i m (by omega) m1
          rw [m2] at a2
          omega
  have all : ∀ i, i < rn → r i = r' i := by
    intro i
    induction i using Nat.strongRecOn with
    | _ i ih => exact fun hi => (key h h' i (fun j hj hj2 => ih j hj hj2) hi).2 (key h h' i (fun j hj hj2 => ih j hj hj2) hi).1
  have all' : ∀ i, i < rn' → r' i = r i := by
    intro i
    induction i using Nat.strongRecOn with
    | _ i ih => exact fun hi => (key h' h i (fun j hj hj2 => ih j hj hj2) hi).2 (key h' h i (fun j hj hj2 => ih j hj hj2) hi).1
  refine ⟨?_, all⟩
  by_cases h1 : rn < rn'
  · have := (key h' h rn (fun j hj hj2 => all' j hj2) h1).1
    omega
  · by_cases h2 : rn' < rn
    · have := (key h h' rn' (fun j hj hj2 => all j hj2) h2).1
      omega
    · omega
/-- at most c have P -/
def cardP (P : Nat → Prop) (c : Nat) : Prop := ∀ (k : Nat) (r : Nat → Nat), (∀ i, i < k → P (r i)) → (∀ i j, i < j → j < k → r i ≠ r j) → k ≤ c
theorem rw_card {L : Lnd} {P : Nat → Prop} {w rn c : Nat} {r : Nat → Nat} (h : rwOk L P w rn r) (hc : cardP P c) : rn ≤ c := hc rn r (fun i hi => (h.1 i hi).2) (fun i j hij hj e => by
  have := h.2.2 i j hij hj
  rw [e] at this
  omega)
section
variable {d f0 n o : Nat} {b : Bool} {L : Lnd} {Q : amQ} {hd : amD}
variable {lby : Nat}
theorem m_laysRow {t a : Nat} {P9 : Nat → Prop} (hd9 : 2 ≤ d) (hn : 159 ≤ n) (hL : mL hd L) (ha : a = 140 ∨ a = 141) (hP9 : ∀ w, w < L 0 3 → (P9 w ↔ hd a w = (t : Int))) (hc6 : cardP (fun w => w < L 0 3 ∧ P9 w) 6) (h : ∀ (hd' : amD) (rn : Nat) (r : Nat → Nat), (∀ i, i ≠ 98 → i ≠ 143 → hd' i = hd i) → (∀ j, j ≠ 39 → hd' 98 j = hd 98 j) → hd' 98 39 = (rn : Int) → (∀ i, i < rn → hd' 143 i = (r i : Int)) → rn ≤ 6 → rwOk L P9 (L 0 3) rn r → Q none (am_R f0 b) hd' n) : wpM d 274 [vR 98, vI (t : Int), vR a] Q (am_R f0 b) hd n := by
  obtain ⟨e, rfl, he⟩ := am_dep hd9
  apply en274
  simp only [trX12_laysRow, am_In, am_lay, am_pad, am_st1, am_st2, am_kill, am_get, am_isI, am_isL, am_isR, am_cat, am_cats, am_b, fin0_4, fin1_4, fin2_4, fin3_4, List.length_cons, List.length_nil, List.take, List.drop, List.reverse_cons, List.reverse_nil, List.nil_append, List.cons_append, s_wL, s_wQ, s_wW, s_wB, s_wJ, s_wR, s_wS, s_nil, s_cons, s_oR, s_iconst, s_bipush, s_sipush, s_lconst, s_null, s_iload, s_iload_n, s_lload, s_lload_n, s_aload, s_aload_n, s_istore, s_istore_n, s_astore, s_astore_n, s_lstore, s_lstore_n, s_iinc, s_iadd, s_isub, s_imul, s_iand, s_ior, s_ixor, s_ishl, s_ishr, s_iushr, s_idiv, s_ladd, s_lsub, s_lmul, s_land, s_ldiv, s_lrem, s_lshl, s_lshr, s_lcmp, s_i2l, s_l2i, s_i2b, s_i2c, s_dup, s_dup2, s_pop, s_arraylength, s_iaload, s_baload, s_laload, s_aaload, s_iastore, s_bastore, s_lastore, s_aastore, s_oG, s_oP0, s_oP1, s_oP2, s_oP3, s_oC, s_oN, s_oA, s_oI, s_oL, s_oS, s_oX0, s_oX1, s_oX2, s_oX3, s_oX4, s_oX5, s_goto, s_ifeq, s_iceq, s_ifne, s_icne, s_iflt, s_iclt, s_ifge, s_icge, s_ifgt, s_icgt, s_ifle, s_icle, s_ifnull, s_ifnonnull, s_ireturn, s_lreturn, s_areturn, s_return, s_sw, s_sw0, s_sw1, s_push0, s_push1, s_rd0, s_rd1, s_rd2, s_rd3, s_rty0, s_rtyi, s_rtyz, s_rtyl, s_rtyo, s_rtya, s_rok, s_lab0, s_labs, s_len, s_reci, s_rec0]
  have hW := lk_W hL.1
  have hsa : am_shp a = 1 ∧ am_slen a = 12 ∧ a < n ∧ a ≠ 98 ∧ a ≠ 143 := by
    rcases ha with rfl | rfl
    · exact ⟨rfl, rfl, by omega, by decide, by decide⟩
    · exact ⟨rfl, rfl, by omega, by decide, by decide⟩
  simp [am_In, am_lay, am_pad, am_st1, am_st2, am_kill, am_get, am_isI, am_isL, am_isR, am_cat, am_cats, am_b, fin0_4, fin1_4, fin2_4, fin3_4, List.length_cons, List.length_nil, List.take, List.drop, List.reverse_cons, List.reverse_nil, List.nil_append, List.cons_append, s_wL, s_wQ, s_wW, s_wB, s_wJ, s_wR, s_wS, s_nil, s_cons, s_oR, s_iconst, s_bipush, s_sipush, s_lconst, s_null, s_iload, s_iload_n, s_lload, s_lload_n, s_aload, s_aload_n, s_istore, s_istore_n, s_astore, s_astore_n, s_lstore, s_lstore_n, s_iinc, s_iadd, s_isub, s_imul, s_iand, s_ior, s_ixor, s_ishl, s_ishr, s_iushr, s_idiv, s_ladd, s_lsub, s_lmul, s_land, s_ldiv, s_lrem, s_lshl, s_lshr, s_lcmp, s_i2l, s_l2i, s_i2b, s_i2c, s_dup, s_dup2, s_pop, s_arraylength, s_iaload, s_baload, s_laload, s_aaload, s_iastore, s_bastore, s_lastore, s_aastore, s_oG, s_oP0, s_oP1, s_oP2, s_oP3, s_oC, s_oN, s_oA, s_oI, s_oL, s_oS, s_oX0, s_oX1, s_oX2, s_oX3, s_oX4, s_oX5, s_goto, s_ifeq, s_iceq, s_ifne, s_icne, s_iflt, s_iclt, s_ifge, s_icge, s_ifgt, s_icgt, s_ifle, s_icle, s_ifnull, s_ifnonnull, s_ireturn, s_lreturn, s_areturn, s_return, s_sw, s_sw0, s_sw1, s_push0, s_push1, s_rd0, s_rd1, s_rd2, s_rd3, s_rty0, s_rtyi, s_rtyz, s_rtyl, s_rtyo, s_rtya, s_rok, s_lab0, s_labs, s_len, s_reci, s_rec0, sh_98, sh_99, sh_100, sh_101, sh_102, sh_103, sh_104, sh_105, sh_106, sh_107, sh_108, sh_109, sh_110, sh_111, sh_112, sh_113, sh_114, sh_115, sh_116, sh_117, sh_118, sh_119, sh_120, sh_121, sh_122, sh_123, sh_124, sh_125, sh_126, sh_127, sh_128, sh_129, sh_130, sh_131, sh_132, sh_133, sh_134, sh_135, sh_136, sh_137, sh_138, sh_139, sh_140, sh_141, sh_142, sh_143, sh_144, sh_145, sh_146, sh_147, sh_148, sh_149, sh_150, sh_151, sh_152, sh_153, sh_154, sh_155, sh_156, sh_157, sh_158, sl_99, sl_100, sl_101, sl_102, sl_103, sl_104, sl_105, sl_106, sl_107, sl_108, sl_109, sl_110, sl_111, sl_112, sl_113, sl_114, sl_115, sl_116, sl_117, sl_118, sl_119, sl_120, sl_121, sl_122, sl_123, sl_124, sl_125, sl_126, sl_127, sl_128, sl_129, sl_130, sl_131, sl_132, sl_133, sl_134, sl_135, sl_136, sl_137, sl_138, sl_139, sl_140, sl_141, sl_142, sl_143, sl_144, sl_145, sl_146, sl_147, sl_148, sl_149, sl_150, sl_151, sl_152, sl_153, sl_154, sl_155, sl_156, sl_157, sl_158, R98_0, R98_1, R98_7, R98_8, R98_9, R98_10, R98_11, R98_12, R98_13, R98_14, R98_15, R98_16, R98_17, R98_18, R98_22, R98_23, R98_24, R98_25, R98_26, R98_34, R98_35, R98_36, R98_37, R98_42, R98_43, R98_44, R98_45, R98_46, R98_48, R98_49, R98_52, R98_53, R98_54, R98_57, R98_58, R101_0, R101_1, R104_0, R104_1, R107_0, R107_1, R110_0, R110_1, R113_0, R113_1, R116_0, R116_1, R119_0, R119_1, R122_0, R122_1, R125_0, R125_1, R128_0, R128_1, R131_0, R131_1, R135_0, R135_1, R135_2, R135_3, R135_4, R135_5, R135_6, R154_0, R154_1, R154_2, ltn hn, -Int.natCast_add, -Int.natCast_mul]
  refine loop_inv (I := fun z ls st hr9 hd9 n9 u us => ∃ w rn : Nat, ∃ r : Nat → Nat, ∃ y1 : amV, z = L 0 3 - w ∧ w ≤ L 0 3 ∧ ls = [vR 98, vI (t : Int), vR a, vI (w : Int), y1] ∧ st = [] ∧ am_R f0 b = hr9 ∧ n = n9 ∧ u = 0 ∧ us = 0 ∧ (∀ i, i ≠ 98 → i ≠ 143 → hd9 i = hd i) ∧ (∀ j, j ≠ 39 → hd9 98 j = hd 98 j) ∧ hd9 98 39 = (rn : Int) ∧ (∀ i, i < rn → hd9 143 i = (r i : Int)) ∧ rwOk L P9 w rn r) ?_ (L 0 3) ?_
  · intro z ls st hr' hd1 n' u us hI P hP
    obtain ⟨w, rn, r, y1, rfl, hw, rfl, rfl, rfl, rfl, rfl, rfl, hf, hj, hrn, hr, hok⟩ := hI
    have hL1 : mL hd1 L := mL_fr (fun i h1 h2 => hf i (by omega) (by omega)) (hj 19 (by decide)) hL
    have rn6 : rn ≤ 6 := hc6 rn r (fun i hi => ⟨by have := (hok.1 i hi).1; omega, (hok.1 i hi).2⟩) (fun i j hij hj2 e => by
      have := hok.2.2 i j hij hj2
      rw [e] at this
      omega)
    simp [am_In, am_lay, am_pad, am_st1, am_st2, am_kill, am_get, am_isI, am_isL, am_isR, am_cat, am_cats, am_b, fin0_4, fin1_4, fin2_4, fin3_4, List.length_cons, List.length_nil, List.take, List.drop, List.reverse_cons, List.reverse_nil, List.nil_append, List.cons_append, s_wL, s_wQ, s_wW, s_wB, s_wJ, s_wR, s_wS, s_nil, s_cons, s_oR, s_iconst, s_bipush, s_sipush, s_lconst, s_null, s_iload, s_iload_n, s_lload, s_lload_n, s_aload, s_aload_n, s_istore, s_istore_n, s_astore, s_astore_n, s_lstore, s_lstore_n, s_iinc, s_iadd, s_isub, s_imul, s_iand, s_ior, s_ixor, s_ishl, s_ishr, s_iushr, s_idiv, s_ladd, s_lsub, s_lmul, s_land, s_ldiv, s_lrem, s_lshl, s_lshr, s_lcmp, s_i2l, s_l2i, s_i2b, s_i2c, s_dup, s_dup2, s_pop, s_arraylength, s_iaload, s_baload, s_laload, s_aaload, s_iastore, s_bastore, s_lastore, s_aastore, s_oG, s_oP0, s_oP1, s_oP2, s_oP3, s_oC, s_oN, s_oA, s_oI, s_oL, s_oS, s_oX0, s_oX1, s_oX2, s_oX3, s_oX4, s_oX5, s_goto, s_ifeq, s_iceq, s_ifne, s_icne, s_iflt, s_iclt, s_ifge, s_icge, s_ifgt, s_icgt, s_ifle, s_icle, s_ifnull, s_ifnonnull, s_ireturn, s_lreturn, s_areturn, s_return, s_sw, s_sw0, s_sw1, s_push0, s_push1, s_rd0, s_rd1, s_rd2, s_rd3, s_rty0, s_rtyi, s_rtyz, s_rtyl, s_rtyo, s_rtya, s_rok, s_lab0, s_labs, s_len, s_reci, s_rec0, sh_98, sh_99, sh_100, sh_101, sh_102, sh_103, sh_104, sh_105, sh_106, sh_107, sh_108, sh_109, sh_110, sh_111, sh_112, sh_113, sh_114, sh_115, sh_116, sh_117, sh_118, sh_119, sh_120, sh_121, sh_122, sh_123, sh_124, sh_125, sh_126, sh_127, sh_128, sh_129, sh_130, sh_131, sh_132, sh_133, sh_134, sh_135, sh_136, sh_137, sh_138, sh_139, sh_140, sh_141, sh_142, sh_143, sh_144, sh_145, sh_146, sh_147, sh_148, sh_149, sh_150, sh_151, sh_152, sh_153, sh_154, sh_155, sh_156, sh_157, sh_158, sl_99, sl_100, sl_101, sl_102, sl_103, sl_104, sl_105, sl_106, sl_107, sl_108, sl_109, sl_110, sl_111, sl_112, sl_113, sl_114, sl_115, sl_116, sl_117, sl_118, sl_119, sl_120, sl_121, sl_122, sl_123, sl_124, sl_125, sl_126, sl_127, sl_128, sl_129, sl_130, sl_131, sl_132, sl_133, sl_134, sl_135, sl_136, sl_137, sl_138, sl_139, sl_140, sl_141, sl_142, sl_143, sl_144, sl_145, sl_146, sl_147, sl_148, sl_149, sl_150, sl_151, sl_152, sl_153, sl_154, sl_155, sl_156, sl_157, sl_158, R98_0, R98_1, R98_7, R98_8, R98_9, R98_10, R98_11, R98_12, R98_13, R98_14, R98_15, R98_16, R98_17, R98_18, R98_22, R98_23, R98_24, R98_25, R98_26, R98_34, R98_35, R98_36, R98_37, R98_42, R98_43, R98_44, R98_45, R98_46, R98_48, R98_49, R98_52, R98_53, R98_54, R98_57, R98_58, R101_0, R101_1, R104_0, R104_1, R107_0, R107_1, R110_0, R110_1, R113_0, R113_1, R116_0, R116_1, R119_0, R119_1, R122_0, R122_1, R125_0, R125_1, R128_0, R128_1, R131_0, R131_1, R135_0, R135_1, R135_2, R135_3, R135_4, R135_5, R135_6, R154_0, R154_1, R154_2, ltn hn, -Int.natCast_add, -Int.natCast_mul]
    refine m_wants (by omega) hn hL1 ?_
    simp [am_In, am_lay, am_pad, am_st1, am_st2, am_kill, am_get, am_isI, am_isL, am_isR, am_cat, am_cats, am_b, fin0_4, fin1_4, fin2_4, fin3_4, List.length_cons, List.length_nil, List.take, List.drop, List.reverse_cons, List.reverse_nil, List.nil_append, List.cons_append, s_wL, s_wQ, s_wW, s_wB, s_wJ, s_wR, s_wS, s_nil, s_cons, s_oR, s_iconst, s_bipush, s_sipush, s_lconst, s_null, s_iload, s_iload_n, s_lload, s_lload_n, s_aload, s_aload_n, s_istore, s_istore_n, s_astore, s_astore_n, s_lstore, s_lstore_n, s_iinc, s_iadd, s_isub, s_imul, s_iand, s_ior, s_ixor, s_ishl, s_ishr, s_iushr, s_idiv, s_ladd, s_lsub, s_lmul, s_land, s_ldiv, s_lrem, s_lshl, s_lshr, s_lcmp, s_i2l, s_l2i, s_i2b, s_i2c, s_dup, s_dup2, s_pop, s_arraylength, s_iaload, s_baload, s_laload, s_aaload, s_iastore, s_bastore, s_lastore, s_aastore, s_oG, s_oP0, s_oP1, s_oP2, s_oP3, s_oC, s_oN, s_oA, s_oI, s_oL, s_oS, s_oX0, s_oX1, s_oX2, s_oX3, s_oX4, s_oX5, s_goto, s_ifeq, s_iceq, s_ifne, s_icne, s_iflt, s_iclt, s_ifge, s_icge, s_ifgt, s_icgt, s_ifle, s_icle, s_ifnull, s_ifnonnull, s_ireturn, s_lreturn, s_areturn, s_return, s_sw, s_sw0, s_sw1, s_push0, s_push1, s_rd0, s_rd1, s_rd2, s_rd3, s_rty0, s_rtyi, s_rtyz, s_rtyl, s_rtyo, s_rtya, s_rok, s_lab0, s_labs, s_len, s_reci, s_rec0, sh_98, sh_99, sh_100, sh_101, sh_102, sh_103, sh_104, sh_105, sh_106, sh_107, sh_108, sh_109, sh_110, sh_111, sh_112, sh_113, sh_114, sh_115, sh_116, sh_117, sh_118, sh_119, sh_120, sh_121, sh_122, sh_123, sh_124, sh_125, sh_126, sh_127, sh_128, sh_129, sh_130, sh_131, sh_132, sh_133, sh_134, sh_135, sh_136, sh_137, sh_138, sh_139, sh_140, sh_141, sh_142, sh_143, sh_144, sh_145, sh_146, sh_147, sh_148, sh_149, sh_150, sh_151, sh_152, sh_153, sh_154, sh_155, sh_156, sh_157, sh_158, sl_99, sl_100, sl_101, sl_102, sl_103, sl_104, sl_105, sl_106, sl_107, sl_108, sl_109, sl_110, sl_111, sl_112, sl_113, sl_114, sl_115, sl_116, sl_117, sl_118, sl_119, sl_120, sl_121, sl_122, sl_123, sl_124, sl_125, sl_126, sl_127, sl_128, sl_129, sl_130, sl_131, sl_132, sl_133, sl_134, sl_135, sl_136, sl_137, sl_138, sl_139, sl_140, sl_141, sl_142, sl_143, sl_144, sl_145, sl_146, sl_147, sl_148, sl_149, sl_150, sl_151, sl_152, sl_153, sl_154, sl_155, sl_156, sl_157, sl_158, R98_0, R98_1, R98_7, R98_8, R98_9, R98_10, R98_11, R98_12, R98_13, R98_14, R98_15, R98_16, R98_17, R98_18, R98_22, R98_23, R98_24, R98_25, R98_26, R98_34, R98_35, R98_36, R98_37, R98_42, R98_43, R98_44, R98_45, R98_46, R98_48, R98_49, R98_52, R98_53, R98_54, R98_57, R98_58, R101_0, R101_1, R104_0, R104_1, R107_0, R107_1, R110_0, R110_1, R113_0, R113_1, R116_0, R116_1, R119_0, R119_1, R122_0, R122_1, R125_0, R125_1, R128_0, R128_1, R131_0, R131_1, R135_0, R135_1, R135_2, R135_3, R135_4, R135_5, R135_6, R154_0, R154_1, R154_2, ltn hn, -Int.natCast_add, -Int.natCast_mul]
    refine ⟨fun hge => ?_, fun hlt => ?_⟩
    · have e9 : w = L 0 3 := by omega
      subst e9
      exact h hd1 rn r hf hj hrn hr rn6 hok
    · have hwW : w < L 0 3 := by omega
      have next : ∀ (hd2 : amD) (rn2 : Nat) (r2 : Nat → Nat) (y : amV), (∀ i, i ≠ 98 → i ≠ 143 → hd2 i = hd i) → (∀ j, j ≠ 39 → hd2 98 j = hd 98 j) → hd2 98 39 = (rn2 : Int) → (∀ i, i < rn2 → hd2 143 i = (r2 i : Int)) → rwOk L P9 (w + 1) rn2 r2 → P [vR 98, vI (t : Int), vR a, vI (w32 ((w : Int) + w32 1)), y] [] (am_R f0 b) hd2 n 0 0 := by
        intro hd2 rn2 r2 y a1 a2 a3 a4 a5
        refine hP (L 0 3 - (w + 1)) (by omega) _ _ _ _ _ _ _ ⟨w + 1, rn2, r2, y, rfl, by omega, ?_, rfl, rfl, rfl, rfl, rfl, a1, a2, a3, a4, a5⟩
        rw [w32_1, w32_s (by omega)]
      simp [am_In, am_lay, am_pad, am_st1, am_st2, am_kill, am_get, am_isI, am_isL, am_isR, am_cat, am_cats, am_b, fin0_4, fin1_4, fin2_4, fin3_4, List.length_cons, List.length_nil, List.take, List.drop, List.reverse_cons, List.reverse_nil, List.nil_append, List.cons_append, s_wL, s_wQ, s_wW, s_wB, s_wJ, s_wR, s_wS, s_nil, s_cons, s_oR, s_iconst, s_bipush, s_sipush, s_lconst, s_null, s_iload, s_iload_n, s_lload, s_lload_n, s_aload, s_aload_n, s_istore, s_istore_n, s_astore, s_astore_n, s_lstore, s_lstore_n, s_iinc, s_iadd, s_isub, s_imul, s_iand, s_ior, s_ixor, s_ishl, s_ishr, s_iushr, s_idiv, s_ladd, s_lsub, s_lmul, s_land, s_ldiv, s_lrem, s_lshl, s_lshr, s_lcmp, s_i2l, s_l2i, s_i2b, s_i2c, s_dup, s_dup2, s_pop, s_arraylength, s_iaload, s_baload, s_laload, s_aaload, s_iastore, s_bastore, s_lastore, s_aastore, s_oG, s_oP0, s_oP1, s_oP2, s_oP3, s_oC, s_oN, s_oA, s_oI, s_oL, s_oS, s_oX0, s_oX1, s_oX2, s_oX3, s_oX4, s_oX5, s_goto, s_ifeq, s_iceq, s_ifne, s_icne, s_iflt, s_iclt, s_ifge, s_icge, s_ifgt, s_icgt, s_ifle, s_icle, s_ifnull, s_ifnonnull, s_ireturn, s_lreturn, s_areturn, s_return, s_sw, s_sw0, s_sw1, s_push0, s_push1, s_rd0, s_rd1, s_rd2, s_rd3, s_rty0, s_rtyi, s_rtyz, s_rtyl, s_rtyo, s_rtya, s_rok, s_lab0, s_labs, s_len, s_reci, s_rec0, sh_98, sh_99, sh_100, sh_101, sh_102, sh_103, sh_104, sh_105, sh_106, sh_107, sh_108, sh_109, sh_110, sh_111, sh_112, sh_113, sh_114, sh_115, sh_116, sh_117, sh_118, sh_119, sh_120, sh_121, sh_122, sh_123, sh_124, sh_125, sh_126, sh_127, sh_128, sh_129, sh_130, sh_131, sh_132, sh_133, sh_134, sh_135, sh_136, sh_137, sh_138, sh_139, sh_140, sh_141, sh_142, sh_143, sh_144, sh_145, sh_146, sh_147, sh_148, sh_149, sh_150, sh_151, sh_152, sh_153, sh_154, sh_155, sh_156, sh_157, sh_158, sl_99, sl_100, sl_101, sl_102, sl_103, sl_104, sl_105, sl_106, sl_107, sl_108, sl_109, sl_110, sl_111, sl_112, sl_113, sl_114, sl_115, sl_116, sl_117, sl_118, sl_119, sl_120, sl_121, sl_122, sl_123, sl_124, sl_125, sl_126, sl_127, sl_128, sl_129, sl_130, sl_131, sl_132, sl_133, sl_134, sl_135, sl_136, sl_137, sl_138, sl_139, sl_140, sl_141, sl_142, sl_143, sl_144, sl_145, sl_146, sl_147, sl_148, sl_149, sl_150, sl_151, sl_152, sl_153, sl_154, sl_155, sl_156, sl_157, sl_158, R98_0, R98_1, R98_7, R98_8, R98_9, R98_10, R98_11, R98_12, R98_13, R98_14, R98_15, R98_16, R98_17, R98_18, R98_22, R98_23, R98_24, R98_25, R98_26, R98_34, R98_35, R98_36, R98_37, R98_42, R98_43, R98_44, R98_45, R98_46, R98_48, R98_49, R98_52, R98_53, R98_54, R98_57, R98_58, R101_0, R101_1, R104_0, R104_1, R107_0, R107_1, R110_0, R110_1, R113_0, R113_1, R116_0, R116_1, R119_0, R119_1, R122_0, R122_1, R125_0, R125_1, R128_0, R128_1, R131_0, R131_1, R135_0, R135_1, R135_2, R135_3, R135_4, R135_5, R135_6, R154_0, R154_1, R154_2, ltn hn, hsa.1, hsa.2.1, hsa.2.2.1, hf a hsa.2.2.2.1 hsa.2.2.2.2, show (w : Int) < 12 by omega, hrn, -Int.natCast_add, -Int.natCast_mul]
      refine ⟨fun h1 => ?_, fun h1 => ?_⟩
      · have hPw : P9 w := (hP9 w hwW).mpr h1
        have rn5 : rn < 6 := by
          have := hc6 (rn + 1) (fun i => if i < rn then r i else w) (fun i hi => by
            (try dsimp only)
            split
            · exact ⟨by have := (hok.1 i (by assumption)).1; omega, (hok.1 i (by assumption)).2⟩
            · exact ⟨hwW, hPw⟩) (fun i j hij hj2 => by
            (try dsimp only)
            rw [if_pos (by omega)]
            split
            · intro e
              have := hok.2.2 i j hij (by assumption)
              rw [e] at this
              omega
            · have := (hok.1 i (by omega)).1
              omega)
          omega
        refine loop_inv (I := fun z ls st hr9 hd9 n9 u us => z ≤ rn ∧ ls = [vR 98, vI (t : Int), vR a, vI (w : Int), vI (z : Int)] ∧ st = [] ∧ am_R f0 b = hr9 ∧ n = n9 ∧ u = 0 ∧ us = 0 ∧ (∀ i, i ≠ 143 → hd9 i = hd1 i) ∧ (∀ i, i < z → hd9 143 i = (r i : Int)) ∧ (∀ i, z ≤ i → i < rn → hd9 143 (i + 1) = (r i : Int)) ∧ (∀ i, z ≤ i → i < rn → L 8 w < L 8 (r i))) ?_ rn ?_
        · intro z ls st hr' hd2 n' u us hI P2 hP2
          obtain ⟨hz, rfl, rfl, rfl, rfl, rfl, rfl, hf2, g1, g2, g3⟩ := hI
          have h98 : hd2 98 = hd1 98 := hf2 98 (by decide)
          have hL2 : mL hd2 L := mL_fr (fun i h1 h2 => hf2 i (by omega)) (by rw [h98]) hL1
          have fin : (z = 0 ∨ L 8 (r (z - 1)) ≤ L 8 w) → ∀ y : amV, P [vR 98, vI (t : Int), vR a, vI (w32 ((w : Int) + w32 1)), y] [] (am_R f0 b) (am_up (am_up hd2 143 z (w : Int)) 98 39 ((rn + 1 : Nat) : Int)) n 0 0 := by
            intro hz0 y
            refine next _ (rn + 1) (fun i => if i < z then r i else if i = z then w else r (i - 1)) y ?_ ?_ ?_ ?_ ?_
            · intro i i1 i2
              rw [up_ne i1, up_ne i2, hf2 i i2, hf i i1 i2]
            · intro j j1
              rw [up_at, if_pos rfl, if_neg j1, up_ne (by decide), h98, hj j j1]
            · rw [up_at, if_pos rfl, if_pos rfl]
            · intro i hi
              rw [up_ne (by decide), up_at, if_pos rfl]
              (try dsimp only)
              by_cases c1 : i = z
              · rw [if_pos c1, if_neg (by omega), if_pos c1]
              · rw [if_neg c1]
                by_cases c2 : i < z
                · rw [if_pos c2, g1 i c2]
                · rw [if_neg c2, if_neg c1]
                  have := g2 (i - 1) (by omega) (by omega)
                  rw [show i - 1 + 1 = i by omega] at this
                  exact this
            · have lo : ∀ i, i < z → L 8 (r i) ≤ L 8 w ∧ r i < w := by
                intro i hi
                refine ⟨?_, (hok.1 i (by omega)).1⟩
                rcases hz0 with e | e
                · omega
                · by_cases c : i = z - 1
                  · rw [c]; exact e
                  · have := hok.2.2 i (z - 1) (by omega) (by omega)
                    omega
              refine ⟨fun i hi => ?_, fun v hv hpv => ?_, fun i j hij hj2 => ?_⟩
              · (try dsimp only)
                by_cases c1 : i < z
                · rw [if_pos c1]
                  have := hok.1 i (by omega)
                  exact ⟨by omega, this.2⟩
                · rw [if_neg c1]
                  by_cases c2 : i = z
                  · rw [if_pos c2]
                    exact ⟨by omega, hPw⟩
                  · rw [if_neg c2]
                    have := hok.1 (i - 1) (by omega)
                    exact ⟨by omega, this.2⟩
              · by_cases c : v = w
                · refine ⟨z, by omega, ?_⟩
                  (try dsimp only)
                  rw [if_neg (Nat.lt_irrefl z), if_pos rfl, c]
                · obtain ⟨i, i1, i2⟩ := hok.2.1 v (by omega) hpv
                  by_cases c1 : i < z
                  · refine ⟨i, by omega, ?_⟩
                    (try dsimp only)
                    rw [if_pos c1, i2]
                  · refine ⟨i + 1, by omega, ?_⟩
                    (try dsimp only)
                    rw [if_neg (by omega), if_neg (by omega), show i + 1 - 1 = i from rfl, i2]
              · (try dsimp only)
                by_cases c1 : j < z
                · rw [if_pos c1, if_pos (show i < z by omega)]
                  exact hok.2.2 i j hij (by omega)
                · rw [if_neg c1]
                  by_cases c2 : j = z
                  · rw [if_pos c2, if_pos (show i < z by omega)]
                    have := lo i (by omega)
                    omega
                  · rw [if_neg c2]
                    by_cases c3 : i < z
                    · rw [if_pos c3]
                      have := lo i c3
                      have := g3 (j - 1) (by omega) (by omega)
                      omega
                    · rw [if_neg c3]
                      by_cases c4 : i = z
                      · rw [if_pos c4]
                        have := g3 (j - 1) (by omega) (by omega)
                        omega
                      · rw [if_neg c4]
                        exact hok.2.2 (i - 1) (j - 1) (by omega) (by omega)
          simp [am_In, am_lay, am_pad, am_st1, am_st2, am_kill, am_get, am_isI, am_isL, am_isR, am_cat, am_cats, am_b, fin0_4, fin1_4, fin2_4, fin3_4, List.length_cons, List.length_nil, List.take, List.drop, List.reverse_cons, List.reverse_nil, List.nil_append, List.cons_append, s_wL, s_wQ, s_wW, s_wB, s_wJ, s_wR, s_wS, s_nil, s_cons, s_oR, s_iconst, s_bipush, s_sipush, s_lconst, s_null, s_iload, s_iload_n, s_lload, s_lload_n, s_aload, s_aload_n, s_istore, s_istore_n, s_astore, s_astore_n, s_lstore, s_lstore_n, s_iinc, s_iadd, s_isub, s_imul, s_iand, s_ior, s_ixor, s_ishl, s_ishr, s_iushr, s_idiv, s_ladd, s_lsub, s_lmul, s_land, s_ldiv, s_lrem, s_lshl, s_lshr, s_lcmp, s_i2l, s_l2i, s_i2b, s_i2c, s_dup, s_dup2, s_pop, s_arraylength, s_iaload, s_baload, s_laload, s_aaload, s_iastore, s_bastore, s_lastore, s_aastore, s_oG, s_oP0, s_oP1, s_oP2, s_oP3, s_oC, s_oN, s_oA, s_oI, s_oL, s_oS, s_oX0, s_oX1, s_oX2, s_oX3, s_oX4, s_oX5, s_goto, s_ifeq, s_iceq, s_ifne, s_icne, s_iflt, s_iclt, s_ifge, s_icge, s_ifgt, s_icgt, s_ifle, s_icle, s_ifnull, s_ifnonnull, s_ireturn, s_lreturn, s_areturn, s_return, s_sw, s_sw0, s_sw1, s_push0, s_push1, s_rd0, s_rd1, s_rd2, s_rd3, s_rty0, s_rtyi, s_rtyz, s_rtyl, s_rtyo, s_rtya, s_rok, s_lab0, s_labs, s_len, s_reci, s_rec0, sh_98, sh_99, sh_100, sh_101, sh_102, sh_103, sh_104, sh_105, sh_106, sh_107, sh_108, sh_109, sh_110, sh_111, sh_112, sh_113, sh_114, sh_115, sh_116, sh_117, sh_118, sh_119, sh_120, sh_121, sh_122, sh_123, sh_124, sh_125, sh_126, sh_127, sh_128, sh_129, sh_130, sh_131, sh_132, sh_133, sh_134, sh_135, sh_136, sh_137, sh_138, sh_139, sh_140, sh_141, sh_142, sh_143, sh_144, sh_145, sh_146, sh_147, sh_148, sh_149, sh_150, sh_151, sh_152, sh_153, sh_154, sh_155, sh_156, sh_157, sh_158, sl_99, sl_100, sl_101, sl_102, sl_103, sl_104, sl_105, sl_106, sl_107, sl_108, sl_109, sl_110, sl_111, sl_112, sl_113, sl_114, sl_115, sl_116, sl_117, sl_118, sl_119, sl_120, sl_121, sl_122, sl_123, sl_124, sl_125, sl_126, sl_127, sl_128, sl_129, sl_130, sl_131, sl_132, sl_133, sl_134, sl_135, sl_136, sl_137, sl_138, sl_139, sl_140, sl_141, sl_142, sl_143, sl_144, sl_145, sl_146, sl_147, sl_148, sl_149, sl_150, sl_151, sl_152, sl_153, sl_154, sl_155, sl_156, sl_157, sl_158, R98_0, R98_1, R98_7, R98_8, R98_9, R98_10, R98_11, R98_12, R98_13, R98_14, R98_15, R98_16, R98_17, R98_18, R98_22, R98_23, R98_24, R98_25, R98_26, R98_34, R98_35, R98_36, R98_37, R98_42, R98_43, R98_44, R98_45, R98_46, R98_48, R98_49, R98_52, R98_53, R98_54, R98_57, R98_58, R101_0, R101_1, R104_0, R104_1, R107_0, R107_1, R110_0, R110_1, R113_0, R113_1, R116_0, R116_1, R119_0, R119_1, R122_0, R122_1, R125_0, R125_1, R128_0, R128_1, R131_0, R131_1, R135_0, R135_1, R135_2, R135_3, R135_4, R135_5, R135_6, R154_0, R154_1, R154_2, ltn hn, h98, hrn, up_at, -Int.natCast_add, -Int.natCast_mul]
          refine ⟨fun h2 => ?_, fun h2 => ?_⟩
          · rw [w32_s (by omega)]
            exact ⟨by omega, fin (Or.inl (by omega)) _⟩
          · obtain ⟨f, rfl⟩ : ∃ f, z = f + 1 := ⟨z - 1, by omega⟩
            have hrf := (hok.1 f (by omega)).1
            rw [show w32 (((f + 1 : Nat) : Int) - 1) = (f : Int) by rw [w32_b (by omega) (by omega)]; omega]
            simp [am_In, am_lay, am_pad, am_st1, am_st2, am_kill, am_get, am_isI, am_isL, am_isR, am_cat, am_cats, am_b, fin0_4, fin1_4, fin2_4, fin3_4, List.length_cons, List.length_nil, List.take, List.drop, List.reverse_cons, List.reverse_nil, List.nil_append, List.cons_append, s_wL, s_wQ, s_wW, s_wB, s_wJ, s_wR, s_wS, s_nil, s_cons, s_oR, s_iconst, s_bipush, s_sipush, s_lconst, s_null, s_iload, s_iload_n, s_lload, s_lload_n, s_aload, s_aload_n, s_istore, s_istore_n, s_astore, s_astore_n, s_lstore, s_lstore_n, s_iinc, s_iadd, s_isub, s_imul, s_iand, s_ior, s_ixor, s_ishl, s_ishr, s_iushr, s_idiv, s_ladd, s_lsub, s_lmul, s_land, s_ldiv, s_lrem, s_lshl, s_lshr, s_lcmp, s_i2l, s_l2i, s_i2b, s_i2c, s_dup, s_dup2, s_pop, s_arraylength, s_iaload, s_baload, s_laload, s_aaload, s_iastore, s_bastore, s_lastore, s_aastore, s_oG, s_oP0, s_oP1, s_oP2, s_oP3, s_oC, s_oN, s_oA, s_oI, s_oL, s_oS, s_oX0, s_oX1, s_oX2, s_oX3, s_oX4, s_oX5, s_goto, s_ifeq, s_iceq, s_ifne, s_icne, s_iflt, s_iclt, s_ifge, s_icge, s_ifgt, s_icgt, s_ifle, s_icle, s_ifnull, s_ifnonnull, s_ireturn, s_lreturn, s_areturn, s_return, s_sw, s_sw0, s_sw1, s_push0, s_push1, s_rd0, s_rd1, s_rd2, s_rd3, s_rty0, s_rtyi, s_rtyz, s_rtyl, s_rtyo, s_rtya, s_rok, s_lab0, s_labs, s_len, s_reci, s_rec0, sh_98, sh_99, sh_100, sh_101, sh_102, sh_103, sh_104, sh_105, sh_106, sh_107, sh_108, sh_109, sh_110, sh_111, sh_112, sh_113, sh_114, sh_115, sh_116, sh_117, sh_118, sh_119, sh_120, sh_121, sh_122, sh_123, sh_124, sh_125, sh_126, sh_127, sh_128, sh_129, sh_130, sh_131, sh_132, sh_133, sh_134, sh_135, sh_136, sh_137, sh_138, sh_139, sh_140, sh_141, sh_142, sh_143, sh_144, sh_145, sh_146, sh_147, sh_148, sh_149, sh_150, sh_151, sh_152, sh_153, sh_154, sh_155, sh_156, sh_157, sh_158, sl_99, sl_100, sl_101, sl_102, sl_103, sl_104, sl_105, sl_106, sl_107, sl_108, sl_109, sl_110, sl_111, sl_112, sl_113, sl_114, sl_115, sl_116, sl_117, sl_118, sl_119, sl_120, sl_121, sl_122, sl_123, sl_124, sl_125, sl_126, sl_127, sl_128, sl_129, sl_130, sl_131, sl_132, sl_133, sl_134, sl_135, sl_136, sl_137, sl_138, sl_139, sl_140, sl_141, sl_142, sl_143, sl_144, sl_145, sl_146, sl_147, sl_148, sl_149, sl_150, sl_151, sl_152, sl_153, sl_154, sl_155, sl_156, sl_157, sl_158, R98_0, R98_1, R98_7, R98_8, R98_9, R98_10, R98_11, R98_12, R98_13, R98_14, R98_15, R98_16, R98_17, R98_18, R98_22, R98_23, R98_24, R98_25, R98_26, R98_34, R98_35, R98_36, R98_37, R98_42, R98_43, R98_44, R98_45, R98_46, R98_48, R98_49, R98_52, R98_53, R98_54, R98_57, R98_58, R101_0, R101_1, R104_0, R104_1, R107_0, R107_1, R110_0, R110_1, R113_0, R113_1, R116_0, R116_1, R119_0, R119_1, R122_0, R122_1, R125_0, R125_1, R128_0, R128_1, R131_0, R131_1, R135_0, R135_1, R135_2, R135_3, R135_4, R135_5, R135_6, R154_0, R154_1, R154_2, ltn hn, g1 f (by omega), mL_8 hL2 (show r f < L 0 3 by omega), mL_8 hL2 hwW, show (f : Int) < 6 by omega, show ((r f : Nat) : Int) < 12 by omega, show (w : Int) < 12 by omega, -Int.natCast_add, -Int.natCast_mul]
            refine ⟨fun h3 => ?_, fun h3 => ?_⟩
            · rw [w32_s (by omega)]
              have h3' : L 8 (r f) ≤ L 8 w := by exact_mod_cast h3
              exact ⟨by omega, fin (Or.inr h3') _⟩
            · have h3' : L 8 w < L 8 (r f) := by exact_mod_cast h3
              refine ⟨by omega, ?_⟩
              refine hP2 f (by omega) _ _ _ _ _ _ _ ⟨by omega, ?_, rfl, rfl, rfl, rfl, rfl, fun i hi => by rw [up_ne hi, hf2 i hi], fun i hi => ?_, fun i i1 i2 => ?_, fun i i1 i2 => ?_⟩
              · rw [w32_m1, w32_b (by omega) (by omega)]
                simp
                omega
              · rw [up_at, if_pos rfl, if_neg (by omega)]
                exact g1 i (by omega)
              · rw [up_at, if_pos rfl]
                by_cases c : i = f
                · rw [if_pos (by omega), c]
                · rw [if_neg (by omega)]
                  exact g2 i (by omega) i2
              · by_cases c : i = f
                · rw [c]; exact h3'
                · exact g3 i (by omega) i2
        · exact ⟨Nat.le_refl _, rfl, rfl, rfl, rfl, rfl, rfl, fun _ _ => rfl, fun i hi => hr i hi, fun i i1 i2 => by omega, fun i i1 i2 => by omega⟩
      · have hPw : ¬ P9 w := fun h2 => h1 ((hP9 w hwW).mp h2)
        refine next hd1 rn r y1 hf hj hrn hr ⟨fun i hi => ⟨by have := (hok.1 i hi).1; omega, (hok.1 i hi).2⟩, fun v hv hpv => ?_, hok.2.2⟩
        by_cases c : v = w
        · subst c; exact absurd hpv hPw
        · exact hok.2.1 v (by omega) hpv
  · exact ⟨0, 0, fun _ => 0, vU, rfl, Nat.zero_le _, rfl, rfl, rfl, rfl, rfl, rfl, fun i i1 i2 => up_ne i1, fun j j1 => by rw [up_at, if_pos rfl, if_neg j1], by rw [up_at, if_pos rfl, if_pos rfl]; rfl, fun i hi => absurd hi (Nat.not_lt_zero i), ⟨fun i hi => absurd hi (Nat.not_lt_zero i), fun v hv => absurd hv (Nat.not_lt_zero v), fun i j _ hj => absurd hj (Nat.not_lt_zero j)⟩⟩
end
