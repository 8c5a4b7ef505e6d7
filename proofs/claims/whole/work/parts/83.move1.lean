/-! THE TRIPS: the model's moves -/
/-- the model's moves are the list M of m moves -/
def mtR (hd : amD) (M : Lnd) (m : Nat) : Prop := hd 98 47 = (m : Int) ∧ ∀ i, i < m → hd 144 i = (M 2 i : Int) ∧ hd 145 i = (M 3 i : Int) ∧ hd 146 i = (M 1 i : Int) ∧ hd 147 i = (M 0 i : Int) ∧ hd 148 i = (M 4 i : Int)
/-- only the model's moves are others -/
def mtF9 (hd hd' : amD) : Prop := (∀ i, i ≠ 98 → ¬ (144 ≤ i ∧ i ≤ 148) → hd' i = hd i) ∧ ∀ j, j ≠ 47 → hd' 98 j = hd 98 j
theorem mtR_add {hd hd' : amD} {M : Lnd} {m s dy st g la : Nat} (hM : mtR hd M m) (h7 : hd' 98 47 = ((m + 1 : Nat) : Int)) (h0 : ∀ i, hd' 144 i = if i = m then (st : Int) else hd 144 i) (h1 : ∀ i, hd' 145 i = if i = m then (g : Int) else hd 145 i) (h2 : ∀ i, hd' 146 i = if i = m then (dy : Int) else hd 146 i) (h3 : ∀ i, hd' 147 i = if i = m then (s : Int) else hd 147 i) (h4 : ∀ i, hd' 148 i = if i = m then (la : Int) else hd 148 i) : mtR hd' (pushM M m s dy st g la) (m + 1) := by
  refine ⟨h7, fun i hi => ?_⟩
  rw [h0, h1, h2, h3, h4]
  by_cases c : i = m
  · subst c
    simp only [if_pos rfl, pushM_n]
    exact ⟨rfl, rfl, rfl, rfl, rfl⟩
  · rw [if_neg c, if_neg c, if_neg c, if_neg c, if_neg c, pushM_o c, pushM_o c, pushM_o c, pushM_o c, pushM_o c]
    exact hM.2 i (by omega)
section
variable {d f0 n o : Nat} {b : Bool} {L : Lnd} {Q : amQ} {hd : amD}
theorem m_moves1 {M : Lnd} {m p q dy s la : Nat} (hd9 : 1 ≤ d) (hn : 159 ≤ n) (hL : mL hd L) (hM : mtR hd M m) (hm : m < 48) (hp : p < L 0 0) (hq : q < L 0 0) (h0 : L 1 p = L 1 q → Q none (am_R f0 b) hd n) (h : L 1 p ≠ L 1 q → ∀ hd', mtF9 hd hd' → mtR hd' (pushM M m s dy (L 1 p) (L 1 q) la) (m + 1) → Q none (am_R f0 b) hd' n) : wpM d 283 [vR 98, vI (p : Int), vI (q : Int), vI (dy : Int), vI (s : Int), vI (la : Int)] Q (am_R f0 b) hd n := by
  obtain ⟨e, rfl, he⟩ := am_dep hd9
  apply en283
  simp only [trX12_moves, am_In, am_lay, am_pad, am_st1, am_st2, am_kill, am_get, am_isI, am_isL, am_isR, am_cat, am_cats, am_b, fin0_4, fin1_4, fin2_4, fin3_4, List.length_cons, List.length_nil, List.take, List.drop, List.reverse_cons, List.reverse_nil, List.nil_append, List.cons_append, s_wL, s_wQ, s_wW, s_wB, s_wJ, s_wR, s_wS, s_nil, s_cons, s_oR, s_iconst, s_bipush, s_sipush, s_lconst, s_null, s_iload, s_iload_n, s_lload, s_lload_n, s_aload, s_aload_n, s_istore, s_istore_n, s_astore, s_astore_n, s_lstore, s_lstore_n, s_iinc, s_iadd, s_isub, s_imul, s_iand, s_ior, s_ixor, s_ishl, s_ishr, s_iushr, s_idiv, s_ladd, s_lsub, s_lmul, s_land, s_ldiv, s_lrem, s_lshl, s_lshr, s_lcmp, s_i2l, s_l2i, s_i2b, s_i2c, s_dup, s_dup2, s_pop, s_arraylength, s_iaload, s_baload, s_laload, s_aaload, s_iastore, s_bastore, s_lastore, s_aastore, s_oG, s_oP0, s_oP1, s_oP2, s_oP3, s_oC, s_oN, s_oA, s_oI, s_oL, s_oS, s_oX0, s_oX1, s_oX2, s_oX3, s_oX4, s_oX5, s_goto, s_ifeq, s_iceq, s_ifne, s_icne, s_iflt, s_iclt, s_ifge, s_icge, s_ifgt, s_icgt, s_ifle, s_icle, s_ifnull, s_ifnonnull, s_ireturn, s_lreturn, s_areturn, s_return, s_sw, s_sw0, s_sw1, s_push0, s_push1, s_rd0, s_rd1, s_rd2, s_rd3, s_rty0, s_rtyi, s_rtyz, s_rtyl, s_rtyo, s_rtya, s_rok, s_lab0, s_labs, s_len, s_reci, s_rec0]
  have hP := hL.1.1.1
  have u0 : ∀ (f : amD) (j : Nat) (v : Int), am_up f 144 j v 98 = f 98 := fun f j v => up_ne (by decide)
  have v0 : ∀ (f : amD) (j : Nat) (v : Int), am_up f 144 j v 102 = f 102 := fun f j v => up_ne (by decide)
  have u1 : ∀ (f : amD) (j : Nat) (v : Int), am_up f 145 j v 98 = f 98 := fun f j v => up_ne (by decide)
  have v1 : ∀ (f : amD) (j : Nat) (v : Int), am_up f 145 j v 102 = f 102 := fun f j v => up_ne (by decide)
  have u2 : ∀ (f : amD) (j : Nat) (v : Int), am_up f 146 j v 98 = f 98 := fun f j v => up_ne (by decide)
  have v2 : ∀ (f : amD) (j : Nat) (v : Int), am_up f 146 j v 102 = f 102 := fun f j v => up_ne (by decide)
  have u3 : ∀ (f : amD) (j : Nat) (v : Int), am_up f 147 j v 98 = f 98 := fun f j v => up_ne (by decide)
  have v3 : ∀ (f : amD) (j : Nat) (v : Int), am_up f 147 j v 102 = f 102 := fun f j v => up_ne (by decide)
  have u4 : ∀ (f : amD) (j : Nat) (v : Int), am_up f 148 j v 98 = f 98 := fun f j v => up_ne (by decide)
  have v4 : ∀ (f : amD) (j : Nat) (v : Int), am_up f 148 j v 102 = f 102 := fun f j v => up_ne (by decide)
  simp [am_In, am_lay, am_pad, am_st1, am_st2, am_kill, am_get, am_isI, am_isL, am_isR, am_cat, am_cats, am_b, fin0_4, fin1_4, fin2_4, fin3_4, List.length_cons, List.length_nil, List.take, List.drop, List.reverse_cons, List.reverse_nil, List.nil_append, List.cons_append, s_wL, s_wQ, s_wW, s_wB, s_wJ, s_wR, s_wS, s_nil, s_cons, s_oR, s_iconst, s_bipush, s_sipush, s_lconst, s_null, s_iload, s_iload_n, s_lload, s_lload_n, s_aload, s_aload_n, s_istore, s_istore_n, s_astore, s_astore_n, s_lstore, s_lstore_n, s_iinc, s_iadd, s_isub, s_imul, s_iand, s_ior, s_ixor, s_ishl, s_ishr, s_iushr, s_idiv, s_ladd, s_lsub, s_lmul, s_land, s_ldiv, s_lrem, s_lshl, s_lshr, s_lcmp, s_i2l, s_l2i, s_i2b, s_i2c, s_dup, s_dup2, s_pop, s_arraylength, s_iaload, s_baload, s_laload, s_aaload, s_iastore, s_bastore, s_lastore, s_aastore, s_oG, s_oP0, s_oP1, s_oP2, s_oP3, s_oC, s_oN, s_oA, s_oI, s_oL, s_oS, s_oX0, s_oX1, s_oX2, s_oX3, s_oX4, s_oX5, s_goto, s_ifeq, s_iceq, s_ifne, s_icne, s_iflt, s_iclt, s_ifge, s_icge, s_ifgt, s_icgt, s_ifle, s_icle, s_ifnull, s_ifnonnull, s_ireturn, s_lreturn, s_areturn, s_return, s_sw, s_sw0, s_sw1, s_push0, s_push1, s_rd0, s_rd1, s_rd2, s_rd3, s_rty0, s_rtyi, s_rtyz, s_rtyl, s_rtyo, s_rtya, s_rok, s_lab0, s_labs, s_len, s_reci, s_rec0, sh_98, sh_99, sh_100, sh_101, sh_102, sh_103, sh_104, sh_105, sh_106, sh_107, sh_108, sh_109, sh_110, sh_111, sh_112, sh_113, sh_114, sh_115, sh_116, sh_117, sh_118, sh_119, sh_120, sh_121, sh_122, sh_123, sh_124, sh_125, sh_126, sh_127, sh_128, sh_129, sh_130, sh_131, sh_132, sh_133, sh_134, sh_135, sh_136, sh_137, sh_138, sh_139, sh_140, sh_141, sh_142, sh_143, sh_144, sh_145, sh_146, sh_147, sh_148, sh_149, sh_150, sh_151, sh_152, sh_153, sh_154, sh_155, sh_156, sh_157, sh_158, sl_99, sl_100, sl_101, sl_102, sl_103, sl_104, sl_105, sl_106, sl_107, sl_108, sl_109, sl_110, sl_111, sl_112, sl_113, sl_114, sl_115, sl_116, sl_117, sl_118, sl_119, sl_120, sl_121, sl_122, sl_123, sl_124, sl_125, sl_126, sl_127, sl_128, sl_129, sl_130, sl_131, sl_132, sl_133, sl_134, sl_135, sl_136, sl_137, sl_138, sl_139, sl_140, sl_141, sl_142, sl_143, sl_144, sl_145, sl_146, sl_147, sl_148, sl_149, sl_150, sl_151, sl_152, sl_153, sl_154, sl_155, sl_156, sl_157, sl_158, R98_0, R98_1, R98_7, R98_8, R98_9, R98_10, R98_11, R98_12, R98_13, R98_14, R98_15, R98_16, R98_17, R98_18, R98_22, R98_23, R98_24, R98_25, R98_26, R98_34, R98_35, R98_36, R98_37, R98_42, R98_43, R98_44, R98_45, R98_46, R98_48, R98_49, R98_52, R98_53, R98_54, R98_57, R98_58, R101_0, R101_1, R104_0, R104_1, R107_0, R107_1, R110_0, R110_1, R113_0, R113_1, R116_0, R116_1, R119_0, R119_1, R122_0, R122_1, R125_0, R125_1, R128_0, R128_1, R131_0, R131_1, R135_0, R135_1, R135_2, R135_3, R135_4, R135_5, R135_6, R154_0, R154_1, R154_2, ltn hn, u0, u1, u2, u3, u4, v0, v1, v2, v3, v4, mL_1 hL hp, mL_1 hL hq, show (p : Int) < 8 by omega, show (q : Int) < 8 by omega, hM.1, show (m : Int) < 48 by omega, -Int.natCast_add, -Int.natCast_mul]
  refine ⟨fun c1 => ?_, fun c1 => h0 (by omega)⟩
  rw [w32_s (q := m) (by omega)]
  refine h (by omega) _ ⟨fun i a1 a2 => ?_, fun j a1 => ?_⟩ (mtR_add hM ?_ (fun i => ?_) (fun i => ?_) (fun i => ?_) (fun i => ?_) (fun i => ?_))
  · rw [up_ne a1, up_ne (by omega), up_ne (by omega), up_ne (by omega), up_ne (by omega), up_ne (by omega)]
  · simp [up_at, a1]
  · simp [up_at]
  · simp [up_at]
  · simp [up_at]
  · simp [up_at]
  · simp [up_at]
  · simp [up_at]
end
