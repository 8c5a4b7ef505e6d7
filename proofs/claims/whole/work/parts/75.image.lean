/-! THE IMAGES: the class -/
section
variable {d f0 n o : Nat} {b : Bool} {L : Lnd} {Q : amQ} {hd : amD}
theorem g_copyOf {o f : Nat} (hd9 : 2 ≤ d) (ho : isHold o) (hn : 159 ≤ n)  (hf : isHold f) (hof : o ≠ f) (h : ∀ hd', (∀ i, ¬ (o ≤ i ∧ i ≤ o + 3) → hd' i = hd i) → (∀ j, 3 ≤ j → j ≤ 6 → hd' o j = hd f j) → (∀ j, j < 3 ∨ 6 < j → hd' o j = hd o j) → (∀ j, j < 12 → hd' (o + 1) j = hd (f + 1) j) → (∀ j, j < 96 → hd' (o + 2) j = hd (f + 2) j) → (∀ j, j < 96 → hd' (o + 3) j = hd (f + 3) j) → Q none (am_R f0 b) hd' n) : wpM d 32 [vR o, vR f] Q (am_R f0 b) hd n := by
  obtain ⟨e, rfl, he⟩ := am_dep hd9
  apply en32
  simp only [trX3_copyOf, am_In, am_lay, am_pad, am_st1, am_st2, am_kill, am_get, am_isI, am_isL, am_isR, am_cat, am_cats, am_b, fin0_4, fin1_4, fin2_4, fin3_4, List.length_cons, List.length_nil, List.take, List.drop, List.reverse_cons, List.reverse_nil, List.nil_append, List.cons_append, s_wL, s_wQ, s_wW, s_wB, s_wJ, s_wR, s_wS, s_nil, s_cons, s_oR, s_iconst, s_bipush, s_sipush, s_lconst, s_null, s_iload, s_iload_n, s_lload, s_lload_n, s_aload, s_aload_n, s_istore, s_istore_n, s_astore, s_astore_n, s_lstore, s_lstore_n, s_iinc, s_iadd, s_isub, s_imul, s_iand, s_ior, s_ixor, s_ishl, s_ishr, s_iushr, s_idiv, s_ladd, s_lsub, s_lmul, s_land, s_ldiv, s_lrem, s_lshl, s_lshr, s_lcmp, s_i2l, s_l2i, s_i2b, s_i2c, s_dup, s_dup2, s_pop, s_arraylength, s_iaload, s_baload, s_laload, s_aaload, s_iastore, s_bastore, s_lastore, s_aastore, s_oG, s_oP0, s_oP1, s_oP2, s_oP3, s_oC, s_oN, s_oA, s_oI, s_oL, s_oS, s_oX0, s_oX1, s_oX2, s_oX3, s_oX4, s_oX5, s_goto, s_ifeq, s_iceq, s_ifne, s_icne, s_iflt, s_iclt, s_ifge, s_icge, s_ifgt, s_icgt, s_ifle, s_icle, s_ifnull, s_ifnonnull, s_ireturn, s_lreturn, s_areturn, s_return, s_sw, s_sw0, s_sw1, s_push0, s_push1, s_rd0, s_rd1, s_rd2, s_rd3, s_rty0, s_rtyi, s_rtyz, s_rtyl, s_rtyo, s_rtya, s_rok, s_lab0, s_labs, s_len, s_reci, s_rec0]
  have hd9' : (o = 21 ∧ 86 ≤ f) ∨ (f = 21 ∧ 86 ≤ o) ∨ (86 ≤ o ∧ 86 ≤ f ∧ (o + 4 ≤ f ∨ f + 4 ≤ o)) := by
    rcases ho with rfl | rfl | rfl | rfl <;> rcases hf with rfl | rfl | rfl | rfl <;> omega
  simp [am_In, am_lay, am_pad, am_st1, am_st2, am_kill, am_get, am_isI, am_isL, am_isR, am_cat, am_cats, am_b, fin0_4, fin1_4, fin2_4, fin3_4, List.length_cons, List.length_nil, List.take, List.drop, List.reverse_cons, List.reverse_nil, List.nil_append, List.cons_append, s_wL, s_wQ, s_wW, s_wB, s_wJ, s_wR, s_wS, s_nil, s_cons, s_oR, s_iconst, s_bipush, s_sipush, s_lconst, s_null, s_iload, s_iload_n, s_lload, s_lload_n, s_aload, s_aload_n, s_istore, s_istore_n, s_astore, s_astore_n, s_lstore, s_lstore_n, s_iinc, s_iadd, s_isub, s_imul, s_iand, s_ior, s_ixor, s_ishl, s_ishr, s_iushr, s_idiv, s_ladd, s_lsub, s_lmul, s_land, s_ldiv, s_lrem, s_lshl, s_lshr, s_lcmp, s_i2l, s_l2i, s_i2b, s_i2c, s_dup, s_dup2, s_pop, s_arraylength, s_iaload, s_baload, s_laload, s_aaload, s_iastore, s_bastore, s_lastore, s_aastore, s_oG, s_oP0, s_oP1, s_oP2, s_oP3, s_oC, s_oN, s_oA, s_oI, s_oL, s_oS, s_oX0, s_oX1, s_oX2, s_oX3, s_oX4, s_oX5, s_goto, s_ifeq, s_iceq, s_ifne, s_icne, s_iflt, s_iclt, s_ifge, s_icge, s_ifgt, s_icgt, s_ifle, s_icle, s_ifnull, s_ifnonnull, s_ireturn, s_lreturn, s_areturn, s_return, s_sw, s_sw0, s_sw1, s_push0, s_push1, s_rd0, s_rd1, s_rd2, s_rd3, s_rty0, s_rtyi, s_rtyz, s_rtyl, s_rtyo, s_rtya, s_rok, s_lab0, s_labs, s_len, s_reci, s_rec0, sh_17, sh_18, sh_19, sh_20, sh_21, sh_22, sh_23, sh_24, sh_25, sh_26, sh_27, sh_28, sh_29, sh_30, sh_31, sh_32, sh_33, sh_34, sh_35, sh_36, sh_37, sh_38, sh_39, sh_40, sh_41, sh_42, sh_43, sh_44, sh_45, sh_46, sh_47, sh_48, sh_49, sh_50, sh_51, sh_52, sh_53, sh_54, sh_55, sh_56, sh_57, sh_58, sh_59, sh_60, sh_61, sh_62, sh_63, sh_64, sh_65, sh_66, sh_67, sh_68, sh_69, sh_70, sh_71, sh_72, sh_73, sh_74, sh_75, sh_76, sh_77, sh_78, sh_79, sh_80, sh_81, sh_82, sh_83, sh_84, sh_85, sh_86, sh_87, sh_88, sh_89, sh_90, sh_91, sh_92, sh_93, sh_94, sh_95, sh_96, sh_97, sl_19, sl_22, sl_23, sl_24, sl_25, sl_27, sl_28, sl_29, sl_30, sl_31, sl_32, sl_33, sl_36, sl_37, sl_39, sl_40, sl_41, sl_43, sl_44, sl_45, sl_46, sl_47, sl_48, sl_49, sl_50, sl_51, sl_54, sl_55, sl_56, sl_57, sl_59, sl_60, sl_61, sl_62, sl_63, sl_64, sl_65, sl_66, sl_67, sl_68, sl_69, sl_70, sl_71, sl_73, sl_74, sl_75, sl_76, sl_77, sl_78, sl_79, sl_80, sl_81, sl_82, sl_83, sl_84, sl_85, sl_87, sl_88, sl_89, sl_91, sl_92, sl_93, sl_95, sl_96, sl_97, R17_0, R17_1, R17_2, R17_3, R17_4, R17_5, R17_6, R17_7, R17_8, R18_0, R20_0, R21_0, R21_1, R21_2, R25_0, R25_1, R25_2, R26_0, R26_1, R26_2, R26_3, R26_4, R26_5, R26_6, R34_0, R34_1, R34_2, R34_3, R34_4, R34_5, R35_0, R35_1, R38_0, R38_1, R38_2, R38_3, R42_0, R42_1, R42_2, R42_3, R42_4, R42_5, R42_6, R53_0, R53_1, R53_2, R86_0, R86_1, R86_2, R90_0, R90_1, R90_2, R94_0, R94_1, R94_2, Rtld, Rspr, ld_s (tld_l b), ld_n (tld_l b) hn, ltn hn, ho_s ho, ho_r0 ho, ho_h0 ho, ho_r1 ho, ho_h1 ho, ho_r2 ho, ho_h2 ho, ho_s hf, ho_r0 hf, ho_h0 hf, ho_r1 hf, ho_h1 hf, ho_r2 hf, ho_h2 hf, ho_n ho hn, ho_n0 ho hn, ho_n1 ho hn, ho_n2 ho hn, ho_n hf hn, ho_n0 hf hn, ho_n1 hf hn, ho_n2 hf hn, -Int.natCast_add, -Int.natCast_mul]
  have n1 : ¬ f = o := by omega
  have n2 : ∀ x y : Nat, x ≤ 3 → y ≤ 3 → ¬ f + x = o + y := fun x y _ _ => by omega
  have m1 := n2 0 1 (by omega) (by omega)
  have m2 := n2 0 2 (by omega) (by omega)
  have m3 := n2 0 3 (by omega) (by omega)
  have m4 := n2 1 0 (by omega) (by omega)
  have m5 := n2 2 0 (by omega) (by omega)
  have m6 := n2 3 0 (by omega) (by omega)
  have m7 := n2 1 1 (by omega) (by omega)
  have m8 := n2 2 1 (by omega) (by omega)
  have m9 := n2 3 1 (by omega) (by omega)
  have k1 := n2 2 2 (by omega) (by omega)
  have k2 := n2 3 2 (by omega) (by omega)
  have k3 := n2 1 2 (by omega) (by omega)
  have k4 := n2 1 3 (by omega) (by omega)
  have k5 := n2 2 3 (by omega) (by omega)
  have k6 := n2 3 3 (by omega) (by omega)
  have k7 := n2 0 0 (by omega) (by omega)
  refine h _ (fun i hi => ?_) (fun j h3 h6 => ?_) (fun j hj => ?_) (fun j hj => ?_) (fun j hj => ?_) (fun j hj => ?_)
  · rw [am_row_ne _ _ (by omega), am_row_ne _ _ (by omega), am_row_ne _ _ (by omega), up_ne (by omega), up_ne (by omega), up_ne (by omega), up_ne (by omega)]
  · rw [am_row_ne _ _ (by omega), am_row_ne _ _ (by omega), am_row_ne _ _ (by omega)]
    rcases (show j = 3 ∨ j = 4 ∨ j = 5 ∨ j = 6 by omega) with rfl | rfl | rfl | rfl <;> simp [up_at, n1, hof]
  · rw [am_row_ne _ _ (by omega), am_row_ne _ _ (by omega), am_row_ne _ _ (by omega)]
    simp [up_at, show ¬ j = 3 by omega, show ¬ j = 4 by omega, show ¬ j = 5 by omega, show ¬ j = 6 by omega]
  · rw [am_row_ne _ _ (by omega), am_row_ne _ _ (by omega), am_row_self]
    simp [am_cpy, hj, up_ne (show f + 1 ≠ o by omega)]
  · rw [am_row_ne _ _ (by omega), am_row_self]
    simp [am_cpy, hj, up_ne (show f + 2 ≠ o by omega), am_row_ne _ _ (show f + 2 ≠ o + 1 by omega)]
  · rw [am_row_self]
    simp [am_cpy, hj, up_ne (show f + 3 ≠ o by omega), am_row_ne _ _ (show f + 3 ≠ o + 1 by omega), am_row_ne _ _ (show f + 3 ≠ o + 2 by omega)]
end
