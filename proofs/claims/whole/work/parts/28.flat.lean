/-! methods without loops, calls and arrays (written by program) -/
theorem y_X0_clear {d : Nat} {o : Nat} {Q : amQ} {hr : amR} {hd : amD} {n : Nat} (hd9 : 1 ≤ d) (h1 : am_shp o = 100) (h2 : o < n) (h : (Q none hr (am_up (am_up hd o 3 0) o 4 0) n)) : wpM d 1 [vR o] Q hr hd n := by
  obtain ⟨e, rfl, he⟩ := am_dep hd9
  apply en1
  simp only [trX0_clear, am_In, am_lay, am_pad, wp, wpL, wpO, wpI, wpJ, wpRet, am_ild, am_ald, am_lld, am_ist, am_ast, am_lst, am_iinc, am_st1, am_st2, am_kill, am_get, am_isI, am_isL, am_isR, am_lab, am_c1, am_c2, am_cn, am_bin, am_lbin, am_un, am_div, am_ldiv, am_lsh, am_i2l, am_l2i, am_lcmpQ, am_dup, am_dup2, am_pop, am_cat, am_cats, am_alen, am_len, am_iald, am_bald, am_lald, am_aald, am_iast, am_bast, am_last, am_aast, am_getf, am_putf, am_rd, am_rty, am_rok, am_b, am_call, am_recv, am_push, am_prim, am_acopy, List.length_cons, List.length_nil, List.take, List.drop, List.reverse_cons, List.reverse_nil, List.nil_append, List.cons_append]
  simp [up_at, w32_w32, h1, h2] at h ⊢
  all_goals first | exact h | (simp_all [am_b]; done) | (repeat' (first | (refine And.intro ?_ ?_) | (intro _))) <;> first | omega | (simp_all [am_b]; done) | (simpa [*] using h)
theorem y_X0_entries {d : Nat} {o : Nat} {Q : amQ} {hr : amR} {hd : amD} {n : Nat} (hd9 : 1 ≤ d) (h1 : am_shp o = 100) (h2 : o < n) (h : (Q (some (vI (hd o 3))) hr hd n)) : wpM d 2 [vR o] Q hr hd n := by
  obtain ⟨e, rfl, he⟩ := am_dep hd9
  apply en2
  simp only [trX0_entries, am_In, am_lay, am_pad, wp, wpL, wpO, wpI, wpJ, wpRet, am_ild, am_ald, am_lld, am_ist, am_ast, am_lst, am_iinc, am_st1, am_st2, am_kill, am_get, am_isI, am_isL, am_isR, am_lab, am_c1, am_c2, am_cn, am_bin, am_lbin, am_un, am_div, am_ldiv, am_lsh, am_i2l, am_l2i, am_lcmpQ, am_dup, am_dup2, am_pop, am_cat, am_cats, am_alen, am_len, am_iald, am_bald, am_lald, am_aald, am_iast, am_bast, am_last, am_aast, am_getf, am_putf, am_rd, am_rty, am_rok, am_b, am_call, am_recv, am_push, am_prim, am_acopy, List.length_cons, List.length_nil, List.take, List.drop, List.reverse_cons, List.reverse_nil, List.nil_append, List.cons_append]
  simp [up_at, w32_w32, h1, h2] at h ⊢
  all_goals first | exact h | (simp_all [am_b]; done) | (repeat' (first | (refine And.intro ?_ ?_) | (intro _))) <;> first | omega | (simp_all [am_b]; done) | (simpa [*] using h)
theorem y_X0_strike {d : Nat} {o : Nat} {Q : amQ} {hr : amR} {hd : amD} {n : Nat} (hd9 : 1 ≤ d) (h1 : am_shp o = 100) (h2 : o < n) (h : ((hd o 3) ≤ 0 → (Q none hr hd n)) ∧ (¬ ((hd o 3) ≤ 0) → (Q none hr (am_up (am_up hd o 3 (w32 ((hd o 3) - 1))) o 4 0) n))) : wpM d 4 [vR o] Q hr hd n := by
  obtain ⟨e, rfl, he⟩ := am_dep hd9
  apply en4
  simp only [trX0_strike, am_In, am_lay, am_pad, wp, wpL, wpO, wpI, wpJ, wpRet, am_ild, am_ald, am_lld, am_ist, am_ast, am_lst, am_iinc, am_st1, am_st2, am_kill, am_get, am_isI, am_isL, am_isR, am_lab, am_c1, am_c2, am_cn, am_bin, am_lbin, am_un, am_div, am_ldiv, am_lsh, am_i2l, am_l2i, am_lcmpQ, am_dup, am_dup2, am_pop, am_cat, am_cats, am_alen, am_len, am_iald, am_bald, am_lald, am_aald, am_iast, am_bast, am_last, am_aast, am_getf, am_putf, am_rd, am_rty, am_rok, am_b, am_call, am_recv, am_push, am_prim, am_acopy, List.length_cons, List.length_nil, List.take, List.drop, List.reverse_cons, List.reverse_nil, List.nil_append, List.cons_append]
  simp [up_at, w32_w32, h1, h2] at h ⊢
  all_goals first | exact h | (simp_all [am_b]; done) | (repeat' (first | (refine And.intro ?_ ?_) | (intro _))) <;> first | omega | (simp_all [am_b]; done) | (simpa [*] using h)
theorem y_X0_first {d : Nat} {o : Nat} {Q : amQ} {hr : amR} {hd : amD} {n : Nat} (hd9 : 1 ≤ d) (h1 : am_shp o = 100) (h2 : o < n) (h : (Q (some (vI (hd o 5))) hr hd n)) : wpM d 9 [vR o] Q hr hd n := by
  obtain ⟨e, rfl, he⟩ := am_dep hd9
  apply en9
  simp only [trX0_first, am_In, am_lay, am_pad, wp, wpL, wpO, wpI, wpJ, wpRet, am_ild, am_ald, am_lld, am_ist, am_ast, am_lst, am_iinc, am_st1, am_st2, am_kill, am_get, am_isI, am_isL, am_isR, am_lab, am_c1, am_c2, am_cn, am_bin, am_lbin, am_un, am_div, am_ldiv, am_lsh, am_i2l, am_l2i, am_lcmpQ, am_dup, am_dup2, am_pop, am_cat, am_cats, am_alen, am_len, am_iald, am_bald, am_lald, am_aald, am_iast, am_bast, am_last, am_aast, am_getf, am_putf, am_rd, am_rty, am_rok, am_b, am_call, am_recv, am_push, am_prim, am_acopy, List.length_cons, List.length_nil, List.take, List.drop, List.reverse_cons, List.reverse_nil, List.nil_append, List.cons_append]
  simp [up_at, w32_w32, h1, h2] at h ⊢
  all_goals first | exact h | (simp_all [am_b]; done) | (repeat' (first | (refine And.intro ?_ ?_) | (intro _))) <;> first | omega | (simp_all [am_b]; done) | (simpa [*] using h)
theorem y_X0_trueBits {d : Nat} {o : Nat} {Q : amQ} {hr : amR} {hd : amD} {n : Nat} (hd9 : 1 ≤ d) (h1 : am_shp o = 100) (h2 : o < n) (h : (Q (some (vI (hd o 6))) hr hd n)) : wpM d 10 [vR o] Q hr hd n := by
  obtain ⟨e, rfl, he⟩ := am_dep hd9
  apply en10
  simp only [trX0_trueBits, am_In, am_lay, am_pad, wp, wpL, wpO, wpI, wpJ, wpRet, am_ild, am_ald, am_lld, am_ist, am_ast, am_lst, am_iinc, am_st1, am_st2, am_kill, am_get, am_isI, am_isL, am_isR, am_lab, am_c1, am_c2, am_cn, am_bin, am_lbin, am_un, am_div, am_ldiv, am_lsh, am_i2l, am_l2i, am_lcmpQ, am_dup, am_dup2, am_pop, am_cat, am_cats, am_alen, am_len, am_iald, am_bald, am_lald, am_aald, am_iast, am_bast, am_last, am_aast, am_getf, am_putf, am_rd, am_rty, am_rok, am_b, am_call, am_recv, am_push, am_prim, am_acopy, List.length_cons, List.length_nil, List.take, List.drop, List.reverse_cons, List.reverse_nil, List.nil_append, List.cons_append]
  simp [up_at, w32_w32, h1, h2] at h ⊢
  all_goals first | exact h | (simp_all [am_b]; done) | (repeat' (first | (refine And.intro ?_ ?_) | (intro _))) <;> first | omega | (simp_all [am_b]; done) | (simpa [*] using h)
theorem y_X0_rivalBits {d : Nat} {o : Nat} {Q : amQ} {hr : amR} {hd : amD} {n : Nat} (hd9 : 1 ≤ d) (h1 : am_shp o = 100) (h2 : o < n) (h : (Q (some (vI (hd o 7))) hr hd n)) : wpM d 11 [vR o] Q hr hd n := by
  obtain ⟨e, rfl, he⟩ := am_dep hd9
  apply en11
  simp only [trX0_rivalBits, am_In, am_lay, am_pad, wp, wpL, wpO, wpI, wpJ, wpRet, am_ild, am_ald, am_lld, am_ist, am_ast, am_lst, am_iinc, am_st1, am_st2, am_kill, am_get, am_isI, am_isL, am_isR, am_lab, am_c1, am_c2, am_cn, am_bin, am_lbin, am_un, am_div, am_ldiv, am_lsh, am_i2l, am_l2i, am_lcmpQ, am_dup, am_dup2, am_pop, am_cat, am_cats, am_alen, am_len, am_iald, am_bald, am_lald, am_aald, am_iast, am_bast, am_last, am_aast, am_getf, am_putf, am_rd, am_rty, am_rok, am_b, am_call, am_recv, am_push, am_prim, am_acopy, List.length_cons, List.length_nil, List.take, List.drop, List.reverse_cons, List.reverse_nil, List.nil_append, List.cons_append]
  simp [up_at, w32_w32, h1, h2] at h ⊢
  all_goals first | exact h | (simp_all [am_b]; done) | (repeat' (first | (refine And.intro ?_ ?_) | (intro _))) <;> first | omega | (simp_all [am_b]; done) | (simpa [*] using h)
theorem y_X1_setMoreOn {d : Nat} {o : Nat} {a0 : Int} {Q : amQ} {hr : amR} {hd : amD} {n : Nat} (hd9 : 1 ≤ d) (h1 : am_shp o = 101) (h2 : o < n) (h : (Q none hr (am_up hd o 9 a0) n)) : wpM d 13 [vR o, vI a0] Q hr hd n := by
  obtain ⟨e, rfl, he⟩ := am_dep hd9
  apply en13
  simp only [trX1_setMoreOn, am_In, am_lay, am_pad, wp, wpL, wpO, wpI, wpJ, wpRet, am_ild, am_ald, am_lld, am_ist, am_ast, am_lst, am_iinc, am_st1, am_st2, am_kill, am_get, am_isI, am_isL, am_isR, am_lab, am_c1, am_c2, am_cn, am_bin, am_lbin, am_un, am_div, am_ldiv, am_lsh, am_i2l, am_l2i, am_lcmpQ, am_dup, am_dup2, am_pop, am_cat, am_cats, am_alen, am_len, am_iald, am_bald, am_lald, am_aald, am_iast, am_bast, am_last, am_aast, am_getf, am_putf, am_rd, am_rty, am_rok, am_b, am_call, am_recv, am_push, am_prim, am_acopy, List.length_cons, List.length_nil, List.take, List.drop, List.reverse_cons, List.reverse_nil, List.nil_append, List.cons_append]
  simp [up_at, w32_w32, h1, h2] at h ⊢
  all_goals first | exact h | (simp_all [am_b]; done) | (repeat' (first | (refine And.intro ?_ ?_) | (intro _))) <;> first | omega | (simp_all [am_b]; done) | (simpa [*] using h)
theorem y_X1_setLonger {d : Nat} {o : Nat} {a0 : Int} {a1 : Int} {Q : amQ} {hr : amR} {hd : amD} {n : Nat} (hd9 : 1 ≤ d) (h1 : am_shp o = 101) (h2 : o < n) (h : (Q none hr (am_up (am_up hd o 10 a0) o 11 a1) n)) : wpM d 14 [vR o, vI a0, vI a1] Q hr hd n := by
  obtain ⟨e, rfl, he⟩ := am_dep hd9
  apply en14
  simp only [trX1_setLonger, am_In, am_lay, am_pad, wp, wpL, wpO, wpI, wpJ, wpRet, am_ild, am_ald, am_lld, am_ist, am_ast, am_lst, am_iinc, am_st1, am_st2, am_kill, am_get, am_isI, am_isL, am_isR, am_lab, am_c1, am_c2, am_cn, am_bin, am_lbin, am_un, am_div, am_ldiv, am_lsh, am_i2l, am_l2i, am_lcmpQ, am_dup, am_dup2, am_pop, am_cat, am_cats, am_alen, am_len, am_iald, am_bald, am_lald, am_aald, am_iast, am_bast, am_last, am_aast, am_getf, am_putf, am_rd, am_rty, am_rok, am_b, am_call, am_recv, am_push, am_prim, am_acopy, List.length_cons, List.length_nil, List.take, List.drop, List.reverse_cons, List.reverse_nil, List.nil_append, List.cons_append]
  simp [up_at, w32_w32, h1, h2] at h ⊢
  all_goals first | exact h | (simp_all [am_b]; done) | (repeat' (first | (refine And.intro ?_ ?_) | (intro _))) <;> first | omega | (simp_all [am_b]; done) | (simpa [*] using h)
theorem y_X1_chosenBits {d : Nat} {o : Nat} {Q : amQ} {hr : amR} {hd : amD} {n : Nat} (hd9 : 1 ≤ d) (h1 : am_shp o = 101) (h2 : o < n) (h : (Q (some (vI (hd o 13))) hr hd n)) : wpM d 16 [vR o] Q hr hd n := by
  obtain ⟨e, rfl, he⟩ := am_dep hd9
  apply en16
  simp only [trX1_chosenBits, am_In, am_lay, am_pad, wp, wpL, wpO, wpI, wpJ, wpRet, am_ild, am_ald, am_lld, am_ist, am_ast, am_lst, am_iinc, am_st1, am_st2, am_kill, am_get, am_isI, am_isL, am_isR, am_lab, am_c1, am_c2, am_cn, am_bin, am_lbin, am_un, am_div, am_ldiv, am_lsh, am_i2l, am_l2i, am_lcmpQ, am_dup, am_dup2, am_pop, am_cat, am_cats, am_alen, am_len, am_iald, am_bald, am_lald, am_aald, am_iast, am_bast, am_last, am_aast, am_getf, am_putf, am_rd, am_rty, am_rok, am_b, am_call, am_recv, am_push, am_prim, am_acopy, List.length_cons, List.length_nil, List.take, List.drop, List.reverse_cons, List.reverse_nil, List.nil_append, List.cons_append]
  simp [up_at, w32_w32, h1, h2] at h ⊢
  all_goals first | exact h | (simp_all [am_b]; done) | (repeat' (first | (refine And.intro ?_ ?_) | (intro _))) <;> first | omega | (simp_all [am_b]; done) | (simpa [*] using h)
theorem y_X1_roomOn {d : Nat} {o : Nat} {a0 : Int} {Q : amQ} {hr : amR} {hd : amD} {n : Nat} (hd9 : 1 ≤ d) (h1 : am_shp o = 101) (h2 : o < n) (h : (¬ a0 = (hd o 9) → (Q (some (vI (hd o 8))) hr hd n)) ∧ (¬ (¬ a0 = (hd o 9)) → (Q (some (vI (w32 ((hd o 8) + 1)))) hr hd n))) : wpM d 21 [vR o, vI a0] Q hr hd n := by
  obtain ⟨e, rfl, he⟩ := am_dep hd9
  apply en21
  simp only [trX1_roomOn, am_In, am_lay, am_pad, wp, wpL, wpO, wpI, wpJ, wpRet, am_ild, am_ald, am_lld, am_ist, am_ast, am_lst, am_iinc, am_st1, am_st2, am_kill, am_get, am_isI, am_isL, am_isR, am_lab, am_c1, am_c2, am_cn, am_bin, am_lbin, am_un, am_div, am_ldiv, am_lsh, am_i2l, am_l2i, am_lcmpQ, am_dup, am_dup2, am_pop, am_cat, am_cats, am_alen, am_len, am_iald, am_bald, am_lald, am_aald, am_iast, am_bast, am_last, am_aast, am_getf, am_putf, am_rd, am_rty, am_rok, am_b, am_call, am_recv, am_push, am_prim, am_acopy, List.length_cons, List.length_nil, List.take, List.drop, List.reverse_cons, List.reverse_nil, List.nil_append, List.cons_append]
  simp [up_at, w32_w32, h1, h2] at h ⊢
  all_goals first | exact h | (simp_all [am_b]; done) | (repeat' (first | (refine And.intro ?_ ?_) | (intro _))) <;> first | omega | (simp_all [am_b]; done) | (simpa [*] using h)
theorem y_X2_shiftOf {d : Nat} {a0 : Int} {Q : amQ} {hr : amR} {hd : amD} {n : Nat} (hd9 : 1 ≤ d)  (h : (Q (some (vI (w32 (2 * (w32 (11 - a0)))))) hr hd n)) : wpM d 26 [vI a0] Q hr hd n := by
  obtain ⟨e, rfl, he⟩ := am_dep hd9
  apply en26
  simp only [trX2_shiftOf, am_In, am_lay, am_pad, wp, wpL, wpO, wpI, wpJ, wpRet, am_ild, am_ald, am_lld, am_ist, am_ast, am_lst, am_iinc, am_st1, am_st2, am_kill, am_get, am_isI, am_isL, am_isR, am_lab, am_c1, am_c2, am_cn, am_bin, am_lbin, am_un, am_div, am_ldiv, am_lsh, am_i2l, am_l2i, am_lcmpQ, am_dup, am_dup2, am_pop, am_cat, am_cats, am_alen, am_len, am_iald, am_bald, am_lald, am_aald, am_iast, am_bast, am_last, am_aast, am_getf, am_putf, am_rd, am_rty, am_rok, am_b, am_call, am_recv, am_push, am_prim, am_acopy, List.length_cons, List.length_nil, List.take, List.drop, List.reverse_cons, List.reverse_nil, List.nil_append, List.cons_append]
  simp [up_at, w32_w32] at h ⊢
  all_goals first | exact h | (simp_all [am_b]; done) | (repeat' (first | (refine And.intro ?_ ?_) | (intro _))) <;> first | omega | (simp_all [am_b]; done) | (simpa [*] using h)
theorem y_X3_isKept {d : Nat} {o : Nat} {Q : amQ} {hr : amR} {hd : amD} {n : Nat} (hd9 : 1 ≤ d) (h1 : am_shp o = 103) (h2 : o < n) (hz : am_b (hd o 7)) (h : (Q (some (vI (hd o 7))) hr hd n)) : wpM d 33 [vR o] Q hr hd n := by
  obtain ⟨e, rfl, he⟩ := am_dep hd9
  apply en33
  simp only [trX3_isKept, am_In, am_lay, am_pad, wp, wpL, wpO, wpI, wpJ, wpRet, am_ild, am_ald, am_lld, am_ist, am_ast, am_lst, am_iinc, am_st1, am_st2, am_kill, am_get, am_isI, am_isL, am_isR, am_lab, am_c1, am_c2, am_cn, am_bin, am_lbin, am_un, am_div, am_ldiv, am_lsh, am_i2l, am_l2i, am_lcmpQ, am_dup, am_dup2, am_pop, am_cat, am_cats, am_alen, am_len, am_iald, am_bald, am_lald, am_aald, am_iast, am_bast, am_last, am_aast, am_getf, am_putf, am_rd, am_rty, am_rok, am_b, am_call, am_recv, am_push, am_prim, am_acopy, List.length_cons, List.length_nil, List.take, List.drop, List.reverse_cons, List.reverse_nil, List.nil_append, List.cons_append]
  simp [up_at, w32_w32, h1, h2, hz] at h ⊢
  all_goals try exact ⟨hz, h⟩
  all_goals first | exact h | (simp_all [am_b]; done) | (repeat' (first | (refine And.intro ?_ ?_) | (intro _))) <;> first | omega | (simp_all [am_b]; done) | (simpa [*] using h)
theorem y_X3_setKept {d : Nat} {o : Nat} {a0 : Int} {Q : amQ} {hr : amR} {hd : amD} {n : Nat} (hd9 : 1 ≤ d) (h1 : am_shp o = 103) (h2 : o < n) (hba0 : am_b a0) (h : (Q none hr (am_up hd o 7 a0) n)) : wpM d 34 [vR o, vI a0] Q hr hd n := by
  obtain ⟨e, rfl, he⟩ := am_dep hd9
  apply en34
  simp only [trX3_setKept, am_In, am_lay, am_pad, wp, wpL, wpO, wpI, wpJ, wpRet, am_ild, am_ald, am_lld, am_ist, am_ast, am_lst, am_iinc, am_st1, am_st2, am_kill, am_get, am_isI, am_isL, am_isR, am_lab, am_c1, am_c2, am_cn, am_bin, am_lbin, am_un, am_div, am_ldiv, am_lsh, am_i2l, am_l2i, am_lcmpQ, am_dup, am_dup2, am_pop, am_cat, am_cats, am_alen, am_len, am_iald, am_bald, am_lald, am_aald, am_iast, am_bast, am_last, am_aast, am_getf, am_putf, am_rd, am_rty, am_rok, am_b, am_call, am_recv, am_push, am_prim, am_acopy, List.length_cons, List.length_nil, List.take, List.drop, List.reverse_cons, List.reverse_nil, List.nil_append, List.cons_append]
  simp [up_at, w32_w32, h1, h2, hba0] at h ⊢
  all_goals first | exact h | (simp_all [am_b]; done) | (repeat' (first | (refine And.intro ?_ ?_) | (intro _))) <;> first | omega | (simp_all [am_b]; done) | (simpa [*] using h)
theorem y_X3_today {d : Nat} {o : Nat} {Q : amQ} {hr : amR} {hd : amD} {n : Nat} (hd9 : 1 ≤ d) (h1 : am_shp o = 103) (h2 : o < n) (h : (Q (some (vI (hd o 3))) hr hd n)) : wpM d 35 [vR o] Q hr hd n := by
  obtain ⟨e, rfl, he⟩ := am_dep hd9
  apply en35
  simp only [trX3_today, am_In, am_lay, am_pad, wp, wpL, wpO, wpI, wpJ, wpRet, am_ild, am_ald, am_lld, am_ist, am_ast, am_lst, am_iinc, am_st1, am_st2, am_kill, am_get, am_isI, am_isL, am_isR, am_lab, am_c1, am_c2, am_cn, am_bin, am_lbin, am_un, am_div, am_ldiv, am_lsh, am_i2l, am_l2i, am_lcmpQ, am_dup, am_dup2, am_pop, am_cat, am_cats, am_alen, am_len, am_iald, am_bald, am_lald, am_aald, am_iast, am_bast, am_last, am_aast, am_getf, am_putf, am_rd, am_rty, am_rok, am_b, am_call, am_recv, am_push, am_prim, am_acopy, List.length_cons, List.length_nil, List.take, List.drop, List.reverse_cons, List.reverse_nil, List.nil_append, List.cons_append]
  simp [up_at, w32_w32, h1, h2] at h ⊢
  all_goals first | exact h | (simp_all [am_b]; done) | (repeat' (first | (refine And.intro ?_ ?_) | (intro _))) <;> first | omega | (simp_all [am_b]; done) | (simpa [*] using h)
theorem y_X3_carriedSoFar {d : Nat} {o : Nat} {Q : amQ} {hr : amR} {hd : amD} {n : Nat} (hd9 : 1 ≤ d) (h1 : am_shp o = 103) (h2 : o < n) (h : (Q (some (vI (hd o 4))) hr hd n)) : wpM d 36 [vR o] Q hr hd n := by
  obtain ⟨e, rfl, he⟩ := am_dep hd9
  apply en36
  simp only [trX3_carriedSoFar, am_In, am_lay, am_pad, wp, wpL, wpO, wpI, wpJ, wpRet, am_ild, am_ald, am_lld, am_ist, am_ast, am_lst, am_iinc, am_st1, am_st2, am_kill, am_get, am_isI, am_isL, am_isR, am_lab, am_c1, am_c2, am_cn, am_bin, am_lbin, am_un, am_div, am_ldiv, am_lsh, am_i2l, am_l2i, am_lcmpQ, am_dup, am_dup2, am_pop, am_cat, am_cats, am_alen, am_len, am_iald, am_bald, am_lald, am_aald, am_iast, am_bast, am_last, am_aast, am_getf, am_putf, am_rd, am_rty, am_rok, am_b, am_call, am_recv, am_push, am_prim, am_acopy, List.length_cons, List.length_nil, List.take, List.drop, List.reverse_cons, List.reverse_nil, List.nil_append, List.cons_append]
  simp [up_at, w32_w32, h1, h2] at h ⊢
  all_goals first | exact h | (simp_all [am_b]; done) | (repeat' (first | (refine And.intro ?_ ?_) | (intro _))) <;> first | omega | (simp_all [am_b]; done) | (simpa [*] using h)
theorem y_X3_lostBits {d : Nat} {o : Nat} {Q : amQ} {hr : amR} {hd : amD} {n : Nat} (hd9 : 1 ≤ d) (h1 : am_shp o = 103) (h2 : o < n) (h : (Q (some (vI (hd o 5))) hr hd n)) : wpM d 37 [vR o] Q hr hd n := by
  obtain ⟨e, rfl, he⟩ := am_dep hd9
  apply en37
  simp only [trX3_lostBits, am_In, am_lay, am_pad, wp, wpL, wpO, wpI, wpJ, wpRet, am_ild, am_ald, am_lld, am_ist, am_ast, am_lst, am_iinc, am_st1, am_st2, am_kill, am_get, am_isI, am_isL, am_isR, am_lab, am_c1, am_c2, am_cn, am_bin, am_lbin, am_un, am_div, am_ldiv, am_lsh, am_i2l, am_l2i, am_lcmpQ, am_dup, am_dup2, am_pop, am_cat, am_cats, am_alen, am_len, am_iald, am_bald, am_lald, am_aald, am_iast, am_bast, am_last, am_aast, am_getf, am_putf, am_rd, am_rty, am_rok, am_b, am_call, am_recv, am_push, am_prim, am_acopy, List.length_cons, List.length_nil, List.take, List.drop, List.reverse_cons, List.reverse_nil, List.nil_append, List.cons_append]
  simp [up_at, w32_w32, h1, h2] at h ⊢
  all_goals first | exact h | (simp_all [am_b]; done) | (repeat' (first | (refine And.intro ?_ ?_) | (intro _))) <;> first | omega | (simp_all [am_b]; done) | (simpa [*] using h)
theorem y_X3_lawNow {d : Nat} {o : Nat} {Q : amQ} {hr : amR} {hd : amD} {n : Nat} (hd9 : 1 ≤ d) (h1 : am_shp o = 103) (h2 : o < n) (h : (Q (some (vI (hd o 6))) hr hd n)) : wpM d 38 [vR o] Q hr hd n := by
  obtain ⟨e, rfl, he⟩ := am_dep hd9
  apply en38
  simp only [trX3_lawNow, am_In, am_lay, am_pad, wp, wpL, wpO, wpI, wpJ, wpRet, am_ild, am_ald, am_lld, am_ist, am_ast, am_lst, am_iinc, am_st1, am_st2, am_kill, am_get, am_isI, am_isL, am_isR, am_lab, am_c1, am_c2, am_cn, am_bin, am_lbin, am_un, am_div, am_ldiv, am_lsh, am_i2l, am_l2i, am_lcmpQ, am_dup, am_dup2, am_pop, am_cat, am_cats, am_alen, am_len, am_iald, am_bald, am_lald, am_aald, am_iast, am_bast, am_last, am_aast, am_getf, am_putf, am_rd, am_rty, am_rok, am_b, am_call, am_recv, am_push, am_prim, am_acopy, List.length_cons, List.length_nil, List.take, List.drop, List.reverse_cons, List.reverse_nil, List.nil_append, List.cons_append]
  simp [up_at, w32_w32, h1, h2] at h ⊢
  all_goals first | exact h | (simp_all [am_b]; done) | (repeat' (first | (refine And.intro ?_ ?_) | (intro _))) <;> first | omega | (simp_all [am_b]; done) | (simpa [*] using h)
theorem y_X3_setLaw {d : Nat} {o : Nat} {a0 : Int} {Q : amQ} {hr : amR} {hd : amD} {n : Nat} (hd9 : 1 ≤ d) (h1 : am_shp o = 103) (h2 : o < n) (h : (Q none hr (am_up hd o 6 a0) n)) : wpM d 39 [vR o, vI a0] Q hr hd n := by
  obtain ⟨e, rfl, he⟩ := am_dep hd9
  apply en39
  simp only [trX3_setLaw, am_In, am_lay, am_pad, wp, wpL, wpO, wpI, wpJ, wpRet, am_ild, am_ald, am_lld, am_ist, am_ast, am_lst, am_iinc, am_st1, am_st2, am_kill, am_get, am_isI, am_isL, am_isR, am_lab, am_c1, am_c2, am_cn, am_bin, am_lbin, am_un, am_div, am_ldiv, am_lsh, am_i2l, am_l2i, am_lcmpQ, am_dup, am_dup2, am_pop, am_cat, am_cats, am_alen, am_len, am_iald, am_bald, am_lald, am_aald, am_iast, am_bast, am_last, am_aast, am_getf, am_putf, am_rd, am_rty, am_rok, am_b, am_call, am_recv, am_push, am_prim, am_acopy, List.length_cons, List.length_nil, List.take, List.drop, List.reverse_cons, List.reverse_nil, List.nil_append, List.cons_append]
  simp [up_at, w32_w32, h1, h2] at h ⊢
  all_goals first | exact h | (simp_all [am_b]; done) | (repeat' (first | (refine And.intro ?_ ?_) | (intro _))) <;> first | omega | (simp_all [am_b]; done) | (simpa [*] using h)
theorem y_X4_clear {d : Nat} {o : Nat} {Q : amQ} {hr : amR} {hd : amD} {n : Nat} (hd9 : 1 ≤ d) (h1 : am_shp o = 104) (h2 : o < n) (h : (Q none hr (am_up (am_up (am_up (am_up (am_up (am_up hd o 13 0) o 14 0) o 15 0) o 16 0) o 17 ((-1))) o 18 ((-1))) n)) : wpM d 57 [vR o] Q hr hd n := by
  obtain ⟨e, rfl, he⟩ := am_dep hd9
  apply en57
  simp only [trX4_clear, am_In, am_lay, am_pad, wp, wpL, wpO, wpI, wpJ, wpRet, am_ild, am_ald, am_lld, am_ist, am_ast, am_lst, am_iinc, am_st1, am_st2, am_kill, am_get, am_isI, am_isL, am_isR, am_lab, am_c1, am_c2, am_cn, am_bin, am_lbin, am_un, am_div, am_ldiv, am_lsh, am_i2l, am_l2i, am_lcmpQ, am_dup, am_dup2, am_pop, am_cat, am_cats, am_alen, am_len, am_iald, am_bald, am_lald, am_aald, am_iast, am_bast, am_last, am_aast, am_getf, am_putf, am_rd, am_rty, am_rok, am_b, am_call, am_recv, am_push, am_prim, am_acopy, List.length_cons, List.length_nil, List.take, List.drop, List.reverse_cons, List.reverse_nil, List.nil_append, List.cons_append]
  simp [up_at, w32_w32, h1, h2] at h ⊢
  all_goals first | exact h | (simp_all [am_b]; done) | (repeat' (first | (refine And.intro ?_ ?_) | (intro _))) <;> first | omega | (simp_all [am_b]; done) | (simpa [*] using h)
theorem y_X4_tellHands {d : Nat} {o : Nat} {a0 : Int} {Q : amQ} {hr : amR} {hd : amD} {n : Nat} (hd9 : 1 ≤ d) (h1 : am_shp o = 104) (h2 : o < n) (h : (Q none hr (am_up hd o 17 a0) n)) : wpM d 63 [vR o, vI a0] Q hr hd n := by
  obtain ⟨e, rfl, he⟩ := am_dep hd9
  apply en63
  simp only [trX4_tellHands, am_In, am_lay, am_pad, wp, wpL, wpO, wpI, wpJ, wpRet, am_ild, am_ald, am_lld, am_ist, am_ast, am_lst, am_iinc, am_st1, am_st2, am_kill, am_get, am_isI, am_isL, am_isR, am_lab, am_c1, am_c2, am_cn, am_bin, am_lbin, am_un, am_div, am_ldiv, am_lsh, am_i2l, am_l2i, am_lcmpQ, am_dup, am_dup2, am_pop, am_cat, am_cats, am_alen, am_len, am_iald, am_bald, am_lald, am_aald, am_iast, am_bast, am_last, am_aast, am_getf, am_putf, am_rd, am_rty, am_rok, am_b, am_call, am_recv, am_push, am_prim, am_acopy, List.length_cons, List.length_nil, List.take, List.drop, List.reverse_cons, List.reverse_nil, List.nil_append, List.cons_append]
  simp [up_at, w32_w32, h1, h2] at h ⊢
  all_goals first | exact h | (simp_all [am_b]; done) | (repeat' (first | (refine And.intro ?_ ?_) | (intro _))) <;> first | omega | (simp_all [am_b]; done) | (simpa [*] using h)
theorem y_X4_tellRoad {d : Nat} {o : Nat} {a0 : Int} {Q : amQ} {hr : amR} {hd : amD} {n : Nat} (hd9 : 1 ≤ d) (h1 : am_shp o = 104) (h2 : o < n) (h : (Q none hr (am_up hd o 18 a0) n)) : wpM d 64 [vR o, vI a0] Q hr hd n := by
  obtain ⟨e, rfl, he⟩ := am_dep hd9
  apply en64
  simp only [trX4_tellRoad, am_In, am_lay, am_pad, wp, wpL, wpO, wpI, wpJ, wpRet, am_ild, am_ald, am_lld, am_ist, am_ast, am_lst, am_iinc, am_st1, am_st2, am_kill, am_get, am_isI, am_isL, am_isR, am_lab, am_c1, am_c2, am_cn, am_bin, am_lbin, am_un, am_div, am_ldiv, am_lsh, am_i2l, am_l2i, am_lcmpQ, am_dup, am_dup2, am_pop, am_cat, am_cats, am_alen, am_len, am_iald, am_bald, am_lald, am_aald, am_iast, am_bast, am_last, am_aast, am_getf, am_putf, am_rd, am_rty, am_rok, am_b, am_call, am_recv, am_push, am_prim, am_acopy, List.length_cons, List.length_nil, List.take, List.drop, List.reverse_cons, List.reverse_nil, List.nil_append, List.cons_append]
  simp [up_at, w32_w32, h1, h2] at h ⊢
  all_goals first | exact h | (simp_all [am_b]; done) | (repeat' (first | (refine And.intro ?_ ?_) | (intro _))) <;> first | omega | (simp_all [am_b]; done) | (simpa [*] using h)
theorem y_X4_people {d : Nat} {o : Nat} {Q : amQ} {hr : amR} {hd : amD} {n : Nat} (hd9 : 1 ≤ d) (h1 : am_shp o = 104) (h2 : o < n) (h : (Q (some (vI (hd o 13))) hr hd n)) : wpM d 66 [vR o] Q hr hd n := by
  obtain ⟨e, rfl, he⟩ := am_dep hd9
  apply en66
  simp only [trX4_people, am_In, am_lay, am_pad, wp, wpL, wpO, wpI, wpJ, wpRet, am_ild, am_ald, am_lld, am_ist, am_ast, am_lst, am_iinc, am_st1, am_st2, am_kill, am_get, am_isI, am_isL, am_isR, am_lab, am_c1, am_c2, am_cn, am_bin, am_lbin, am_un, am_div, am_ldiv, am_lsh, am_i2l, am_l2i, am_lcmpQ, am_dup, am_dup2, am_pop, am_cat, am_cats, am_alen, am_len, am_iald, am_bald, am_lald, am_aald, am_iast, am_bast, am_last, am_aast, am_getf, am_putf, am_rd, am_rty, am_rok, am_b, am_call, am_recv, am_push, am_prim, am_acopy, List.length_cons, List.length_nil, List.take, List.drop, List.reverse_cons, List.reverse_nil, List.nil_append, List.cons_append]
  simp [up_at, w32_w32, h1, h2] at h ⊢
  all_goals first | exact h | (simp_all [am_b]; done) | (repeat' (first | (refine And.intro ?_ ?_) | (intro _))) <;> first | omega | (simp_all [am_b]; done) | (simpa [*] using h)
theorem y_X4_sorts {d : Nat} {o : Nat} {Q : amQ} {hr : amR} {hd : amD} {n : Nat} (hd9 : 1 ≤ d) (h1 : am_shp o = 104) (h2 : o < n) (h : (Q (some (vI (hd o 14))) hr hd n)) : wpM d 67 [vR o] Q hr hd n := by
  obtain ⟨e, rfl, he⟩ := am_dep hd9
  apply en67
  simp only [trX4_sorts, am_In, am_lay, am_pad, wp, wpL, wpO, wpI, wpJ, wpRet, am_ild, am_ald, am_lld, am_ist, am_ast, am_lst, am_iinc, am_st1, am_st2, am_kill, am_get, am_isI, am_isL, am_isR, am_lab, am_c1, am_c2, am_cn, am_bin, am_lbin, am_un, am_div, am_ldiv, am_lsh, am_i2l, am_l2i, am_lcmpQ, am_dup, am_dup2, am_pop, am_cat, am_cats, am_alen, am_len, am_iald, am_bald, am_lald, am_aald, am_iast, am_bast, am_last, am_aast, am_getf, am_putf, am_rd, am_rty, am_rok, am_b, am_call, am_recv, am_push, am_prim, am_acopy, List.length_cons, List.length_nil, List.take, List.drop, List.reverse_cons, List.reverse_nil, List.nil_append, List.cons_append]
  simp [up_at, w32_w32, h1, h2] at h ⊢
  all_goals first | exact h | (simp_all [am_b]; done) | (repeat' (first | (refine And.intro ?_ ?_) | (intro _))) <;> first | omega | (simp_all [am_b]; done) | (simpa [*] using h)
theorem y_X4_things {d : Nat} {o : Nat} {Q : amQ} {hr : amR} {hd : amD} {n : Nat} (hd9 : 1 ≤ d) (h1 : am_shp o = 104) (h2 : o < n) (h : (Q (some (vI (hd o 15))) hr hd n)) : wpM d 68 [vR o] Q hr hd n := by
  obtain ⟨e, rfl, he⟩ := am_dep hd9
  apply en68
  simp only [trX4_things, am_In, am_lay, am_pad, wp, wpL, wpO, wpI, wpJ, wpRet, am_ild, am_ald, am_lld, am_ist, am_ast, am_lst, am_iinc, am_st1, am_st2, am_kill, am_get, am_isI, am_isL, am_isR, am_lab, am_c1, am_c2, am_cn, am_bin, am_lbin, am_un, am_div, am_ldiv, am_lsh, am_i2l, am_l2i, am_lcmpQ, am_dup, am_dup2, am_pop, am_cat, am_cats, am_alen, am_len, am_iald, am_bald, am_lald, am_aald, am_iast, am_bast, am_last, am_aast, am_getf, am_putf, am_rd, am_rty, am_rok, am_b, am_call, am_recv, am_push, am_prim, am_acopy, List.length_cons, List.length_nil, List.take, List.drop, List.reverse_cons, List.reverse_nil, List.nil_append, List.cons_append]
  simp [up_at, w32_w32, h1, h2] at h ⊢
  all_goals first | exact h | (simp_all [am_b]; done) | (repeat' (first | (refine And.intro ?_ ?_) | (intro _))) <;> first | omega | (simp_all [am_b]; done) | (simpa [*] using h)
theorem y_X4_wants {d : Nat} {o : Nat} {Q : amQ} {hr : amR} {hd : amD} {n : Nat} (hd9 : 1 ≤ d) (h1 : am_shp o = 104) (h2 : o < n) (h : (Q (some (vI (hd o 16))) hr hd n)) : wpM d 69 [vR o] Q hr hd n := by
  obtain ⟨e, rfl, he⟩ := am_dep hd9
  apply en69
  simp only [trX4_wants, am_In, am_lay, am_pad, wp, wpL, wpO, wpI, wpJ, wpRet, am_ild, am_ald, am_lld, am_ist, am_ast, am_lst, am_iinc, am_st1, am_st2, am_kill, am_get, am_isI, am_isL, am_isR, am_lab, am_c1, am_c2, am_cn, am_bin, am_lbin, am_un, am_div, am_ldiv, am_lsh, am_i2l, am_l2i, am_lcmpQ, am_dup, am_dup2, am_pop, am_cat, am_cats, am_alen, am_len, am_iald, am_bald, am_lald, am_aald, am_iast, am_bast, am_last, am_aast, am_getf, am_putf, am_rd, am_rty, am_rok, am_b, am_call, am_recv, am_push, am_prim, am_acopy, List.length_cons, List.length_nil, List.take, List.drop, List.reverse_cons, List.reverse_nil, List.nil_append, List.cons_append]
  simp [up_at, w32_w32, h1, h2] at h ⊢
  all_goals first | exact h | (simp_all [am_b]; done) | (repeat' (first | (refine And.intro ?_ ?_) | (intro _))) <;> first | omega | (simp_all [am_b]; done) | (simpa [*] using h)
theorem y_X4_handsTold {d : Nat} {o : Nat} {Q : amQ} {hr : amR} {hd : amD} {n : Nat} (hd9 : 1 ≤ d) (h1 : am_shp o = 104) (h2 : o < n) (h : ((hd o 17) = ((-1)) → (Q (some (vI 0)) hr hd n)) ∧ (¬ ((hd o 17) = ((-1))) → (Q (some (vI 1)) hr hd n))) : wpM d 70 [vR o] Q hr hd n := by
  obtain ⟨e, rfl, he⟩ := am_dep hd9
  apply en70
  simp only [trX4_handsTold, am_In, am_lay, am_pad, wp, wpL, wpO, wpI, wpJ, wpRet, am_ild, am_ald, am_lld, am_ist, am_ast, am_lst, am_iinc, am_st1, am_st2, am_kill, am_get, am_isI, am_isL, am_isR, am_lab, am_c1, am_c2, am_cn, am_bin, am_lbin, am_un, am_div, am_ldiv, am_lsh, am_i2l, am_l2i, am_lcmpQ, am_dup, am_dup2, am_pop, am_cat, am_cats, am_alen, am_len, am_iald, am_bald, am_lald, am_aald, am_iast, am_bast, am_last, am_aast, am_getf, am_putf, am_rd, am_rty, am_rok, am_b, am_call, am_recv, am_push, am_prim, am_acopy, List.length_cons, List.length_nil, List.take, List.drop, List.reverse_cons, List.reverse_nil, List.nil_append, List.cons_append]
  simp [up_at, w32_w32, h1, h2] at h ⊢
  all_goals first | exact h | (simp_all [am_b]; done) | (repeat' (first | (refine And.intro ?_ ?_) | (intro _))) <;> first | omega | (simp_all [am_b]; done) | (simpa [*] using h)
theorem y_X4_roadTold {d : Nat} {o : Nat} {Q : amQ} {hr : amR} {hd : amD} {n : Nat} (hd9 : 1 ≤ d) (h1 : am_shp o = 104) (h2 : o < n) (h : ((hd o 18) = ((-1)) → (Q (some (vI 0)) hr hd n)) ∧ (¬ ((hd o 18) = ((-1))) → (Q (some (vI 1)) hr hd n))) : wpM d 71 [vR o] Q hr hd n := by
  obtain ⟨e, rfl, he⟩ := am_dep hd9
  apply en71
  simp only [trX4_roadTold, am_In, am_lay, am_pad, wp, wpL, wpO, wpI, wpJ, wpRet, am_ild, am_ald, am_lld, am_ist, am_ast, am_lst, am_iinc, am_st1, am_st2, am_kill, am_get, am_isI, am_isL, am_isR, am_lab, am_c1, am_c2, am_cn, am_bin, am_lbin, am_un, am_div, am_ldiv, am_lsh, am_i2l, am_l2i, am_lcmpQ, am_dup, am_dup2, am_pop, am_cat, am_cats, am_alen, am_len, am_iald, am_bald, am_lald, am_aald, am_iast, am_bast, am_last, am_aast, am_getf, am_putf, am_rd, am_rty, am_rok, am_b, am_call, am_recv, am_push, am_prim, am_acopy, List.length_cons, List.length_nil, List.take, List.drop, List.reverse_cons, List.reverse_nil, List.nil_append, List.cons_append]
  simp [up_at, w32_w32, h1, h2] at h ⊢
  all_goals first | exact h | (simp_all [am_b]; done) | (repeat' (first | (refine And.intro ?_ ?_) | (intro _))) <;> first | omega | (simp_all [am_b]; done) | (simpa [*] using h)
theorem y_X4_hands {d : Nat} {o : Nat} {Q : amQ} {hr : amR} {hd : amD} {n : Nat} (hd9 : 1 ≤ d) (h1 : am_shp o = 104) (h2 : o < n) (h : (¬ (hd o 17) = ((-1)) → (Q (some (vI (hd o 17))) hr hd n)) ∧ (¬ (¬ (hd o 17) = ((-1))) → (Q (some (vI 9)) hr hd n))) : wpM d 72 [vR o] Q hr hd n := by
  obtain ⟨e, rfl, he⟩ := am_dep hd9
  apply en72
  simp only [trX4_hands, am_In, am_lay, am_pad, wp, wpL, wpO, wpI, wpJ, wpRet, am_ild, am_ald, am_lld, am_ist, am_ast, am_lst, am_iinc, am_st1, am_st2, am_kill, am_get, am_isI, am_isL, am_isR, am_lab, am_c1, am_c2, am_cn, am_bin, am_lbin, am_un, am_div, am_ldiv, am_lsh, am_i2l, am_l2i, am_lcmpQ, am_dup, am_dup2, am_pop, am_cat, am_cats, am_alen, am_len, am_iald, am_bald, am_lald, am_aald, am_iast, am_bast, am_last, am_aast, am_getf, am_putf, am_rd, am_rty, am_rok, am_b, am_call, am_recv, am_push, am_prim, am_acopy, List.length_cons, List.length_nil, List.take, List.drop, List.reverse_cons, List.reverse_nil, List.nil_append, List.cons_append]
  simp [up_at, w32_w32, h1, h2] at h ⊢
  all_goals first | exact h | (simp_all [am_b]; done) | (repeat' (first | (refine And.intro ?_ ?_) | (intro _))) <;> first | omega | (simp_all [am_b]; done) | (simpa [*] using h)
theorem y_X4_road {d : Nat} {o : Nat} {Q : amQ} {hr : amR} {hd : amD} {n : Nat} (hd9 : 1 ≤ d) (h1 : am_shp o = 104) (h2 : o < n) (h : (¬ (hd o 18) = ((-1)) → (Q (some (vI (hd o 18))) hr hd n)) ∧ (¬ (¬ (hd o 18) = ((-1))) → (Q (some (vI 20)) hr hd n))) : wpM d 73 [vR o] Q hr hd n := by
  obtain ⟨e, rfl, he⟩ := am_dep hd9
  apply en73
  simp only [trX4_road, am_In, am_lay, am_pad, wp, wpL, wpO, wpI, wpJ, wpRet, am_ild, am_ald, am_lld, am_ist, am_ast, am_lst, am_iinc, am_st1, am_st2, am_kill, am_get, am_isI, am_isL, am_isR, am_lab, am_c1, am_c2, am_cn, am_bin, am_lbin, am_un, am_div, am_ldiv, am_lsh, am_i2l, am_l2i, am_lcmpQ, am_dup, am_dup2, am_pop, am_cat, am_cats, am_alen, am_len, am_iald, am_bald, am_lald, am_aald, am_iast, am_bast, am_last, am_aast, am_getf, am_putf, am_rd, am_rty, am_rok, am_b, am_call, am_recv, am_push, am_prim, am_acopy, List.length_cons, List.length_nil, List.take, List.drop, List.reverse_cons, List.reverse_nil, List.nil_append, List.cons_append]
  simp [up_at, w32_w32, h1, h2] at h ⊢
  all_goals first | exact h | (simp_all [am_b]; done) | (repeat' (first | (refine And.intro ?_ ?_) | (intro _))) <;> first | omega | (simp_all [am_b]; done) | (simpa [*] using h)
theorem y_X4_isPerson {d : Nat} {o : Nat} {a0 : Int} {Q : amQ} {hr : amR} {hd : amD} {n : Nat} (hd9 : 1 ≤ d) (h1 : am_shp o = 104) (h2 : o < n) (h : (a0 < 0 → (Q (some (vI 0)) hr hd n)) ∧ (¬ (a0 < 0) → ((hd o 13) ≤ a0 → (Q (some (vI 0)) hr hd n)) ∧ (¬ ((hd o 13) ≤ a0) → (Q (some (vI 1)) hr hd n)))) : wpM d 74 [vR o, vI a0] Q hr hd n := by
  obtain ⟨e, rfl, he⟩ := am_dep hd9
  apply en74
  simp only [trX4_isPerson, am_In, am_lay, am_pad, wp, wpL, wpO, wpI, wpJ, wpRet, am_ild, am_ald, am_lld, am_ist, am_ast, am_lst, am_iinc, am_st1, am_st2, am_kill, am_get, am_isI, am_isL, am_isR, am_lab, am_c1, am_c2, am_cn, am_bin, am_lbin, am_un, am_div, am_ldiv, am_lsh, am_i2l, am_l2i, am_lcmpQ, am_dup, am_dup2, am_pop, am_cat, am_cats, am_alen, am_len, am_iald, am_bald, am_lald, am_aald, am_iast, am_bast, am_last, am_aast, am_getf, am_putf, am_rd, am_rty, am_rok, am_b, am_call, am_recv, am_push, am_prim, am_acopy, List.length_cons, List.length_nil, List.take, List.drop, List.reverse_cons, List.reverse_nil, List.nil_append, List.cons_append]
  simp [up_at, w32_w32, h1, h2] at h ⊢
  all_goals first | exact h | (simp_all [am_b]; done) | (repeat' (first | (refine And.intro ?_ ?_) | (intro _))) <;> first | omega | (simp_all [am_b]; done) | (simpa [*] using h)
theorem y_X4_isSort {d : Nat} {o : Nat} {a0 : Int} {Q : amQ} {hr : amR} {hd : amD} {n : Nat} (hd9 : 1 ≤ d) (h1 : am_shp o = 104) (h2 : o < n) (h : (a0 < 0 → (Q (some (vI 0)) hr hd n)) ∧ (¬ (a0 < 0) → ((hd o 14) ≤ a0 → (Q (some (vI 0)) hr hd n)) ∧ (¬ ((hd o 14) ≤ a0) → (Q (some (vI 1)) hr hd n)))) : wpM d 75 [vR o, vI a0] Q hr hd n := by
  obtain ⟨e, rfl, he⟩ := am_dep hd9
  apply en75
  simp only [trX4_isSort, am_In, am_lay, am_pad, wp, wpL, wpO, wpI, wpJ, wpRet, am_ild, am_ald, am_lld, am_ist, am_ast, am_lst, am_iinc, am_st1, am_st2, am_kill, am_get, am_isI, am_isL, am_isR, am_lab, am_c1, am_c2, am_cn, am_bin, am_lbin, am_un, am_div, am_ldiv, am_lsh, am_i2l, am_l2i, am_lcmpQ, am_dup, am_dup2, am_pop, am_cat, am_cats, am_alen, am_len, am_iald, am_bald, am_lald, am_aald, am_iast, am_bast, am_last, am_aast, am_getf, am_putf, am_rd, am_rty, am_rok, am_b, am_call, am_recv, am_push, am_prim, am_acopy, List.length_cons, List.length_nil, List.take, List.drop, List.reverse_cons, List.reverse_nil, List.nil_append, List.cons_append]
  simp [up_at, w32_w32, h1, h2] at h ⊢
  all_goals first | exact h | (simp_all [am_b]; done) | (repeat' (first | (refine And.intro ?_ ?_) | (intro _))) <;> first | omega | (simp_all [am_b]; done) | (simpa [*] using h)
theorem y_X4_isThing {d : Nat} {o : Nat} {a0 : Int} {Q : amQ} {hr : amR} {hd : amD} {n : Nat} (hd9 : 1 ≤ d) (h1 : am_shp o = 104) (h2 : o < n) (h : (a0 < 0 → (Q (some (vI 0)) hr hd n)) ∧ (¬ (a0 < 0) → ((hd o 15) ≤ a0 → (Q (some (vI 0)) hr hd n)) ∧ (¬ ((hd o 15) ≤ a0) → (Q (some (vI 1)) hr hd n)))) : wpM d 76 [vR o, vI a0] Q hr hd n := by
  obtain ⟨e, rfl, he⟩ := am_dep hd9
  apply en76
  simp only [trX4_isThing, am_In, am_lay, am_pad, wp, wpL, wpO, wpI, wpJ, wpRet, am_ild, am_ald, am_lld, am_ist, am_ast, am_lst, am_iinc, am_st1, am_st2, am_kill, am_get, am_isI, am_isL, am_isR, am_lab, am_c1, am_c2, am_cn, am_bin, am_lbin, am_un, am_div, am_ldiv, am_lsh, am_i2l, am_l2i, am_lcmpQ, am_dup, am_dup2, am_pop, am_cat, am_cats, am_alen, am_len, am_iald, am_bald, am_lald, am_aald, am_iast, am_bast, am_last, am_aast, am_getf, am_putf, am_rd, am_rty, am_rok, am_b, am_call, am_recv, am_push, am_prim, am_acopy, List.length_cons, List.length_nil, List.take, List.drop, List.reverse_cons, List.reverse_nil, List.nil_append, List.cons_append]
  simp [up_at, w32_w32, h1, h2] at h ⊢
  all_goals first | exact h | (simp_all [am_b]; done) | (repeat' (first | (refine And.intro ?_ ?_) | (intro _))) <;> first | omega | (simp_all [am_b]; done) | (simpa [*] using h)
theorem y_X4_isWant {d : Nat} {o : Nat} {a0 : Int} {Q : amQ} {hr : amR} {hd : amD} {n : Nat} (hd9 : 1 ≤ d) (h1 : am_shp o = 104) (h2 : o < n) (h : (a0 < 0 → (Q (some (vI 0)) hr hd n)) ∧ (¬ (a0 < 0) → ((hd o 16) ≤ a0 → (Q (some (vI 0)) hr hd n)) ∧ (¬ ((hd o 16) ≤ a0) → (Q (some (vI 1)) hr hd n)))) : wpM d 77 [vR o, vI a0] Q hr hd n := by
  obtain ⟨e, rfl, he⟩ := am_dep hd9
  apply en77
  simp only [trX4_isWant, am_In, am_lay, am_pad, wp, wpL, wpO, wpI, wpJ, wpRet, am_ild, am_ald, am_lld, am_ist, am_ast, am_lst, am_iinc, am_st1, am_st2, am_kill, am_get, am_isI, am_isL, am_isR, am_lab, am_c1, am_c2, am_cn, am_bin, am_lbin, am_un, am_div, am_ldiv, am_lsh, am_i2l, am_l2i, am_lcmpQ, am_dup, am_dup2, am_pop, am_cat, am_cats, am_alen, am_len, am_iald, am_bald, am_lald, am_aald, am_iast, am_bast, am_last, am_aast, am_getf, am_putf, am_rd, am_rty, am_rok, am_b, am_call, am_recv, am_push, am_prim, am_acopy, List.length_cons, List.length_nil, List.take, List.drop, List.reverse_cons, List.reverse_nil, List.nil_append, List.cons_append]
  simp [up_at, w32_w32, h1, h2] at h ⊢
  all_goals first | exact h | (simp_all [am_b]; done) | (repeat' (first | (refine And.intro ?_ ?_) | (intro _))) <;> first | omega | (simp_all [am_b]; done) | (simpa [*] using h)
theorem y_X5_hurtBits {d : Nat} {o : Nat} {Q : amQ} {hr : amR} {hd : amD} {n : Nat} (hd9 : 1 ≤ d) (h1 : am_shp o = 105) (h2 : o < n) (h : (Q (some (vI (hd o 0))) hr hd n)) : wpM d 103 [vR o] Q hr hd n := by
  obtain ⟨e, rfl, he⟩ := am_dep hd9
  apply en103
  simp only [trX5_hurtBits, am_In, am_lay, am_pad, wp, wpL, wpO, wpI, wpJ, wpRet, am_ild, am_ald, am_lld, am_ist, am_ast, am_lst, am_iinc, am_st1, am_st2, am_kill, am_get, am_isI, am_isL, am_isR, am_lab, am_c1, am_c2, am_cn, am_bin, am_lbin, am_un, am_div, am_ldiv, am_lsh, am_i2l, am_l2i, am_lcmpQ, am_dup, am_dup2, am_pop, am_cat, am_cats, am_alen, am_len, am_iald, am_bald, am_lald, am_aald, am_iast, am_bast, am_last, am_aast, am_getf, am_putf, am_rd, am_rty, am_rok, am_b, am_call, am_recv, am_push, am_prim, am_acopy, List.length_cons, List.length_nil, List.take, List.drop, List.reverse_cons, List.reverse_nil, List.nil_append, List.cons_append]
  simp [up_at, w32_w32, h1, h2] at h ⊢
  all_goals first | exact h | (simp_all [am_b]; done) | (repeat' (first | (refine And.intro ?_ ?_) | (intro _))) <;> first | omega | (simp_all [am_b]; done) | (simpa [*] using h)
theorem y_X5_lostWeight {d : Nat} {o : Nat} {Q : amQ} {hr : amR} {hd : amD} {n : Nat} (hd9 : 1 ≤ d) (h1 : am_shp o = 105) (h2 : o < n) (h : (Q (some (vI (hd o 1))) hr hd n)) : wpM d 104 [vR o] Q hr hd n := by
  obtain ⟨e, rfl, he⟩ := am_dep hd9
  apply en104
  simp only [trX5_lostWeight, am_In, am_lay, am_pad, wp, wpL, wpO, wpI, wpJ, wpRet, am_ild, am_ald, am_lld, am_ist, am_ast, am_lst, am_iinc, am_st1, am_st2, am_kill, am_get, am_isI, am_isL, am_isR, am_lab, am_c1, am_c2, am_cn, am_bin, am_lbin, am_un, am_div, am_ldiv, am_lsh, am_i2l, am_l2i, am_lcmpQ, am_dup, am_dup2, am_pop, am_cat, am_cats, am_alen, am_len, am_iald, am_bald, am_lald, am_aald, am_iast, am_bast, am_last, am_aast, am_getf, am_putf, am_rd, am_rty, am_rok, am_b, am_call, am_recv, am_push, am_prim, am_acopy, List.length_cons, List.length_nil, List.take, List.drop, List.reverse_cons, List.reverse_nil, List.nil_append, List.cons_append]
  simp [up_at, w32_w32, h1, h2] at h ⊢
  all_goals first | exact h | (simp_all [am_b]; done) | (repeat' (first | (refine And.intro ?_ ?_) | (intro _))) <;> first | omega | (simp_all [am_b]; done) | (simpa [*] using h)
theorem y_X6_forget {d : Nat} {o : Nat} {Q : amQ} {hr : amR} {hd : amD} {n : Nat} (hd9 : 1 ≤ d) (h1 : am_shp o = 106) (h2 : o < n) (h : (Q none hr (am_up hd o 6 0) n)) : wpM d 107 [vR o] Q hr hd n := by
  obtain ⟨e, rfl, he⟩ := am_dep hd9
  apply en107
  simp only [trX6_forget, am_In, am_lay, am_pad, wp, wpL, wpO, wpI, wpJ, wpRet, am_ild, am_ald, am_lld, am_ist, am_ast, am_lst, am_iinc, am_st1, am_st2, am_kill, am_get, am_isI, am_isL, am_isR, am_lab, am_c1, am_c2, am_cn, am_bin, am_lbin, am_un, am_div, am_ldiv, am_lsh, am_i2l, am_l2i, am_lcmpQ, am_dup, am_dup2, am_pop, am_cat, am_cats, am_alen, am_len, am_iald, am_bald, am_lald, am_aald, am_iast, am_bast, am_last, am_aast, am_getf, am_putf, am_rd, am_rty, am_rok, am_b, am_call, am_recv, am_push, am_prim, am_acopy, List.length_cons, List.length_nil, List.take, List.drop, List.reverse_cons, List.reverse_nil, List.nil_append, List.cons_append]
  simp [up_at, w32_w32, h1, h2] at h ⊢
  all_goals first | exact h | (simp_all [am_b]; done) | (repeat' (first | (refine And.intro ?_ ?_) | (intro _))) <;> first | omega | (simp_all [am_b]; done) | (simpa [*] using h)
theorem y_X6_metBits {d : Nat} {o : Nat} {Q : amQ} {hr : amR} {hd : amD} {n : Nat} (hd9 : 1 ≤ d) (h1 : am_shp o = 106) (h2 : o < n) (h : (Q (some (vI (hd o 8))) hr hd n)) : wpM d 114 [vR o] Q hr hd n := by
  obtain ⟨e, rfl, he⟩ := am_dep hd9
  apply en114
  simp only [trX6_metBits, am_In, am_lay, am_pad, wp, wpL, wpO, wpI, wpJ, wpRet, am_ild, am_ald, am_lld, am_ist, am_ast, am_lst, am_iinc, am_st1, am_st2, am_kill, am_get, am_isI, am_isL, am_isR, am_lab, am_c1, am_c2, am_cn, am_bin, am_lbin, am_un, am_div, am_ldiv, am_lsh, am_i2l, am_l2i, am_lcmpQ, am_dup, am_dup2, am_pop, am_cat, am_cats, am_alen, am_len, am_iald, am_bald, am_lald, am_aald, am_iast, am_bast, am_last, am_aast, am_getf, am_putf, am_rd, am_rty, am_rok, am_b, am_call, am_recv, am_push, am_prim, am_acopy, List.length_cons, List.length_nil, List.take, List.drop, List.reverse_cons, List.reverse_nil, List.nil_append, List.cons_append]
  simp [up_at, w32_w32, h1, h2] at h ⊢
  all_goals first | exact h | (simp_all [am_b]; done) | (repeat' (first | (refine And.intro ?_ ?_) | (intro _))) <;> first | omega | (simp_all [am_b]; done) | (simpa [*] using h)
theorem y_X6_allTrips {d : Nat} {o : Nat} {Q : amQ} {hr : amR} {hd : amD} {n : Nat} (hd9 : 1 ≤ d) (h1 : am_shp o = 106) (h2 : o < n) (h : (Q (some (vR (hr o 3))) hr hd n)) : wpM d 116 [vR o] Q hr hd n := by
  obtain ⟨e, rfl, he⟩ := am_dep hd9
  apply en116
  simp only [trX6_allTrips, am_In, am_lay, am_pad, wp, wpL, wpO, wpI, wpJ, wpRet, am_ild, am_ald, am_lld, am_ist, am_ast, am_lst, am_iinc, am_st1, am_st2, am_kill, am_get, am_isI, am_isL, am_isR, am_lab, am_c1, am_c2, am_cn, am_bin, am_lbin, am_un, am_div, am_ldiv, am_lsh, am_i2l, am_l2i, am_lcmpQ, am_dup, am_dup2, am_pop, am_cat, am_cats, am_alen, am_len, am_iald, am_bald, am_lald, am_aald, am_iast, am_bast, am_last, am_aast, am_getf, am_putf, am_rd, am_rty, am_rok, am_b, am_call, am_recv, am_push, am_prim, am_acopy, List.length_cons, List.length_nil, List.take, List.drop, List.reverse_cons, List.reverse_nil, List.nil_append, List.cons_append]
  simp [up_at, w32_w32, h1, h2] at h ⊢
  all_goals first | exact h | (simp_all [am_b]; done) | (repeat' (first | (refine And.intro ?_ ?_) | (intro _))) <;> first | omega | (simp_all [am_b]; done) | (simpa [*] using h)
theorem y_X7_isNumber {d : Nat} {o : Nat} {a0 : Int} {a1 : Int} {Q : amQ} {hr : amR} {hd : amD} {n : Nat} (hd9 : 1 ≤ d) (h1 : am_shp o = 107) (h2 : o < n) (h : (¬ (hd o 3) = 2 → (Q (some (vI 0)) hr hd n)) ∧ (¬ (¬ (hd o 3) = 2) → ((hd o 4) < a0 → (Q (some (vI 0)) hr hd n)) ∧ (¬ ((hd o 4) < a0) → (a1 < (hd o 4) → (Q (some (vI 0)) hr hd n)) ∧ (¬ (a1 < (hd o 4)) → (Q (some (vI 1)) hr hd n))))) : wpM d 131 [vR o, vI a0, vI a1] Q hr hd n := by
  obtain ⟨e, rfl, he⟩ := am_dep hd9
  apply en131
  simp only [trX7_isNumber, am_In, am_lay, am_pad, wp, wpL, wpO, wpI, wpJ, wpRet, am_ild, am_ald, am_lld, am_ist, am_ast, am_lst, am_iinc, am_st1, am_st2, am_kill, am_get, am_isI, am_isL, am_isR, am_lab, am_c1, am_c2, am_cn, am_bin, am_lbin, am_un, am_div, am_ldiv, am_lsh, am_i2l, am_l2i, am_lcmpQ, am_dup, am_dup2, am_pop, am_cat, am_cats, am_alen, am_len, am_iald, am_bald, am_lald, am_aald, am_iast, am_bast, am_last, am_aast, am_getf, am_putf, am_rd, am_rty, am_rok, am_b, am_call, am_recv, am_push, am_prim, am_acopy, List.length_cons, List.length_nil, List.take, List.drop, List.reverse_cons, List.reverse_nil, List.nil_append, List.cons_append]
  simp [up_at, w32_w32, h1, h2] at h ⊢
  all_goals first | exact h | (simp_all [am_b]; done) | (repeat' (first | (refine And.intro ?_ ?_) | (intro _))) <;> first | omega | (simp_all [am_b]; done) | (simpa [*] using h)
theorem y_X7_isBlank {d : Nat} {a0 : Int} {Q : amQ} {hr : amR} {hd : amD} {n : Nat} (hd9 : 1 ≤ d)  (h : (a0 = 32 → (Q (some (vI 1)) hr hd n)) ∧ (¬ (a0 = 32) → (¬ a0 = 10 → (Q (some (vI 0)) hr hd n)) ∧ (¬ (¬ a0 = 10) → (Q (some (vI 1)) hr hd n)))) : wpM d 139 [vI a0] Q hr hd n := by
  obtain ⟨e, rfl, he⟩ := am_dep hd9
  apply en139
  simp only [trX7_isBlank, am_In, am_lay, am_pad, wp, wpL, wpO, wpI, wpJ, wpRet, am_ild, am_ald, am_lld, am_ist, am_ast, am_lst, am_iinc, am_st1, am_st2, am_kill, am_get, am_isI, am_isL, am_isR, am_lab, am_c1, am_c2, am_cn, am_bin, am_lbin, am_un, am_div, am_ldiv, am_lsh, am_i2l, am_l2i, am_lcmpQ, am_dup, am_dup2, am_pop, am_cat, am_cats, am_alen, am_len, am_iald, am_bald, am_lald, am_aald, am_iast, am_bast, am_last, am_aast, am_getf, am_putf, am_rd, am_rty, am_rok, am_b, am_call, am_recv, am_push, am_prim, am_acopy, List.length_cons, List.length_nil, List.take, List.drop, List.reverse_cons, List.reverse_nil, List.nil_append, List.cons_append]
  simp [up_at, w32_w32] at h ⊢
  all_goals first | exact h | (simp_all [am_b]; done) | (repeat' (first | (refine And.intro ?_ ?_) | (intro _))) <;> first | omega | (simp_all [am_b]; done) | (simpa [*] using h)
theorem y_X7_isLetter {d : Nat} {a0 : Int} {Q : amQ} {hr : amR} {hd : amD} {n : Nat} (hd9 : 1 ≤ d)  (h : (a0 < 97 → (Q (some (vI 0)) hr hd n)) ∧ (¬ (a0 < 97) → (122 < a0 → (Q (some (vI 0)) hr hd n)) ∧ (¬ (122 < a0) → (Q (some (vI 1)) hr hd n)))) : wpM d 140 [vI a0] Q hr hd n := by
  obtain ⟨e, rfl, he⟩ := am_dep hd9
  apply en140
  simp only [trX7_isLetter, am_In, am_lay, am_pad, wp, wpL, wpO, wpI, wpJ, wpRet, am_ild, am_ald, am_lld, am_ist, am_ast, am_lst, am_iinc, am_st1, am_st2, am_kill, am_get, am_isI, am_isL, am_isR, am_lab, am_c1, am_c2, am_cn, am_bin, am_lbin, am_un, am_div, am_ldiv, am_lsh, am_i2l, am_l2i, am_lcmpQ, am_dup, am_dup2, am_pop, am_cat, am_cats, am_alen, am_len, am_iald, am_bald, am_lald, am_aald, am_iast, am_bast, am_last, am_aast, am_getf, am_putf, am_rd, am_rty, am_rok, am_b, am_call, am_recv, am_push, am_prim, am_acopy, List.length_cons, List.length_nil, List.take, List.drop, List.reverse_cons, List.reverse_nil, List.nil_append, List.cons_append]
  simp [up_at, w32_w32] at h ⊢
  all_goals first | exact h | (simp_all [am_b]; done) | (repeat' (first | (refine And.intro ?_ ?_) | (intro _))) <;> first | omega | (simp_all [am_b]; done) | (simpa [*] using h)
theorem y_X7_isDigit {d : Nat} {a0 : Int} {Q : amQ} {hr : amR} {hd : amD} {n : Nat} (hd9 : 1 ≤ d)  (h : (a0 < 48 → (Q (some (vI 0)) hr hd n)) ∧ (¬ (a0 < 48) → (57 < a0 → (Q (some (vI 0)) hr hd n)) ∧ (¬ (57 < a0) → (Q (some (vI 1)) hr hd n)))) : wpM d 141 [vI a0] Q hr hd n := by
  obtain ⟨e, rfl, he⟩ := am_dep hd9
  apply en141
  simp only [trX7_isDigit, am_In, am_lay, am_pad, wp, wpL, wpO, wpI, wpJ, wpRet, am_ild, am_ald, am_lld, am_ist, am_ast, am_lst, am_iinc, am_st1, am_st2, am_kill, am_get, am_isI, am_isL, am_isR, am_lab, am_c1, am_c2, am_cn, am_bin, am_lbin, am_un, am_div, am_ldiv, am_lsh, am_i2l, am_l2i, am_lcmpQ, am_dup, am_dup2, am_pop, am_cat, am_cats, am_alen, am_len, am_iald, am_bald, am_lald, am_aald, am_iast, am_bast, am_last, am_aast, am_getf, am_putf, am_rd, am_rty, am_rok, am_b, am_call, am_recv, am_push, am_prim, am_acopy, List.length_cons, List.length_nil, List.take, List.drop, List.reverse_cons, List.reverse_nil, List.nil_append, List.cons_append]
  simp [up_at, w32_w32] at h ⊢
  all_goals first | exact h | (simp_all [am_b]; done) | (repeat' (first | (refine And.intro ?_ ?_) | (intro _))) <;> first | omega | (simp_all [am_b]; done) | (simpa [*] using h)
theorem y_X10_farOf {d : Nat} {a0 : Int} {Q : amQ} {hr : amR} {hd : amD} {n : Nat} (hd9 : 1 ≤ d)  (h : (Q (some (vI (am_shr a0 12))) hr hd n)) : wpM d 160 [vI a0] Q hr hd n := by
  obtain ⟨e, rfl, he⟩ := am_dep hd9
  apply en160
  simp only [trX10_farOf, am_In, am_lay, am_pad, wp, wpL, wpO, wpI, wpJ, wpRet, am_ild, am_ald, am_lld, am_ist, am_ast, am_lst, am_iinc, am_st1, am_st2, am_kill, am_get, am_isI, am_isL, am_isR, am_lab, am_c1, am_c2, am_cn, am_bin, am_lbin, am_un, am_div, am_ldiv, am_lsh, am_i2l, am_l2i, am_lcmpQ, am_dup, am_dup2, am_pop, am_cat, am_cats, am_alen, am_len, am_iald, am_bald, am_lald, am_aald, am_iast, am_bast, am_last, am_aast, am_getf, am_putf, am_rd, am_rty, am_rok, am_b, am_call, am_recv, am_push, am_prim, am_acopy, List.length_cons, List.length_nil, List.take, List.drop, List.reverse_cons, List.reverse_nil, List.nil_append, List.cons_append]
  simp [up_at, w32_w32] at h ⊢
  all_goals first | exact h | (simp_all [am_b]; done) | (repeat' (first | (refine And.intro ?_ ?_) | (intro _))) <;> first | omega | (simp_all [am_b]; done) | (simpa [*] using h)
theorem y_X12_in {d : Nat} {a0 : Int} {a1 : Int} {a2 : Int} {Q : amQ} {hr : amR} {hd : amD} {n : Nat} (hd9 : 1 ≤ d)  (h : ((am_lcmp a0 a1) < 0 → (Q (some (vI 0)) hr hd n)) ∧ (¬ ((am_lcmp a0 a1) < 0) → (0 < (am_lcmp a0 a2) → (Q (some (vI 0)) hr hd n)) ∧ (¬ (0 < (am_lcmp a0 a2)) → (Q (some (vI 1)) hr hd n)))) : wpM d 213 [vL a0, vL a1, vL a2] Q hr hd n := by
  obtain ⟨e, rfl, he⟩ := am_dep hd9
  apply en213
  simp only [trX12_in, am_In, am_lay, am_pad, wp, wpL, wpO, wpI, wpJ, wpRet, am_ild, am_ald, am_lld, am_ist, am_ast, am_lst, am_iinc, am_st1, am_st2, am_kill, am_get, am_isI, am_isL, am_isR, am_lab, am_c1, am_c2, am_cn, am_bin, am_lbin, am_un, am_div, am_ldiv, am_lsh, am_i2l, am_l2i, am_lcmpQ, am_dup, am_dup2, am_pop, am_cat, am_cats, am_alen, am_len, am_iald, am_bald, am_lald, am_aald, am_iast, am_bast, am_last, am_aast, am_getf, am_putf, am_rd, am_rty, am_rok, am_b, am_call, am_recv, am_push, am_prim, am_acopy, List.length_cons, List.length_nil, List.take, List.drop, List.reverse_cons, List.reverse_nil, List.nil_append, List.cons_append]
  simp [up_at, w32_w32] at h ⊢
  all_goals first | exact h | (simp_all [am_b]; done) | (repeat' (first | (refine And.intro ?_ ?_) | (intro _))) <;> first | omega | (simp_all [am_b]; done) | (simpa [*] using h)
