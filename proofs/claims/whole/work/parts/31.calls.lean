/-! straight methods with calls -/
/-- what the class reads of an array of L at j -/
def am_A (f : Nat → Int) (L : Nat) (j : Int) : Int := if 0 ≤ j ∧ j < (L : Int) then f j.toNat else 0
def am_P (hd : amD) (i L : Nat) (j x : Int) : amD := if 0 ≤ j ∧ j < (L : Int) then am_up hd i j.toNat x else hd
theorem x_atA {d i L : Nat} {j : Int} {Q : amQ} {hr : amR} {hd : amD} {n : Nat} (hd9 : 1 ≤ d) (h1 : am_shp i = 1) (h2 : i < n) (h3 : am_slen i = L) (h : Q (some (vI (am_A (hd i) L j))) hr hd n) : wpM d 207 [vR i, vI j] Q hr hd n := by
  subst h3
  exact x_at hd9 h1 h2 h
theorem x_putP {d i L : Nat} {j x : Int} {Q : amQ} {hr : amR} {hd : amD} {n : Nat} (hd9 : 1 ≤ d) (h1 : am_shp i = 1) (h2 : i < n) (h3 : am_slen i = L) (h : Q none hr (am_P hd i L j x) n) : wpM d 208 [vR i, vI j, vI x] Q hr hd n := by
  subst h3
  exact x_put hd9 h1 h2 h
theorem z_depthOf {d o f0 : Nat} {b : Bool} {j : Int} {Q : amQ} {hd : amD} {n : Nat} (hd9 : 2 ≤ d) (ho : isHold o) (hn : 159 ≤ n) (h : Q (some (vI (am_A (hd (o + 1)) 12 j))) (am_R f0 b) hd n) : wpM d 42 [vR o, vI j] Q (am_R f0 b) hd n := z_X3_depthOf hd9 ho hn h
theorem z_placeOf {d o f0 : Nat} {b : Bool} {j : Int} {Q : amQ} {hd : amD} {n : Nat} (hd9 : 2 ≤ d) (ho : isLand o) (hn : 159 ≤ n) (h : Q (some (vI (am_A (hd (o + 2)) 8 j))) (am_R f0 b) hd n) : wpM d 80 [vR o, vI j] Q (am_R f0 b) hd n := z_X4_placeOf hd9 ho hn h
theorem z_whoAt {d f0 : Nat} {b : Bool} {o : Nat} {t j : Int} {Q : amQ} {hd : amD} {n : Nat} (hd9 : 2 ≤ d) (ho : isHold o) (hn : 159 ≤ n) (h : Q (some (vI (am_A (hd (o + 2)) 96 (w32 (w32 (t * 8) + j))))) (am_R f0 b) hd n) : wpM d 43 [vR o, vI t, vI j] Q (am_R f0 b) hd n := by
  obtain ⟨e, rfl, he⟩ := am_dep hd9
  apply en43
  simp only [trX3_whoAt, am_In, am_lay, am_pad, wp, wpL, wpO, wpI, wpJ, wpRet, am_ild, am_ald, am_lld, am_ist, am_ast, am_lst, am_iinc, am_st1, am_st2, am_kill, am_get, am_isI, am_isL, am_isR, am_lab, am_c1, am_c2, am_cn, am_bin, am_lbin, am_un, am_div, am_ldiv, am_lsh, am_i2l, am_l2i, am_lcmpQ, am_dup, am_dup2, am_pop, am_cat, am_cats, am_alen, am_len, am_iald, am_bald, am_lald, am_aald, am_iast, am_bast, am_last, am_aast, am_getf, am_putf, am_rd, am_rty, am_rok, am_b, am_call, am_recv, am_push, am_prim, am_acopy, List.length_cons, List.length_nil, List.take, List.drop, List.reverse_cons, List.reverse_nil, List.nil_append, List.cons_append]
  simp [ho_s ho, ho_n ho hn, ho_r1 ho]
  refine x_atA (by omega) (ho_h1 ho).1 (ho_n1 ho hn) (ho_h1 ho).2 ?_
  simpa using h
theorem z_tillAt {d f0 : Nat} {b : Bool} {o : Nat} {t j : Int} {Q : amQ} {hd : amD} {n : Nat} (hd9 : 2 ≤ d) (ho : isHold o) (hn : 159 ≤ n) (h : Q (some (vI (am_A (hd (o + 3)) 96 (w32 (w32 (t * 8) + j))))) (am_R f0 b) hd n) : wpM d 44 [vR o, vI t, vI j] Q (am_R f0 b) hd n := by
  obtain ⟨e, rfl, he⟩ := am_dep hd9
  apply en44
  simp only [trX3_tillAt, am_In, am_lay, am_pad, wp, wpL, wpO, wpI, wpJ, wpRet, am_ild, am_ald, am_lld, am_ist, am_ast, am_lst, am_iinc, am_st1, am_st2, am_kill, am_get, am_isI, am_isL, am_isR, am_lab, am_c1, am_c2, am_cn, am_bin, am_lbin, am_un, am_div, am_ldiv, am_lsh, am_i2l, am_l2i, am_lcmpQ, am_dup, am_dup2, am_pop, am_cat, am_cats, am_alen, am_len, am_iald, am_bald, am_lald, am_aald, am_iast, am_bast, am_last, am_aast, am_getf, am_putf, am_rd, am_rty, am_rok, am_b, am_call, am_recv, am_push, am_prim, am_acopy, List.length_cons, List.length_nil, List.take, List.drop, List.reverse_cons, List.reverse_nil, List.nil_append, List.cons_append]
  simp [ho_s ho, ho_n ho hn, ho_r2 ho]
  refine x_atA (by omega) (ho_h2 ho).1 (ho_n2 ho hn) (ho_h2 ho).2 ?_
  simpa using h
theorem z_holderOf {d f0 : Nat} {b : Bool} {o : Nat} {t : Int} {Q : amQ} {hd : amD} {n : Nat} (hd9 : 3 ≤ d) (ho : isHold o) (hn : 159 ≤ n) (h : Q (some (vI (am_A (hd (o + 2)) 96 (w32 (w32 (t * 8) + w32 (am_A (hd (o + 1)) 12 t - 1)))))) (am_R f0 b) hd n) : wpM d 45 [vR o, vI t] Q (am_R f0 b) hd n := by
  obtain ⟨e, rfl, he⟩ := am_dep hd9
  apply en45
  simp only [trX3_holderOf, am_In, am_lay, am_pad, wp, wpL, wpO, wpI, wpJ, wpRet, am_ild, am_ald, am_lld, am_ist, am_ast, am_lst, am_iinc, am_st1, am_st2, am_kill, am_get, am_isI, am_isL, am_isR, am_lab, am_c1, am_c2, am_cn, am_bin, am_lbin, am_un, am_div, am_ldiv, am_lsh, am_i2l, am_l2i, am_lcmpQ, am_dup, am_dup2, am_pop, am_cat, am_cats, am_alen, am_len, am_iald, am_bald, am_lald, am_aald, am_iast, am_bast, am_last, am_aast, am_getf, am_putf, am_rd, am_rty, am_rok, am_b, am_call, am_recv, am_push, am_prim, am_acopy, List.length_cons, List.length_nil, List.take, List.drop, List.reverse_cons, List.reverse_nil, List.nil_append, List.cons_append]
  simp [ho_s ho, ho_n ho hn]
  refine z_depthOf (by omega) ho hn ?_
  simp [am_In, am_lay, am_pad, wp, wpL, wpO, wpI, wpJ, wpRet, am_ild, am_ald, am_lld, am_ist, am_ast, am_lst, am_iinc, am_st1, am_st2, am_kill, am_get, am_isI, am_isL, am_isR, am_lab, am_c1, am_c2, am_cn, am_bin, am_lbin, am_un, am_div, am_ldiv, am_lsh, am_i2l, am_l2i, am_lcmpQ, am_dup, am_dup2, am_pop, am_cat, am_cats, am_alen, am_len, am_iald, am_bald, am_lald, am_aald, am_iast, am_bast, am_last, am_aast, am_getf, am_putf, am_rd, am_rty, am_rok, am_b, am_call, am_recv, am_push, am_prim, am_acopy, List.length_cons, List.length_nil, List.take, List.drop, List.reverse_cons, List.reverse_nil, List.nil_append, List.cons_append, ho_s ho, ho_n ho hn]
  refine z_whoAt (by omega) ho hn ?_
  simpa using h
theorem z_isLost {d f0 : Nat} {b : Bool} {o : Nat} {t : Int} {Q : amQ} {hd : amD} {n : Nat} (hd9 : 2 ≤ d) (ho : isHold o) (hn : 159 ≤ n) (h : Q (some (vI (if am_and (am_shr (hd o 5) t) 1 = 0 then 0 else 1))) (am_R f0 b) hd n) : wpM d 40 [vR o, vI t] Q (am_R f0 b) hd n := by
  obtain ⟨e, rfl, he⟩ := am_dep hd9
  apply en40
  simp only [trX3_isLost, am_In, am_lay, am_pad, wp, wpL, wpO, wpI, wpJ, wpRet, am_ild, am_ald, am_lld, am_ist, am_ast, am_lst, am_iinc, am_st1, am_st2, am_kill, am_get, am_isI, am_isL, am_isR, am_lab, am_c1, am_c2, am_cn, am_bin, am_lbin, am_un, am_div, am_ldiv, am_lsh, am_i2l, am_l2i, am_lcmpQ, am_dup, am_dup2, am_pop, am_cat, am_cats, am_alen, am_len, am_iald, am_bald, am_lald, am_aald, am_iast, am_bast, am_last, am_aast, am_getf, am_putf, am_rd, am_rty, am_rok, am_b, am_call, am_recv, am_push, am_prim, am_acopy, List.length_cons, List.length_nil, List.take, List.drop, List.reverse_cons, List.reverse_nil, List.nil_append, List.cons_append]
  simp [ho_s ho, ho_n ho hn]
  refine x_hasBit (by omega) ?_
  simp
  refine ⟨?_, h⟩
  by_cases hq : am_and (am_shr (hd o 5) t) 1 = 0 <;> simp [hq]
theorem z_homeOf {d f0 : Nat} {b : Bool} {o : Nat} {t : Int} {Q : amQ} {hd : amD} {n : Nat} (hd9 : 2 ≤ d) (ho : isLand o) (hn : 159 ≤ n) (h : Q (some (vI (am_A (hd (o + 2)) 8 (am_A (hd (o + 7)) 12 t)))) (am_R f0 b) hd n) : wpM d 85 [vR o, vI t] Q (am_R f0 b) hd n := by
  obtain ⟨e, rfl, he⟩ := am_dep hd9
  apply en85
  simp only [trX4_homeOf, am_In, am_lay, am_pad, wp, wpL, wpO, wpI, wpJ, wpRet, am_ild, am_ald, am_lld, am_ist, am_ast, am_lst, am_iinc, am_st1, am_st2, am_kill, am_get, am_isI, am_isL, am_isR, am_lab, am_c1, am_c2, am_cn, am_bin, am_lbin, am_un, am_div, am_ldiv, am_lsh, am_i2l, am_l2i, am_lcmpQ, am_dup, am_dup2, am_pop, am_cat, am_cats, am_alen, am_len, am_iald, am_bald, am_lald, am_aald, am_iast, am_bast, am_last, am_aast, am_getf, am_putf, am_rd, am_rty, am_rok, am_b, am_call, am_recv, am_push, am_prim, am_acopy, List.length_cons, List.length_nil, List.take, List.drop, List.reverse_cons, List.reverse_nil, List.nil_append, List.cons_append]
  simp [ld_s ho, ld_n ho hn, ld_r1 ho, ld_r6 ho]
  refine x_atA (by omega) (ld_h6 ho).1 (ld_n6 ho hn) (ld_h6 ho).2 ?_
  simp [am_In, am_lay, am_pad, wp, wpL, wpO, wpI, wpJ, wpRet, am_ild, am_ald, am_lld, am_ist, am_ast, am_lst, am_iinc, am_st1, am_st2, am_kill, am_get, am_isI, am_isL, am_isR, am_lab, am_c1, am_c2, am_cn, am_bin, am_lbin, am_un, am_div, am_ldiv, am_lsh, am_i2l, am_l2i, am_lcmpQ, am_dup, am_dup2, am_pop, am_cat, am_cats, am_alen, am_len, am_iald, am_bald, am_lald, am_aald, am_iast, am_bast, am_last, am_aast, am_getf, am_putf, am_rd, am_rty, am_rok, am_b, am_call, am_recv, am_push, am_prim, am_acopy, List.length_cons, List.length_nil, List.take, List.drop, List.reverse_cons, List.reverse_nil, List.nil_append, List.cons_append]
  refine x_atA (by omega) (ld_h1 ho).1 (ld_n1 ho hn) (ld_h1 ho).2 ?_
  simpa using h
theorem z_placeOfWant {d f0 : Nat} {b : Bool} {o : Nat} {t : Int} {Q : amQ} {hd : amD} {n : Nat} (hd9 : 2 ≤ d) (ho : isLand o) (hn : 159 ≤ n) (h : Q (some (vI (am_A (hd (o + 2)) 8 (am_A (hd (o + 8)) 12 t)))) (am_R f0 b) hd n) : wpM d 87 [vR o, vI t] Q (am_R f0 b) hd n := by
  obtain ⟨e, rfl, he⟩ := am_dep hd9
  apply en87
  simp only [trX4_placeOfWant, am_In, am_lay, am_pad, wp, wpL, wpO, wpI, wpJ, wpRet, am_ild, am_ald, am_lld, am_ist, am_ast, am_lst, am_iinc, am_st1, am_st2, am_kill, am_get, am_isI, am_isL, am_isR, am_lab, am_c1, am_c2, am_cn, am_bin, am_lbin, am_un, am_div, am_ldiv, am_lsh, am_i2l, am_l2i, am_lcmpQ, am_dup, am_dup2, am_pop, am_cat, am_cats, am_alen, am_len, am_iald, am_bald, am_lald, am_aald, am_iast, am_bast, am_last, am_aast, am_getf, am_putf, am_rd, am_rty, am_rok, am_b, am_call, am_recv, am_push, am_prim, am_acopy, List.length_cons, List.length_nil, List.take, List.drop, List.reverse_cons, List.reverse_nil, List.nil_append, List.cons_append]
  simp [ld_s ho, ld_n ho hn, ld_r1 ho, ld_r7 ho]
  refine x_atA (by omega) (ld_h7 ho).1 (ld_n7 ho hn) (ld_h7 ho).2 ?_
  simp [am_In, am_lay, am_pad, wp, wpL, wpO, wpI, wpJ, wpRet, am_ild, am_ald, am_lld, am_ist, am_ast, am_lst, am_iinc, am_st1, am_st2, am_kill, am_get, am_isI, am_isL, am_isR, am_lab, am_c1, am_c2, am_cn, am_bin, am_lbin, am_un, am_div, am_ldiv, am_lsh, am_i2l, am_l2i, am_lcmpQ, am_dup, am_dup2, am_pop, am_cat, am_cats, am_alen, am_len, am_iald, am_bald, am_lald, am_aald, am_iast, am_bast, am_last, am_aast, am_getf, am_putf, am_rd, am_rty, am_rok, am_b, am_call, am_recv, am_push, am_prim, am_acopy, List.length_cons, List.length_nil, List.take, List.drop, List.reverse_cons, List.reverse_nil, List.nil_append, List.cons_append]
  refine x_atA (by omega) (ld_h1 ho).1 (ld_n1 ho hn) (ld_h1 ho).2 ?_
  simpa using h
theorem z_tellHeir {d f0 : Nat} {b : Bool} {o : Nat} {t x : Int} {Q : amQ} {hd : amD} {n : Nat} (hd9 : 2 ≤ d) (ho : isLand o) (hn : 159 ≤ n) (h : Q none (am_R f0 b) (am_P hd (o + 3) 8 t x) n) : wpM d 65 [vR o, vI t, vI x] Q (am_R f0 b) hd n := by
  obtain ⟨e, rfl, he⟩ := am_dep hd9
  apply en65
  simp only [trX4_tellHeir, am_In, am_lay, am_pad, wp, wpL, wpO, wpI, wpJ, wpRet, am_ild, am_ald, am_lld, am_ist, am_ast, am_lst, am_iinc, am_st1, am_st2, am_kill, am_get, am_isI, am_isL, am_isR, am_lab, am_c1, am_c2, am_cn, am_bin, am_lbin, am_un, am_div, am_ldiv, am_lsh, am_i2l, am_l2i, am_lcmpQ, am_dup, am_dup2, am_pop, am_cat, am_cats, am_alen, am_len, am_iald, am_bald, am_lald, am_aald, am_iast, am_bast, am_last, am_aast, am_getf, am_putf, am_rd, am_rty, am_rok, am_b, am_call, am_recv, am_push, am_prim, am_acopy, List.length_cons, List.length_nil, List.take, List.drop, List.reverse_cons, List.reverse_nil, List.nil_append, List.cons_append]
  simp [ld_s ho, ld_n ho hn, ld_r2 ho]
  refine x_putP (by omega) (ld_h2 ho).1 (ld_n2 ho hn) (ld_h2 ho).2 ?_
  simpa using h
theorem z_apart {d f0 : Nat} {b : Bool} {o : Nat} {x y : Int} {Q : amQ} {hd : amD} {n : Nat} (hd9 : 3 ≤ d) (ho : isLand o) (hn : 159 ≤ n) (h : Q (some (vI (if 0 ≤ w32 (am_A (hd (o + 2)) 8 x - am_A (hd (o + 2)) 8 y) then w32 (am_A (hd (o + 2)) 8 x - am_A (hd (o + 2)) 8 y) else w32 (0 - w32 (am_A (hd (o + 2)) 8 x - am_A (hd (o + 2)) 8 y))))) (am_R f0 b) hd n) : wpM d 93 [vR o, vI x, vI y] Q (am_R f0 b) hd n := by
  obtain ⟨e, rfl, he⟩ := am_dep hd9
  apply en93
  simp only [trX4_apart, am_In, am_lay, am_pad, wp, wpL, wpO, wpI, wpJ, wpRet, am_ild, am_ald, am_lld, am_ist, am_ast, am_lst, am_iinc, am_st1, am_st2, am_kill, am_get, am_isI, am_isL, am_isR, am_lab, am_c1, am_c2, am_cn, am_bin, am_lbin, am_un, am_div, am_ldiv, am_lsh, am_i2l, am_l2i, am_lcmpQ, am_dup, am_dup2, am_pop, am_cat, am_cats, am_alen, am_len, am_iald, am_bald, am_lald, am_aald, am_iast, am_bast, am_last, am_aast, am_getf, am_putf, am_rd, am_rty, am_rok, am_b, am_call, am_recv, am_push, am_prim, am_acopy, List.length_cons, List.length_nil, List.take, List.drop, List.reverse_cons, List.reverse_nil, List.nil_append, List.cons_append]
  simp [ld_s ho, ld_n ho hn]
  refine z_placeOf (by omega) ho hn ?_
  simp [am_In, am_lay, am_pad, wp, wpL, wpO, wpI, wpJ, wpRet, am_ild, am_ald, am_lld, am_ist, am_ast, am_lst, am_iinc, am_st1, am_st2, am_kill, am_get, am_isI, am_isL, am_isR, am_lab, am_c1, am_c2, am_cn, am_bin, am_lbin, am_un, am_div, am_ldiv, am_lsh, am_i2l, am_l2i, am_lcmpQ, am_dup, am_dup2, am_pop, am_cat, am_cats, am_alen, am_len, am_iald, am_bald, am_lald, am_aald, am_iast, am_bast, am_last, am_aast, am_getf, am_putf, am_rd, am_rty, am_rok, am_b, am_call, am_recv, am_push, am_prim, am_acopy, List.length_cons, List.length_nil, List.take, List.drop, List.reverse_cons, List.reverse_nil, List.nil_append, List.cons_append, ld_s ho, ld_n ho hn]
  refine z_placeOf (by omega) ho hn ?_
  simp [am_In, am_lay, am_pad, wp, wpL, wpO, wpI, wpJ, wpRet, am_ild, am_ald, am_lld, am_ist, am_ast, am_lst, am_iinc, am_st1, am_st2, am_kill, am_get, am_isI, am_isL, am_isR, am_lab, am_c1, am_c2, am_cn, am_bin, am_lbin, am_un, am_div, am_ldiv, am_lsh, am_i2l, am_l2i, am_lcmpQ, am_dup, am_dup2, am_pop, am_cat, am_cats, am_alen, am_len, am_iald, am_bald, am_lald, am_aald, am_iast, am_bast, am_last, am_aast, am_getf, am_putf, am_rd, am_rty, am_rok, am_b, am_call, am_recv, am_push, am_prim, am_acopy, List.length_cons, List.length_nil, List.take, List.drop, List.reverse_cons, List.reverse_nil, List.nil_append, List.cons_append, ld_s ho]
  simpa using h
theorem z_refuse {d f0 : Nat} {b : Bool} {k : Int} {Q : amQ} {hd : amD} {n : Nat} (hd9 : 2 ≤ d)  (hn : 159 ≤ n) (h : Q (some (vI (-1))) (am_R f0 b) (am_P hd 57 3 k (w32 (am_A (hd 57) 3 k + 1))) n) : wpM d 199 [vR 17, vI k] Q (am_R f0 b) hd n := by
  obtain ⟨e, rfl, he⟩ := am_dep hd9
  apply en199
  simp only [trX11_refuse, am_In, am_lay, am_pad, wp, wpL, wpO, wpI, wpJ, wpRet, am_ild, am_ald, am_lld, am_ist, am_ast, am_lst, am_iinc, am_st1, am_st2, am_kill, am_get, am_isI, am_isL, am_isR, am_lab, am_c1, am_c2, am_cn, am_bin, am_lbin, am_un, am_div, am_ldiv, am_lsh, am_i2l, am_l2i, am_lcmpQ, am_dup, am_dup2, am_pop, am_cat, am_cats, am_alen, am_len, am_iald, am_bald, am_lald, am_aald, am_iast, am_bast, am_last, am_aast, am_getf, am_putf, am_rd, am_rty, am_rok, am_b, am_call, am_recv, am_push, am_prim, am_acopy, List.length_cons, List.length_nil, List.take, List.drop, List.reverse_cons, List.reverse_nil, List.nil_append, List.cons_append]
  simp [sh_17, R17_8, show 17 < n by omega]
  refine x_atA (by omega) sh_57 (by omega) sl_57 ?_
  simp [am_In, am_lay, am_pad, wp, wpL, wpO, wpI, wpJ, wpRet, am_ild, am_ald, am_lld, am_ist, am_ast, am_lst, am_iinc, am_st1, am_st2, am_kill, am_get, am_isI, am_isL, am_isR, am_lab, am_c1, am_c2, am_cn, am_bin, am_lbin, am_un, am_div, am_ldiv, am_lsh, am_i2l, am_l2i, am_lcmpQ, am_dup, am_dup2, am_pop, am_cat, am_cats, am_alen, am_len, am_iald, am_bald, am_lald, am_aald, am_iast, am_bast, am_last, am_aast, am_getf, am_putf, am_rd, am_rty, am_rok, am_b, am_call, am_recv, am_push, am_prim, am_acopy, List.length_cons, List.length_nil, List.take, List.drop, List.reverse_cons, List.reverse_nil, List.nil_append, List.cons_append, sl_57]
  refine x_putP (by omega) sh_57 (by omega) sl_57 ?_
  simp [am_In, am_lay, am_pad, wp, wpL, wpO, wpI, wpJ, wpRet, am_ild, am_ald, am_lld, am_ist, am_ast, am_lst, am_iinc, am_st1, am_st2, am_kill, am_get, am_isI, am_isL, am_isR, am_lab, am_c1, am_c2, am_cn, am_bin, am_lbin, am_un, am_div, am_ldiv, am_lsh, am_i2l, am_l2i, am_lcmpQ, am_dup, am_dup2, am_pop, am_cat, am_cats, am_alen, am_len, am_iald, am_bald, am_lald, am_aald, am_iast, am_bast, am_last, am_aast, am_getf, am_putf, am_rd, am_rty, am_rok, am_b, am_call, am_recv, am_push, am_prim, am_acopy, List.length_cons, List.length_nil, List.take, List.drop, List.reverse_cons, List.reverse_nil, List.nil_append, List.cons_append, sl_57]
  simpa using h
theorem z_deny {d f0 : Nat} {b : Bool} {k : Int} {Q : amQ} {hd : amD} {n : Nat} (hd9 : 3 ≤ d)  (hn : 159 ≤ n) (h : Q (some (vI 0)) (am_R f0 b) (am_P hd 57 3 k (w32 (am_A (hd 57) 3 k + 1))) n) : wpM d 200 [vR 17, vI k] Q (am_R f0 b) hd n := by
  obtain ⟨e, rfl, he⟩ := am_dep hd9
  apply en200
  simp only [trX11_deny, am_In, am_lay, am_pad, wp, wpL, wpO, wpI, wpJ, wpRet, am_ild, am_ald, am_lld, am_ist, am_ast, am_lst, am_iinc, am_st1, am_st2, am_kill, am_get, am_isI, am_isL, am_isR, am_lab, am_c1, am_c2, am_cn, am_bin, am_lbin, am_un, am_div, am_ldiv, am_lsh, am_i2l, am_l2i, am_lcmpQ, am_dup, am_dup2, am_pop, am_cat, am_cats, am_alen, am_len, am_iald, am_bald, am_lald, am_aald, am_iast, am_bast, am_last, am_aast, am_getf, am_putf, am_rd, am_rty, am_rok, am_b, am_call, am_recv, am_push, am_prim, am_acopy, List.length_cons, List.length_nil, List.take, List.drop, List.reverse_cons, List.reverse_nil, List.nil_append, List.cons_append]
  simp [sh_17, show 17 < n by omega]
  refine z_refuse (by omega) hn ?_
  simpa [am_cat] using h
