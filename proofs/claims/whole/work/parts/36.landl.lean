/-! the loops of the land of the class -/
section
variable {d f0 n o : Nat} {b : Bool} {L : Lnd} {Q : amQ} {hd : amD}
theorem fWq_le {m q : Nat} (hk : Lok L) (hq : q ≤ L 0 3) : sumN q (fun w => if m.testBit w then L 10 w else 0) ≤ 1188 := by
  have h1 := sumN_le (f := fun w => if m.testBit w then L 10 w else 0) (c := 99) q (fun i hi => by
    have := (hk.2.2.2.2.1 i (by omega)).2.2.2.2.2
    show (if m.testBit i then L 10 i else 0) ≤ 99
    split <;> omega)
  have h2 := lk_W hk
  omega
theorem g_weightOfAll {m : Nat} (hd9 : 3 ≤ d) (ho : isLand o) (hn : 159 ≤ n)  (hL : cL hd o L) (hm : m < 2147483648) (h : Q (some (vI (fW L m : Int))) (am_R f0 b) hd n) : wpM d 95 [vR o, vI (m : Int)] Q (am_R f0 b) hd n := by
  obtain ⟨e, rfl, he⟩ := am_dep hd9
  apply en95
  simp only [trX4_weightOfAll, am_In, am_lay, am_pad, wp, wpL, wpO, wpI, wpJ, wpRet, am_ild, am_ald, am_lld, am_ist, am_ast, am_lst, am_iinc, am_st1, am_st2, am_kill, am_get, am_isI, am_isL, am_isR, am_lab, am_c1, am_c2, am_cn, am_bin, am_lbin, am_un, am_div, am_ldiv, am_lsh, am_i2l, am_l2i, am_lcmpQ, am_dup, am_dup2, am_pop, am_cat, am_cats, am_alen, am_len, am_iald, am_bald, am_lald, am_aald, am_iast, am_bast, am_last, am_aast, am_getf, am_putf, am_rd, am_rty, am_rok, am_b, am_call, am_recv, am_push, am_prim, am_acopy, List.length_cons, List.length_nil, List.take, List.drop, List.reverse_cons, List.reverse_nil, List.nil_append, List.cons_append]
  have hk := lk_W hL.1
  simp [am_In, am_lay, am_pad, wp, wpL, wpO, wpI, wpJ, wpRet, am_ild, am_ald, am_lld, am_ist, am_ast, am_lst, am_iinc, am_st1, am_st2, am_kill, am_get, am_isI, am_isL, am_isR, am_lab, am_c1, am_c2, am_cn, am_bin, am_lbin, am_un, am_div, am_ldiv, am_lsh, am_i2l, am_l2i, am_lcmpQ, am_dup, am_dup2, am_pop, am_cat, am_cats, am_alen, am_len, am_iald, am_bald, am_lald, am_aald, am_iast, am_bast, am_last, am_aast, am_getf, am_putf, am_rd, am_rty, am_rok, am_b, am_call, am_recv, am_push, am_prim, am_acopy, List.length_cons, List.length_nil, List.take, List.drop, List.reverse_cons, List.reverse_nil, List.nil_append, List.cons_append, ld_s ho, ld_n ho hn, cL_c0 hL, cL_c1 hL, cL_c2 hL, cL_c3 hL]
  refine loop_inv (I := fun k ls st hr9 hd9 n9 u us => ∃ q : Nat, k = L 0 3 - q ∧ q ≤ L 0 3 ∧ ls = [vR o, vI (m : Int), vI ((sumN q (fun w => if m.testBit w then L 10 w else 0) : Nat) : Int), vI (q : Int)] ∧ st = [] ∧ am_R f0 b = hr9 ∧ hd = hd9 ∧ n = n9 ∧ u = 0 ∧ us = 0) ?_ (L 0 3) ?_
  · intro k ls st hr' hd' n' u us hI P hP
    obtain ⟨q, rfl, hq, rfl, rfl, rfl, rfl, rfl, rfl, rfl⟩ := hI
    have hs := fWq_le (m := m) hL.1 hq
    simp [am_In, am_lay, am_pad, wp, wpL, wpO, wpI, wpJ, wpRet, am_ild, am_ald, am_lld, am_ist, am_ast, am_lst, am_iinc, am_st1, am_st2, am_kill, am_get, am_isI, am_isL, am_isR, am_lab, am_c1, am_c2, am_cn, am_bin, am_lbin, am_un, am_div, am_ldiv, am_lsh, am_i2l, am_l2i, am_lcmpQ, am_dup, am_dup2, am_pop, am_cat, am_cats, am_alen, am_len, am_iald, am_bald, am_lald, am_aald, am_iast, am_bast, am_last, am_aast, am_getf, am_putf, am_rd, am_rty, am_rok, am_b, am_call, am_recv, am_push, am_prim, am_acopy, List.length_cons, List.length_nil, List.take, List.drop, List.reverse_cons, List.reverse_nil, List.nil_append, List.cons_append, ld_s ho, ld_n ho hn, cL_c0 hL, cL_c1 hL, cL_c2 hL, cL_c3 hL]
    refine ⟨fun hge => ?_, fun hlt => ?_⟩
    · have e9 : q = L 0 3 := by omega
      rw [e9]
      exact h
    · have hw := (hL.1.2.2.2.2.1 q (by omega)).2.2.2.2.2
      refine g_hasBit (by omega) hm (by omega) (fun hb => ?_) (fun hb => ?_)
      · simp [am_In, am_lay, am_pad, wp, wpL, wpO, wpI, wpJ, wpRet, am_ild, am_ald, am_lld, am_ist, am_ast, am_lst, am_iinc, am_st1, am_st2, am_kill, am_get, am_isI, am_isL, am_isR, am_lab, am_c1, am_c2, am_cn, am_bin, am_lbin, am_un, am_div, am_ldiv, am_lsh, am_i2l, am_l2i, am_lcmpQ, am_dup, am_dup2, am_pop, am_cat, am_cats, am_alen, am_len, am_iald, am_bald, am_lald, am_aald, am_iast, am_bast, am_last, am_aast, am_getf, am_putf, am_rd, am_rty, am_rok, am_b, am_call, am_recv, am_push, am_prim, am_acopy, List.length_cons, List.length_nil, List.take, List.drop, List.reverse_cons, List.reverse_nil, List.nil_append, List.cons_append, ld_s ho, ld_n ho hn, cL_c0 hL, cL_c1 hL, cL_c2 hL, cL_c3 hL]
        refine g_weightOf (by omega) ho hn hL (by omega) ?_
        simp [am_In, am_lay, am_pad, wp, wpL, wpO, wpI, wpJ, wpRet, am_ild, am_ald, am_lld, am_ist, am_ast, am_lst, am_iinc, am_st1, am_st2, am_kill, am_get, am_isI, am_isL, am_isR, am_lab, am_c1, am_c2, am_cn, am_bin, am_lbin, am_un, am_div, am_ldiv, am_lsh, am_i2l, am_l2i, am_lcmpQ, am_dup, am_dup2, am_pop, am_cat, am_cats, am_alen, am_len, am_iald, am_bald, am_lald, am_aald, am_iast, am_bast, am_last, am_aast, am_getf, am_putf, am_rd, am_rty, am_rok, am_b, am_call, am_recv, am_push, am_prim, am_acopy, List.length_cons, List.length_nil, List.take, List.drop, List.reverse_cons, List.reverse_nil, List.nil_append, List.cons_append, ld_s ho, ld_n ho hn, cL_c0 hL, cL_c1 hL, cL_c2 hL, cL_c3 hL]
        refine hP (L 0 3 - (q + 1)) (by omega) _ _ _ _ _ _ _ ⟨q + 1, rfl, by omega, ?_, rfl, rfl, rfl, rfl, rfl, rfl⟩
        rw [w32_1, w32_s (by omega), w32_n (by omega), sumN_s, if_pos hb]
      · simp [am_In, am_lay, am_pad, wp, wpL, wpO, wpI, wpJ, wpRet, am_ild, am_ald, am_lld, am_ist, am_ast, am_lst, am_iinc, am_st1, am_st2, am_kill, am_get, am_isI, am_isL, am_isR, am_lab, am_c1, am_c2, am_cn, am_bin, am_lbin, am_un, am_div, am_ldiv, am_lsh, am_i2l, am_l2i, am_lcmpQ, am_dup, am_dup2, am_pop, am_cat, am_cats, am_alen, am_len, am_iald, am_bald, am_lald, am_aald, am_iast, am_bast, am_last, am_aast, am_getf, am_putf, am_rd, am_rty, am_rok, am_b, am_call, am_recv, am_push, am_prim, am_acopy, List.length_cons, List.length_nil, List.take, List.drop, List.reverse_cons, List.reverse_nil, List.nil_append, List.cons_append, ld_s ho, ld_n ho hn, cL_c0 hL, cL_c1 hL, cL_c2 hL, cL_c3 hL]
        refine hP (L 0 3 - (q + 1)) (by omega) _ _ _ _ _ _ _ ⟨q + 1, rfl, by omega, ?_, rfl, rfl, rfl, rfl, rfl, rfl⟩
        rw [w32_1, w32_s (by omega), w32_b (by omega) (by omega), sumN_s, if_neg hb]
        rfl
  · exact ⟨0, rfl, Nat.zero_le _, rfl, rfl, rfl, rfl, rfl, rfl, rfl⟩
end
