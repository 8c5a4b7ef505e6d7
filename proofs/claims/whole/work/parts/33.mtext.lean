/-! the model's text -/
/-- one byte behind the model's text -/
def am_mb (hd : amD) (x : Int) : amD := am_up (am_up hd 100 (hd 98 2).toNat (w8 x)) 98 2 (w32 (hd 98 2 + 1))
def am_mn (hd : amD) (x : Int) : amD := am_mb (am_mb (am_mb (am_mb hd (am_ushr x 24)) (am_ushr x 16)) (am_ushr x 8)) (am_ushr x 0)
theorem z_mrefuse {d f0 : Nat} {b : Bool} {k : Int} {Q : amQ} {hd : amD} {n : Nat} (hd9 : 1 ≤ d) (hn : 159 ≤ n) (h1 : 0 ≤ k ∧ k < 3) (h : Q (some (vI (-1))) (am_R f0 b) (am_up hd 99 k.toNat (w32 (hd 99 k.toNat + 1))) n) : wpM d 214 [vR 98, vI k] Q (am_R f0 b) hd n := by
  obtain ⟨e, rfl, he⟩ := am_dep hd9
  have h98 : 98 < n := by omega
  have h99 : 99 < n := by omega
  apply en214
  simp only [trX12_refuse, am_In, am_lay, am_pad, wp, wpL, wpO, wpI, wpJ, wpRet, am_ild, am_ald, am_lld, am_ist, am_ast, am_lst, am_iinc, am_st1, am_st2, am_kill, am_get, am_isI, am_isL, am_isR, am_lab, am_c1, am_c2, am_cn, am_bin, am_lbin, am_un, am_div, am_ldiv, am_lsh, am_i2l, am_l2i, am_lcmpQ, am_dup, am_dup2, am_pop, am_cat, am_cats, am_alen, am_len, am_iald, am_bald, am_lald, am_aald, am_iast, am_bast, am_last, am_aast, am_getf, am_putf, am_rd, am_rty, am_rok, am_b, am_call, am_recv, am_push, am_prim, am_acopy, List.length_cons, List.length_nil, List.take, List.drop, List.reverse_cons, List.reverse_nil, List.nil_append, List.cons_append]
  simp [am_In, am_lay, am_pad, wp, wpL, wpO, wpI, wpJ, wpRet, am_ild, am_ald, am_lld, am_ist, am_ast, am_lst, am_iinc, am_st1, am_st2, am_kill, am_get, am_isI, am_isL, am_isR, am_lab, am_c1, am_c2, am_cn, am_bin, am_lbin, am_un, am_div, am_ldiv, am_lsh, am_i2l, am_l2i, am_lcmpQ, am_dup, am_dup2, am_pop, am_cat, am_cats, am_alen, am_len, am_iald, am_bald, am_lald, am_aald, am_iast, am_bast, am_last, am_aast, am_getf, am_putf, am_rd, am_rty, am_rok, am_b, am_call, am_recv, am_push, am_prim, am_acopy, List.length_cons, List.length_nil, List.take, List.drop, List.reverse_cons, List.reverse_nil, List.nil_append, List.cons_append, sh_98, R98_0, sh_99, sl_99, h98, h99, h1]
  exact h
theorem z_mdeny {d f0 : Nat} {b : Bool} {k : Int} {Q : amQ} {hd : amD} {n : Nat} (hd9 : 1 ≤ d) (hn : 159 ≤ n) (h1 : 0 ≤ k ∧ k < 3) (h : Q (some (vI 0)) (am_R f0 b) (am_up hd 99 k.toNat (w32 (hd 99 k.toNat + 1))) n) : wpM d 215 [vR 98, vI k] Q (am_R f0 b) hd n := by
  obtain ⟨e, rfl, he⟩ := am_dep hd9
  have h98 : 98 < n := by omega
  have h99 : 99 < n := by omega
  apply en215
  simp only [trX12_deny, am_In, am_lay, am_pad, wp, wpL, wpO, wpI, wpJ, wpRet, am_ild, am_ald, am_lld, am_ist, am_ast, am_lst, am_iinc, am_st1, am_st2, am_kill, am_get, am_isI, am_isL, am_isR, am_lab, am_c1, am_c2, am_cn, am_bin, am_lbin, am_un, am_div, am_ldiv, am_lsh, am_i2l, am_l2i, am_lcmpQ, am_dup, am_dup2, am_pop, am_cat, am_cats, am_alen, am_len, am_iald, am_bald, am_lald, am_aald, am_iast, am_bast, am_last, am_aast, am_getf, am_putf, am_rd, am_rty, am_rok, am_b, am_call, am_recv, am_push, am_prim, am_acopy, List.length_cons, List.length_nil, List.take, List.drop, List.reverse_cons, List.reverse_nil, List.nil_append, List.cons_append]
  simp [am_In, am_lay, am_pad, wp, wpL, wpO, wpI, wpJ, wpRet, am_ild, am_ald, am_lld, am_ist, am_ast, am_lst, am_iinc, am_st1, am_st2, am_kill, am_get, am_isI, am_isL, am_isR, am_lab, am_c1, am_c2, am_cn, am_bin, am_lbin, am_un, am_div, am_ldiv, am_lsh, am_i2l, am_l2i, am_lcmpQ, am_dup, am_dup2, am_pop, am_cat, am_cats, am_alen, am_len, am_iald, am_bald, am_lald, am_aald, am_iast, am_bast, am_last, am_aast, am_getf, am_putf, am_rd, am_rty, am_rok, am_b, am_call, am_recv, am_push, am_prim, am_acopy, List.length_cons, List.length_nil, List.take, List.drop, List.reverse_cons, List.reverse_nil, List.nil_append, List.cons_append, sh_98, R98_0, sh_99, sl_99, h98, h99, h1]
  exact h
def am_mp (hd : amD) (x : Int) : Nat → amD
  | 0 => hd
  | q + 1 => am_mb (am_mp hd x q) (am_ushr x (24 - 8 * (q : Int)))
theorem am_mp_size (hd : amD) (x : Int) (h : 0 ≤ hd 98 2 ∧ hd 98 2 ≤ 1000) : ∀ q : Nat, q ≤ 4 → am_mp hd x q 98 2 = hd 98 2 + q
  | 0, _ => by simp [am_mp]
  | q + 1, hq => by
    have ih := am_mp_size hd x h q (by omega)
    simp only [am_mp, am_mb, up_at]
    simp only [if_true, ih]
    rw [w32_id ⟨by omega, by omega⟩]
    push_cast
    omega
theorem z_feeds {d f0 : Nat} {b : Bool} {x : Int} {Q : amQ} {hd : amD} {n : Nat} (hd9 : 1 ≤ d) (hn : 159 ≤ n) (h1 : 0 ≤ hd 98 2 ∧ hd 98 2 ≤ 496) (h : Q none (am_R f0 b) (am_mp hd x 4) n) : wpM d 217 [vR 98, vI x] Q (am_R f0 b) hd n := by
  obtain ⟨e, rfl, he⟩ := am_dep hd9
  have h98 : 98 < n := by omega
  have h100 : 100 < n := by omega
  apply en217
  simp only [trX12_feeds, am_In, am_lay, am_pad, wp, wpL, wpO, wpI, wpJ, wpRet, am_ild, am_ald, am_lld, am_ist, am_ast, am_lst, am_iinc, am_st1, am_st2, am_kill, am_get, am_isI, am_isL, am_isR, am_lab, am_c1, am_c2, am_cn, am_bin, am_lbin, am_un, am_div, am_ldiv, am_lsh, am_i2l, am_l2i, am_lcmpQ, am_dup, am_dup2, am_pop, am_cat, am_cats, am_alen, am_len, am_iald, am_bald, am_lald, am_aald, am_iast, am_bast, am_last, am_aast, am_getf, am_putf, am_rd, am_rty, am_rok, am_b, am_call, am_recv, am_push, am_prim, am_acopy, List.length_cons, List.length_nil, List.take, List.drop, List.reverse_cons, List.reverse_nil, List.nil_append, List.cons_append]
  refine ⟨by omega, ?_⟩
  simp
  refine loop_inv (I := fun k ls st hr9 hd9 n9 u us => ∃ q : Nat, k = 4 - q ∧ q ≤ 4 ∧ ls = [vR 98, vI x, vI (3 - (q : Int))] ∧ st = [] ∧ hr9 = am_R f0 b ∧ hd9 = am_mp hd x q ∧ n9 = n ∧ u = 0 ∧ us = 0) ?_ 4 ?_
  · intro k ls st hr' hd' n' u us hI P hP
    obtain ⟨q, rfl, hq, rfl, rfl, rfl, rfl, rfl, rfl, rfl⟩ := hI
    have hs := am_mp_size hd x ⟨h1.1, by omega⟩ q hq
    simp [am_In, am_lay, am_pad, wp, wpL, wpO, wpI, wpJ, wpRet, am_ild, am_ald, am_lld, am_ist, am_ast, am_lst, am_iinc, am_st1, am_st2, am_kill, am_get, am_isI, am_isL, am_isR, am_lab, am_c1, am_c2, am_cn, am_bin, am_lbin, am_un, am_div, am_ldiv, am_lsh, am_i2l, am_l2i, am_lcmpQ, am_dup, am_dup2, am_pop, am_cat, am_cats, am_alen, am_len, am_iald, am_bald, am_lald, am_aald, am_iast, am_bast, am_last, am_aast, am_getf, am_putf, am_rd, am_rty, am_rok, am_b, am_call, am_recv, am_push, am_prim, am_acopy, List.length_cons, List.length_nil, List.take, List.drop, List.reverse_cons, List.reverse_nil, List.nil_append, List.cons_append, sh_98, R98_1, sh_100, sl_100, h98, h100, hs, up_at]
    refine ⟨fun hlt => ?_, fun hge => ⟨⟨by omega, by omega⟩, ?_⟩⟩
    · have e : q = 4 := by omega
      subst e
      exact h
    · refine hP (4 - (q + 1)) (by omega) _ _ _ _ _ _ _ ⟨q + 1, rfl, by omega, ?_, rfl, rfl, ?_, rfl, rfl, rfl⟩
      · rw [w32_id (show in32 (-1) from ⟨by decide, by decide⟩), w32_id (show in32 (3 - (q : Int) + -1) from ⟨by omega, by omega⟩), show (3 - (q : Int) + -1) = 3 - ((q + 1 : Nat) : Int) by push_cast; omega]
      · rw [w8_w8, w32_id (show in32 (8 * (3 - (q : Int))) from ⟨by omega, by omega⟩), show 8 * (3 - (q : Int)) = 24 - 8 * (q : Int) by omega]
        show _ = am_mb (am_mp hd x q) (am_ushr x (24 - 8 * (q : Int)))
        unfold am_mb
        rw [hs]
  · exact ⟨0, rfl, by omega, rfl, rfl, rfl, rfl, rfl, rfl, rfl⟩
def am_m4 (hd : amD) (x : Int) : amD := am_mp hd x 4
theorem z_mfeed {d f0 : Nat} {b : Bool} {x0 x1 x2 x3 x4 : Int} {Q : amQ} {hd : amD} {n : Nat} (hd9 : 2 ≤ d) (hn : 159 ≤ n) (h1 : 0 ≤ hd 98 2 ∧ hd 98 2 ≤ 500)
    (ha : hd 98 2 + 20 ≤ 500 → Q (some (vI (hd 98 2 + 20))) (am_R f0 b) (am_m4 (am_m4 (am_m4 (am_m4 (am_m4 hd x0) x1) x2) x3) x4) n)
    (hb : ¬ hd 98 2 + 20 ≤ 500 → Q (some (vI (-1))) (am_R f0 b) (am_up hd 99 1 (w32 (hd 99 1 + 1))) n) : wpM d 218 [vR 98, vI x0, vI x1, vI x2, vI x3, vI x4] Q (am_R f0 b) hd n := by
  obtain ⟨e, rfl, he⟩ := am_dep hd9
  have h98 : 98 < n := by omega
  have e0 : w32 (hd 98 2 + 20) = hd 98 2 + 20 := w32_id ⟨by omega, by omega⟩
  apply en218
  simp only [trX12_feed, am_In, am_lay, am_pad, wp, wpL, wpO, wpI, wpJ, wpRet, am_ild, am_ald, am_lld, am_ist, am_ast, am_lst, am_iinc, am_st1, am_st2, am_kill, am_get, am_isI, am_isL, am_isR, am_lab, am_c1, am_c2, am_cn, am_bin, am_lbin, am_un, am_div, am_ldiv, am_lsh, am_i2l, am_l2i, am_lcmpQ, am_dup, am_dup2, am_pop, am_cat, am_cats, am_alen, am_len, am_iald, am_bald, am_lald, am_aald, am_iast, am_bast, am_last, am_aast, am_getf, am_putf, am_rd, am_rty, am_rok, am_b, am_call, am_recv, am_push, am_prim, am_acopy, List.length_cons, List.length_nil, List.take, List.drop, List.reverse_cons, List.reverse_nil, List.nil_append, List.cons_append]
  simp [am_In, am_lay, am_pad, wp, wpL, wpO, wpI, wpJ, wpRet, am_ild, am_ald, am_lld, am_ist, am_ast, am_lst, am_iinc, am_st1, am_st2, am_kill, am_get, am_isI, am_isL, am_isR, am_lab, am_c1, am_c2, am_cn, am_bin, am_lbin, am_un, am_div, am_ldiv, am_lsh, am_i2l, am_l2i, am_lcmpQ, am_dup, am_dup2, am_pop, am_cat, am_cats, am_alen, am_len, am_iald, am_bald, am_lald, am_aald, am_iast, am_bast, am_last, am_aast, am_getf, am_putf, am_rd, am_rty, am_rok, am_b, am_call, am_recv, am_push, am_prim, am_acopy, List.length_cons, List.length_nil, List.take, List.drop, List.reverse_cons, List.reverse_nil, List.nil_append, List.cons_append, sh_98, h98, e0]
  refine ⟨fun hq => ?_, fun hq => ?_⟩
  · have s1 : am_m4 hd x0 98 2 = hd 98 2 + 4 := am_mp_size hd x0 ⟨h1.1, by omega⟩ 4 (by omega)
    have s2 : am_m4 (am_m4 hd x0) x1 98 2 = hd 98 2 + 8 := by rw [show am_m4 (am_m4 hd x0) x1 98 2 = am_m4 hd x0 98 2 + 4 from am_mp_size (am_m4 hd x0) x1 ⟨by omega, by omega⟩ 4 (by omega), s1]; omega
    have s3 : am_m4 (am_m4 (am_m4 hd x0) x1) x2 98 2 = hd 98 2 + 12 := by rw [show am_m4 (am_m4 (am_m4 hd x0) x1) x2 98 2 = am_m4 (am_m4 hd x0) x1 98 2 + 4 from am_mp_size _ x2 ⟨by omega, by omega⟩ 4 (by omega), s2]; omega
    have s4 : am_m4 (am_m4 (am_m4 (am_m4 hd x0) x1) x2) x3 98 2 = hd 98 2 + 16 := by rw [show am_m4 (am_m4 (am_m4 (am_m4 hd x0) x1) x2) x3 98 2 = am_m4 (am_m4 (am_m4 hd x0) x1) x2 98 2 + 4 from am_mp_size _ x3 ⟨by omega, by omega⟩ 4 (by omega), s3]; omega
    have s5 : am_m4 (am_m4 (am_m4 (am_m4 (am_m4 hd x0) x1) x2) x3) x4 98 2 = hd 98 2 + 20 := by rw [show am_m4 (am_m4 (am_m4 (am_m4 (am_m4 hd x0) x1) x2) x3) x4 98 2 = am_m4 (am_m4 (am_m4 (am_m4 hd x0) x1) x2) x3 98 2 + 4 from am_mp_size _ x4 ⟨by omega, by omega⟩ 4 (by omega), s4]; omega
    refine z_feeds (by omega) hn ⟨by omega, by omega⟩ ?_
    simp [am_In, am_lay, am_pad, wp, wpL, wpO, wpI, wpJ, wpRet, am_ild, am_ald, am_lld, am_ist, am_ast, am_lst, am_iinc, am_st1, am_st2, am_kill, am_get, am_isI, am_isL, am_isR, am_lab, am_c1, am_c2, am_cn, am_bin, am_lbin, am_un, am_div, am_ldiv, am_lsh, am_i2l, am_l2i, am_lcmpQ, am_dup, am_dup2, am_pop, am_cat, am_cats, am_alen, am_len, am_iald, am_bald, am_lald, am_aald, am_iast, am_bast, am_last, am_aast, am_getf, am_putf, am_rd, am_rty, am_rok, am_b, am_call, am_recv, am_push, am_prim, am_acopy, List.length_cons, List.length_nil, List.take, List.drop, List.reverse_cons, List.reverse_nil, List.nil_append, List.cons_append, sh_98, h98]
    refine z_feeds (by omega) hn ⟨by show 0 ≤ am_m4 hd x0 98 2; omega, by show am_m4 hd x0 98 2 ≤ 496; omega⟩ ?_
    simp [am_In, am_lay, am_pad, wp, wpL, wpO, wpI, wpJ, wpRet, am_ild, am_ald, am_lld, am_ist, am_ast, am_lst, am_iinc, am_st1, am_st2, am_kill, am_get, am_isI, am_isL, am_isR, am_lab, am_c1, am_c2, am_cn, am_bin, am_lbin, am_un, am_div, am_ldiv, am_lsh, am_i2l, am_l2i, am_lcmpQ, am_dup, am_dup2, am_pop, am_cat, am_cats, am_alen, am_len, am_iald, am_bald, am_lald, am_aald, am_iast, am_bast, am_last, am_aast, am_getf, am_putf, am_rd, am_rty, am_rok, am_b, am_call, am_recv, am_push, am_prim, am_acopy, List.length_cons, List.length_nil, List.take, List.drop, List.reverse_cons, List.reverse_nil, List.nil_append, List.cons_append, sh_98, h98]
    refine z_feeds (by omega) hn ⟨by show 0 ≤ am_m4 (am_m4 hd x0) x1 98 2; omega, by show am_m4 (am_m4 hd x0) x1 98 2 ≤ 496; omega⟩ ?_
    simp [am_In, am_lay, am_pad, wp, wpL, wpO, wpI, wpJ, wpRet, am_ild, am_ald, am_lld, am_ist, am_ast, am_lst, am_iinc, am_st1, am_st2, am_kill, am_get, am_isI, am_isL, am_isR, am_lab, am_c1, am_c2, am_cn, am_bin, am_lbin, am_un, am_div, am_ldiv, am_lsh, am_i2l, am_l2i, am_lcmpQ, am_dup, am_dup2, am_pop, am_cat, am_cats, am_alen, am_len, am_iald, am_bald, am_lald, am_aald, am_iast, am_bast, am_last, am_aast, am_getf, am_putf, am_rd, am_rty, am_rok, am_b, am_call, am_recv, am_push, am_prim, am_acopy, List.length_cons, List.length_nil, List.take, List.drop, List.reverse_cons, List.reverse_nil, List.nil_append, List.cons_append, sh_98, h98]
    refine z_feeds (by omega) hn ⟨by show 0 ≤ am_m4 (am_m4 (am_m4 hd x0) x1) x2 98 2; omega, by show am_m4 (am_m4 (am_m4 hd x0) x1) x2 98 2 ≤ 496; omega⟩ ?_
    simp [am_In, am_lay, am_pad, wp, wpL, wpO, wpI, wpJ, wpRet, am_ild, am_ald, am_lld, am_ist, am_ast, am_lst, am_iinc, am_st1, am_st2, am_kill, am_get, am_isI, am_isL, am_isR, am_lab, am_c1, am_c2, am_cn, am_bin, am_lbin, am_un, am_div, am_ldiv, am_lsh, am_i2l, am_l2i, am_lcmpQ, am_dup, am_dup2, am_pop, am_cat, am_cats, am_alen, am_len, am_iald, am_bald, am_lald, am_aald, am_iast, am_bast, am_last, am_aast, am_getf, am_putf, am_rd, am_rty, am_rok, am_b, am_call, am_recv, am_push, am_prim, am_acopy, List.length_cons, List.length_nil, List.take, List.drop, List.reverse_cons, List.reverse_nil, List.nil_append, List.cons_append, sh_98, h98]
    refine z_feeds (by omega) hn ⟨by show 0 ≤ am_m4 (am_m4 (am_m4 (am_m4 hd x0) x1) x2) x3 98 2; omega, by show am_m4 (am_m4 (am_m4 (am_m4 hd x0) x1) x2) x3 98 2 ≤ 496; omega⟩ ?_
    simp [am_In, am_lay, am_pad, wp, wpL, wpO, wpI, wpJ, wpRet, am_ild, am_ald, am_lld, am_ist, am_ast, am_lst, am_iinc, am_st1, am_st2, am_kill, am_get, am_isI, am_isL, am_isR, am_lab, am_c1, am_c2, am_cn, am_bin, am_lbin, am_un, am_div, am_ldiv, am_lsh, am_i2l, am_l2i, am_lcmpQ, am_dup, am_dup2, am_pop, am_cat, am_cats, am_alen, am_len, am_iald, am_bald, am_lald, am_aald, am_iast, am_bast, am_last, am_aast, am_getf, am_putf, am_rd, am_rty, am_rok, am_b, am_call, am_recv, am_push, am_prim, am_acopy, List.length_cons, List.length_nil, List.take, List.drop, List.reverse_cons, List.reverse_nil, List.nil_append, List.cons_append, sh_98, h98]
    have hz := ha (by omega)
    rw [← s5] at hz
    exact hz
  · refine z_mrefuse (by omega) hn ⟨by decide, by decide⟩ ?_
    simp [am_In, am_lay, am_pad, wp, wpL, wpO, wpI, wpJ, wpRet, am_ild, am_ald, am_lld, am_ist, am_ast, am_lst, am_iinc, am_st1, am_st2, am_kill, am_get, am_isI, am_isL, am_isR, am_lab, am_c1, am_c2, am_cn, am_bin, am_lbin, am_un, am_div, am_ldiv, am_lsh, am_i2l, am_l2i, am_lcmpQ, am_dup, am_dup2, am_pop, am_cat, am_cats, am_alen, am_len, am_iald, am_bald, am_lald, am_aald, am_iast, am_bast, am_last, am_aast, am_getf, am_putf, am_rd, am_rty, am_rok, am_b, am_call, am_recv, am_push, am_prim, am_acopy, List.length_cons, List.length_nil, List.take, List.drop, List.reverse_cons, List.reverse_nil, List.nil_append, List.cons_append]
    exact hb (by omega)
