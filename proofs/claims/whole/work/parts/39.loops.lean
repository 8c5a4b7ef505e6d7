/-! more loops over the land, both sides -/
theorem shl1 {q : Nat} (h : q < 31) : am_shl 1 (q : Int) = ((1 <<< q : Nat) : Int) := shl_nat (a := 1) (by omega) (by
  rw [Nat.one_shiftLeft]
  exact Nat.lt_of_lt_of_le (Nat.pow_lt_pow_right (by decide) h) (by decide))
theorem or_0 {x : Nat} (h : x < 2147483648) : am_or (x : Int) 0 = (x : Int) := by
  have := or_nat (a := x) (b := 0) h (by decide)
  rw [Nat.or_zero] at this
  exact this
theorem bitsN_12 {p : Nat → Bool} {k : Nat} (h : k ≤ 12) : bitsN k p < 4096 := bitsN_lt' p h
theorem shl_12 {q : Nat} (h : q < 12) : 1 <<< q < 4096 := shl1_lt h
theorem or_bits {p : Nat → Bool} {q : Nat} (h : q < 12) (hp : p q = true) : am_or ((bitsN q p : Nat) : Int) (am_shl 1 (q : Int)) = ((bitsN (q + 1) p : Nat) : Int) := by
  have h1 := bitsN_12 (p := p) (k := q) (by omega)
  have h2 := shl_12 h
  rw [shl1 (by omega), or_nat (by omega) (by omega), bitsN_s, if_pos hp]
theorem or_bits0 {p : Nat → Bool} {q : Nat} (h : q < 12) (hp : ¬ p q = true) : am_or ((bitsN q p : Nat) : Int) 0 = ((bitsN (q + 1) p : Nat) : Int) := by
  have h1 := bitsN_12 (p := p) (k := q) (by omega)
  rw [or_0 (by omega), bitsN_s, if_neg hp, Nat.or_zero]
theorem sumN_1 {k : Nat} {f : Nat → Nat} (h : ∀ i, f i ≤ 1) : sumN k f ≤ k := by
  have := sumN_le (f := f) (c := 1) k (fun i _ => h i)
  omega
/-- what of a want's weight falls on so many of its days -/
def fPart (L : Lnd) (w k : Nat) : Nat := L 10 w * min k (L 9 w - L 8 w) / (L 9 w - L 8 w)
def fSx (L : Lnd) (s : Nat) (wo : Int) : Nat := bitsN (L 0 3) (fun w => L 7 w == s && !decide ((L 6 w : Int) = wo))
def isLo (hd : amD) (T lost : Nat) : Prop := lost < 4096 ∧ ∀ t, t < T → hd 139 t = if lost.testBit t = true then 1 else 0
section
variable {d f0 n o : Nat} {b : Bool} {L : Lnd} {Q : amQ} {hd : amD}
theorem g_wantsOfSort {s : Nat} (hd9 : 3 ≤ d) (ho : isLand o) (hn : 159 ≤ n)  (hL : cL hd o L) (h : Q (some (vI (fS L s : Int))) (am_R f0 b) hd n) : wpM d 96 [vR o, vI (s : Int)] Q (am_R f0 b) hd n := by
  obtain ⟨e, rfl, he⟩ := am_dep hd9
  apply en96
  simp only [trX4_wantsOfSort, am_In, am_lay, am_pad, wp, wpL, wpO, wpI, wpJ, wpRet, am_ild, am_ald, am_lld, am_ist, am_ast, am_lst, am_iinc, am_st1, am_st2, am_kill, am_get, am_isI, am_isL, am_isR, am_lab, am_c1, am_c2, am_cn, am_bin, am_lbin, am_un, am_div, am_ldiv, am_lsh, am_i2l, am_l2i, am_lcmpQ, am_dup, am_dup2, am_pop, am_cat, am_cats, am_alen, am_len, am_iald, am_bald, am_lald, am_aald, am_iast, am_bast, am_last, am_aast, am_getf, am_putf, am_rd, am_rty, am_rok, am_b, am_call, am_recv, am_push, am_prim, am_acopy, List.length_cons, List.length_nil, List.take, List.drop, List.reverse_cons, List.reverse_nil, List.nil_append, List.cons_append]
  have hk := lk_W hL.1
  simp [am_In, am_lay, am_pad, wp, wpL, wpO, wpI, wpJ, wpRet, am_ild, am_ald, am_lld, am_ist, am_ast, am_lst, am_iinc, am_st1, am_st2, am_kill, am_get, am_isI, am_isL, am_isR, am_lab, am_c1, am_c2, am_cn, am_bin, am_lbin, am_un, am_div, am_ldiv, am_lsh, am_i2l, am_l2i, am_lcmpQ, am_dup, am_dup2, am_pop, am_cat, am_cats, am_alen, am_len, am_iald, am_bald, am_lald, am_aald, am_iast, am_bast, am_last, am_aast, am_getf, am_putf, am_rd, am_rty, am_rok, am_b, am_call, am_recv, am_push, am_prim, am_acopy, List.length_cons, List.length_nil, List.take, List.drop, List.reverse_cons, List.reverse_nil, List.nil_append, List.cons_append, fin0_4, fin1_4, fin2_4, fin3_4, ld_s ho, ld_n ho hn, cL_c0 hL, cL_c1 hL, cL_c2 hL, cL_c3 hL]
  refine loop_inv (I := fun k ls st hr9 hd9 n9 u us => ∃ q : Nat, k = L 0 3 - q ∧ q ≤ L 0 3 ∧ ls = [vR o, vI (s : Int), vI ((bitsN q (fun w => L 7 w == s) : Nat) : Int), vI (q : Int)] ∧ st = [] ∧ am_R f0 b = hr9 ∧ hd = hd9 ∧ n = n9 ∧ u = 0 ∧ us = 0) ?_ (L 0 3) ?_
  · intro k ls st hr' hd' n' u us hI P hP
    obtain ⟨q, rfl, hq, rfl, rfl, rfl, rfl, rfl, rfl, rfl⟩ := hI
    simp [am_In, am_lay, am_pad, wp, wpL, wpO, wpI, wpJ, wpRet, am_ild, am_ald, am_lld, am_ist, am_ast, am_lst, am_iinc, am_st1, am_st2, am_kill, am_get, am_isI, am_isL, am_isR, am_lab, am_c1, am_c2, am_cn, am_bin, am_lbin, am_un, am_div, am_ldiv, am_lsh, am_i2l, am_l2i, am_lcmpQ, am_dup, am_dup2, am_pop, am_cat, am_cats, am_alen, am_len, am_iald, am_bald, am_lald, am_aald, am_iast, am_bast, am_last, am_aast, am_getf, am_putf, am_rd, am_rty, am_rok, am_b, am_call, am_recv, am_push, am_prim, am_acopy, List.length_cons, List.length_nil, List.take, List.drop, List.reverse_cons, List.reverse_nil, List.nil_append, List.cons_append, fin0_4, fin1_4, fin2_4, fin3_4, ld_s ho, ld_n ho hn, cL_c0 hL, cL_c1 hL, cL_c2 hL, cL_c3 hL]
    refine ⟨fun hge => ?_, fun hlt => ?_⟩
    · have e9 : q = L 0 3 := by omega
      rw [e9]
      exact h
    · refine g_sortOfWant (by omega) ho hn hL (by omega) ?_
      simp [am_In, am_lay, am_pad, wp, wpL, wpO, wpI, wpJ, wpRet, am_ild, am_ald, am_lld, am_ist, am_ast, am_lst, am_iinc, am_st1, am_st2, am_kill, am_get, am_isI, am_isL, am_isR, am_lab, am_c1, am_c2, am_cn, am_bin, am_lbin, am_un, am_div, am_ldiv, am_lsh, am_i2l, am_l2i, am_lcmpQ, am_dup, am_dup2, am_pop, am_cat, am_cats, am_alen, am_len, am_iald, am_bald, am_lald, am_aald, am_iast, am_bast, am_last, am_aast, am_getf, am_putf, am_rd, am_rty, am_rok, am_b, am_call, am_recv, am_push, am_prim, am_acopy, List.length_cons, List.length_nil, List.take, List.drop, List.reverse_cons, List.reverse_nil, List.nil_append, List.cons_append, fin0_4, fin1_4, fin2_4, fin3_4, ld_s ho, ld_n ho hn, cL_c0 hL, cL_c1 hL, cL_c2 hL, cL_c3 hL]
      refine ⟨fun h1 => ?_, fun h1 => ?_⟩
      · refine hP (L 0 3 - (q + 1)) (by omega) _ _ _ _ _ _ _ ⟨q + 1, rfl, by omega, ?_, rfl, rfl, rfl, rfl, rfl, rfl⟩
        rw [w32_1, w32_s (by omega), or_bits0 (p := (fun w => L 7 w == s)) (by omega) (by simp; omega)]
      · refine hP (L 0 3 - (q + 1)) (by omega) _ _ _ _ _ _ _ ⟨q + 1, rfl, by omega, ?_, rfl, rfl, rfl, rfl, rfl, rfl⟩
        rw [w32_1, w32_s (by omega), or_bits (p := (fun w => L 7 w == s)) (by omega) (by simp; omega)]
  · exact ⟨0, rfl, Nat.zero_le _, rfl, rfl, rfl, rfl, rfl, rfl, rfl⟩
theorem g_wantsOfPerson {s : Nat} (hd9 : 3 ≤ d) (ho : isLand o) (hn : 159 ≤ n)  (hL : cL hd o L) (h : Q (some (vI (fP L s : Int))) (am_R f0 b) hd n) : wpM d 97 [vR o, vI (s : Int)] Q (am_R f0 b) hd n := by
  obtain ⟨e, rfl, he⟩ := am_dep hd9
  apply en97
  simp only [trX4_wantsOfPerson, am_In, am_lay, am_pad, wp, wpL, wpO, wpI, wpJ, wpRet, am_ild, am_ald, am_lld, am_ist, am_ast, am_lst, am_iinc, am_st1, am_st2, am_kill, am_get, am_isI, am_isL, am_isR, am_lab, am_c1, am_c2, am_cn, am_bin, am_lbin, am_un, am_div, am_ldiv, am_lsh, am_i2l, am_l2i, am_lcmpQ, am_dup, am_dup2, am_pop, am_cat, am_cats, am_alen, am_len, am_iald, am_bald, am_lald, am_aald, am_iast, am_bast, am_last, am_aast, am_getf, am_putf, am_rd, am_rty, am_rok, am_b, am_call, am_recv, am_push, am_prim, am_acopy, List.length_cons, List.length_nil, List.take, List.drop, List.reverse_cons, List.reverse_nil, List.nil_append, List.cons_append]
  have hk := lk_W hL.1
  simp [am_In, am_lay, am_pad, wp, wpL, wpO, wpI, wpJ, wpRet, am_ild, am_ald, am_lld, am_ist, am_ast, am_lst, am_iinc, am_st1, am_st2, am_kill, am_get, am_isI, am_isL, am_isR, am_lab, am_c1, am_c2, am_cn, am_bin, am_lbin, am_un, am_div, am_ldiv, am_lsh, am_i2l, am_l2i, am_lcmpQ, am_dup, am_dup2, am_pop, am_cat, am_cats, am_alen, am_len, am_iald, am_bald, am_lald, am_aald, am_iast, am_bast, am_last, am_aast, am_getf, am_putf, am_rd, am_rty, am_rok, am_b, am_call, am_recv, am_push, am_prim, am_acopy, List.length_cons, List.length_nil, List.take, List.drop, List.reverse_cons, List.reverse_nil, List.nil_append, List.cons_append, fin0_4, fin1_4, fin2_4, fin3_4, ld_s ho, ld_n ho hn, cL_c0 hL, cL_c1 hL, cL_c2 hL, cL_c3 hL]
  refine loop_inv (I := fun k ls st hr9 hd9 n9 u us => ∃ q : Nat, k = L 0 3 - q ∧ q ≤ L 0 3 ∧ ls = [vR o, vI (s : Int), vI ((bitsN q (fun w => L 6 w == s) : Nat) : Int), vI (q : Int)] ∧ st = [] ∧ am_R f0 b = hr9 ∧ hd = hd9 ∧ n = n9 ∧ u = 0 ∧ us = 0) ?_ (L 0 3) ?_
  · intro k ls st hr' hd' n' u us hI P hP
    obtain ⟨q, rfl, hq, rfl, rfl, rfl, rfl, rfl, rfl, rfl⟩ := hI
    simp [am_In, am_lay, am_pad, wp, wpL, wpO, wpI, wpJ, wpRet, am_ild, am_ald, am_lld, am_ist, am_ast, am_lst, am_iinc, am_st1, am_st2, am_kill, am_get, am_isI, am_isL, am_isR, am_lab, am_c1, am_c2, am_cn, am_bin, am_lbin, am_un, am_div, am_ldiv, am_lsh, am_i2l, am_l2i, am_lcmpQ, am_dup, am_dup2, am_pop, am_cat, am_cats, am_alen, am_len, am_iald, am_bald, am_lald, am_aald, am_iast, am_bast, am_last, am_aast, am_getf, am_putf, am_rd, am_rty, am_rok, am_b, am_call, am_recv, am_push, am_prim, am_acopy, List.length_cons, List.length_nil, List.take, List.drop, List.reverse_cons, List.reverse_nil, List.nil_append, List.cons_append, fin0_4, fin1_4, fin2_4, fin3_4, ld_s ho, ld_n ho hn, cL_c0 hL, cL_c1 hL, cL_c2 hL, cL_c3 hL]
    refine ⟨fun hge => ?_, fun hlt => ?_⟩
    · have e9 : q = L 0 3 := by omega
      rw [e9]
      exact h
    · refine g_whoWants (by omega) ho hn hL (by omega) ?_
      simp [am_In, am_lay, am_pad, wp, wpL, wpO, wpI, wpJ, wpRet, am_ild, am_ald, am_lld, am_ist, am_ast, am_lst, am_iinc, am_st1, am_st2, am_kill, am_get, am_isI, am_isL, am_isR, am_lab, am_c1, am_c2, am_cn, am_bin, am_lbin, am_un, am_div, am_ldiv, am_lsh, am_i2l, am_l2i, am_lcmpQ, am_dup, am_dup2, am_pop, am_cat, am_cats, am_alen, am_len, am_iald, am_bald, am_lald, am_aald, am_iast, am_bast, am_last, am_aast, am_getf, am_putf, am_rd, am_rty, am_rok, am_b, am_call, am_recv, am_push, am_prim, am_acopy, List.length_cons, List.length_nil, List.take, List.drop, List.reverse_cons, List.reverse_nil, List.nil_append, List.cons_append, fin0_4, fin1_4, fin2_4, fin3_4, ld_s ho, ld_n ho hn, cL_c0 hL, cL_c1 hL, cL_c2 hL, cL_c3 hL]
      refine ⟨fun h1 => ?_, fun h1 => ?_⟩
      · refine hP (L 0 3 - (q + 1)) (by omega) _ _ _ _ _ _ _ ⟨q + 1, rfl, by omega, ?_, rfl, rfl, rfl, rfl, rfl, rfl⟩
        rw [w32_1, w32_s (by omega), or_bits0 (p := (fun w => L 6 w == s)) (by omega) (by simp; omega)]
      · refine hP (L 0 3 - (q + 1)) (by omega) _ _ _ _ _ _ _ ⟨q + 1, rfl, by omega, ?_, rfl, rfl, rfl, rfl, rfl, rfl⟩
        rw [w32_1, w32_s (by omega), or_bits (p := (fun w => L 6 w == s)) (by omega) (by simp; omega)]
  · exact ⟨0, rfl, Nat.zero_le _, rfl, rfl, rfl, rfl, rfl, rfl, rfl⟩
theorem g_wantsOn {s x : Nat} (hd9 : 3 ≤ d) (ho : isLand o) (hn : 159 ≤ n)  (hL : cL hd o L) (h : Q (some (vI (fOn L s x : Int))) (am_R f0 b) hd n) : wpM d 98 [vR o, vI (s : Int), vI (x : Int)] Q (am_R f0 b) hd n := by
  obtain ⟨e, rfl, he⟩ := am_dep hd9
  apply en98
  simp only [trX4_wantsOn, am_In, am_lay, am_pad, wp, wpL, wpO, wpI, wpJ, wpRet, am_ild, am_ald, am_lld, am_ist, am_ast, am_lst, am_iinc, am_st1, am_st2, am_kill, am_get, am_isI, am_isL, am_isR, am_lab, am_c1, am_c2, am_cn, am_bin, am_lbin, am_un, am_div, am_ldiv, am_lsh, am_i2l, am_l2i, am_lcmpQ, am_dup, am_dup2, am_pop, am_cat, am_cats, am_alen, am_len, am_iald, am_bald, am_lald, am_aald, am_iast, am_bast, am_last, am_aast, am_getf, am_putf, am_rd, am_rty, am_rok, am_b, am_call, am_recv, am_push, am_prim, am_acopy, List.length_cons, List.length_nil, List.take, List.drop, List.reverse_cons, List.reverse_nil, List.nil_append, List.cons_append]
  have hk := lk_W hL.1
  simp [am_In, am_lay, am_pad, wp, wpL, wpO, wpI, wpJ, wpRet, am_ild, am_ald, am_lld, am_ist, am_ast, am_lst, am_iinc, am_st1, am_st2, am_kill, am_get, am_isI, am_isL, am_isR, am_lab, am_c1, am_c2, am_cn, am_bin, am_lbin, am_un, am_div, am_ldiv, am_lsh, am_i2l, am_l2i, am_lcmpQ, am_dup, am_dup2, am_pop, am_cat, am_cats, am_alen, am_len, am_iald, am_bald, am_lald, am_aald, am_iast, am_bast, am_last, am_aast, am_getf, am_putf, am_rd, am_rty, am_rok, am_b, am_call, am_recv, am_push, am_prim, am_acopy, List.length_cons, List.length_nil, List.take, List.drop, List.reverse_cons, List.reverse_nil, List.nil_append, List.cons_append, fin0_4, fin1_4, fin2_4, fin3_4, ld_s ho, ld_n ho hn, cL_c0 hL, cL_c1 hL, cL_c2 hL, cL_c3 hL]
  refine loop_inv (I := fun k ls st hr9 hd9 n9 u us => ∃ q : Nat, k = L 0 3 - q ∧ q ≤ L 0 3 ∧ ls = [vR o, vI (s : Int), vI (x : Int), vI ((sumN q (fun w => if L 7 w = s ∧ L 8 w ≤ x ∧ x < L 9 w then 1 else 0) : Nat) : Int), vI (q : Int)] ∧ st = [] ∧ am_R f0 b = hr9 ∧ hd = hd9 ∧ n = n9 ∧ u = 0 ∧ us = 0) ?_ (L 0 3) ?_
  · intro k ls st hr' hd' n' u us hI P hP
    obtain ⟨q, rfl, hq, rfl, rfl, rfl, rfl, rfl, rfl, rfl⟩ := hI
    have hs := sumN_1 (k := q) (f := (fun w => if L 7 w = s ∧ L 8 w ≤ x ∧ x < L 9 w then 1 else 0)) (fun i => by (try dsimp only); split <;> omega)
    simp [am_In, am_lay, am_pad, wp, wpL, wpO, wpI, wpJ, wpRet, am_ild, am_ald, am_lld, am_ist, am_ast, am_lst, am_iinc, am_st1, am_st2, am_kill, am_get, am_isI, am_isL, am_isR, am_lab, am_c1, am_c2, am_cn, am_bin, am_lbin, am_un, am_div, am_ldiv, am_lsh, am_i2l, am_l2i, am_lcmpQ, am_dup, am_dup2, am_pop, am_cat, am_cats, am_alen, am_len, am_iald, am_bald, am_lald, am_aald, am_iast, am_bast, am_last, am_aast, am_getf, am_putf, am_rd, am_rty, am_rok, am_b, am_call, am_recv, am_push, am_prim, am_acopy, List.length_cons, List.length_nil, List.take, List.drop, List.reverse_cons, List.reverse_nil, List.nil_append, List.cons_append, fin0_4, fin1_4, fin2_4, fin3_4, ld_s ho, ld_n ho hn, cL_c0 hL, cL_c1 hL, cL_c2 hL, cL_c3 hL]
    refine ⟨fun hge => ?_, fun hlt => ?_⟩
    · have e9 : q = L 0 3 := by omega
      rw [e9]
      exact h
    · refine g_sortOfWant (by omega) ho hn hL (by omega) ?_
      simp [am_In, am_lay, am_pad, wp, wpL, wpO, wpI, wpJ, wpRet, am_ild, am_ald, am_lld, am_ist, am_ast, am_lst, am_iinc, am_st1, am_st2, am_kill, am_get, am_isI, am_isL, am_isR, am_lab, am_c1, am_c2, am_cn, am_bin, am_lbin, am_un, am_div, am_ldiv, am_lsh, am_i2l, am_l2i, am_lcmpQ, am_dup, am_dup2, am_pop, am_cat, am_cats, am_alen, am_len, am_iald, am_bald, am_lald, am_aald, am_iast, am_bast, am_last, am_aast, am_getf, am_putf, am_rd, am_rty, am_rok, am_b, am_call, am_recv, am_push, am_prim, am_acopy, List.length_cons, List.length_nil, List.take, List.drop, List.reverse_cons, List.reverse_nil, List.nil_append, List.cons_append, fin0_4, fin1_4, fin2_4, fin3_4, ld_s ho, ld_n ho hn, cL_c0 hL, cL_c1 hL, cL_c2 hL, cL_c3 hL]
      refine ⟨fun h1 => ?_, fun h1 => ?_⟩
      · refine hP (L 0 3 - (q + 1)) (by omega) _ _ _ _ _ _ _ ⟨q + 1, rfl, by omega, ?_, rfl, rfl, rfl, rfl, rfl, rfl⟩
        rw [w32_1, w32_s (by omega), w32_b (by omega) (by omega), sumN_s, if_neg (by omega)]
        rfl
      · refine g_fromOf (by omega) ho hn hL (by omega) ?_
        simp [am_In, am_lay, am_pad, wp, wpL, wpO, wpI, wpJ, wpRet, am_ild, am_ald, am_lld, am_ist, am_ast, am_lst, am_iinc, am_st1, am_st2, am_kill, am_get, am_isI, am_isL, am_isR, am_lab, am_c1, am_c2, am_cn, am_bin, am_lbin, am_un, am_div, am_ldiv, am_lsh, am_i2l, am_l2i, am_lcmpQ, am_dup, am_dup2, am_pop, am_cat, am_cats, am_alen, am_len, am_iald, am_bald, am_lald, am_aald, am_iast, am_bast, am_last, am_aast, am_getf, am_putf, am_rd, am_rty, am_rok, am_b, am_call, am_recv, am_push, am_prim, am_acopy, List.length_cons, List.length_nil, List.take, List.drop, List.reverse_cons, List.reverse_nil, List.nil_append, List.cons_append, fin0_4, fin1_4, fin2_4, fin3_4, ld_s ho, ld_n ho hn, cL_c0 hL, cL_c1 hL, cL_c2 hL, cL_c3 hL]
        refine ⟨fun h2 => ?_, fun h2 => ?_⟩
        · refine hP (L 0 3 - (q + 1)) (by omega) _ _ _ _ _ _ _ ⟨q + 1, rfl, by omega, ?_, rfl, rfl, rfl, rfl, rfl, rfl⟩
          rw [w32_1, w32_s (by omega), w32_b (by omega) (by omega), sumN_s, if_neg (by omega)]
          rfl
        · refine g_tillOf (by omega) ho hn hL (by omega) ?_
          simp [am_In, am_lay, am_pad, wp, wpL, wpO, wpI, wpJ, wpRet, am_ild, am_ald, am_lld, am_ist, am_ast, am_lst, am_iinc, am_st1, am_st2, am_kill, am_get, am_isI, am_isL, am_isR, am_lab, am_c1, am_c2, am_cn, am_bin, am_lbin, am_un, am_div, am_ldiv, am_lsh, am_i2l, am_l2i, am_lcmpQ, am_dup, am_dup2, am_pop, am_cat, am_cats, am_alen, am_len, am_iald, am_bald, am_lald, am_aald, am_iast, am_bast, am_last, am_aast, am_getf, am_putf, am_rd, am_rty, am_rok, am_b, am_call, am_recv, am_push, am_prim, am_acopy, List.length_cons, List.length_nil, List.take, List.drop, List.reverse_cons, List.reverse_nil, List.nil_append, List.cons_append, fin0_4, fin1_4, fin2_4, fin3_4, ld_s ho, ld_n ho hn, cL_c0 hL, cL_c1 hL, cL_c2 hL, cL_c3 hL]
          refine ⟨fun h3 => ?_, fun h3 => ?_⟩
          · refine hP (L 0 3 - (q + 1)) (by omega) _ _ _ _ _ _ _ ⟨q + 1, rfl, by omega, ?_, rfl, rfl, rfl, rfl, rfl, rfl⟩
            rw [w32_1, w32_s (by omega), w32_b (by omega) (by omega), sumN_s, if_neg (by omega)]
            rfl
          · refine hP (L 0 3 - (q + 1)) (by omega) _ _ _ _ _ _ _ ⟨q + 1, rfl, by omega, ?_, rfl, rfl, rfl, rfl, rfl, rfl⟩
            rw [w32_1, w32_s (by omega), w32_s (by omega), sumN_s, if_pos (by omega)]
  · exact ⟨0, rfl, Nat.zero_le _, rfl, rfl, rfl, rfl, rfl, rfl, rfl⟩
theorem g_thingsLeft {s lost : Nat} (hd9 : 3 ≤ d) (ho : isLand o) (hn : 159 ≤ n)  (hL : cL hd o L) (hl : lost < 2147483648) (h : Q (some (vI (fLeft L s lost : Int))) (am_R f0 b) hd n) : wpM d 99 [vR o, vI (s : Int), vI (lost : Int)] Q (am_R f0 b) hd n := by
  obtain ⟨e, rfl, he⟩ := am_dep hd9
  apply en99
  simp only [trX4_thingsLeft, am_In, am_lay, am_pad, wp, wpL, wpO, wpI, wpJ, wpRet, am_ild, am_ald, am_lld, am_ist, am_ast, am_lst, am_iinc, am_st1, am_st2, am_kill, am_get, am_isI, am_isL, am_isR, am_lab, am_c1, am_c2, am_cn, am_bin, am_lbin, am_un, am_div, am_ldiv, am_lsh, am_i2l, am_l2i, am_lcmpQ, am_dup, am_dup2, am_pop, am_cat, am_cats, am_alen, am_len, am_iald, am_bald, am_lald, am_aald, am_iast, am_bast, am_last, am_aast, am_getf, am_putf, am_rd, am_rty, am_rok, am_b, am_call, am_recv, am_push, am_prim, am_acopy, List.length_cons, List.length_nil, List.take, List.drop, List.reverse_cons, List.reverse_nil, List.nil_append, List.cons_append]
  have hk := lk_T hL.1
  simp [am_In, am_lay, am_pad, wp, wpL, wpO, wpI, wpJ, wpRet, am_ild, am_ald, am_lld, am_ist, am_ast, am_lst, am_iinc, am_st1, am_st2, am_kill, am_get, am_isI, am_isL, am_isR, am_lab, am_c1, am_c2, am_cn, am_bin, am_lbin, am_un, am_div, am_ldiv, am_lsh, am_i2l, am_l2i, am_lcmpQ, am_dup, am_dup2, am_pop, am_cat, am_cats, am_alen, am_len, am_iald, am_bald, am_lald, am_aald, am_iast, am_bast, am_last, am_aast, am_getf, am_putf, am_rd, am_rty, am_rok, am_b, am_call, am_recv, am_push, am_prim, am_acopy, List.length_cons, List.length_nil, List.take, List.drop, List.reverse_cons, List.reverse_nil, List.nil_append, List.cons_append, fin0_4, fin1_4, fin2_4, fin3_4, ld_s ho, ld_n ho hn, cL_c0 hL, cL_c1 hL, cL_c2 hL, cL_c3 hL]
  refine loop_inv (I := fun k ls st hr9 hd9 n9 u us => ∃ q : Nat, k = L 0 2 - q ∧ q ≤ L 0 2 ∧ ls = [vR o, vI (s : Int), vI (lost : Int), vI ((sumN q (fun t => if L 4 t = s ∧ lost.testBit t = false then 1 else 0) : Nat) : Int), vI (q : Int)] ∧ st = [] ∧ am_R f0 b = hr9 ∧ hd = hd9 ∧ n = n9 ∧ u = 0 ∧ us = 0) ?_ (L 0 2) ?_
  · intro k ls st hr' hd' n' u us hI P hP
    obtain ⟨q, rfl, hq, rfl, rfl, rfl, rfl, rfl, rfl, rfl⟩ := hI
    have hs := sumN_1 (k := q) (f := (fun t => if L 4 t = s ∧ lost.testBit t = false then 1 else 0)) (fun i => by (try dsimp only); split <;> omega)
    simp [am_In, am_lay, am_pad, wp, wpL, wpO, wpI, wpJ, wpRet, am_ild, am_ald, am_lld, am_ist, am_ast, am_lst, am_iinc, am_st1, am_st2, am_kill, am_get, am_isI, am_isL, am_isR, am_lab, am_c1, am_c2, am_cn, am_bin, am_lbin, am_un, am_div, am_ldiv, am_lsh, am_i2l, am_l2i, am_lcmpQ, am_dup, am_dup2, am_pop, am_cat, am_cats, am_alen, am_len, am_iald, am_bald, am_lald, am_aald, am_iast, am_bast, am_last, am_aast, am_getf, am_putf, am_rd, am_rty, am_rok, am_b, am_call, am_recv, am_push, am_prim, am_acopy, List.length_cons, List.length_nil, List.take, List.drop, List.reverse_cons, List.reverse_nil, List.nil_append, List.cons_append, fin0_4, fin1_4, fin2_4, fin3_4, ld_s ho, ld_n ho hn, cL_c0 hL, cL_c1 hL, cL_c2 hL, cL_c3 hL]
    refine ⟨fun hge => ?_, fun hlt => ?_⟩
    · have e9 : q = L 0 2 := by omega
      rw [e9]
      exact h
    · refine g_sortOfThing (by omega) ho hn hL (by omega) ?_
      simp [am_In, am_lay, am_pad, wp, wpL, wpO, wpI, wpJ, wpRet, am_ild, am_ald, am_lld, am_ist, am_ast, am_lst, am_iinc, am_st1, am_st2, am_kill, am_get, am_isI, am_isL, am_isR, am_lab, am_c1, am_c2, am_cn, am_bin, am_lbin, am_un, am_div, am_ldiv, am_lsh, am_i2l, am_l2i, am_lcmpQ, am_dup, am_dup2, am_pop, am_cat, am_cats, am_alen, am_len, am_iald, am_bald, am_lald, am_aald, am_iast, am_bast, am_last, am_aast, am_getf, am_putf, am_rd, am_rty, am_rok, am_b, am_call, am_recv, am_push, am_prim, am_acopy, List.length_cons, List.length_nil, List.take, List.drop, List.reverse_cons, List.reverse_nil, List.nil_append, List.cons_append, fin0_4, fin1_4, fin2_4, fin3_4, ld_s ho, ld_n ho hn, cL_c0 hL, cL_c1 hL, cL_c2 hL, cL_c3 hL]
      refine ⟨fun h1 => ?_, fun h1 => ?_⟩
      · refine hP (L 0 2 - (q + 1)) (by omega) _ _ _ _ _ _ _ ⟨q + 1, rfl, by omega, ?_, rfl, rfl, rfl, rfl, rfl, rfl⟩
        rw [w32_1, w32_s (by omega), w32_b (by omega) (by omega), sumN_s, if_neg (fun h3 => h1 (by omega))]
        rfl
      · refine g_hasBit (by omega) hl (by omega) (fun h2 => ?_) (fun h2 => ?_)
        · simp [am_In, am_lay, am_pad, wp, wpL, wpO, wpI, wpJ, wpRet, am_ild, am_ald, am_lld, am_ist, am_ast, am_lst, am_iinc, am_st1, am_st2, am_kill, am_get, am_isI, am_isL, am_isR, am_lab, am_c1, am_c2, am_cn, am_bin, am_lbin, am_un, am_div, am_ldiv, am_lsh, am_i2l, am_l2i, am_lcmpQ, am_dup, am_dup2, am_pop, am_cat, am_cats, am_alen, am_len, am_iald, am_bald, am_lald, am_aald, am_iast, am_bast, am_last, am_aast, am_getf, am_putf, am_rd, am_rty, am_rok, am_b, am_call, am_recv, am_push, am_prim, am_acopy, List.length_cons, List.length_nil, List.take, List.drop, List.reverse_cons, List.reverse_nil, List.nil_append, List.cons_append, fin0_4, fin1_4, fin2_4, fin3_4, ld_s ho, ld_n ho hn, cL_c0 hL, cL_c1 hL, cL_c2 hL, cL_c3 hL]
          · refine hP (L 0 2 - (q + 1)) (by omega) _ _ _ _ _ _ _ ⟨q + 1, rfl, by omega, ?_, rfl, rfl, rfl, rfl, rfl, rfl⟩
            rw [w32_1, w32_s (by omega), w32_b (by omega) (by omega), sumN_s, if_neg (fun h3 => by rw [h2] at h3; exact absurd h3.2 (by decide))]
            rfl
        · simp [am_In, am_lay, am_pad, wp, wpL, wpO, wpI, wpJ, wpRet, am_ild, am_ald, am_lld, am_ist, am_ast, am_lst, am_iinc, am_st1, am_st2, am_kill, am_get, am_isI, am_isL, am_isR, am_lab, am_c1, am_c2, am_cn, am_bin, am_lbin, am_un, am_div, am_ldiv, am_lsh, am_i2l, am_l2i, am_lcmpQ, am_dup, am_dup2, am_pop, am_cat, am_cats, am_alen, am_len, am_iald, am_bald, am_lald, am_aald, am_iast, am_bast, am_last, am_aast, am_getf, am_putf, am_rd, am_rty, am_rok, am_b, am_call, am_recv, am_push, am_prim, am_acopy, List.length_cons, List.length_nil, List.take, List.drop, List.reverse_cons, List.reverse_nil, List.nil_append, List.cons_append, fin0_4, fin1_4, fin2_4, fin3_4, ld_s ho, ld_n ho hn, cL_c0 hL, cL_c1 hL, cL_c2 hL, cL_c3 hL]
          refine hP (L 0 2 - (q + 1)) (by omega) _ _ _ _ _ _ _ ⟨q + 1, rfl, by omega, ?_, rfl, rfl, rfl, rfl, rfl, rfl⟩
          rw [w32_1, w32_s (by omega), w32_s (by omega), sumN_s, if_pos ⟨by omega, by simpa using h2⟩]
  · exact ⟨0, rfl, Nat.zero_le _, rfl, rfl, rfl, rfl, rfl, rfl, rfl⟩
theorem g_partOf {w k : Nat} (hd9 : 3 ≤ d) (ho : isLand o) (hn : 159 ≤ n)  (hL : cL hd o L) (hw : w < L 0 3) (hk9 : k ≤ 1000) (h : Q (some (vI (fPart L w k : Int))) (am_R f0 b) hd n) : wpM d 94 [vR o, vI (w : Int), vI (k : Int)] Q (am_R f0 b) hd n := by
  obtain ⟨e, rfl, he⟩ := am_dep hd9
  apply en94
  simp only [trX4_partOf, am_In, am_lay, am_pad, wp, wpL, wpO, wpI, wpJ, wpRet, am_ild, am_ald, am_lld, am_ist, am_ast, am_lst, am_iinc, am_st1, am_st2, am_kill, am_get, am_isI, am_isL, am_isR, am_lab, am_c1, am_c2, am_cn, am_bin, am_lbin, am_un, am_div, am_ldiv, am_lsh, am_i2l, am_l2i, am_lcmpQ, am_dup, am_dup2, am_pop, am_cat, am_cats, am_alen, am_len, am_iald, am_bald, am_lald, am_aald, am_iast, am_bast, am_last, am_aast, am_getf, am_putf, am_rd, am_rty, am_rok, am_b, am_call, am_recv, am_push, am_prim, am_acopy, List.length_cons, List.length_nil, List.take, List.drop, List.reverse_cons, List.reverse_nil, List.nil_append, List.cons_append]
  have hk := hL.1.2.2.2.2.1 w hw
  simp [am_In, am_lay, am_pad, wp, wpL, wpO, wpI, wpJ, wpRet, am_ild, am_ald, am_lld, am_ist, am_ast, am_lst, am_iinc, am_st1, am_st2, am_kill, am_get, am_isI, am_isL, am_isR, am_lab, am_c1, am_c2, am_cn, am_bin, am_lbin, am_un, am_div, am_ldiv, am_lsh, am_i2l, am_l2i, am_lcmpQ, am_dup, am_dup2, am_pop, am_cat, am_cats, am_alen, am_len, am_iald, am_bald, am_lald, am_aald, am_iast, am_bast, am_last, am_aast, am_getf, am_putf, am_rd, am_rty, am_rok, am_b, am_call, am_recv, am_push, am_prim, am_acopy, List.length_cons, List.length_nil, List.take, List.drop, List.reverse_cons, List.reverse_nil, List.nil_append, List.cons_append, fin0_4, fin1_4, fin2_4, fin3_4, ld_s ho, ld_n ho hn]
  refine g_tillOf (by omega) ho hn hL hw ?_
  simp [am_In, am_lay, am_pad, wp, wpL, wpO, wpI, wpJ, wpRet, am_ild, am_ald, am_lld, am_ist, am_ast, am_lst, am_iinc, am_st1, am_st2, am_kill, am_get, am_isI, am_isL, am_isR, am_lab, am_c1, am_c2, am_cn, am_bin, am_lbin, am_un, am_div, am_ldiv, am_lsh, am_i2l, am_l2i, am_lcmpQ, am_dup, am_dup2, am_pop, am_cat, am_cats, am_alen, am_len, am_iald, am_bald, am_lald, am_aald, am_iast, am_bast, am_last, am_aast, am_getf, am_putf, am_rd, am_rty, am_rok, am_b, am_call, am_recv, am_push, am_prim, am_acopy, List.length_cons, List.length_nil, List.take, List.drop, List.reverse_cons, List.reverse_nil, List.nil_append, List.cons_append, fin0_4, fin1_4, fin2_4, fin3_4, ld_s ho, ld_n ho hn]
  refine g_fromOf (by omega) ho hn hL hw ?_
  simp [am_In, am_lay, am_pad, wp, wpL, wpO, wpI, wpJ, wpRet, am_ild, am_ald, am_lld, am_ist, am_ast, am_lst, am_iinc, am_st1, am_st2, am_kill, am_get, am_isI, am_isL, am_isR, am_lab, am_c1, am_c2, am_cn, am_bin, am_lbin, am_un, am_div, am_ldiv, am_lsh, am_i2l, am_l2i, am_lcmpQ, am_dup, am_dup2, am_pop, am_cat, am_cats, am_alen, am_len, am_iald, am_bald, am_lald, am_aald, am_iast, am_bast, am_last, am_aast, am_getf, am_putf, am_rd, am_rty, am_rok, am_b, am_call, am_recv, am_push, am_prim, am_acopy, List.length_cons, List.length_nil, List.take, List.drop, List.reverse_cons, List.reverse_nil, List.nil_append, List.cons_append, fin0_4, fin1_4, fin2_4, fin3_4, ld_s ho, ld_n ho hn]
  rw [w32_b (x := (L 9 w : Int) - (L 8 w : Int)) (by omega) (by omega)]
  refine ⟨fun _ => ?_, fun h1 => by omega⟩
  refine g_weightOf (by omega) ho hn hL hw ?_
  simp [am_In, am_lay, am_pad, wp, wpL, wpO, wpI, wpJ, wpRet, am_ild, am_ald, am_lld, am_ist, am_ast, am_lst, am_iinc, am_st1, am_st2, am_kill, am_get, am_isI, am_isL, am_isR, am_lab, am_c1, am_c2, am_cn, am_bin, am_lbin, am_un, am_div, am_ldiv, am_lsh, am_i2l, am_l2i, am_lcmpQ, am_dup, am_dup2, am_pop, am_cat, am_cats, am_alen, am_len, am_iald, am_bald, am_lald, am_aald, am_iast, am_bast, am_last, am_aast, am_getf, am_putf, am_rd, am_rty, am_rok, am_b, am_call, am_recv, am_push, am_prim, am_acopy, List.length_cons, List.length_nil, List.take, List.drop, List.reverse_cons, List.reverse_nil, List.nil_append, List.cons_append, fin0_4, fin1_4, fin2_4, fin3_4, ld_s ho, ld_n ho hn]
  have e1 : (if (L 9 w : Int) - (L 8 w : Int) < (k : Int) then (L 9 w : Int) - (L 8 w : Int) else (k : Int)) = ((min k (L 9 w - L 8 w) : Nat) : Int) := by
    split <;> omega
  have e2 : L 10 w * min k (L 9 w - L 8 w) ≤ 5940 := Nat.le_trans (Nat.mul_le_mul (show _ ≤ 99 by omega) (show _ ≤ 60 by omega)) (by decide)
  have e6 : fPart L w k = L 10 w * min k (L 9 w - L 8 w) / (L 9 w - L 8 w) := rfl
  rw [e1, show (L 9 w : Int) - (L 8 w : Int) = ((L 9 w - L 8 w : Nat) : Int) by omega, ← Int.natCast_mul]
  rw [e6] at h
  have e7 : 0 < L 9 w - L 8 w := by omega
  generalize L 10 w * min k (L 9 w - L 8 w) = A at e2 h ⊢
  generalize L 9 w - L 8 w = B at e7 h ⊢
  have e8 : A / B ≤ A := Nat.div_le_self A B
  rw [w32_b (x := (A : Int)) (by omega) (by omega), ← Int.ofNat_tdiv]
  generalize A / B = C at e8 h ⊢
  rw [w32_b (by omega) (by omega)]
  exact ⟨by omega, h⟩
theorem m_bitsOf {s : Nat} (hd9 : 2 ≤ d) (hn : 159 ≤ n) (hL : mL hd L) (h : Q (some (vI (fSx L s (hd 98 33) : Int))) (am_R f0 b) hd n) : wpM d 265 [vR 98, vI (s : Int)] Q (am_R f0 b) hd n := by
  obtain ⟨e, rfl, he⟩ := am_dep hd9
  apply en265
  simp only [trX12_bitsOf, am_In, am_lay, am_pad, wp, wpL, wpO, wpI, wpJ, wpRet, am_ild, am_ald, am_lld, am_ist, am_ast, am_lst, am_iinc, am_st1, am_st2, am_kill, am_get, am_isI, am_isL, am_isR, am_lab, am_c1, am_c2, am_cn, am_bin, am_lbin, am_un, am_div, am_ldiv, am_lsh, am_i2l, am_l2i, am_lcmpQ, am_dup, am_dup2, am_pop, am_cat, am_cats, am_alen, am_len, am_iald, am_bald, am_lald, am_aald, am_iast, am_bast, am_last, am_aast, am_getf, am_putf, am_rd, am_rty, am_rok, am_b, am_call, am_recv, am_push, am_prim, am_acopy, List.length_cons, List.length_nil, List.take, List.drop, List.reverse_cons, List.reverse_nil, List.nil_append, List.cons_append]
  have h98 : 98 < n := by omega
  have h116 : 116 < n := by omega
  have h117 : 117 < n := by omega
  have h119 : 119 < n := by omega
  have h120 : 120 < n := by omega
  have hk := lk_W hL.1
  simp [am_In, am_lay, am_pad, wp, wpL, wpO, wpI, wpJ, wpRet, am_ild, am_ald, am_lld, am_ist, am_ast, am_lst, am_iinc, am_st1, am_st2, am_kill, am_get, am_isI, am_isL, am_isR, am_lab, am_c1, am_c2, am_cn, am_bin, am_lbin, am_un, am_div, am_ldiv, am_lsh, am_i2l, am_l2i, am_lcmpQ, am_dup, am_dup2, am_pop, am_cat, am_cats, am_alen, am_len, am_iald, am_bald, am_lald, am_aald, am_iast, am_bast, am_last, am_aast, am_getf, am_putf, am_rd, am_rty, am_rok, am_b, am_call, am_recv, am_push, am_prim, am_acopy, List.length_cons, List.length_nil, List.take, List.drop, List.reverse_cons, List.reverse_nil, List.nil_append, List.cons_append, fin0_4, fin1_4, fin2_4, fin3_4, sh_98, R98_12, R98_13, sh_116, sl_116, R116_0, sh_117, sl_117, sh_119, sl_119, R119_0, sh_120, sl_120, h98, h116, h117, h119, h120]
  refine loop_inv (I := fun k ls st hr9 hd9 n9 u us => ∃ q : Nat, k = L 0 3 - q ∧ q ≤ L 0 3 ∧ ls = [vR 98, vI (s : Int), vI ((bitsN q (fun w => L 7 w == s && !decide ((L 6 w : Int) = hd 98 33)) : Nat) : Int), vI (q : Int)] ∧ st = [] ∧ am_R f0 b = hr9 ∧ hd = hd9 ∧ n = n9 ∧ u = 0 ∧ us = 0) ?_ (L 0 3) ?_
  · intro k ls st hr' hd' n' u us hI P hP
    obtain ⟨q, rfl, hq, rfl, rfl, rfl, rfl, rfl, rfl, rfl⟩ := hI
    simp [am_In, am_lay, am_pad, wp, wpL, wpO, wpI, wpJ, wpRet, am_ild, am_ald, am_lld, am_ist, am_ast, am_lst, am_iinc, am_st1, am_st2, am_kill, am_get, am_isI, am_isL, am_isR, am_lab, am_c1, am_c2, am_cn, am_bin, am_lbin, am_un, am_div, am_ldiv, am_lsh, am_i2l, am_l2i, am_lcmpQ, am_dup, am_dup2, am_pop, am_cat, am_cats, am_alen, am_len, am_iald, am_bald, am_lald, am_aald, am_iast, am_bast, am_last, am_aast, am_getf, am_putf, am_rd, am_rty, am_rok, am_b, am_call, am_recv, am_push, am_prim, am_acopy, List.length_cons, List.length_nil, List.take, List.drop, List.reverse_cons, List.reverse_nil, List.nil_append, List.cons_append, fin0_4, fin1_4, fin2_4, fin3_4, sh_98, R98_12, R98_13, sh_116, sl_116, R116_0, sh_117, sl_117, sh_119, sl_119, R119_0, sh_120, sl_120, h98, h116, h117, h119, h120]
    refine m_wants (by omega) hn hL ?_
    simp [am_In, am_lay, am_pad, wp, wpL, wpO, wpI, wpJ, wpRet, am_ild, am_ald, am_lld, am_ist, am_ast, am_lst, am_iinc, am_st1, am_st2, am_kill, am_get, am_isI, am_isL, am_isR, am_lab, am_c1, am_c2, am_cn, am_bin, am_lbin, am_un, am_div, am_ldiv, am_lsh, am_i2l, am_l2i, am_lcmpQ, am_dup, am_dup2, am_pop, am_cat, am_cats, am_alen, am_len, am_iald, am_bald, am_lald, am_aald, am_iast, am_bast, am_last, am_aast, am_getf, am_putf, am_rd, am_rty, am_rok, am_b, am_call, am_recv, am_push, am_prim, am_acopy, List.length_cons, List.length_nil, List.take, List.drop, List.reverse_cons, List.reverse_nil, List.nil_append, List.cons_append, fin0_4, fin1_4, fin2_4, fin3_4, sh_98, R98_12, R98_13, sh_116, sl_116, R116_0, sh_117, sl_117, sh_119, sl_119, R119_0, sh_120, sl_120, h98, h116, h117, h119, h120]
    refine ⟨fun hge => ?_, fun hlt => ?_⟩
    · have e9 : q = L 0 3 := by omega
      rw [e9]
      exact h
    · simp [mL_7 hL (show q < L 0 3 by omega), mL_6 hL (show q < L 0 3 by omega), show (q : Int) < 12 by omega]
      refine ⟨fun h1 => ?_, fun h1 => ⟨fun h2 => ?_, fun h2 => ?_⟩⟩
      · refine hP (L 0 3 - (q + 1)) (by omega) _ _ _ _ _ _ _ ⟨q + 1, rfl, by omega, ?_, rfl, rfl, rfl, rfl, rfl, rfl⟩
        rw [w32_1, w32_s (by omega), or_bits0 (p := (fun w => L 7 w == s && !decide ((L 6 w : Int) = hd 98 33))) (by omega) (by simp; omega)]
      · refine hP (L 0 3 - (q + 1)) (by omega) _ _ _ _ _ _ _ ⟨q + 1, rfl, by omega, ?_, rfl, rfl, rfl, rfl, rfl, rfl⟩
        rw [w32_1, w32_s (by omega), or_bits0 (p := (fun w => L 7 w == s && !decide ((L 6 w : Int) = hd 98 33))) (by omega) (by simp [h2])]
      · refine hP (L 0 3 - (q + 1)) (by omega) _ _ _ _ _ _ _ ⟨q + 1, rfl, by omega, ?_, rfl, rfl, rfl, rfl, rfl, rfl⟩
        rw [w32_1, w32_s (by omega), or_bits (p := (fun w => L 7 w == s && !decide ((L 6 w : Int) = hd 98 33))) (by omega) (by simp [h2]; omega)]
  · exact ⟨0, rfl, Nat.zero_le _, rfl, rfl, rfl, rfl, rfl, rfl, rfl⟩
theorem m_thingsOf {s lost : Nat} (hd9 : 2 ≤ d) (hn : 159 ≤ n) (hL : mL hd L) (hl : isLo hd (L 0 2) lost) (h : Q (some (vI (fLeft L s lost : Int))) (am_R f0 b) hd n) : wpM d 261 [vR 98, vI (s : Int)] Q (am_R f0 b) hd n := by
  obtain ⟨e, rfl, he⟩ := am_dep hd9
  apply en261
  simp only [trX12_thingsOf, am_In, am_lay, am_pad, wp, wpL, wpO, wpI, wpJ, wpRet, am_ild, am_ald, am_lld, am_ist, am_ast, am_lst, am_iinc, am_st1, am_st2, am_kill, am_get, am_isI, am_isL, am_isR, am_lab, am_c1, am_c2, am_cn, am_bin, am_lbin, am_un, am_div, am_ldiv, am_lsh, am_i2l, am_l2i, am_lcmpQ, am_dup, am_dup2, am_pop, am_cat, am_cats, am_alen, am_len, am_iald, am_bald, am_lald, am_aald, am_iast, am_bast, am_last, am_aast, am_getf, am_putf, am_rd, am_rty, am_rok, am_b, am_call, am_recv, am_push, am_prim, am_acopy, List.length_cons, List.length_nil, List.take, List.drop, List.reverse_cons, List.reverse_nil, List.nil_append, List.cons_append]
  have h98 : 98 < n := by omega
  have h139 : 139 < n := by omega
  have h110 : 110 < n := by omega
  have h111 : 111 < n := by omega
  have hk := lk_T hL.1
  simp [am_In, am_lay, am_pad, wp, wpL, wpO, wpI, wpJ, wpRet, am_ild, am_ald, am_lld, am_ist, am_ast, am_lst, am_iinc, am_st1, am_st2, am_kill, am_get, am_isI, am_isL, am_isR, am_lab, am_c1, am_c2, am_cn, am_bin, am_lbin, am_un, am_div, am_ldiv, am_lsh, am_i2l, am_l2i, am_lcmpQ, am_dup, am_dup2, am_pop, am_cat, am_cats, am_alen, am_len, am_iald, am_bald, am_lald, am_aald, am_iast, am_bast, am_last, am_aast, am_getf, am_putf, am_rd, am_rty, am_rok, am_b, am_call, am_recv, am_push, am_prim, am_acopy, List.length_cons, List.length_nil, List.take, List.drop, List.reverse_cons, List.reverse_nil, List.nil_append, List.cons_append, fin0_4, fin1_4, fin2_4, fin3_4, sh_98, R98_26, R98_10, sh_139, sl_139, sh_110, sl_110, R110_0, sh_111, sl_111, h98, h139, h110, h111]
  refine loop_inv (I := fun k ls st hr9 hd9 n9 u us => ∃ q : Nat, k = L 0 2 - q ∧ q ≤ L 0 2 ∧ ls = [vR 98, vI (s : Int), vI ((sumN q (fun t => if L 4 t = s ∧ lost.testBit t = false then 1 else 0) : Nat) : Int), vI (q : Int)] ∧ st = [] ∧ am_R f0 b = hr9 ∧ hd = hd9 ∧ n = n9 ∧ u = 0 ∧ us = 0) ?_ (L 0 2) ?_
  · intro k ls st hr' hd' n' u us hI P hP
    obtain ⟨q, rfl, hq, rfl, rfl, rfl, rfl, rfl, rfl, rfl⟩ := hI
    have hs := sumN_1 (k := q) (f := (fun t => if L 4 t = s ∧ lost.testBit t = false then 1 else 0)) (fun i => by (try dsimp only); split <;> omega)
    simp [am_In, am_lay, am_pad, wp, wpL, wpO, wpI, wpJ, wpRet, am_ild, am_ald, am_lld, am_ist, am_ast, am_lst, am_iinc, am_st1, am_st2, am_kill, am_get, am_isI, am_isL, am_isR, am_lab, am_c1, am_c2, am_cn, am_bin, am_lbin, am_un, am_div, am_ldiv, am_lsh, am_i2l, am_l2i, am_lcmpQ, am_dup, am_dup2, am_pop, am_cat, am_cats, am_alen, am_len, am_iald, am_bald, am_lald, am_aald, am_iast, am_bast, am_last, am_aast, am_getf, am_putf, am_rd, am_rty, am_rok, am_b, am_call, am_recv, am_push, am_prim, am_acopy, List.length_cons, List.length_nil, List.take, List.drop, List.reverse_cons, List.reverse_nil, List.nil_append, List.cons_append, fin0_4, fin1_4, fin2_4, fin3_4, sh_98, R98_26, R98_10, sh_139, sl_139, sh_110, sl_110, R110_0, sh_111, sl_111, h98, h139, h110, h111]
    refine m_things (by omega) hn hL ?_
    simp [am_In, am_lay, am_pad, wp, wpL, wpO, wpI, wpJ, wpRet, am_ild, am_ald, am_lld, am_ist, am_ast, am_lst, am_iinc, am_st1, am_st2, am_kill, am_get, am_isI, am_isL, am_isR, am_lab, am_c1, am_c2, am_cn, am_bin, am_lbin, am_un, am_div, am_ldiv, am_lsh, am_i2l, am_l2i, am_lcmpQ, am_dup, am_dup2, am_pop, am_cat, am_cats, am_alen, am_len, am_iald, am_bald, am_lald, am_aald, am_iast, am_bast, am_last, am_aast, am_getf, am_putf, am_rd, am_rty, am_rok, am_b, am_call, am_recv, am_push, am_prim, am_acopy, List.length_cons, List.length_nil, List.take, List.drop, List.reverse_cons, List.reverse_nil, List.nil_append, List.cons_append, fin0_4, fin1_4, fin2_4, fin3_4, sh_98, R98_26, R98_10, sh_139, sl_139, sh_110, sl_110, R110_0, sh_111, sl_111, h98, h139, h110, h111]
    refine ⟨fun hge => ?_, fun hlt => ?_⟩
    · have e9 : q = L 0 2 := by omega
      rw [e9]
      exact h
    · rw [hl.2 q (by omega)]
      by_cases h2 : lost.testBit q = true
      · simp [h2, show (q : Int) < 12 by omega]
        refine hP (L 0 2 - (q + 1)) (by omega) _ _ _ _ _ _ _ ⟨q + 1, rfl, by omega, ?_, rfl, rfl, rfl, rfl, rfl, rfl⟩
        rw [w32_1, w32_s (by omega), w32_b (by omega) (by omega), sumN_s, if_neg (fun h3 => by rw [h2] at h3; exact absurd h3.2 (by decide))]
        rfl
      · simp [h2, mL_4 hL (show q < L 0 2 by omega), show (q : Int) < 12 by omega]
        refine ⟨fun h1 => ?_, fun h1 => ?_⟩
        · refine hP (L 0 2 - (q + 1)) (by omega) _ _ _ _ _ _ _ ⟨q + 1, rfl, by omega, ?_, rfl, rfl, rfl, rfl, rfl, rfl⟩
          rw [w32_1, w32_s (by omega), w32_b (by omega) (by omega), sumN_s, if_neg (fun h3 => h1 (by omega))]
          rfl
        · refine hP (L 0 2 - (q + 1)) (by omega) _ _ _ _ _ _ _ ⟨q + 1, rfl, by omega, ?_, rfl, rfl, rfl, rfl, rfl, rfl⟩
          rw [w32_1, w32_s (by omega), w32_s (by omega), sumN_s, if_pos ⟨by omega, by simpa using h2⟩]
  · exact ⟨0, rfl, Nat.zero_le _, rfl, rfl, rfl, rfl, rfl, rfl, rfl⟩
end
