/-! the JDK's methods -/
def am_fill (f : Nat → Nat → Int) (i k : Nat) (x : Int) : Nat → Nat → Int := am_row f i (fun j => if j < k then x else f i j)
theorem am_fill_0 (f : Nat → Nat → Int) (i : Nat) (x : Int) : am_fill f i 0 x = f := by
  funext a b
  unfold am_fill am_row
  by_cases h : a = i
  · subst h; simp
  · simp [h]
theorem am_fill_s (f : Nat → Nat → Int) (i k : Nat) (x : Int) : am_up (am_fill f i k x) i k x = am_fill f i (k + 1) x := by
  funext a b
  rw [up_at]
  unfold am_fill am_row
  by_cases h : a = i
  · subst h
    by_cases h2 : b = k
    · simp [h2]
    · by_cases h3 : b < k
      · simp [h2, h3, Nat.lt_succ_of_lt h3]
      · simp [h2, h3, show ¬ b < k + 1 by omega]
  · simp [h]
theorem x_fill {d : Nat} {i : Nat} {x : Int} {Q : amQ} {hr : amR} {hd : amD} {n : Nat} (hd9 : 1 ≤ d) (h1 : am_shp i = 1) (h2 : i < n) (h : Q none hr (am_fill hd i (am_slen i) x) n) : wpM d 311 [vR i, vI x] Q hr hd n := by
  obtain ⟨e, rfl, he⟩ := am_dep hd9
  apply en311
  simp only [trJ7_fill_53178, am_In, am_lay, am_pad, wp, wpL, wpO, wpI, wpJ, wpRet, am_ild, am_ald, am_lld, am_ist, am_ast, am_lst, am_iinc, am_st1, am_st2, am_kill, am_get, am_isI, am_isL, am_isR, am_lab, am_c1, am_c2, am_cn, am_bin, am_lbin, am_un, am_div, am_ldiv, am_lsh, am_i2l, am_l2i, am_lcmpQ, am_dup, am_dup2, am_pop, am_cat, am_cats, am_alen, am_len, am_iald, am_bald, am_lald, am_aald, am_iast, am_bast, am_last, am_aast, am_getf, am_putf, am_rd, am_rty, am_rok, am_b, am_call, am_recv, am_push, am_prim, am_acopy, List.length_cons, List.length_nil, List.take, List.drop, List.reverse_cons, List.reverse_nil, List.nil_append, List.cons_append, h1]
  have hs := am_slen_lt i
  simp [h1, h2]
  refine loop_inv (I := fun k ls st hr9 hd9 n9 u us => ∃ q : Nat, k = am_slen i - q ∧ q ≤ am_slen i ∧ ls = [vR i, vI x, vI (q : Int), vI (am_slen i : Int)] ∧ st = [] ∧ hr9 = hr ∧ hd9 = am_fill hd i q x ∧ n9 = n ∧ u = 0 ∧ us = 0) ?_ (am_slen i) ?_
  · intro k ls st hr' hd' n' u us hI P hP
    obtain ⟨q, rfl, hq, rfl, rfl, rfl, rfl, rfl, rfl, rfl⟩ := hI
    simp [h1, h2, am_In, am_lay, am_pad, wp, wpL, wpO, wpI, wpJ, wpRet, am_ild, am_ald, am_lld, am_ist, am_ast, am_lst, am_iinc, am_st1, am_st2, am_kill, am_get, am_isI, am_isL, am_isR, am_lab, am_c1, am_c2, am_cn, am_bin, am_lbin, am_un, am_div, am_ldiv, am_lsh, am_i2l, am_l2i, am_lcmpQ, am_dup, am_dup2, am_pop, am_cat, am_cats, am_alen, am_len, am_iald, am_bald, am_lald, am_aald, am_iast, am_bast, am_last, am_aast, am_getf, am_putf, am_rd, am_rty, am_rok, am_b, am_call, am_recv, am_push, am_prim, am_acopy, List.length_cons, List.length_nil, List.take, List.drop, List.reverse_cons, List.reverse_nil, List.nil_append, List.cons_append]
    refine ⟨fun hge => ?_, fun hlt => ⟨by omega, ?_⟩⟩
    · have e : q = am_slen i := by omega
      rw [← e] at h
      exact h
    · refine hP (am_slen i - (q + 1)) (by omega) _ _ _ _ _ _ _ ⟨q + 1, rfl, by omega, ?_, rfl, rfl, am_fill_s _ _ _ _, rfl, rfl, rfl⟩
      have e1 : w32 ((q : Int) + w32 1) = ((q + 1 : Nat) : Int) := by
        rw [w32_id (show in32 1 from ⟨by decide, by decide⟩), w32_id ⟨by omega, by omega⟩]
        omega
      rw [e1]
  · exact ⟨0, by omega, by omega, rfl, rfl, rfl, (am_fill_0 _ _ _).symm, rfl, rfl, rfl⟩
def am_str (hr : amR) (hd : amD) (n s : Nat) : Prop := am_shp s = 113 ∧ s < n ∧ hr s 0 = s + 7 ∧ hd s 1 = 0 ∧ am_shp (s + 7) = 6 ∧ s + 7 < n
theorem x_coder {d : Nat} {s : Nat} {Q : amQ} {hr : amR} {hd : amD} {n : Nat} (hd9 : 1 ≤ d) (hs : am_str hr hd n s) (h : Q (some (vI 0)) hr hd n) : wpM d 306 [vR s] Q hr hd n := by
  obtain ⟨e, rfl, he⟩ := am_dep hd9
  apply en306
  simp only [trJ0_coder_7d493, am_In, am_lay, am_pad, wp, wpL, wpO, wpI, wpJ, wpRet, am_ild, am_ald, am_lld, am_ist, am_ast, am_lst, am_iinc, am_st1, am_st2, am_kill, am_get, am_isI, am_isL, am_isR, am_lab, am_c1, am_c2, am_cn, am_bin, am_lbin, am_un, am_div, am_ldiv, am_lsh, am_i2l, am_l2i, am_lcmpQ, am_dup, am_dup2, am_pop, am_cat, am_cats, am_alen, am_len, am_iald, am_bald, am_lald, am_aald, am_iast, am_bast, am_last, am_aast, am_getf, am_putf, am_rd, am_rty, am_rok, am_b, am_call, am_recv, am_push, am_prim, am_acopy, List.length_cons, List.length_nil, List.take, List.drop, List.reverse_cons, List.reverse_nil, List.nil_append, List.cons_append]
  obtain ⟨s1, s2, s3, s4, s5, s6⟩ := hs
  simp [s1, s2, s3, s4]
  simpa using h
theorem x_isLatin1 {d : Nat} {s : Nat} {Q : amQ} {hr : amR} {hd : amD} {n : Nat} (hd9 : 1 ≤ d) (hs : am_str hr hd n s) (h : Q (some (vI 1)) hr hd n) : wpM d 307 [vR s] Q hr hd n := by
  obtain ⟨e, rfl, he⟩ := am_dep hd9
  apply en307
  simp only [trJ0_isLatin1_aae02, am_In, am_lay, am_pad, wp, wpL, wpO, wpI, wpJ, wpRet, am_ild, am_ald, am_lld, am_ist, am_ast, am_lst, am_iinc, am_st1, am_st2, am_kill, am_get, am_isI, am_isL, am_isR, am_lab, am_c1, am_c2, am_cn, am_bin, am_lbin, am_un, am_div, am_ldiv, am_lsh, am_i2l, am_l2i, am_lcmpQ, am_dup, am_dup2, am_pop, am_cat, am_cats, am_alen, am_len, am_iald, am_bald, am_lald, am_aald, am_iast, am_bast, am_last, am_aast, am_getf, am_putf, am_rd, am_rty, am_rok, am_b, am_call, am_recv, am_push, am_prim, am_acopy, List.length_cons, List.length_nil, List.take, List.drop, List.reverse_cons, List.reverse_nil, List.nil_append, List.cons_append]
  obtain ⟨s1, s2, s3, s4, s5, s6⟩ := hs
  simp [s1, s2, s3, s4]
  simpa using h
theorem x_strlen {d : Nat} {s : Nat} {Q : amQ} {hr : amR} {hd : amD} {n : Nat} (hd9 : 2 ≤ d) (hs : am_str hr hd n s) (h : Q (some (vI (am_slen (s + 7) : Int))) hr hd n) : wpM d 304 [vR s] Q hr hd n := by
  obtain ⟨e, rfl, he⟩ := am_dep hd9
  apply en304
  simp only [trJ0_length_8abf5, am_In, am_lay, am_pad, wp, wpL, wpO, wpI, wpJ, wpRet, am_ild, am_ald, am_lld, am_ist, am_ast, am_lst, am_iinc, am_st1, am_st2, am_kill, am_get, am_isI, am_isL, am_isR, am_lab, am_c1, am_c2, am_cn, am_bin, am_lbin, am_un, am_div, am_ldiv, am_lsh, am_i2l, am_l2i, am_lcmpQ, am_dup, am_dup2, am_pop, am_cat, am_cats, am_alen, am_len, am_iald, am_bald, am_lald, am_aald, am_iast, am_bast, am_last, am_aast, am_getf, am_putf, am_rd, am_rty, am_rok, am_b, am_call, am_recv, am_push, am_prim, am_acopy, List.length_cons, List.length_nil, List.take, List.drop, List.reverse_cons, List.reverse_nil, List.nil_append, List.cons_append]
  have hs9 := hs
  obtain ⟨s1, s2, s3, s4, s5, s6⟩ := hs
  have hl := am_slen_lt (s + 7)
  simp [am_In, am_lay, am_pad, wp, wpL, wpO, wpI, wpJ, wpRet, am_ild, am_ald, am_lld, am_ist, am_ast, am_lst, am_iinc, am_st1, am_st2, am_kill, am_get, am_isI, am_isL, am_isR, am_lab, am_c1, am_c2, am_cn, am_bin, am_lbin, am_un, am_div, am_ldiv, am_lsh, am_i2l, am_l2i, am_lcmpQ, am_dup, am_dup2, am_pop, am_cat, am_cats, am_alen, am_len, am_iald, am_bald, am_lald, am_aald, am_iast, am_bast, am_last, am_aast, am_getf, am_putf, am_rd, am_rty, am_rok, am_b, am_call, am_recv, am_push, am_prim, am_acopy, List.length_cons, List.length_nil, List.take, List.drop, List.reverse_cons, List.reverse_nil, List.nil_append, List.cons_append, s1, s2, s3, s4, s5, s6]
  refine x_coder (by omega) hs9 ?_
  have e0 : am_shr (am_slen (s + 7) : Int) 0 = (am_slen (s + 7) : Int) := by
    unfold am_shr am_i2
    have : (Int32.ofInt (am_slen (s + 7) : Int) >>> (Int32.ofInt 0 &&& 31)) = Int32.ofInt (am_slen (s + 7) : Int) := by
      have : (Int32.ofInt 0 &&& 31) = 0 := by decide
      rw [this]
      simp
    show (Int32.ofInt (am_slen (s + 7) : Int) >>> (Int32.ofInt 0 &&& 31)).toInt = _
    rw [this, ti32, w32_id ⟨by omega, by omega⟩]
  simp [am_In, am_lay, am_pad, wp, wpL, wpO, wpI, wpJ, wpRet, am_ild, am_ald, am_lld, am_ist, am_ast, am_lst, am_iinc, am_st1, am_st2, am_kill, am_get, am_isI, am_isL, am_isR, am_lab, am_c1, am_c2, am_cn, am_bin, am_lbin, am_un, am_div, am_ldiv, am_lsh, am_i2l, am_l2i, am_lcmpQ, am_dup, am_dup2, am_pop, am_cat, am_cats, am_alen, am_len, am_iald, am_bald, am_lald, am_aald, am_iast, am_bast, am_last, am_aast, am_getf, am_putf, am_rd, am_rty, am_rok, am_b, am_call, am_recv, am_push, am_prim, am_acopy, List.length_cons, List.length_nil, List.take, List.drop, List.reverse_cons, List.reverse_nil, List.nil_append, List.cons_append, e0]
  exact h
theorem x_chk3 {d : Nat} {i k : Int} {f : Nat} {Q : amQ} {hr : amR} {hd : amD} {n : Nat} (hd9 : 1 ≤ d) (h1 : 0 ≤ i) (h2 : i < k) (h : Q (some (vI i)) hr hd n) : wpM d 312 [vI i, vI k, vR f] Q hr hd n := by
  obtain ⟨e, rfl, he⟩ := am_dep hd9
  apply en312
  simp only [trJ3_checkIndex_8e157, am_In, am_lay, am_pad, wp, wpL, wpO, wpI, wpJ, wpRet, am_ild, am_ald, am_lld, am_ist, am_ast, am_lst, am_iinc, am_st1, am_st2, am_kill, am_get, am_isI, am_isL, am_isR, am_lab, am_c1, am_c2, am_cn, am_bin, am_lbin, am_un, am_div, am_ldiv, am_lsh, am_i2l, am_l2i, am_lcmpQ, am_dup, am_dup2, am_pop, am_cat, am_cats, am_alen, am_len, am_iald, am_bald, am_lald, am_aald, am_iast, am_bast, am_last, am_aast, am_getf, am_putf, am_rd, am_rty, am_rok, am_b, am_call, am_recv, am_push, am_prim, am_acopy, List.length_cons, List.length_nil, List.take, List.drop, List.reverse_cons, List.reverse_nil, List.nil_append, List.cons_append]
  simp [Int.not_lt.mpr h1, h2]
  exact h
theorem x_chk2 {d : Nat} {i k : Int} {Q : amQ} {hr : amR} {hd : amD} {n : Nat} (hd9 : 2 ≤ d) (h1 : 0 ≤ i) (h2 : i < k) (h : Q none hr hd n) : wpM d 308 [vI i, vI k] Q hr hd n := by
  obtain ⟨e, rfl, he⟩ := am_dep hd9
  apply en308
  simp only [trJ0_checkIndex_df160, am_In, am_lay, am_pad, wp, wpL, wpO, wpI, wpJ, wpRet, am_ild, am_ald, am_lld, am_ist, am_ast, am_lst, am_iinc, am_st1, am_st2, am_kill, am_get, am_isI, am_isL, am_isR, am_lab, am_c1, am_c2, am_cn, am_bin, am_lbin, am_un, am_div, am_ldiv, am_lsh, am_i2l, am_l2i, am_lcmpQ, am_dup, am_dup2, am_pop, am_cat, am_cats, am_alen, am_len, am_iald, am_bald, am_lald, am_aald, am_iast, am_bast, am_last, am_aast, am_getf, am_putf, am_rd, am_rty, am_rok, am_b, am_call, am_recv, am_push, am_prim, am_acopy, List.length_cons, List.length_nil, List.take, List.drop, List.reverse_cons, List.reverse_nil, List.nil_append, List.cons_append]
  simp
  refine x_chk3 (by omega) h1 h2 ?_
  simpa using h
theorem x_chrL {d : Nat} {i : Nat} {j : Int} {Q : amQ} {hr : amR} {hd : amD} {n : Nat} (hd9 : 3 ≤ d) (h0 : am_shp i = 6) (h3 : i < n) (h1 : 0 ≤ j) (h2 : j < (am_slen i : Int)) (h : Q (some (vI (am_and (hd i j.toNat) 255 % 65536))) hr hd n) : wpM d 309 [vR i, vI j] Q hr hd n := by
  obtain ⟨e, rfl, he⟩ := am_dep hd9
  apply en309
  simp only [trJ1_charAt_3b067, am_In, am_lay, am_pad, wp, wpL, wpO, wpI, wpJ, wpRet, am_ild, am_ald, am_lld, am_ist, am_ast, am_lst, am_iinc, am_st1, am_st2, am_kill, am_get, am_isI, am_isL, am_isR, am_lab, am_c1, am_c2, am_cn, am_bin, am_lbin, am_un, am_div, am_ldiv, am_lsh, am_i2l, am_l2i, am_lcmpQ, am_dup, am_dup2, am_pop, am_cat, am_cats, am_alen, am_len, am_iald, am_bald, am_lald, am_aald, am_iast, am_bast, am_last, am_aast, am_getf, am_putf, am_rd, am_rty, am_rok, am_b, am_call, am_recv, am_push, am_prim, am_acopy, List.length_cons, List.length_nil, List.take, List.drop, List.reverse_cons, List.reverse_nil, List.nil_append, List.cons_append]
  simp [h0, h3]
  refine x_chk2 (by omega) h1 h2 ?_
  simp [h0, h3, h1, h2]
  exact ⟨⟨Int.emod_nonneg _ (by decide), Int.emod_lt_of_pos _ (by decide)⟩, h⟩
theorem x_charAt {d : Nat} {s : Nat} {j : Int} {Q : amQ} {hr : amR} {hd : amD} {n : Nat} (hd9 : 4 ≤ d) (hs : am_str hr hd n s) (h1 : 0 ≤ j) (h2 : j < (am_slen (s + 7) : Int)) (h : Q (some (vI (am_and (hd (s + 7) j.toNat) 255 % 65536))) hr hd n) : wpM d 305 [vR s, vI j] Q hr hd n := by
  obtain ⟨e, rfl, he⟩ := am_dep hd9
  apply en305
  simp only [trJ0_charAt_5068e, am_In, am_lay, am_pad, wp, wpL, wpO, wpI, wpJ, wpRet, am_ild, am_ald, am_lld, am_ist, am_ast, am_lst, am_iinc, am_st1, am_st2, am_kill, am_get, am_isI, am_isL, am_isR, am_lab, am_c1, am_c2, am_cn, am_bin, am_lbin, am_un, am_div, am_ldiv, am_lsh, am_i2l, am_l2i, am_lcmpQ, am_dup, am_dup2, am_pop, am_cat, am_cats, am_alen, am_len, am_iald, am_bald, am_lald, am_aald, am_iast, am_bast, am_last, am_aast, am_getf, am_putf, am_rd, am_rty, am_rok, am_b, am_call, am_recv, am_push, am_prim, am_acopy, List.length_cons, List.length_nil, List.take, List.drop, List.reverse_cons, List.reverse_nil, List.nil_append, List.cons_append]
  have hs9 := hs
  obtain ⟨s1, s2, s3, s4, s5, s6⟩ := hs
  simp [am_In, am_lay, am_pad, wp, wpL, wpO, wpI, wpJ, wpRet, am_ild, am_ald, am_lld, am_ist, am_ast, am_lst, am_iinc, am_st1, am_st2, am_kill, am_get, am_isI, am_isL, am_isR, am_lab, am_c1, am_c2, am_cn, am_bin, am_lbin, am_un, am_div, am_ldiv, am_lsh, am_i2l, am_l2i, am_lcmpQ, am_dup, am_dup2, am_pop, am_cat, am_cats, am_alen, am_len, am_iald, am_bald, am_lald, am_aald, am_iast, am_bast, am_last, am_aast, am_getf, am_putf, am_rd, am_rty, am_rok, am_b, am_call, am_recv, am_push, am_prim, am_acopy, List.length_cons, List.length_nil, List.take, List.drop, List.reverse_cons, List.reverse_nil, List.nil_append, List.cons_append, s1, s2]
  refine x_isLatin1 (by omega) hs9 ?_
  simp [am_In, am_lay, am_pad, wp, wpL, wpO, wpI, wpJ, wpRet, am_ild, am_ald, am_lld, am_ist, am_ast, am_lst, am_iinc, am_st1, am_st2, am_kill, am_get, am_isI, am_isL, am_isR, am_lab, am_c1, am_c2, am_cn, am_bin, am_lbin, am_un, am_div, am_ldiv, am_lsh, am_i2l, am_l2i, am_lcmpQ, am_dup, am_dup2, am_pop, am_cat, am_cats, am_alen, am_len, am_iald, am_bald, am_lald, am_aald, am_iast, am_bast, am_last, am_aast, am_getf, am_putf, am_rd, am_rty, am_rok, am_b, am_call, am_recv, am_push, am_prim, am_acopy, List.length_cons, List.length_nil, List.take, List.drop, List.reverse_cons, List.reverse_nil, List.nil_append, List.cons_append, s1, s2, s3]
  refine x_chrL (by omega) s5 s6 h1 h2 ?_
  simp [am_In, am_lay, am_pad, wp, wpL, wpO, wpI, wpJ, wpRet, am_ild, am_ald, am_lld, am_ist, am_ast, am_lst, am_iinc, am_st1, am_st2, am_kill, am_get, am_isI, am_isL, am_isR, am_lab, am_c1, am_c2, am_cn, am_bin, am_lbin, am_un, am_div, am_ldiv, am_lsh, am_i2l, am_l2i, am_lcmpQ, am_dup, am_dup2, am_pop, am_cat, am_cats, am_alen, am_len, am_iald, am_bald, am_lald, am_aald, am_iast, am_bast, am_last, am_aast, am_getf, am_putf, am_rd, am_rty, am_rok, am_b, am_call, am_recv, am_push, am_prim, am_acopy, List.length_cons, List.length_nil, List.take, List.drop, List.reverse_cons, List.reverse_nil, List.nil_append, List.cons_append]
  exact ⟨⟨Int.emod_nonneg _ (by decide), Int.emod_lt_of_pos _ (by decide)⟩, h⟩
