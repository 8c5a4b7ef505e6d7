/-! RUNNING THE SMALL MACHINE by rewriting -/
theorem up_at {α : Type} (f : Nat → Nat → α) (i j : Nat) (v : α) (a b : Nat) : am_up f i j v a b = if a = i then (if b = j then v else f a b) else f a b := by
  unfold am_up
  split <;> rfl
theorem w8_id {x : Int} (h : in8 x) : w8 x = x := by
  obtain ⟨h1, h2⟩ := h
  unfold w8 Int.bmod
  simp only []
  split <;> omega
theorem w8_w8 (x : Int) : w8 (w8 x) = w8 x := w8_id (w8_in x)
theorem w32_w32 (x : Int) : w32 (w32 x) = w32 x := w32_id (w32_in x)
theorem am_dep {d k : Nat} (h : k + 1 ≤ d) : ∃ e, d = e + 1 ∧ k ≤ e := ⟨d - 1, by omega, by omega⟩
/-- a loop, by what holds at its head and a measure -/
theorem loop_inv {G : amP → amP} (I : Nat → amP) (hI : ∀ k ls st hr hd n u us, I k ls st hr hd n u us → ∀ P : amP, (∀ k', k' < k → ∀ ls st hr hd n u us, I k' ls st hr hd n u us → P ls st hr hd n u us) → G P ls st hr hd n u us)
    (k : Nat) {ls st : List amV} {hr : amR} {hd : amD} {n u us : Nat} (h : I k ls st hr hd n u us) : am_loop G ls st hr hd n u us := by
  intro P hP
  have key : ∀ k ls st hr hd n u us, I k ls st hr hd n u us → P ls st hr hd n u us := by
    intro k
    induction k using Nat.strongRecOn with
    | _ k ih => exact fun ls st hr hd n u us h => hP ls st hr hd n u us (hI k ls st hr hd n u us h P (fun k' hk => ih k' hk))
  exact key k ls st hr hd n u us h
theorem sh18 : am_shp 18 = 108 := rfl
theorem sh19 : am_shp 19 = 3 := rfl
theorem sl19 : am_slen 19 = 500 := rfl
theorem x_at {d : Nat} {i : Nat} {j : Int} {Q : amQ} {hr : amR} {hd : amD} {n : Nat} (hd9 : 1 ≤ d) (h1 : am_shp i = 1) (h2 : i < n) (h : Q (some (vI (if 0 ≤ j ∧ j < (am_slen i : Int) then hd i j.toNat else 0))) hr hd n) : wpM d 207 [vR i, vI j] Q hr hd n := by
  obtain ⟨e, rfl, he⟩ := am_dep hd9
  apply en207
  simp only [trX11_at, am_In, am_lay, am_pad, wp, wpL, wpO, wpI, wpJ, wpRet, am_ild, am_ald, am_lld, am_ist, am_ast, am_lst, am_iinc, am_st1, am_st2, am_kill, am_get, am_isI, am_isL, am_isR, am_lab, am_c1, am_c2, am_cn, am_bin, am_lbin, am_un, am_div, am_ldiv, am_lsh, am_i2l, am_l2i, am_lcmpQ, am_dup, am_dup2, am_pop, am_cat, am_cats, am_alen, am_len, am_iald, am_bald, am_lald, am_aald, am_iast, am_bast, am_last, am_aast, am_getf, am_putf, am_rd, am_rty, am_rok, am_b, am_call, am_recv, am_push, am_prim, am_acopy, List.length_cons, List.length_nil, List.take, List.drop, List.reverse_cons, List.reverse_nil, List.nil_append, List.cons_append]
  simp [h1, h2]
  repeat' (first | (refine And.intro ?_ ?_) | (intro _))
  all_goals (first | omega | (simpa [*] using h) | (rw [if_pos ⟨by assumption, by assumption⟩] at h; exact h) | (rw [if_neg (by omega)] at h; exact h))
theorem x_atL {d : Nat} {i : Nat} {j : Int} {Q : amQ} {hr : amR} {hd : amD} {n : Nat} (hd9 : 1 ≤ d) (h1 : am_shp i = 2) (h2 : i < n) (h : Q (some (vL (if 0 ≤ j ∧ j < (am_slen i : Int) then hd i j.toNat else 0))) hr hd n) : wpM d 209 [vR i, vI j] Q hr hd n := by
  obtain ⟨e, rfl, he⟩ := am_dep hd9
  apply en209
  simp only [trX11_at_, am_In, am_lay, am_pad, wp, wpL, wpO, wpI, wpJ, wpRet, am_ild, am_ald, am_lld, am_ist, am_ast, am_lst, am_iinc, am_st1, am_st2, am_kill, am_get, am_isI, am_isL, am_isR, am_lab, am_c1, am_c2, am_cn, am_bin, am_lbin, am_un, am_div, am_ldiv, am_lsh, am_i2l, am_l2i, am_lcmpQ, am_dup, am_dup2, am_pop, am_cat, am_cats, am_alen, am_len, am_iald, am_bald, am_lald, am_aald, am_iast, am_bast, am_last, am_aast, am_getf, am_putf, am_rd, am_rty, am_rok, am_b, am_call, am_recv, am_push, am_prim, am_acopy, List.length_cons, List.length_nil, List.take, List.drop, List.reverse_cons, List.reverse_nil, List.nil_append, List.cons_append]
  simp [h1, h2]
  repeat' (first | (refine And.intro ?_ ?_) | (intro _))
  all_goals (first | omega | (simpa [*] using h) | (rw [if_pos ⟨by assumption, by assumption⟩] at h; exact h) | (rw [if_neg (by omega)] at h; exact h))
theorem x_put {d : Nat} {i : Nat} {j x : Int} {Q : amQ} {hr : amR} {hd : amD} {n : Nat} (hd9 : 1 ≤ d) (h1 : am_shp i = 1) (h2 : i < n) (h : Q none hr (if 0 ≤ j ∧ j < (am_slen i : Int) then am_up hd i j.toNat x else hd) n) : wpM d 208 [vR i, vI j, vI x] Q hr hd n := by
  obtain ⟨e, rfl, he⟩ := am_dep hd9
  apply en208
  simp only [trX11_put, am_In, am_lay, am_pad, wp, wpL, wpO, wpI, wpJ, wpRet, am_ild, am_ald, am_lld, am_ist, am_ast, am_lst, am_iinc, am_st1, am_st2, am_kill, am_get, am_isI, am_isL, am_isR, am_lab, am_c1, am_c2, am_cn, am_bin, am_lbin, am_un, am_div, am_ldiv, am_lsh, am_i2l, am_l2i, am_lcmpQ, am_dup, am_dup2, am_pop, am_cat, am_cats, am_alen, am_len, am_iald, am_bald, am_lald, am_aald, am_iast, am_bast, am_last, am_aast, am_getf, am_putf, am_rd, am_rty, am_rok, am_b, am_call, am_recv, am_push, am_prim, am_acopy, List.length_cons, List.length_nil, List.take, List.drop, List.reverse_cons, List.reverse_nil, List.nil_append, List.cons_append]
  simp [h1, h2]
  repeat' (first | (refine And.intro ?_ ?_) | (intro _))
  all_goals (first | omega | (simpa [*] using h) | (rw [if_pos ⟨by assumption, by assumption⟩] at h; exact h) | (rw [if_neg (by omega)] at h; exact h))
theorem x_putL {d : Nat} {i : Nat} {j x : Int} {Q : amQ} {hr : amR} {hd : amD} {n : Nat} (hd9 : 1 ≤ d) (h1 : am_shp i = 2) (h2 : i < n) (h : Q none hr (if 0 ≤ j ∧ j < (am_slen i : Int) then am_up hd i j.toNat x else hd) n) : wpM d 210 [vR i, vI j, vL x] Q hr hd n := by
  obtain ⟨e, rfl, he⟩ := am_dep hd9
  apply en210
  simp only [trX11_put_, am_In, am_lay, am_pad, wp, wpL, wpO, wpI, wpJ, wpRet, am_ild, am_ald, am_lld, am_ist, am_ast, am_lst, am_iinc, am_st1, am_st2, am_kill, am_get, am_isI, am_isL, am_isR, am_lab, am_c1, am_c2, am_cn, am_bin, am_lbin, am_un, am_div, am_ldiv, am_lsh, am_i2l, am_l2i, am_lcmpQ, am_dup, am_dup2, am_pop, am_cat, am_cats, am_alen, am_len, am_iald, am_bald, am_lald, am_aald, am_iast, am_bast, am_last, am_aast, am_getf, am_putf, am_rd, am_rty, am_rok, am_b, am_call, am_recv, am_push, am_prim, am_acopy, List.length_cons, List.length_nil, List.take, List.drop, List.reverse_cons, List.reverse_nil, List.nil_append, List.cons_append]
  simp [h1, h2]
  repeat' (first | (refine And.intro ?_ ?_) | (intro _))
  all_goals (first | omega | (simpa [*] using h) | (rw [if_pos ⟨by assumption, by assumption⟩] at h; exact h) | (rw [if_neg (by omega)] at h; exact h))
theorem x_hasBit {d : Nat} {a j : Int} {Q : amQ} {hr : amR} {hd : amD} {n : Nat} (hd9 : 1 ≤ d)  (h : Q (some (vI (if am_and (am_shr a j) 1 = 0 then 0 else 1))) hr hd n) : wpM d 211 [vI a, vI j] Q hr hd n := by
  obtain ⟨e, rfl, he⟩ := am_dep hd9
  apply en211
  simp only [trX11_hasBit, am_In, am_lay, am_pad, wp, wpL, wpO, wpI, wpJ, wpRet, am_ild, am_ald, am_lld, am_ist, am_ast, am_lst, am_iinc, am_st1, am_st2, am_kill, am_get, am_isI, am_isL, am_isR, am_lab, am_c1, am_c2, am_cn, am_bin, am_lbin, am_un, am_div, am_ldiv, am_lsh, am_i2l, am_l2i, am_lcmpQ, am_dup, am_dup2, am_pop, am_cat, am_cats, am_alen, am_len, am_iald, am_bald, am_lald, am_aald, am_iast, am_bast, am_last, am_aast, am_getf, am_putf, am_rd, am_rty, am_rok, am_b, am_call, am_recv, am_push, am_prim, am_acopy, List.length_cons, List.length_nil, List.take, List.drop, List.reverse_cons, List.reverse_nil, List.nil_append, List.cons_append]
  simp []
  repeat' (first | (refine And.intro ?_ ?_) | (intro _))
  all_goals (first | omega | (simpa [*] using h) | (rw [if_pos ⟨by assumption, by assumption⟩] at h; exact h) | (rw [if_neg (by omega)] at h; exact h))
theorem x_addByte {d : Nat} {x : Int} {Q : amQ} {hr : amR} {hd : amD} {n : Nat} (hd9 : 1 ≤ d) (h2 : 19 < n) (hr18 : hr 18 0 = 19) (h : Q none hr (if 0 ≤ hd 18 1 ∧ hd 18 1 < 500 then am_up (am_up hd 19 (hd 18 1).toNat (w8 x)) 18 1 (w32 (hd 18 1 + 1)) else hd) n) : wpM d 146 [vR 18, vI x] Q hr hd n := by
  obtain ⟨e, rfl, he⟩ := am_dep hd9
  apply en146
  simp only [trX8_addByte, am_In, am_lay, am_pad, wp, wpL, wpO, wpI, wpJ, wpRet, am_ild, am_ald, am_lld, am_ist, am_ast, am_lst, am_iinc, am_st1, am_st2, am_kill, am_get, am_isI, am_isL, am_isR, am_lab, am_c1, am_c2, am_cn, am_bin, am_lbin, am_un, am_div, am_ldiv, am_lsh, am_i2l, am_l2i, am_lcmpQ, am_dup, am_dup2, am_pop, am_cat, am_cats, am_alen, am_len, am_iald, am_bald, am_lald, am_aald, am_iast, am_bast, am_last, am_aast, am_getf, am_putf, am_rd, am_rty, am_rok, am_b, am_call, am_recv, am_push, am_prim, am_acopy, List.length_cons, List.length_nil, List.take, List.drop, List.reverse_cons, List.reverse_nil, List.nil_append, List.cons_append, sh18, sh19, sl19, hr18]
  simp [h2, up_at, w8_w8]
  repeat' (first | (refine And.intro ?_ ?_) | (intro _))
  all_goals (first | omega | (simpa [*] using h) | (rw [if_pos ⟨by assumption, by assumption⟩] at h; exact h) | (rw [if_neg (by omega)] at h; exact h))
theorem x_size {d : Nat} {Q : amQ} {hr : amR} {hd : amD} {n : Nat} (hd9 : 1 ≤ d) (h2 : 19 < n) (h : Q (some (vI (hd 18 1))) hr hd n) : wpM d 143 [vR 18] Q hr hd n := by
  obtain ⟨e, rfl, he⟩ := am_dep hd9
  apply en143
  simp only [trX8_size, am_In, am_lay, am_pad, wp, wpL, wpO, wpI, wpJ, wpRet, am_ild, am_ald, am_lld, am_ist, am_ast, am_lst, am_iinc, am_st1, am_st2, am_kill, am_get, am_isI, am_isL, am_isR, am_lab, am_c1, am_c2, am_cn, am_bin, am_lbin, am_un, am_div, am_ldiv, am_lsh, am_i2l, am_l2i, am_lcmpQ, am_dup, am_dup2, am_pop, am_cat, am_cats, am_alen, am_len, am_iald, am_bald, am_lald, am_aald, am_iast, am_bast, am_last, am_aast, am_getf, am_putf, am_rd, am_rty, am_rok, am_b, am_call, am_recv, am_push, am_prim, am_acopy, List.length_cons, List.length_nil, List.take, List.drop, List.reverse_cons, List.reverse_nil, List.nil_append, List.cons_append, sh18]
  simp []
  repeat' (first | (refine And.intro ?_ ?_) | (intro _))
  all_goals (first | omega | (simpa [*] using h) | (rw [if_pos ⟨by assumption, by assumption⟩] at h; exact h) | (rw [if_neg (by omega)] at h; exact h))
theorem x_hasRoom {d : Nat} {k : Int} {Q : amQ} {hr : amR} {hd : amD} {n : Nat} (hd9 : 1 ≤ d) (h2 : 19 < n) (hr18 : hr 18 0 = 19) (h : Q (some (vI (if w32 (hd 18 1 + k) ≤ 500 then 1 else 0))) hr hd n) : wpM d 144 [vR 18, vI k] Q hr hd n := by
  obtain ⟨e, rfl, he⟩ := am_dep hd9
  apply en144
  simp only [trX8_hasRoom, am_In, am_lay, am_pad, wp, wpL, wpO, wpI, wpJ, wpRet, am_ild, am_ald, am_lld, am_ist, am_ast, am_lst, am_iinc, am_st1, am_st2, am_kill, am_get, am_isI, am_isL, am_isR, am_lab, am_c1, am_c2, am_cn, am_bin, am_lbin, am_un, am_div, am_ldiv, am_lsh, am_i2l, am_l2i, am_lcmpQ, am_dup, am_dup2, am_pop, am_cat, am_cats, am_alen, am_len, am_iald, am_bald, am_lald, am_aald, am_iast, am_bast, am_last, am_aast, am_getf, am_putf, am_rd, am_rty, am_rok, am_b, am_call, am_recv, am_push, am_prim, am_acopy, List.length_cons, List.length_nil, List.take, List.drop, List.reverse_cons, List.reverse_nil, List.nil_append, List.cons_append, sh18, sh19, sl19, hr18]
  simp [h2]
  repeat' (first | (refine And.intro ?_ ?_) | (intro _))
  all_goals (first | omega | (simpa [*] using h) | (rw [if_pos ⟨by assumption, by assumption⟩] at h; exact h) | (rw [if_neg (by omega)] at h; exact h))
theorem x_cut {d : Nat} {k : Int} {Q : amQ} {hr : amR} {hd : amD} {n : Nat} (hd9 : 1 ≤ d) (h2 : 19 < n) (h : Q none hr (if 0 ≤ k ∧ k ≤ hd 18 1 then am_up hd 18 1 k else hd) n) : wpM d 147 [vR 18, vI k] Q hr hd n := by
  obtain ⟨e, rfl, he⟩ := am_dep hd9
  apply en147
  simp only [trX8_cut, am_In, am_lay, am_pad, wp, wpL, wpO, wpI, wpJ, wpRet, am_ild, am_ald, am_lld, am_ist, am_ast, am_lst, am_iinc, am_st1, am_st2, am_kill, am_get, am_isI, am_isL, am_isR, am_lab, am_c1, am_c2, am_cn, am_bin, am_lbin, am_un, am_div, am_ldiv, am_lsh, am_i2l, am_l2i, am_lcmpQ, am_dup, am_dup2, am_pop, am_cat, am_cats, am_alen, am_len, am_iald, am_bald, am_lald, am_aald, am_iast, am_bast, am_last, am_aast, am_getf, am_putf, am_rd, am_rty, am_rok, am_b, am_call, am_recv, am_push, am_prim, am_acopy, List.length_cons, List.length_nil, List.take, List.drop, List.reverse_cons, List.reverse_nil, List.nil_append, List.cons_append, sh18]
  simp []
  repeat' (first | (refine And.intro ?_ ?_) | (intro _))
  all_goals (first | omega | (simpa [*] using h) | (rw [if_pos ⟨by assumption, by assumption⟩] at h; exact h) | (rw [if_neg (by omega)] at h; exact h))
theorem x_byteAt {d : Nat} {k : Int} {Q : amQ} {hr : amR} {hd : amD} {n : Nat} (hd9 : 1 ≤ d) (h2 : 19 < n) (hr18 : hr 18 0 = 19) (h : Q (some (vI (if 0 ≤ k ∧ k < hd 18 1 ∧ k < 500 then am_and (hd 19 k.toNat) 255 else -1))) hr hd n) : wpM d 148 [vR 18, vI k] Q hr hd n := by
  obtain ⟨e, rfl, he⟩ := am_dep hd9
  apply en148
  simp only [trX8_byteAt, am_In, am_lay, am_pad, wp, wpL, wpO, wpI, wpJ, wpRet, am_ild, am_ald, am_lld, am_ist, am_ast, am_lst, am_iinc, am_st1, am_st2, am_kill, am_get, am_isI, am_isL, am_isR, am_lab, am_c1, am_c2, am_cn, am_bin, am_lbin, am_un, am_div, am_ldiv, am_lsh, am_i2l, am_l2i, am_lcmpQ, am_dup, am_dup2, am_pop, am_cat, am_cats, am_alen, am_len, am_iald, am_bald, am_lald, am_aald, am_iast, am_bast, am_last, am_aast, am_getf, am_putf, am_rd, am_rty, am_rok, am_b, am_call, am_recv, am_push, am_prim, am_acopy, List.length_cons, List.length_nil, List.take, List.drop, List.reverse_cons, List.reverse_nil, List.nil_append, List.cons_append, sh18, sh19, sl19, hr18]
  simp [h2]
  repeat' (first | (refine And.intro ?_ ?_) | (intro _))
  all_goals (first | omega | (simpa [*] using h) | (rw [if_pos ⟨by assumption, by assumption⟩] at h; exact h) | (rw [if_neg (by omega)] at h; exact h))
