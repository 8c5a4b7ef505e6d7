/-! RUNNING THE SMALL MACHINE by rewriting -/
theorem up_at {α : Type} (f : Nat → Nat → α) (i j : Nat) (v : α) (a b : Nat) : am_up f i j v a b = if a = i then (if b = j then v else f a b) else f a b := by
  unfold am_up
  split <;> rfl
theorem w8_id {x : Int} (h : in8 x) : w8 x = x := by
  obtain ⟨h1, h2⟩ := h
  unfold w8 Int.bmod
  simp only []
  split <;> omega
theorem w8_w8 (x : Int) : w8 (w8 x) = w8 x := w8_id (w8_in x)
theorem w32_w32 (x : Int) : w32 (w32 x) = w32 x := w32_id (w32_in x)
theorem sh18 : am_shp 18 = 108 := rfl
theorem sh19 : am_shp 19 = 3 := rfl
theorem sl19 : am_slen 19 = 500 := rfl
theorem x_at {d i : Nat} {j : Int} {Q : amQ} {hr : amR} {hd : amD} {n : Nat} (h1 : am_shp i = 1) (h2 : i < n) (h : Q (some (vI (if 0 ≤ j ∧ j < (am_slen i : Int) then hd i j.toNat else 0))) hr hd n) : wpM (d + 1) 207 [vR i, vI j] Q hr hd n := by
  apply en207
  simp only [trX11_at, am_In, am_lay, am_pad, wp, wpL, wpO, wpI, wpJ, wpRet, am_ild, am_ald, am_lld, am_ist, am_ast, am_lst, am_iinc, am_st1, am_st2, am_kill, am_get, am_isI, am_isL, am_isR, am_lab, am_c1, am_c2, am_cn, am_bin, am_lbin, am_un, am_div, am_ldiv, am_lsh, am_i2l, am_l2i, am_lcmpQ, am_dup, am_dup2, am_pop, am_cat, am_alen, am_len, am_iald, am_bald, am_lald, am_aald, am_iast, am_bast, am_last, am_aast, am_getf, am_putf, am_rd, am_rty, am_rok, am_b, List.length_cons, List.length_nil]
  simp [h1, h2]
  repeat' (first | (refine And.intro ?_ ?_) | (intro _))
  all_goals (first | omega | (simpa [*] using h) | (rw [if_pos ⟨by assumption, by assumption⟩] at h; exact h) | (rw [if_neg (by omega)] at h; exact h) | trace_state)
theorem x_addByte {d : Nat} {x : Int} {Q : amQ} {hr : amR} {hd : amD} {n : Nat} (h2 : 19 < n) (hr18 : hr 18 0 = 19) (h : Q none hr (if 0 ≤ hd 18 1 ∧ hd 18 1 < 500 then am_up (am_up hd 19 (hd 18 1).toNat (w8 x)) 18 1 (w32 (hd 18 1 + 1)) else hd) n) : wpM (d + 1) 146 [vR 18, vI x] Q hr hd n := by
  apply en146
  simp only [trX8_addByte, am_In, am_lay, am_pad, wp, wpL, wpO, wpI, wpJ, wpRet, am_ild, am_ald, am_lld, am_ist, am_ast, am_lst, am_iinc, am_st1, am_st2, am_kill, am_get, am_isI, am_isL, am_isR, am_lab, am_c1, am_c2, am_cn, am_bin, am_lbin, am_un, am_div, am_ldiv, am_lsh, am_i2l, am_l2i, am_lcmpQ, am_dup, am_dup2, am_pop, am_cat, am_alen, am_len, am_iald, am_bald, am_lald, am_aald, am_iast, am_bast, am_last, am_aast, am_getf, am_putf, am_rd, am_rty, am_rok, am_b, List.length_cons, List.length_nil, sh18, sh19, sl19, hr18]
  simp [h2, up_at, w8_w8]
  repeat' (first | (refine And.intro ?_ ?_) | (intro _))
  all_goals (first | omega | (simpa [*] using h) | (rw [if_pos ⟨by assumption, by assumption⟩] at h; exact h) | (rw [if_neg (by omega)] at h; exact h) | trace_state)
