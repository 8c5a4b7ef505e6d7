/-! the land of the model -/
/-- the model's land is L -/
def mL (hd : amD) (L : Lnd) : Prop := Lok L ∧ (hd 132 0 = L 0 0 ∧ hd 132 1 = L 0 1 ∧ hd 132 2 = L 0 2 ∧ hd 132 3 = L 0 3) ∧ (hd 98 19 = 1 ∨ hd 98 19 = 0 ∧ L 0 0 = 0 ∧ L 0 1 = 0 ∧ L 0 2 = 0 ∧ L 0 3 = 0) ∧ (hd 98 19 = 1 → hd 132 4 = L 0 4 ∧ hd 132 5 = L 0 5) ∧ (∀ i, i < L 0 0 → hd 102 i = (L 1 i : Int)) ∧ (∀ i, i < L 0 0 → hd 105 i = (L 2 i : Int) - 1) ∧ (∀ i, i < L 0 1 → hd 108 i = (L 3 i : Int)) ∧ (∀ i, i < L 0 2 → hd 111 i = (L 4 i : Int)) ∧ (∀ i, i < L 0 2 → hd 114 i = (L 5 i : Int)) ∧ (∀ i, i < L 0 3 → hd 117 i = (L 6 i : Int)) ∧ (∀ i, i < L 0 3 → hd 120 i = (L 7 i : Int)) ∧ (∀ i, i < L 0 3 → hd 123 i = (L 8 i : Int)) ∧ (∀ i, i < L 0 3 → hd 126 i = (L 9 i : Int)) ∧ (∀ i, i < L 0 3 → hd 129 i = (L 10 i : Int))
theorem mL_c0 {hd : amD} {L : Lnd} (h : mL hd L) : hd 132 0 = L 0 0 := h.2.1.1
theorem mL_c1 {hd : amD} {L : Lnd} (h : mL hd L) : hd 132 1 = L 0 1 := h.2.1.2.1
theorem mL_c2 {hd : amD} {L : Lnd} (h : mL hd L) : hd 132 2 = L 0 2 := h.2.1.2.2.1
theorem mL_c3 {hd : amD} {L : Lnd} (h : mL hd L) : hd 132 3 = L 0 3 := h.2.1.2.2.2
theorem mL_z {hd : amD} {L : Lnd} (h : mL hd L) : hd 98 19 = 1 ∨ hd 98 19 = 0 ∧ L 0 0 = 0 ∧ L 0 1 = 0 ∧ L 0 2 = 0 ∧ L 0 3 = 0 := h.2.2.1
theorem mL_h {hd : amD} {L : Lnd} (h : mL hd L) : hd 98 19 = 1 → hd 132 4 = L 0 4 ∧ hd 132 5 = L 0 5 := h.2.2.2.1
theorem mL_1 {hd : amD} {L : Lnd} (h : mL hd L) {i : Nat} (hi : i < L 0 0) : hd 102 i = (L 1 i : Int) := h.2.2.2.2.1 i hi
theorem mL_2 {hd : amD} {L : Lnd} (h : mL hd L) {i : Nat} (hi : i < L 0 0) : hd 105 i = (L 2 i : Int) - 1 := h.2.2.2.2.2.1 i hi
theorem mL_3 {hd : amD} {L : Lnd} (h : mL hd L) {i : Nat} (hi : i < L 0 1) : hd 108 i = (L 3 i : Int) := h.2.2.2.2.2.2.1 i hi
theorem mL_4 {hd : amD} {L : Lnd} (h : mL hd L) {i : Nat} (hi : i < L 0 2) : hd 111 i = (L 4 i : Int) := h.2.2.2.2.2.2.2.1 i hi
theorem mL_5 {hd : amD} {L : Lnd} (h : mL hd L) {i : Nat} (hi : i < L 0 2) : hd 114 i = (L 5 i : Int) := h.2.2.2.2.2.2.2.2.1 i hi
theorem mL_6 {hd : amD} {L : Lnd} (h : mL hd L) {i : Nat} (hi : i < L 0 3) : hd 117 i = (L 6 i : Int) := h.2.2.2.2.2.2.2.2.2.1 i hi
theorem mL_7 {hd : amD} {L : Lnd} (h : mL hd L) {i : Nat} (hi : i < L 0 3) : hd 120 i = (L 7 i : Int) := h.2.2.2.2.2.2.2.2.2.2.1 i hi
theorem mL_8 {hd : amD} {L : Lnd} (h : mL hd L) {i : Nat} (hi : i < L 0 3) : hd 123 i = (L 8 i : Int) := h.2.2.2.2.2.2.2.2.2.2.2.1 i hi
theorem mL_9 {hd : amD} {L : Lnd} (h : mL hd L) {i : Nat} (hi : i < L 0 3) : hd 126 i = (L 9 i : Int) := h.2.2.2.2.2.2.2.2.2.2.2.2.1 i hi
theorem mL_10 {hd : amD} {L : Lnd} (h : mL hd L) {i : Nat} (hi : i < L 0 3) : hd 129 i = (L 10 i : Int) := h.2.2.2.2.2.2.2.2.2.2.2.2.2 i hi
section
variable {d f0 n o : Nat} {b : Bool} {L : Lnd} {Q : amQ} {hd : amD}
theorem m_people (hd9 : 1 ≤ d) (hn : 159 ≤ n) (hL : mL hd L) (h : Q (some (vI (L 0 0 : Int))) (am_R f0 b) hd n) : wpM d 238 [vR 98] Q (am_R f0 b) hd n := by
  obtain ⟨e, rfl, he⟩ := am_dep hd9
  apply en238
  simp only [trX12_people, am_In, am_lay, am_pad, wp, wpL, wpO, wpI, wpJ, wpRet, am_ild, am_ald, am_lld, am_ist, am_ast, am_lst, am_iinc, am_st1, am_st2, am_kill, am_get, am_isI, am_isL, am_isR, am_lab, am_c1, am_c2, am_cn, am_bin, am_lbin, am_un, am_div, am_ldiv, am_lsh, am_i2l, am_l2i, am_lcmpQ, am_dup, am_dup2, am_pop, am_cat, am_cats, am_alen, am_len, am_iald, am_bald, am_lald, am_aald, am_iast, am_bast, am_last, am_aast, am_getf, am_putf, am_rd, am_rty, am_rok, am_b, am_call, am_recv, am_push, am_prim, am_acopy, List.length_cons, List.length_nil, List.take, List.drop, List.reverse_cons, List.reverse_nil, List.nil_append, List.cons_append]
  have h98 : 98 < n := by omega
  have h131 : 131 < n := by omega
  have h132 : 132 < n := by omega
  simp [am_In, am_lay, am_pad, wp, wpL, wpO, wpI, wpJ, wpRet, am_ild, am_ald, am_lld, am_ist, am_ast, am_lst, am_iinc, am_st1, am_st2, am_kill, am_get, am_isI, am_isL, am_isR, am_lab, am_c1, am_c2, am_cn, am_bin, am_lbin, am_un, am_div, am_ldiv, am_lsh, am_i2l, am_l2i, am_lcmpQ, am_dup, am_dup2, am_pop, am_cat, am_cats, am_alen, am_len, am_iald, am_bald, am_lald, am_aald, am_iast, am_bast, am_last, am_aast, am_getf, am_putf, am_rd, am_rty, am_rok, am_b, am_call, am_recv, am_push, am_prim, am_acopy, List.length_cons, List.length_nil, List.take, List.drop, List.reverse_cons, List.reverse_nil, List.nil_append, List.cons_append, sh_98, R98_17, sh_131, sl_131, R131_0, sh_132, sl_132, h98, h131, h132, mL_c0 hL]
  rcases mL_z hL with h1 | ⟨h1, h2⟩
  · simp [h1, h]
  · rw [h2.1] at h
    simp [h1]
    exact h
theorem m_sorts (hd9 : 1 ≤ d) (hn : 159 ≤ n) (hL : mL hd L) (h : Q (some (vI (L 0 1 : Int))) (am_R f0 b) hd n) : wpM d 239 [vR 98] Q (am_R f0 b) hd n := by
  obtain ⟨e, rfl, he⟩ := am_dep hd9
  apply en239
  simp only [trX12_sorts, am_In, am_lay, am_pad, wp, wpL, wpO, wpI, wpJ, wpRet, am_ild, am_ald, am_lld, am_ist, am_ast, am_lst, am_iinc, am_st1, am_st2, am_kill, am_get, am_isI, am_isL, am_isR, am_lab, am_c1, am_c2, am_cn, am_bin, am_lbin, am_un, am_div, am_ldiv, am_lsh, am_i2l, am_l2i, am_lcmpQ, am_dup, am_dup2, am_pop, am_cat, am_cats, am_alen, am_len, am_iald, am_bald, am_lald, am_aald, am_iast, am_bast, am_last, am_aast, am_getf, am_putf, am_rd, am_rty, am_rok, am_b, am_call, am_recv, am_push, am_prim, am_acopy, List.length_cons, List.length_nil, List.take, List.drop, List.reverse_cons, List.reverse_nil, List.nil_append, List.cons_append]
  have h98 : 98 < n := by omega
  have h131 : 131 < n := by omega
  have h132 : 132 < n := by omega
  simp [am_In, am_lay, am_pad, wp, wpL, wpO, wpI, wpJ, wpRet, am_ild, am_ald, am_lld, am_ist, am_ast, am_lst, am_iinc, am_st1, am_st2, am_kill, am_get, am_isI, am_isL, am_isR, am_lab, am_c1, am_c2, am_cn, am_bin, am_lbin, am_un, am_div, am_ldiv, am_lsh, am_i2l, am_l2i, am_lcmpQ, am_dup, am_dup2, am_pop, am_cat, am_cats, am_alen, am_len, am_iald, am_bald, am_lald, am_aald, am_iast, am_bast, am_last, am_aast, am_getf, am_putf, am_rd, am_rty, am_rok, am_b, am_call, am_recv, am_push, am_prim, am_acopy, List.length_cons, List.length_nil, List.take, List.drop, List.reverse_cons, List.reverse_nil, List.nil_append, List.cons_append, sh_98, R98_17, sh_131, sl_131, R131_0, sh_132, sl_132, h98, h131, h132, mL_c1 hL]
  rcases mL_z hL with h1 | ⟨h1, h2⟩
  · simp [h1, h]
  · rw [h2.2.1] at h
    simp [h1]
    exact h
theorem m_things (hd9 : 1 ≤ d) (hn : 159 ≤ n) (hL : mL hd L) (h : Q (some (vI (L 0 2 : Int))) (am_R f0 b) hd n) : wpM d 240 [vR 98] Q (am_R f0 b) hd n := by
  obtain ⟨e, rfl, he⟩ := am_dep hd9
  apply en240
  simp only [trX12_things, am_In, am_lay, am_pad, wp, wpL, wpO, wpI, wpJ, wpRet, am_ild, am_ald, am_lld, am_ist, am_ast, am_lst, am_iinc, am_st1, am_st2, am_kill, am_get, am_isI, am_isL, am_isR, am_lab, am_c1, am_c2, am_cn, am_bin, am_lbin, am_un, am_div, am_ldiv, am_lsh, am_i2l, am_l2i, am_lcmpQ, am_dup, am_dup2, am_pop, am_cat, am_cats, am_alen, am_len, am_iald, am_bald, am_lald, am_aald, am_iast, am_bast, am_last, am_aast, am_getf, am_putf, am_rd, am_rty, am_rok, am_b, am_call, am_recv, am_push, am_prim, am_acopy, List.length_cons, List.length_nil, List.take, List.drop, List.reverse_cons, List.reverse_nil, List.nil_append, List.cons_append]
  have h98 : 98 < n := by omega
  have h131 : 131 < n := by omega
  have h132 : 132 < n := by omega
  simp [am_In, am_lay, am_pad, wp, wpL, wpO, wpI, wpJ, wpRet, am_ild, am_ald, am_lld, am_ist, am_ast, am_lst, am_iinc, am_st1, am_st2, am_kill, am_get, am_isI, am_isL, am_isR, am_lab, am_c1, am_c2, am_cn, am_bin, am_lbin, am_un, am_div, am_ldiv, am_lsh, am_i2l, am_l2i, am_lcmpQ, am_dup, am_dup2, am_pop, am_cat, am_cats, am_alen, am_len, am_iald, am_bald, am_lald, am_aald, am_iast, am_bast, am_last, am_aast, am_getf, am_putf, am_rd, am_rty, am_rok, am_b, am_call, am_recv, am_push, am_prim, am_acopy, List.length_cons, List.length_nil, List.take, List.drop, List.reverse_cons, List.reverse_nil, List.nil_append, List.cons_append, sh_98, R98_17, sh_131, sl_131, R131_0, sh_132, sl_132, h98, h131, h132, mL_c2 hL]
  rcases mL_z hL with h1 | ⟨h1, h2⟩
  · simp [h1, h]
  · rw [h2.2.2.1] at h
    simp [h1]
    exact h
theorem m_wants (hd9 : 1 ≤ d) (hn : 159 ≤ n) (hL : mL hd L) (h : Q (some (vI (L 0 3 : Int))) (am_R f0 b) hd n) : wpM d 241 [vR 98] Q (am_R f0 b) hd n := by
  obtain ⟨e, rfl, he⟩ := am_dep hd9
  apply en241
  simp only [trX12_wants, am_In, am_lay, am_pad, wp, wpL, wpO, wpI, wpJ, wpRet, am_ild, am_ald, am_lld, am_ist, am_ast, am_lst, am_iinc, am_st1, am_st2, am_kill, am_get, am_isI, am_isL, am_isR, am_lab, am_c1, am_c2, am_cn, am_bin, am_lbin, am_un, am_div, am_ldiv, am_lsh, am_i2l, am_l2i, am_lcmpQ, am_dup, am_dup2, am_pop, am_cat, am_cats, am_alen, am_len, am_iald, am_bald, am_lald, am_aald, am_iast, am_bast, am_last, am_aast, am_getf, am_putf, am_rd, am_rty, am_rok, am_b, am_call, am_recv, am_push, am_prim, am_acopy, List.length_cons, List.length_nil, List.take, List.drop, List.reverse_cons, List.reverse_nil, List.nil_append, List.cons_append]
  have h98 : 98 < n := by omega
  have h131 : 131 < n := by omega
  have h132 : 132 < n := by omega
  simp [am_In, am_lay, am_pad, wp, wpL, wpO, wpI, wpJ, wpRet, am_ild, am_ald, am_lld, am_ist, am_ast, am_lst, am_iinc, am_st1, am_st2, am_kill, am_get, am_isI, am_isL, am_isR, am_lab, am_c1, am_c2, am_cn, am_bin, am_lbin, am_un, am_div, am_ldiv, am_lsh, am_i2l, am_l2i, am_lcmpQ, am_dup, am_dup2, am_pop, am_cat, am_cats, am_alen, am_len, am_iald, am_bald, am_lald, am_aald, am_iast, am_bast, am_last, am_aast, am_getf, am_putf, am_rd, am_rty, am_rok, am_b, am_call, am_recv, am_push, am_prim, am_acopy, List.length_cons, List.length_nil, List.take, List.drop, List.reverse_cons, List.reverse_nil, List.nil_append, List.cons_append, sh_98, R98_17, sh_131, sl_131, R131_0, sh_132, sl_132, h98, h131, h132, mL_c3 hL]
  rcases mL_z hL with h1 | ⟨h1, h2⟩
  · simp [h1, h]
  · rw [h2.2.2.2] at h
    simp [h1]
    exact h
theorem m_isPerson {j : Int} (hd9 : 2 ≤ d) (hn : 159 ≤ n) (hL : mL hd L) (ha : 0 ≤ j ∧ j < (L 0 0 : Int) → Q (some (vI 1)) (am_R f0 b) hd n) (hb : ¬ (0 ≤ j ∧ j < (L 0 0 : Int)) → Q (some (vI 0)) (am_R f0 b) hd n) : wpM d 242 [vR 98, vI j] Q (am_R f0 b) hd n := by
  obtain ⟨e, rfl, he⟩ := am_dep hd9
  apply en242
  simp only [trX12_isPerson, am_In, am_lay, am_pad, wp, wpL, wpO, wpI, wpJ, wpRet, am_ild, am_ald, am_lld, am_ist, am_ast, am_lst, am_iinc, am_st1, am_st2, am_kill, am_get, am_isI, am_isL, am_isR, am_lab, am_c1, am_c2, am_cn, am_bin, am_lbin, am_un, am_div, am_ldiv, am_lsh, am_i2l, am_l2i, am_lcmpQ, am_dup, am_dup2, am_pop, am_cat, am_cats, am_alen, am_len, am_iald, am_bald, am_lald, am_aald, am_iast, am_bast, am_last, am_aast, am_getf, am_putf, am_rd, am_rty, am_rok, am_b, am_call, am_recv, am_push, am_prim, am_acopy, List.length_cons, List.length_nil, List.take, List.drop, List.reverse_cons, List.reverse_nil, List.nil_append, List.cons_append]
  have h98 : 98 < n := by omega
  have hk := hL.1.1
  simp [am_In, am_lay, am_pad, wp, wpL, wpO, wpI, wpJ, wpRet, am_ild, am_ald, am_lld, am_ist, am_ast, am_lst, am_iinc, am_st1, am_st2, am_kill, am_get, am_isI, am_isL, am_isR, am_lab, am_c1, am_c2, am_cn, am_bin, am_lbin, am_un, am_div, am_ldiv, am_lsh, am_i2l, am_l2i, am_lcmpQ, am_dup, am_dup2, am_pop, am_cat, am_cats, am_alen, am_len, am_iald, am_bald, am_lald, am_aald, am_iast, am_bast, am_last, am_aast, am_getf, am_putf, am_rd, am_rty, am_rok, am_b, am_call, am_recv, am_push, am_prim, am_acopy, List.length_cons, List.length_nil, List.take, List.drop, List.reverse_cons, List.reverse_nil, List.nil_append, List.cons_append, sh_98, h98]
  refine m_people (by omega) hn hL ?_
  simp [am_In, am_lay, am_pad, wp, wpL, wpO, wpI, wpJ, wpRet, am_ild, am_ald, am_lld, am_ist, am_ast, am_lst, am_iinc, am_st1, am_st2, am_kill, am_get, am_isI, am_isL, am_isR, am_lab, am_c1, am_c2, am_cn, am_bin, am_lbin, am_un, am_div, am_ldiv, am_lsh, am_i2l, am_l2i, am_lcmpQ, am_dup, am_dup2, am_pop, am_cat, am_cats, am_alen, am_len, am_iald, am_bald, am_lald, am_aald, am_iast, am_bast, am_last, am_aast, am_getf, am_putf, am_rd, am_rty, am_rok, am_b, am_call, am_recv, am_push, am_prim, am_acopy, List.length_cons, List.length_nil, List.take, List.drop, List.reverse_cons, List.reverse_nil, List.nil_append, List.cons_append, sh_98, h98]
  rw [w32_b (x := (L 0 0 : Int) - 1) (by omega) (by omega)]
  refine z_in (by omega) ?_
  unfold am_in
  by_cases h1 : 0 ≤ j ∧ j < (L 0 0 : Int)
  · rw [if_pos (by omega)]
    simp [am_In, am_lay, am_pad, wp, wpL, wpO, wpI, wpJ, wpRet, am_ild, am_ald, am_lld, am_ist, am_ast, am_lst, am_iinc, am_st1, am_st2, am_kill, am_get, am_isI, am_isL, am_isR, am_lab, am_c1, am_c2, am_cn, am_bin, am_lbin, am_un, am_div, am_ldiv, am_lsh, am_i2l, am_l2i, am_lcmpQ, am_dup, am_dup2, am_pop, am_cat, am_cats, am_alen, am_len, am_iald, am_bald, am_lald, am_aald, am_iast, am_bast, am_last, am_aast, am_getf, am_putf, am_rd, am_rty, am_rok, am_b, am_call, am_recv, am_push, am_prim, am_acopy, List.length_cons, List.length_nil, List.take, List.drop, List.reverse_cons, List.reverse_nil, List.nil_append, List.cons_append]
    exact ha h1
  · rw [if_neg (by omega)]
    simp [am_In, am_lay, am_pad, wp, wpL, wpO, wpI, wpJ, wpRet, am_ild, am_ald, am_lld, am_ist, am_ast, am_lst, am_iinc, am_st1, am_st2, am_kill, am_get, am_isI, am_isL, am_isR, am_lab, am_c1, am_c2, am_cn, am_bin, am_lbin, am_un, am_div, am_ldiv, am_lsh, am_i2l, am_l2i, am_lcmpQ, am_dup, am_dup2, am_pop, am_cat, am_cats, am_alen, am_len, am_iald, am_bald, am_lald, am_aald, am_iast, am_bast, am_last, am_aast, am_getf, am_putf, am_rd, am_rty, am_rok, am_b, am_call, am_recv, am_push, am_prim, am_acopy, List.length_cons, List.length_nil, List.take, List.drop, List.reverse_cons, List.reverse_nil, List.nil_append, List.cons_append]
    exact hb h1
theorem m_isSort {j : Int} (hd9 : 2 ≤ d) (hn : 159 ≤ n) (hL : mL hd L) (ha : 0 ≤ j ∧ j < (L 0 1 : Int) → Q (some (vI 1)) (am_R f0 b) hd n) (hb : ¬ (0 ≤ j ∧ j < (L 0 1 : Int)) → Q (some (vI 0)) (am_R f0 b) hd n) : wpM d 243 [vR 98, vI j] Q (am_R f0 b) hd n := by
  obtain ⟨e, rfl, he⟩ := am_dep hd9
  apply en243
  simp only [trX12_isSort, am_In, am_lay, am_pad, wp, wpL, wpO, wpI, wpJ, wpRet, am_ild, am_ald, am_lld, am_ist, am_ast, am_lst, am_iinc, am_st1, am_st2, am_kill, am_get, am_isI, am_isL, am_isR, am_lab, am_c1, am_c2, am_cn, am_bin, am_lbin, am_un, am_div, am_ldiv, am_lsh, am_i2l, am_l2i, am_lcmpQ, am_dup, am_dup2, am_pop, am_cat, am_cats, am_alen, am_len, am_iald, am_bald, am_lald, am_aald, am_iast, am_bast, am_last, am_aast, am_getf, am_putf, am_rd, am_rty, am_rok, am_b, am_call, am_recv, am_push, am_prim, am_acopy, List.length_cons, List.length_nil, List.take, List.drop, List.reverse_cons, List.reverse_nil, List.nil_append, List.cons_append]
  have h98 : 98 < n := by omega
  have hk := hL.1.1
  simp [am_In, am_lay, am_pad, wp, wpL, wpO, wpI, wpJ, wpRet, am_ild, am_ald, am_lld, am_ist, am_ast, am_lst, am_iinc, am_st1, am_st2, am_kill, am_get, am_isI, am_isL, am_isR, am_lab, am_c1, am_c2, am_cn, am_bin, am_lbin, am_un, am_div, am_ldiv, am_lsh, am_i2l, am_l2i, am_lcmpQ, am_dup, am_dup2, am_pop, am_cat, am_cats, am_alen, am_len, am_iald, am_bald, am_lald, am_aald, am_iast, am_bast, am_last, am_aast, am_getf, am_putf, am_rd, am_rty, am_rok, am_b, am_call, am_recv, am_push, am_prim, am_acopy, List.length_cons, List.length_nil, List.take, List.drop, List.reverse_cons, List.reverse_nil, List.nil_append, List.cons_append, sh_98, h98]
  refine m_sorts (by omega) hn hL ?_
  simp [am_In, am_lay, am_pad, wp, wpL, wpO, wpI, wpJ, wpRet, am_ild, am_ald, am_lld, am_ist, am_ast, am_lst, am_iinc, am_st1, am_st2, am_kill, am_get, am_isI, am_isL, am_isR, am_lab, am_c1, am_c2, am_cn, am_bin, am_lbin, am_un, am_div, am_ldiv, am_lsh, am_i2l, am_l2i, am_lcmpQ, am_dup, am_dup2, am_pop, am_cat, am_cats, am_alen, am_len, am_iald, am_bald, am_lald, am_aald, am_iast, am_bast, am_last, am_aast, am_getf, am_putf, am_rd, am_rty, am_rok, am_b, am_call, am_recv, am_push, am_prim, am_acopy, List.length_cons, List.length_nil, List.take, List.drop, List.reverse_cons, List.reverse_nil, List.nil_append, List.cons_append, sh_98, h98]
  rw [w32_b (x := (L 0 1 : Int) - 1) (by omega) (by omega)]
  refine z_in (by omega) ?_
  unfold am_in
  by_cases h1 : 0 ≤ j ∧ j < (L 0 1 : Int)
  · rw [if_pos (by omega)]
    simp [am_In, am_lay, am_pad, wp, wpL, wpO, wpI, wpJ, wpRet, am_ild, am_ald, am_lld, am_ist, am_ast, am_lst, am_iinc, am_st1, am_st2, am_kill, am_get, am_isI, am_isL, am_isR, am_lab, am_c1, am_c2, am_cn, am_bin, am_lbin, am_un, am_div, am_ldiv, am_lsh, am_i2l, am_l2i, am_lcmpQ, am_dup, am_dup2, am_pop, am_cat, am_cats, am_alen, am_len, am_iald, am_bald, am_lald, am_aald, am_iast, am_bast, am_last, am_aast, am_getf, am_putf, am_rd, am_rty, am_rok, am_b, am_call, am_recv, am_push, am_prim, am_acopy, List.length_cons, List.length_nil, List.take, List.drop, List.reverse_cons, List.reverse_nil, List.nil_append, List.cons_append]
    exact ha h1
  · rw [if_neg (by omega)]
    simp [am_In, am_lay, am_pad, wp, wpL, wpO, wpI, wpJ, wpRet, am_ild, am_ald, am_lld, am_ist, am_ast, am_lst, am_iinc, am_st1, am_st2, am_kill, am_get, am_isI, am_isL, am_isR, am_lab, am_c1, am_c2, am_cn, am_bin, am_lbin, am_un, am_div, am_ldiv, am_lsh, am_i2l, am_l2i, am_lcmpQ, am_dup, am_dup2, am_pop, am_cat, am_cats, am_alen, am_len, am_iald, am_bald, am_lald, am_aald, am_iast, am_bast, am_last, am_aast, am_getf, am_putf, am_rd, am_rty, am_rok, am_b, am_call, am_recv, am_push, am_prim, am_acopy, List.length_cons, List.length_nil, List.take, List.drop, List.reverse_cons, List.reverse_nil, List.nil_append, List.cons_append]
    exact hb h1
theorem m_isThing {j : Int} (hd9 : 2 ≤ d) (hn : 159 ≤ n) (hL : mL hd L) (ha : 0 ≤ j ∧ j < (L 0 2 : Int) → Q (some (vI 1)) (am_R f0 b) hd n) (hb : ¬ (0 ≤ j ∧ j < (L 0 2 : Int)) → Q (some (vI 0)) (am_R f0 b) hd n) : wpM d 244 [vR 98, vI j] Q (am_R f0 b) hd n := by
  obtain ⟨e, rfl, he⟩ := am_dep hd9
  apply en244
  simp only [trX12_isThing, am_In, am_lay, am_pad, wp, wpL, wpO, wpI, wpJ, wpRet, am_ild, am_ald, am_lld, am_ist, am_ast, am_lst, am_iinc, am_st1, am_st2, am_kill, am_get, am_isI, am_isL, am_isR, am_lab, am_c1, am_c2, am_cn, am_bin, am_lbin, am_un, am_div, am_ldiv, am_lsh, am_i2l, am_l2i, am_lcmpQ, am_dup, am_dup2, am_pop, am_cat, am_cats, am_alen, am_len, am_iald, am_bald, am_lald, am_aald, am_iast, am_bast, am_last, am_aast, am_getf, am_putf, am_rd, am_rty, am_rok, am_b, am_call, am_recv, am_push, am_prim, am_acopy, List.length_cons, List.length_nil, List.take, List.drop, List.reverse_cons, List.reverse_nil, List.nil_append, List.cons_append]
  have h98 : 98 < n := by omega
  have hk := hL.1.1
  simp [am_In, am_lay, am_pad, wp, wpL, wpO, wpI, wpJ, wpRet, am_ild, am_ald, am_lld, am_ist, am_ast, am_lst, am_iinc, am_st1, am_st2, am_kill, am_get, am_isI, am_isL, am_isR, am_lab, am_c1, am_c2, am_cn, am_bin, am_lbin, am_un, am_div, am_ldiv, am_lsh, am_i2l, am_l2i, am_lcmpQ, am_dup, am_dup2, am_pop, am_cat, am_cats, am_alen, am_len, am_iald, am_bald, am_lald, am_aald, am_iast, am_bast, am_last, am_aast, am_getf, am_putf, am_rd, am_rty, am_rok, am_b, am_call, am_recv, am_push, am_prim, am_acopy, List.length_cons, List.length_nil, List.take, List.drop, List.reverse_cons, List.reverse_nil, List.nil_append, List.cons_append, sh_98, h98]
  refine m_things (by omega) hn hL ?_
  simp [am_In, am_lay, am_pad, wp, wpL, wpO, wpI, wpJ, wpRet, am_ild, am_ald, am_lld, am_ist, am_ast, am_lst, am_iinc, am_st1, am_st2, am_kill, am_get, am_isI, am_isL, am_isR, am_lab, am_c1, am_c2, am_cn, am_bin, am_lbin, am_un, am_div, am_ldiv, am_lsh, am_i2l, am_l2i, am_lcmpQ, am_dup, am_dup2, am_pop, am_cat, am_cats, am_alen, am_len, am_iald, am_bald, am_lald, am_aald, am_iast, am_bast, am_last, am_aast, am_getf, am_putf, am_rd, am_rty, am_rok, am_b, am_call, am_recv, am_push, am_prim, am_acopy, List.length_cons, List.length_nil, List.take, List.drop, List.reverse_cons, List.reverse_nil, List.nil_append, List.cons_append, sh_98, h98]
  rw [w32_b (x := (L 0 2 : Int) - 1) (by omega) (by omega)]
  refine z_in (by omega) ?_
  unfold am_in
  by_cases h1 : 0 ≤ j ∧ j < (L 0 2 : Int)
  · rw [if_pos (by omega)]
    simp [am_In, am_lay, am_pad, wp, wpL, wpO, wpI, wpJ, wpRet, am_ild, am_ald, am_lld, am_ist, am_ast, am_lst, am_iinc, am_st1, am_st2, am_kill, am_get, am_isI, am_isL, am_isR, am_lab, am_c1, am_c2, am_cn, am_bin, am_lbin, am_un, am_div, am_ldiv, am_lsh, am_i2l, am_l2i, am_lcmpQ, am_dup, am_dup2, am_pop, am_cat, am_cats, am_alen, am_len, am_iald, am_bald, am_lald, am_aald, am_iast, am_bast, am_last, am_aast, am_getf, am_putf, am_rd, am_rty, am_rok, am_b, am_call, am_recv, am_push, am_prim, am_acopy, List.length_cons, List.length_nil, List.take, List.drop, List.reverse_cons, List.reverse_nil, List.nil_append, List.cons_append]
    exact ha h1
  · rw [if_neg (by omega)]
    simp [am_In, am_lay, am_pad, wp, wpL, wpO, wpI, wpJ, wpRet, am_ild, am_ald, am_lld, am_ist, am_ast, am_lst, am_iinc, am_st1, am_st2, am_kill, am_get, am_isI, am_isL, am_isR, am_lab, am_c1, am_c2, am_cn, am_bin, am_lbin, am_un, am_div, am_ldiv, am_lsh, am_i2l, am_l2i, am_lcmpQ, am_dup, am_dup2, am_pop, am_cat, am_cats, am_alen, am_len, am_iald, am_bald, am_lald, am_aald, am_iast, am_bast, am_last, am_aast, am_getf, am_putf, am_rd, am_rty, am_rok, am_b, am_call, am_recv, am_push, am_prim, am_acopy, List.length_cons, List.length_nil, List.take, List.drop, List.reverse_cons, List.reverse_nil, List.nil_append, List.cons_append]
    exact hb h1
theorem m_isWant {j : Int} (hd9 : 2 ≤ d) (hn : 159 ≤ n) (hL : mL hd L) (ha : 0 ≤ j ∧ j < (L 0 3 : Int) → Q (some (vI 1)) (am_R f0 b) hd n) (hb : ¬ (0 ≤ j ∧ j < (L 0 3 : Int)) → Q (some (vI 0)) (am_R f0 b) hd n) : wpM d 245 [vR 98, vI j] Q (am_R f0 b) hd n := by
  obtain ⟨e, rfl, he⟩ := am_dep hd9
  apply en245
  simp only [trX12_isWant, am_In, am_lay, am_pad, wp, wpL, wpO, wpI, wpJ, wpRet, am_ild, am_ald, am_lld, am_ist, am_ast, am_lst, am_iinc, am_st1, am_st2, am_kill, am_get, am_isI, am_isL, am_isR, am_lab, am_c1, am_c2, am_cn, am_bin, am_lbin, am_un, am_div, am_ldiv, am_lsh, am_i2l, am_l2i, am_lcmpQ, am_dup, am_dup2, am_pop, am_cat, am_cats, am_alen, am_len, am_iald, am_bald, am_lald, am_aald, am_iast, am_bast, am_last, am_aast, am_getf, am_putf, am_rd, am_rty, am_rok, am_b, am_call, am_recv, am_push, am_prim, am_acopy, List.length_cons, List.length_nil, List.take, List.drop, List.reverse_cons, List.reverse_nil, List.nil_append, List.cons_append]
  have h98 : 98 < n := by omega
  have hk := hL.1.1
  simp [am_In, am_lay, am_pad, wp, wpL, wpO, wpI, wpJ, wpRet, am_ild, am_ald, am_lld, am_ist, am_ast, am_lst, am_iinc, am_st1, am_st2, am_kill, am_get, am_isI, am_isL, am_isR, am_lab, am_c1, am_c2, am_cn, am_bin, am_lbin, am_un, am_div, am_ldiv, am_lsh, am_i2l, am_l2i, am_lcmpQ, am_dup, am_dup2, am_pop, am_cat, am_cats, am_alen, am_len, am_iald, am_bald, am_lald, am_aald, am_iast, am_bast, am_last, am_aast, am_getf, am_putf, am_rd, am_rty, am_rok, am_b, am_call, am_recv, am_push, am_prim, am_acopy, List.length_cons, List.length_nil, List.take, List.drop, List.reverse_cons, List.reverse_nil, List.nil_append, List.cons_append, sh_98, h98]
  refine m_wants (by omega) hn hL ?_
  simp [am_In, am_lay, am_pad, wp, wpL, wpO, wpI, wpJ, wpRet, am_ild, am_ald, am_lld, am_ist, am_ast, am_lst, am_iinc, am_st1, am_st2, am_kill, am_get, am_isI, am_isL, am_isR, am_lab, am_c1, am_c2, am_cn, am_bin, am_lbin, am_un, am_div, am_ldiv, am_lsh, am_i2l, am_l2i, am_lcmpQ, am_dup, am_dup2, am_pop, am_cat, am_cats, am_alen, am_len, am_iald, am_bald, am_lald, am_aald, am_iast, am_bast, am_last, am_aast, am_getf, am_putf, am_rd, am_rty, am_rok, am_b, am_call, am_recv, am_push, am_prim, am_acopy, List.length_cons, List.length_nil, List.take, List.drop, List.reverse_cons, List.reverse_nil, List.nil_append, List.cons_append, sh_98, h98]
  rw [w32_b (x := (L 0 3 : Int) - 1) (by omega) (by omega)]
  refine z_in (by omega) ?_
  unfold am_in
  by_cases h1 : 0 ≤ j ∧ j < (L 0 3 : Int)
  · rw [if_pos (by omega)]
    simp [am_In, am_lay, am_pad, wp, wpL, wpO, wpI, wpJ, wpRet, am_ild, am_ald, am_lld, am_ist, am_ast, am_lst, am_iinc, am_st1, am_st2, am_kill, am_get, am_isI, am_isL, am_isR, am_lab, am_c1, am_c2, am_cn, am_bin, am_lbin, am_un, am_div, am_ldiv, am_lsh, am_i2l, am_l2i, am_lcmpQ, am_dup, am_dup2, am_pop, am_cat, am_cats, am_alen, am_len, am_iald, am_bald, am_lald, am_aald, am_iast, am_bast, am_last, am_aast, am_getf, am_putf, am_rd, am_rty, am_rok, am_b, am_call, am_recv, am_push, am_prim, am_acopy, List.length_cons, List.length_nil, List.take, List.drop, List.reverse_cons, List.reverse_nil, List.nil_append, List.cons_append]
    exact ha h1
  · rw [if_neg (by omega)]
    simp [am_In, am_lay, am_pad, wp, wpL, wpO, wpI, wpJ, wpRet, am_ild, am_ald, am_lld, am_ist, am_ast, am_lst, am_iinc, am_st1, am_st2, am_kill, am_get, am_isI, am_isL, am_isR, am_lab, am_c1, am_c2, am_cn, am_bin, am_lbin, am_un, am_div, am_ldiv, am_lsh, am_i2l, am_l2i, am_lcmpQ, am_dup, am_dup2, am_pop, am_cat, am_cats, am_alen, am_len, am_iald, am_bald, am_lald, am_aald, am_iast, am_bast, am_last, am_aast, am_getf, am_putf, am_rd, am_rty, am_rok, am_b, am_call, am_recv, am_push, am_prim, am_acopy, List.length_cons, List.length_nil, List.take, List.drop, List.reverse_cons, List.reverse_nil, List.nil_append, List.cons_append]
    exact hb h1
theorem m_far {p p2 : Nat} (hd9 : 1 ≤ d) (hn : 159 ≤ n) (hL : mL hd L) (hp : p < L 0 0) (hq : p2 < L 0 0) (h : Q (some (vI (fFar L p p2 : Int))) (am_R f0 b) hd n) : wpM d 246 [vR 98, vI (p : Int), vI (p2 : Int)] Q (am_R f0 b) hd n := by
  obtain ⟨e, rfl, he⟩ := am_dep hd9
  apply en246
  simp only [trX12_far, am_In, am_lay, am_pad, wp, wpL, wpO, wpI, wpJ, wpRet, am_ild, am_ald, am_lld, am_ist, am_ast, am_lst, am_iinc, am_st1, am_st2, am_kill, am_get, am_isI, am_isL, am_isR, am_lab, am_c1, am_c2, am_cn, am_bin, am_lbin, am_un, am_div, am_ldiv, am_lsh, am_i2l, am_l2i, am_lcmpQ, am_dup, am_dup2, am_pop, am_cat, am_cats, am_alen, am_len, am_iald, am_bald, am_lald, am_aald, am_iast, am_bast, am_last, am_aast, am_getf, am_putf, am_rd, am_rty, am_rok, am_b, am_call, am_recv, am_push, am_prim, am_acopy, List.length_cons, List.length_nil, List.take, List.drop, List.reverse_cons, List.reverse_nil, List.nil_append, List.cons_append]
  have h98 : 98 < n := by omega
  have h101 : 101 < n := by omega
  have h102 : 102 < n := by omega
  have hk := lk_P hL.1
  have e1 := (hL.1.2.1 p hp).1
  have e2 := (hL.1.2.1 p2 hq).1
  simp [am_In, am_lay, am_pad, wp, wpL, wpO, wpI, wpJ, wpRet, am_ild, am_ald, am_lld, am_ist, am_ast, am_lst, am_iinc, am_st1, am_st2, am_kill, am_get, am_isI, am_isL, am_isR, am_lab, am_c1, am_c2, am_cn, am_bin, am_lbin, am_un, am_div, am_ldiv, am_lsh, am_i2l, am_l2i, am_lcmpQ, am_dup, am_dup2, am_pop, am_cat, am_cats, am_alen, am_len, am_iald, am_bald, am_lald, am_aald, am_iast, am_bast, am_last, am_aast, am_getf, am_putf, am_rd, am_rty, am_rok, am_b, am_call, am_recv, am_push, am_prim, am_acopy, List.length_cons, List.length_nil, List.take, List.drop, List.reverse_cons, List.reverse_nil, List.nil_append, List.cons_append, sh_98, R98_7, sh_101, sl_101, R101_0, sh_102, sl_102, h98, h101, h102, mL_1 hL hp, mL_1 hL hq]
  refine ⟨by omega, by omega, ?_⟩
  unfold fFar at h
  rw [w32_b (x := (L 1 p : Int) - (L 1 p2 : Int)) (by omega) (by omega)]
  by_cases h1 : (L 1 p2 : Int) ≤ (L 1 p : Int)
  · rw [if_pos (by omega)]
    rw [show ((L 1 p - L 1 p2 + (L 1 p2 - L 1 p) : Nat) : Int) = (L 1 p : Int) - (L 1 p2 : Int) by omega] at h
    exact h
  · rw [if_neg (by omega), w32_b (by omega) (by omega)]
    rw [show ((L 1 p - L 1 p2 + (L 1 p2 - L 1 p) : Nat) : Int) = -((L 1 p : Int) - (L 1 p2 : Int)) by omega] at h
    exact h
theorem m_worthOf {m : Nat} (hd9 : 2 ≤ d) (hn : 159 ≤ n) (hL : mL hd L) (hm : m < 2147483648) (h : Q (some (vI (fW L m : Int))) (am_R f0 b) hd n) : wpM d 264 [vR 98, vI (m : Int)] Q (am_R f0 b) hd n := by
  obtain ⟨e, rfl, he⟩ := am_dep hd9
  apply en264
  simp only [trX12_worthOf, am_In, am_lay, am_pad, wp, wpL, wpO, wpI, wpJ, wpRet, am_ild, am_ald, am_lld, am_ist, am_ast, am_lst, am_iinc, am_st1, am_st2, am_kill, am_get, am_isI, am_isL, am_isR, am_lab, am_c1, am_c2, am_cn, am_bin, am_lbin, am_un, am_div, am_ldiv, am_lsh, am_i2l, am_l2i, am_lcmpQ, am_dup, am_dup2, am_pop, am_cat, am_cats, am_alen, am_len, am_iald, am_bald, am_lald, am_aald, am_iast, am_bast, am_last, am_aast, am_getf, am_putf, am_rd, am_rty, am_rok, am_b, am_call, am_recv, am_push, am_prim, am_acopy, List.length_cons, List.length_nil, List.take, List.drop, List.reverse_cons, List.reverse_nil, List.nil_append, List.cons_append]
  have h98 : 98 < n := by omega
  have h128 : 128 < n := by omega
  have h129 : 129 < n := by omega
  have hk := lk_W hL.1
  simp [am_In, am_lay, am_pad, wp, wpL, wpO, wpI, wpJ, wpRet, am_ild, am_ald, am_lld, am_ist, am_ast, am_lst, am_iinc, am_st1, am_st2, am_kill, am_get, am_isI, am_isL, am_isR, am_lab, am_c1, am_c2, am_cn, am_bin, am_lbin, am_un, am_div, am_ldiv, am_lsh, am_i2l, am_l2i, am_lcmpQ, am_dup, am_dup2, am_pop, am_cat, am_cats, am_alen, am_len, am_iald, am_bald, am_lald, am_aald, am_iast, am_bast, am_last, am_aast, am_getf, am_putf, am_rd, am_rty, am_rok, am_b, am_call, am_recv, am_push, am_prim, am_acopy, List.length_cons, List.length_nil, List.take, List.drop, List.reverse_cons, List.reverse_nil, List.nil_append, List.cons_append, sh_98, R98_16, sh_128, sl_128, R128_0, sh_129, sl_129, h98, h128, h129]
  refine loop_inv (I := fun k ls st hr9 hd9 n9 u us => ∃ q : Nat, k = L 0 3 - q ∧ q ≤ L 0 3 ∧ ls = [vR 98, vI (m : Int), vI ((sumN q (fun w => if m.testBit w then L 10 w else 0) : Nat) : Int), vI (q : Int)] ∧ st = [] ∧ am_R f0 b = hr9 ∧ hd = hd9 ∧ n = n9 ∧ u = 0 ∧ us = 0) ?_ (L 0 3) ?_
  · intro k ls st hr' hd' n' u us hI P hP
    obtain ⟨q, rfl, hq, rfl, rfl, rfl, rfl, rfl, rfl, rfl⟩ := hI
    have hs := fWq_le (m := m) hL.1 hq
    simp [am_In, am_lay, am_pad, wp, wpL, wpO, wpI, wpJ, wpRet, am_ild, am_ald, am_lld, am_ist, am_ast, am_lst, am_iinc, am_st1, am_st2, am_kill, am_get, am_isI, am_isL, am_isR, am_lab, am_c1, am_c2, am_cn, am_bin, am_lbin, am_un, am_div, am_ldiv, am_lsh, am_i2l, am_l2i, am_lcmpQ, am_dup, am_dup2, am_pop, am_cat, am_cats, am_alen, am_len, am_iald, am_bald, am_lald, am_aald, am_iast, am_bast, am_last, am_aast, am_getf, am_putf, am_rd, am_rty, am_rok, am_b, am_call, am_recv, am_push, am_prim, am_acopy, List.length_cons, List.length_nil, List.take, List.drop, List.reverse_cons, List.reverse_nil, List.nil_append, List.cons_append, sh_98, R98_16, sh_128, sl_128, R128_0, sh_129, sl_129, h98, h128, h129]
    refine m_wants (by omega) hn hL ?_
    simp [am_In, am_lay, am_pad, wp, wpL, wpO, wpI, wpJ, wpRet, am_ild, am_ald, am_lld, am_ist, am_ast, am_lst, am_iinc, am_st1, am_st2, am_kill, am_get, am_isI, am_isL, am_isR, am_lab, am_c1, am_c2, am_cn, am_bin, am_lbin, am_un, am_div, am_ldiv, am_lsh, am_i2l, am_l2i, am_lcmpQ, am_dup, am_dup2, am_pop, am_cat, am_cats, am_alen, am_len, am_iald, am_bald, am_lald, am_aald, am_iast, am_bast, am_last, am_aast, am_getf, am_putf, am_rd, am_rty, am_rok, am_b, am_call, am_recv, am_push, am_prim, am_acopy, List.length_cons, List.length_nil, List.take, List.drop, List.reverse_cons, List.reverse_nil, List.nil_append, List.cons_append, sh_98, R98_16, sh_128, sl_128, R128_0, sh_129, sl_129, h98, h128, h129]
    refine ⟨fun hge => ?_, fun hlt => ?_⟩
    · have e9 : q = L 0 3 := by omega
      rw [e9]
      exact h
    · have hw := (hL.1.2.2.2.2.1 q (by omega)).2.2.2.2.2
      rw [bit_nat hm (by omega)]
      by_cases hb : m.testBit q = true
      · simp [hb, mL_10 hL (show q < L 0 3 by omega)]
        refine ⟨by omega, ?_⟩
        refine hP (L 0 3 - (q + 1)) (by omega) _ _ _ _ _ _ _ ⟨q + 1, rfl, by omega, ?_, rfl, rfl, rfl, rfl, rfl, rfl⟩
        rw [w32_1, w32_s (by omega), w32_n (by omega), sumN_s, if_pos hb]
      · simp [hb]
        refine hP (L 0 3 - (q + 1)) (by omega) _ _ _ _ _ _ _ ⟨q + 1, rfl, by omega, ?_, rfl, rfl, rfl, rfl, rfl, rfl⟩
        rw [w32_1, w32_s (by omega), w32_b (by omega) (by omega), sumN_s, if_neg hb]
        rfl
  · exact ⟨0, rfl, Nat.zero_le _, rfl, rfl, rfl, rfl, rfl, rfl, rfl⟩
end
