/-! days, what is held and owed, the beginning -/
/-- a day goes by for the first q things -/
def dH (H : Lnd) (q : Nat) : Lnd := fun a i => if a = 1 ∧ i < q ∧ (H 0 3).testBit i = false then pdN H i (H 0 0 + 1) (H 1 i) else if a = 0 ∧ i = 0 then H 0 0 + 1 else H a i
def fDay (L H : Lnd) (q : Nat) : Nat := sumN q (fun t => if (H 0 3).testBit t = true then 0 else fFar L (hold H t) (H 2 (10 * t + (pdN H t (H 0 0 + 1) (H 1 t) - 1))))
theorem cH_day {hd : amD} {H : Lnd} {T : Nat} (hH : cH hd 21 H T) : cH (am_up hd 21 3 ((H 0 0 + 1 : Nat) : Int)) 21 (dH H 0) T := by
  obtain ⟨h1, h2, h3, h4⟩ := hH
  refine ⟨by simp [up_at, dH], by simpa [up_at, dH] using h2, by simpa [up_at, dH] using h3, fun t ht => ?_⟩
  have e1 := h4 t ht
  refine ⟨by simpa [up_at, dH] using e1.1, fun k hk => ?_⟩
  simpa [up_at, dH] using e1.2 k (by simpa [dH] using hk)
theorem dH_skip {H : Lnd} {q : Nat} (h : (H 0 3).testBit q = true) : dH H (q + 1) = dH H q := by
  funext a i
  unfold dH
  by_cases h1 : a = 1 ∧ i < q ∧ (H 0 3).testBit i = false
  · rw [if_pos h1, if_pos ⟨h1.1, by omega, h1.2.2⟩]
  · rw [if_neg h1, if_neg]
    intro h2
    by_cases h3 : i = q
    · subst h3
      rw [h] at h2
      exact absurd h2.2.2 (by decide)
    · exact h1 ⟨h2.1, by omega, h2.2.2⟩
theorem dH_1 {H : Lnd} {q t : Nat} (h : q ≤ t) : dH H q 1 t = H 1 t := by
  unfold dH
  rw [if_neg (fun h => by omega), if_neg (fun h => by omega)]
theorem dH_0 {H : Lnd} {q : Nat} : dH H q 0 0 = H 0 0 + 1 := by
  unfold dH
  rw [if_neg (fun h => by omega), if_pos ⟨rfl, rfl⟩]
theorem dH_o {H : Lnd} {q a i : Nat} (h : 2 ≤ a) : dH H q a i = H a i := by
  unfold dH
  rw [if_neg (fun h => by omega), if_neg (fun h => by omega)]
theorem dH_l {H : Lnd} {q i : Nat} (h : 1 ≤ i) : dH H q 0 i = H 0 i := by
  unfold dH
  rw [if_neg (fun h => by omega), if_neg (fun h => by omega)]
theorem dH_step {H : Lnd} {q : Nat} (h : (H 0 3).testBit q = false) : dH H (q + 1) = upN (dH H q) 1 q (pdN (dH H q) q (dH H q 0 0) (dH H q 1 q)) := by
  rw [dH_0, dH_1 (Nat.le_refl q), pdN_congr (H' := H) (H 1 q) (fun i _ => dH_o (by decide))]
  funext a i
  rw [upN_at]
  by_cases h1 : a = 1
  · subst h1
    rw [if_pos rfl]
    by_cases h2 : i = q
    · subst h2
      rw [if_pos rfl]
      unfold dH
      rw [if_pos ⟨rfl, by omega, h⟩]
    · rw [if_neg h2]
      unfold dH
      by_cases h3 : i < q
      · simp [h3, Nat.lt_succ_of_lt h3]
      · simp [h3, show ¬ i < q + 1 by omega]
  · rw [if_neg h1]
    unfold dH
    rw [if_neg (fun h => h1 h.1), if_neg (c := a = 1 ∧ i < q ∧ (H 0 3).testBit i = false) (fun h => h1 h.1)]
section
variable {d f0 n o : Nat} {b : Bool} {L : Lnd} {Q : amQ} {hd : amD}
variable {H : Lnd} {T : Nat}
theorem dH_b (hk : Hok L H) (q : Nat) {t : Nat} (ht : t < L 0 2) : 1 ≤ dH H q 1 t ∧ dH H q 1 t ≤ 8 ∧ dH H q 1 t ≤ H 1 t := by
  have e := (hk.2 t ht).1
  have := pdN_b H t (H 0 0 + 1) (H 1 t) e.1
  unfold dH
  split
  · omega
  · rw [if_neg (fun h => by omega)]
    omega
theorem fDay_le (hL : Lok L) (hk : Hok L H) {q : Nat} (hq : q ≤ L 0 2) : fDay L H q ≤ 1188 := by
  have h1 := sumN_le (f := fun t => if (H 0 3).testBit t = true then 0 else fFar L (hold H t) (H 2 (10 * t + (pdN H t (H 0 0 + 1) (H 1 t) - 1)))) (c := 99) q (fun i hi => by
    have e := hk.2 i (by omega)
    have := pdN_b H i (H 0 0 + 1) (H 1 i) e.1.1
    show (if (H 0 3).testBit i = true then 0 else _) ≤ 99
    split
    · omega
    · exact fFar_le hL (e.2.2.2.1 _ (by omega)) (e.2.2.2.1 _ (by omega)))
  have := lk_T hL
  unfold fDay
  omega
theorem g_passDay (hd9 : 5 ≤ d) (ho : isLand o) (hn : 159 ≤ n)  (hL : cL hd o L) (hH : cH hd 21 H (L 0 2)) (hk : Hok L H) (h : ∀ hd', nowF hd hd' → hd' 21 4 = w32 (hd 21 4 + (fDay L H (L 0 2) : Int)) → hd' 21 7 = hd 21 7 → cH hd' 21 (dH H (L 0 2)) (L 0 2) → Q (some (vI (fDay L H (L 0 2) : Int))) (am_R f0 b) hd' n) : wpM d 52 [vR 21, vR o] Q (am_R f0 b) hd n := by
  obtain ⟨e, rfl, he⟩ := am_dep hd9
  apply en52
  simp only [trX3_passDay, am_In, am_lay, am_pad, am_st1, am_st2, am_kill, am_get, am_isI, am_isL, am_isR, am_cat, am_cats, am_b, fin0_4, fin1_4, fin2_4, fin3_4, List.length_cons, List.length_nil, List.take, List.drop, List.reverse_cons, List.reverse_nil, List.nil_append, List.cons_append, s_wL, s_wQ, s_wW, s_wB, s_wJ, s_wR, s_wS, s_nil, s_cons, s_oR, s_iconst, s_bipush, s_sipush, s_lconst, s_null, s_iload, s_iload_n, s_lload, s_lload_n, s_aload, s_aload_n, s_istore, s_istore_n, s_astore, s_astore_n, s_lstore, s_lstore_n, s_iinc, s_iadd, s_isub, s_imul, s_iand, s_ior, s_ixor, s_ishl, s_ishr, s_iushr, s_idiv, s_ladd, s_lsub, s_lmul, s_land, s_ldiv, s_lrem, s_lshl, s_lshr, s_lcmp, s_i2l, s_l2i, s_i2b, s_i2c, s_dup, s_dup2, s_pop, s_arraylength, s_iaload, s_baload, s_laload, s_aaload, s_iastore, s_bastore, s_lastore, s_aastore, s_oG, s_oP0, s_oP1, s_oP2, s_oP3, s_oC, s_oN, s_oA, s_oI, s_oL, s_oS, s_oX0, s_oX1, s_oX2, s_oX3, s_oX4, s_oX5, s_goto, s_ifeq, s_iceq, s_ifne, s_icne, s_iflt, s_iclt, s_ifge, s_icge, s_ifgt, s_icgt, s_ifle, s_icle, s_ifnull, s_ifnonnull, s_ireturn, s_lreturn, s_areturn, s_return, s_sw, s_sw0, s_sw1, s_push0, s_push1, s_rd0, s_rd1, s_rd2, s_rd3, s_rty0, s_rtyi, s_rtyz, s_rtyl, s_rtyo, s_rtya, s_rok, s_lab0, s_labs, s_len, s_reci, s_rec0]
  have h21 : 21 < n := by omega
  have hT := lk_T hL.1
  simp [am_In, am_lay, am_pad, am_st1, am_st2, am_kill, am_get, am_isI, am_isL, am_isR, am_cat, am_cats, am_b, fin0_4, fin1_4, fin2_4, fin3_4, List.length_cons, List.length_nil, List.take, List.drop, List.reverse_cons, List.reverse_nil, List.nil_append, List.cons_append, s_wL, s_wQ, s_wW, s_wB, s_wJ, s_wR, s_wS, s_nil, s_cons, s_oR, s_iconst, s_bipush, s_sipush, s_lconst, s_null, s_iload, s_iload_n, s_lload, s_lload_n, s_aload, s_aload_n, s_istore, s_istore_n, s_astore, s_astore_n, s_lstore, s_lstore_n, s_iinc, s_iadd, s_isub, s_imul, s_iand, s_ior, s_ixor, s_ishl, s_ishr, s_iushr, s_idiv, s_ladd, s_lsub, s_lmul, s_land, s_ldiv, s_lrem, s_lshl, s_lshr, s_lcmp, s_i2l, s_l2i, s_i2b, s_i2c, s_dup, s_dup2, s_pop, s_arraylength, s_iaload, s_baload, s_laload, s_aaload, s_iastore, s_bastore, s_lastore, s_aastore, s_oG, s_oP0, s_oP1, s_oP2, s_oP3, s_oC, s_oN, s_oA, s_oI, s_oL, s_oS, s_oX0, s_oX1, s_oX2, s_oX3, s_oX4, s_oX5, s_goto, s_ifeq, s_iceq, s_ifne, s_icne, s_iflt, s_iclt, s_ifge, s_icge, s_ifgt, s_icgt, s_ifle, s_icle, s_ifnull, s_ifnonnull, s_ireturn, s_lreturn, s_areturn, s_return, s_sw, s_sw0, s_sw1, s_push0, s_push1, s_rd0, s_rd1, s_rd2, s_rd3, s_rty0, s_rtyi, s_rtyz, s_rtyl, s_rtyo, s_rtya, s_rok, s_lab0, s_labs, s_len, s_reci, s_rec0, sh_21, h21, R21_0, R21_1, R21_2, ld_s ho, ld_n ho hn]
  rw [hH.1, w32_s (by have := hk.1.1; omega)]
  refine loop_inv (I := fun k ls st hr9 hd9 n9 u us => ∃ q : Nat, k = L 0 2 - q ∧ q ≤ L 0 2 ∧ ls = [vR 21, vR o, vI (fDay L H q : Int), vI (q : Int)] ∧ st = [] ∧ am_R f0 b = hr9 ∧ n = n9 ∧ u = 0 ∧ us = 0 ∧ nowF hd hd9 ∧ (∀ j, 4 ≤ j → hd9 21 j = hd 21 j) ∧ cH hd9 21 (dH H q) (L 0 2)) ?_ (L 0 2) ?_
  · intro k ls st hr' hd' n' u us hI P hP
    obtain ⟨q, rfl, hq, rfl, rfl, rfl, rfl, rfl, rfl, hf, hj, hH'⟩ := hI
    have hL' := cL_now ho hf hL
    have hs := fDay_le hL.1 hk hq
    simp [am_In, am_lay, am_pad, am_st1, am_st2, am_kill, am_get, am_isI, am_isL, am_isR, am_cat, am_cats, am_b, fin0_4, fin1_4, fin2_4, fin3_4, List.length_cons, List.length_nil, List.take, List.drop, List.reverse_cons, List.reverse_nil, List.nil_append, List.cons_append, s_wL, s_wQ, s_wW, s_wB, s_wJ, s_wR, s_wS, s_nil, s_cons, s_oR, s_iconst, s_bipush, s_sipush, s_lconst, s_null, s_iload, s_iload_n, s_lload, s_lload_n, s_aload, s_aload_n, s_istore, s_istore_n, s_astore, s_astore_n, s_lstore, s_lstore_n, s_iinc, s_iadd, s_isub, s_imul, s_iand, s_ior, s_ixor, s_ishl, s_ishr, s_iushr, s_idiv, s_ladd, s_lsub, s_lmul, s_land, s_ldiv, s_lrem, s_lshl, s_lshr, s_lcmp, s_i2l, s_l2i, s_i2b, s_i2c, s_dup, s_dup2, s_pop, s_arraylength, s_iaload, s_baload, s_laload, s_aaload, s_iastore, s_bastore, s_lastore, s_aastore, s_oG, s_oP0, s_oP1, s_oP2, s_oP3, s_oC, s_oN, s_oA, s_oI, s_oL, s_oS, s_oX0, s_oX1, s_oX2, s_oX3, s_oX4, s_oX5, s_goto, s_ifeq, s_iceq, s_ifne, s_icne, s_iflt, s_iclt, s_ifge, s_icge, s_ifgt, s_icgt, s_ifle, s_icle, s_ifnull, s_ifnonnull, s_ireturn, s_lreturn, s_areturn, s_return, s_sw, s_sw0, s_sw1, s_push0, s_push1, s_rd0, s_rd1, s_rd2, s_rd3, s_rty0, s_rtyi, s_rtyz, s_rtyl, s_rtyo, s_rtya, s_rok, s_lab0, s_labs, s_len, s_reci, s_rec0, sh_21, h21, R21_0, R21_1, R21_2, ld_s ho, ld_n ho hn]
    refine g_things (by omega) ho hn hL' ?_
    simp [am_In, am_lay, am_pad, am_st1, am_st2, am_kill, am_get, am_isI, am_isL, am_isR, am_cat, am_cats, am_b, fin0_4, fin1_4, fin2_4, fin3_4, List.length_cons, List.length_nil, List.take, List.drop, List.reverse_cons, List.reverse_nil, List.nil_append, List.cons_append, s_wL, s_wQ, s_wW, s_wB, s_wJ, s_wR, s_wS, s_nil, s_cons, s_oR, s_iconst, s_bipush, s_sipush, s_lconst, s_null, s_iload, s_iload_n, s_lload, s_lload_n, s_aload, s_aload_n, s_istore, s_istore_n, s_astore, s_astore_n, s_lstore, s_lstore_n, s_iinc, s_iadd, s_isub, s_imul, s_iand, s_ior, s_ixor, s_ishl, s_ishr, s_iushr, s_idiv, s_ladd, s_lsub, s_lmul, s_land, s_ldiv, s_lrem, s_lshl, s_lshr, s_lcmp, s_i2l, s_l2i, s_i2b, s_i2c, s_dup, s_dup2, s_pop, s_arraylength, s_iaload, s_baload, s_laload, s_aaload, s_iastore, s_bastore, s_lastore, s_aastore, s_oG, s_oP0, s_oP1, s_oP2, s_oP3, s_oC, s_oN, s_oA, s_oI, s_oL, s_oS, s_oX0, s_oX1, s_oX2, s_oX3, s_oX4, s_oX5, s_goto, s_ifeq, s_iceq, s_ifne, s_icne, s_iflt, s_iclt, s_ifge, s_icge, s_ifgt, s_icgt, s_ifle, s_icle, s_ifnull, s_ifnonnull, s_ireturn, s_lreturn, s_areturn, s_return, s_sw, s_sw0, s_sw1, s_push0, s_push1, s_rd0, s_rd1, s_rd2, s_rd3, s_rty0, s_rtyi, s_rtyz, s_rtyl, s_rtyo, s_rtya, s_rok, s_lab0, s_labs, s_len, s_reci, s_rec0, sh_21, h21, R21_0, R21_1, R21_2, ld_s ho, ld_n ho hn]
    refine ⟨fun hge => ?_, fun hlt => ?_⟩
    · have e9 : q = L 0 2 := by omega
      subst e9
      refine h _ (nowF_up hf (by decide)) ?_ ?_ (cH_slot (by decide) hH')
      · simp [up_at, hj 4 (by omega)]
      · simp [up_at, hj 7 (by omega)]
    · have hs1 := fDay_le hL.1 hk (q := q + 1) (by omega)
      refine g_isLost (by omega) hn hT hH' (by rw [dH_l (by decide)]; exact hk.1.2.2) (by omega) (fun h1 => ?_) (fun h1 => ?_)
      · rw [dH_l (by decide)] at h1
        simp [am_In, am_lay, am_pad, am_st1, am_st2, am_kill, am_get, am_isI, am_isL, am_isR, am_cat, am_cats, am_b, fin0_4, fin1_4, fin2_4, fin3_4, List.length_cons, List.length_nil, List.take, List.drop, List.reverse_cons, List.reverse_nil, List.nil_append, List.cons_append, s_wL, s_wQ, s_wW, s_wB, s_wJ, s_wR, s_wS, s_nil, s_cons, s_oR, s_iconst, s_bipush, s_sipush, s_lconst, s_null, s_iload, s_iload_n, s_lload, s_lload_n, s_aload, s_aload_n, s_istore, s_istore_n, s_astore, s_astore_n, s_lstore, s_lstore_n, s_iinc, s_iadd, s_isub, s_imul, s_iand, s_ior, s_ixor, s_ishl, s_ishr, s_iushr, s_idiv, s_ladd, s_lsub, s_lmul, s_land, s_ldiv, s_lrem, s_lshl, s_lshr, s_lcmp, s_i2l, s_l2i, s_i2b, s_i2c, s_dup, s_dup2, s_pop, s_arraylength, s_iaload, s_baload, s_laload, s_aaload, s_iastore, s_bastore, s_lastore, s_aastore, s_oG, s_oP0, s_oP1, s_oP2, s_oP3, s_oC, s_oN, s_oA, s_oI, s_oL, s_oS, s_oX0, s_oX1, s_oX2, s_oX3, s_oX4, s_oX5, s_goto, s_ifeq, s_iceq, s_ifne, s_icne, s_iflt, s_iclt, s_ifge, s_icge, s_ifgt, s_icgt, s_ifle, s_icle, s_ifnull, s_ifnonnull, s_ireturn, s_lreturn, s_areturn, s_return, s_sw, s_sw0, s_sw1, s_push0, s_push1, s_rd0, s_rd1, s_rd2, s_rd3, s_rty0, s_rtyi, s_rtyz, s_rtyl, s_rtyo, s_rtya, s_rok, s_lab0, s_labs, s_len, s_reci, s_rec0, sh_21, h21, R21_0, R21_1, R21_2, ld_s ho, ld_n ho hn]
        refine hP (L 0 2 - (q + 1)) (by omega) _ _ _ _ _ _ _ ⟨q + 1, rfl, by omega, ?_, rfl, rfl, rfl, rfl, rfl, hf, hj, ?_⟩
        · rw [w32_1, w32_s (by omega), w32_b (by omega) (by omega), show fDay L H (q + 1) = fDay L H q from by unfold fDay; rw [sumN_s, if_pos h1]; rfl]
        · rw [dH_skip h1]
          exact hH'
      · rw [dH_l (by decide)] at h1
        simp [am_In, am_lay, am_pad, am_st1, am_st2, am_kill, am_get, am_isI, am_isL, am_isR, am_cat, am_cats, am_b, fin0_4, fin1_4, fin2_4, fin3_4, List.length_cons, List.length_nil, List.take, List.drop, List.reverse_cons, List.reverse_nil, List.nil_append, List.cons_append, s_wL, s_wQ, s_wW, s_wB, s_wJ, s_wR, s_wS, s_nil, s_cons, s_oR, s_iconst, s_bipush, s_sipush, s_lconst, s_null, s_iload, s_iload_n, s_lload, s_lload_n, s_aload, s_aload_n, s_istore, s_istore_n, s_astore, s_astore_n, s_lstore, s_lstore_n, s_iinc, s_iadd, s_isub, s_imul, s_iand, s_ior, s_ixor, s_ishl, s_ishr, s_iushr, s_idiv, s_ladd, s_lsub, s_lmul, s_land, s_ldiv, s_lrem, s_lshl, s_lshr, s_lcmp, s_i2l, s_l2i, s_i2b, s_i2c, s_dup, s_dup2, s_pop, s_arraylength, s_iaload, s_baload, s_laload, s_aaload, s_iastore, s_bastore, s_lastore, s_aastore, s_oG, s_oP0, s_oP1, s_oP2, s_oP3, s_oC, s_oN, s_oA, s_oI, s_oL, s_oS, s_oX0, s_oX1, s_oX2, s_oX3, s_oX4, s_oX5, s_goto, s_ifeq, s_iceq, s_ifne, s_icne, s_iflt, s_iclt, s_ifge, s_icge, s_ifgt, s_icgt, s_ifle, s_icle, s_ifnull, s_ifnonnull, s_ireturn, s_lreturn, s_areturn, s_return, s_sw, s_sw0, s_sw1, s_push0, s_push1, s_rd0, s_rd1, s_rd2, s_rd3, s_rty0, s_rtyi, s_rtyz, s_rtyl, s_rtyo, s_rtya, s_rok, s_lab0, s_labs, s_len, s_reci, s_rec0, sh_21, h21, R21_0, R21_1, R21_2, ld_s ho, ld_n ho hn]
        have hqT : q < L 0 2 := by omega
        refine g_endLoans (H := dH H q) (by omega) ho hn hL' hT hH' (fun t ht => ⟨(dH_b hk q ht).1, (dH_b hk q ht).2.1⟩) hqT (fun k hk2 => by rw [dH_o (by decide)]; exact (hk.2 q hqT).2.2.2.1 k (by have := dH_b hk q hqT; omega)) (fun hd1 f1 f2 => ?_)
        rw [← dH_step (by simpa using h1)] at f2 ⊢
        simp [am_In, am_lay, am_pad, am_st1, am_st2, am_kill, am_get, am_isI, am_isL, am_isR, am_cat, am_cats, am_b, fin0_4, fin1_4, fin2_4, fin3_4, List.length_cons, List.length_nil, List.take, List.drop, List.reverse_cons, List.reverse_nil, List.nil_append, List.cons_append, s_wL, s_wQ, s_wW, s_wB, s_wJ, s_wR, s_wS, s_nil, s_cons, s_oR, s_iconst, s_bipush, s_sipush, s_lconst, s_null, s_iload, s_iload_n, s_lload, s_lload_n, s_aload, s_aload_n, s_istore, s_istore_n, s_astore, s_astore_n, s_lstore, s_lstore_n, s_iinc, s_iadd, s_isub, s_imul, s_iand, s_ior, s_ixor, s_ishl, s_ishr, s_iushr, s_idiv, s_ladd, s_lsub, s_lmul, s_land, s_ldiv, s_lrem, s_lshl, s_lshr, s_lcmp, s_i2l, s_l2i, s_i2b, s_i2c, s_dup, s_dup2, s_pop, s_arraylength, s_iaload, s_baload, s_laload, s_aaload, s_iastore, s_bastore, s_lastore, s_aastore, s_oG, s_oP0, s_oP1, s_oP2, s_oP3, s_oC, s_oN, s_oA, s_oI, s_oL, s_oS, s_oX0, s_oX1, s_oX2, s_oX3, s_oX4, s_oX5, s_goto, s_ifeq, s_iceq, s_ifne, s_icne, s_iflt, s_iclt, s_ifge, s_icge, s_ifgt, s_icgt, s_ifle, s_icle, s_ifnull, s_ifnonnull, s_ireturn, s_lreturn, s_areturn, s_return, s_sw, s_sw0, s_sw1, s_push0, s_push1, s_rd0, s_rd1, s_rd2, s_rd3, s_rty0, s_rtyi, s_rtyz, s_rtyl, s_rtyo, s_rtya, s_rok, s_lab0, s_labs, s_len, s_reci, s_rec0, sh_21, h21, R21_0, R21_1, R21_2, ld_s ho, ld_n ho hn]
        refine hP (L 0 2 - (q + 1)) (by omega) _ _ _ _ _ _ _ ⟨q + 1, rfl, by omega, ?_, rfl, rfl, rfl, rfl, rfl, ?_, ?_, f2⟩
        · have e5 : fFar L (hold (dH H q) q) (hold (dH H (q + 1)) q) = fFar L (hold H q) (H 2 (10 * q + (pdN H q (H 0 0 + 1) (H 1 q) - 1))) := by
            have e6 : dH H (q + 1) 1 q = pdN H q (H 0 0 + 1) (H 1 q) := by
              unfold dH
              rw [if_pos ⟨rfl, by omega, by simpa using h1⟩]
            unfold hold
            rw [dH_1 (Nat.le_refl q), e6, dH_o (a := 2) (by decide), dH_o (a := 2) (by decide)]
          have e7 : fDay L H (q + 1) = fDay L H q + fFar L (hold H q) (H 2 (10 * q + (pdN H q (H 0 0 + 1) (H 1 q) - 1))) := by
            unfold fDay
            rw [sumN_s, if_neg h1]
          rw [w32_1, w32_s (by omega), e5, w32_n (by omega), e7]
        · intro i hi
          rw [f1 i (by omega), hf i hi]
        · intro j h4
          rw [f1 21 (by decide), hj j h4]
  · exact ⟨0, rfl, Nat.zero_le _, rfl, rfl, rfl, rfl, rfl, rfl, nowF_up (nowF_r hd) (by decide), fun j h4 => by rw [up_at, if_pos rfl, if_neg (by omega)], cH_day hH⟩
/-- how many of the things a person holds -/
def fHeld (L H : Lnd) (p : Nat) : Nat := sumN (L 0 2) (fun t => if (H 0 3).testBit t = false ∧ hold H t = p then 1 else 0)
theorem g_heldBy {p : Nat} (hd9 : 4 ≤ d) (ho : isLand o) (hn : 159 ≤ n)  (hL : cL hd o L) (hH : cH hd 21 H (L 0 2)) (hk : Hok L H) (h : Q (some (vI (fHeld L H p : Int))) (am_R f0 b) hd n) : wpM d 46 [vR 21, vR o, vI (p : Int)] Q (am_R f0 b) hd n := by
  obtain ⟨e, rfl, he⟩ := am_dep hd9
  apply en46
  simp only [trX3_heldBy, am_In, am_lay, am_pad, am_st1, am_st2, am_kill, am_get, am_isI, am_isL, am_isR, am_cat, am_cats, am_b, fin0_4, fin1_4, fin2_4, fin3_4, List.length_cons, List.length_nil, List.take, List.drop, List.reverse_cons, List.reverse_nil, List.nil_append, List.cons_append, s_wL, s_wQ, s_wW, s_wB, s_wJ, s_wR, s_wS, s_nil, s_cons, s_oR, s_iconst, s_bipush, s_sipush, s_lconst, s_null, s_iload, s_iload_n, s_lload, s_lload_n, s_aload, s_aload_n, s_istore, s_istore_n, s_astore, s_astore_n, s_lstore, s_lstore_n, s_iinc, s_iadd, s_isub, s_imul, s_iand, s_ior, s_ixor, s_ishl, s_ishr, s_iushr, s_idiv, s_ladd, s_lsub, s_lmul, s_land, s_ldiv, s_lrem, s_lshl, s_lshr, s_lcmp, s_i2l, s_l2i, s_i2b, s_i2c, s_dup, s_dup2, s_pop, s_arraylength, s_iaload, s_baload, s_laload, s_aaload, s_iastore, s_bastore, s_lastore, s_aastore, s_oG, s_oP0, s_oP1, s_oP2, s_oP3, s_oC, s_oN, s_oA, s_oI, s_oL, s_oS, s_oX0, s_oX1, s_oX2, s_oX3, s_oX4, s_oX5, s_goto, s_ifeq, s_iceq, s_ifne, s_icne, s_iflt, s_iclt, s_ifge, s_icge, s_ifgt, s_icgt, s_ifle, s_icle, s_ifnull, s_ifnonnull, s_ireturn, s_lreturn, s_areturn, s_return, s_sw, s_sw0, s_sw1, s_push0, s_push1, s_rd0, s_rd1, s_rd2, s_rd3, s_rty0, s_rtyi, s_rtyz, s_rtyl, s_rtyo, s_rtya, s_rok, s_lab0, s_labs, s_len, s_reci, s_rec0]
  have h21 : 21 < n := by omega
  have hT := lk_T hL.1
  simp [am_In, am_lay, am_pad, am_st1, am_st2, am_kill, am_get, am_isI, am_isL, am_isR, am_cat, am_cats, am_b, fin0_4, fin1_4, fin2_4, fin3_4, List.length_cons, List.length_nil, List.take, List.drop, List.reverse_cons, List.reverse_nil, List.nil_append, List.cons_append, s_wL, s_wQ, s_wW, s_wB, s_wJ, s_wR, s_wS, s_nil, s_cons, s_oR, s_iconst, s_bipush, s_sipush, s_lconst, s_null, s_iload, s_iload_n, s_lload, s_lload_n, s_aload, s_aload_n, s_istore, s_istore_n, s_astore, s_astore_n, s_lstore, s_lstore_n, s_iinc, s_iadd, s_isub, s_imul, s_iand, s_ior, s_ixor, s_ishl, s_ishr, s_iushr, s_idiv, s_ladd, s_lsub, s_lmul, s_land, s_ldiv, s_lrem, s_lshl, s_lshr, s_lcmp, s_i2l, s_l2i, s_i2b, s_i2c, s_dup, s_dup2, s_pop, s_arraylength, s_iaload, s_baload, s_laload, s_aaload, s_iastore, s_bastore, s_lastore, s_aastore, s_oG, s_oP0, s_oP1, s_oP2, s_oP3, s_oC, s_oN, s_oA, s_oI, s_oL, s_oS, s_oX0, s_oX1, s_oX2, s_oX3, s_oX4, s_oX5, s_goto, s_ifeq, s_iceq, s_ifne, s_icne, s_iflt, s_iclt, s_ifge, s_icge, s_ifgt, s_icgt, s_ifle, s_icle, s_ifnull, s_ifnonnull, s_ireturn, s_lreturn, s_areturn, s_return, s_sw, s_sw0, s_sw1, s_push0, s_push1, s_rd0, s_rd1, s_rd2, s_rd3, s_rty0, s_rtyi, s_rtyz, s_rtyl, s_rtyo, s_rtya, s_rok, s_lab0, s_labs, s_len, s_reci, s_rec0, sh_21, h21, R21_0, R21_1, R21_2, ld_s ho, ld_n ho hn]
  refine loop_inv (I := fun k ls st hr9 hd9 n9 u us => ∃ q : Nat, k = L 0 2 - q ∧ q ≤ L 0 2 ∧ ls = [vR 21, vR o, vI (p : Int), vI ((sumN q (fun t => if (H 0 3).testBit t = false ∧ hold H t = p then 1 else 0) : Nat) : Int), vI (q : Int)] ∧ st = [] ∧ am_R f0 b = hr9 ∧ hd = hd9 ∧ n = n9 ∧ u = 0 ∧ us = 0) ?_ (L 0 2) ?_
  · intro k ls st hr' hd' n' u us hI P hP
    obtain ⟨q, rfl, hq, rfl, rfl, rfl, rfl, rfl, rfl, rfl⟩ := hI
    have hs := sumN_1 (k := q) (f := (fun t => if (H 0 3).testBit t = false ∧ hold H t = p then 1 else 0)) (fun i => by (try dsimp only); split <;> omega)
    simp [am_In, am_lay, am_pad, am_st1, am_st2, am_kill, am_get, am_isI, am_isL, am_isR, am_cat, am_cats, am_b, fin0_4, fin1_4, fin2_4, fin3_4, List.length_cons, List.length_nil, List.take, List.drop, List.reverse_cons, List.reverse_nil, List.nil_append, List.cons_append, s_wL, s_wQ, s_wW, s_wB, s_wJ, s_wR, s_wS, s_nil, s_cons, s_oR, s_iconst, s_bipush, s_sipush, s_lconst, s_null, s_iload, s_iload_n, s_lload, s_lload_n, s_aload, s_aload_n, s_istore, s_istore_n, s_astore, s_astore_n, s_lstore, s_lstore_n, s_iinc, s_iadd, s_isub, s_imul, s_iand, s_ior, s_ixor, s_ishl, s_ishr, s_iushr, s_idiv, s_ladd, s_lsub, s_lmul, s_land, s_ldiv, s_lrem, s_lshl, s_lshr, s_lcmp, s_i2l, s_l2i, s_i2b, s_i2c, s_dup, s_dup2, s_pop, s_arraylength, s_iaload, s_baload, s_laload, s_aaload, s_iastore, s_bastore, s_lastore, s_aastore, s_oG, s_oP0, s_oP1, s_oP2, s_oP3, s_oC, s_oN, s_oA, s_oI, s_oL, s_oS, s_oX0, s_oX1, s_oX2, s_oX3, s_oX4, s_oX5, s_goto, s_ifeq, s_iceq, s_ifne, s_icne, s_iflt, s_iclt, s_ifge, s_icge, s_ifgt, s_icgt, s_ifle, s_icle, s_ifnull, s_ifnonnull, s_ireturn, s_lreturn, s_areturn, s_return, s_sw, s_sw0, s_sw1, s_push0, s_push1, s_rd0, s_rd1, s_rd2, s_rd3, s_rty0, s_rtyi, s_rtyz, s_rtyl, s_rtyo, s_rtya, s_rok, s_lab0, s_labs, s_len, s_reci, s_rec0, sh_21, h21, R21_0, R21_1, R21_2, ld_s ho, ld_n ho hn]
    refine g_things (by omega) ho hn hL ?_
    simp [am_In, am_lay, am_pad, am_st1, am_st2, am_kill, am_get, am_isI, am_isL, am_isR, am_cat, am_cats, am_b, fin0_4, fin1_4, fin2_4, fin3_4, List.length_cons, List.length_nil, List.take, List.drop, List.reverse_cons, List.reverse_nil, List.nil_append, List.cons_append, s_wL, s_wQ, s_wW, s_wB, s_wJ, s_wR, s_wS, s_nil, s_cons, s_oR, s_iconst, s_bipush, s_sipush, s_lconst, s_null, s_iload, s_iload_n, s_lload, s_lload_n, s_aload, s_aload_n, s_istore, s_istore_n, s_astore, s_astore_n, s_lstore, s_lstore_n, s_iinc, s_iadd, s_isub, s_imul, s_iand, s_ior, s_ixor, s_ishl, s_ishr, s_iushr, s_idiv, s_ladd, s_lsub, s_lmul, s_land, s_ldiv, s_lrem, s_lshl, s_lshr, s_lcmp, s_i2l, s_l2i, s_i2b, s_i2c, s_dup, s_dup2, s_pop, s_arraylength, s_iaload, s_baload, s_laload, s_aaload, s_iastore, s_bastore, s_lastore, s_aastore, s_oG, s_oP0, s_oP1, s_oP2, s_oP3, s_oC, s_oN, s_oA, s_oI, s_oL, s_oS, s_oX0, s_oX1, s_oX2, s_oX3, s_oX4, s_oX5, s_goto, s_ifeq, s_iceq, s_ifne, s_icne, s_iflt, s_iclt, s_ifge, s_icge, s_ifgt, s_icgt, s_ifle, s_icle, s_ifnull, s_ifnonnull, s_ireturn, s_lreturn, s_areturn, s_return, s_sw, s_sw0, s_sw1, s_push0, s_push1, s_rd0, s_rd1, s_rd2, s_rd3, s_rty0, s_rtyi, s_rtyz, s_rtyl, s_rtyo, s_rtya, s_rok, s_lab0, s_labs, s_len, s_reci, s_rec0, sh_21, h21, R21_0, R21_1, R21_2, ld_s ho, ld_n ho hn]
    refine ⟨fun hge => ?_, fun hlt => ?_⟩
    · have e9 : q = L 0 2 := by omega
      subst e9
      exact h
    · have hqT : q < L 0 2 := by omega
      refine g_isLost (by omega) hn hT hH hk.1.2.2 hqT (fun h1 => ?_) (fun h1 => ?_)
      · simp [am_In, am_lay, am_pad, am_st1, am_st2, am_kill, am_get, am_isI, am_isL, am_isR, am_cat, am_cats, am_b, fin0_4, fin1_4, fin2_4, fin3_4, List.length_cons, List.length_nil, List.take, List.drop, List.reverse_cons, List.reverse_nil, List.nil_append, List.cons_append, s_wL, s_wQ, s_wW, s_wB, s_wJ, s_wR, s_wS, s_nil, s_cons, s_oR, s_iconst, s_bipush, s_sipush, s_lconst, s_null, s_iload, s_iload_n, s_lload, s_lload_n, s_aload, s_aload_n, s_istore, s_istore_n, s_astore, s_astore_n, s_lstore, s_lstore_n, s_iinc, s_iadd, s_isub, s_imul, s_iand, s_ior, s_ixor, s_ishl, s_ishr, s_iushr, s_idiv, s_ladd, s_lsub, s_lmul, s_land, s_ldiv, s_lrem, s_lshl, s_lshr, s_lcmp, s_i2l, s_l2i, s_i2b, s_i2c, s_dup, s_dup2, s_pop, s_arraylength, s_iaload, s_baload, s_laload, s_aaload, s_iastore, s_bastore, s_lastore, s_aastore, s_oG, s_oP0, s_oP1, s_oP2, s_oP3, s_oC, s_oN, s_oA, s_oI, s_oL, s_oS, s_oX0, s_oX1, s_oX2, s_oX3, s_oX4, s_oX5, s_goto, s_ifeq, s_iceq, s_ifne, s_icne, s_iflt, s_iclt, s_ifge, s_icge, s_ifgt, s_icgt, s_ifle, s_icle, s_ifnull, s_ifnonnull, s_ireturn, s_lreturn, s_areturn, s_return, s_sw, s_sw0, s_sw1, s_push0, s_push1, s_rd0, s_rd1, s_rd2, s_rd3, s_rty0, s_rtyi, s_rtyz, s_rtyl, s_rtyo, s_rtya, s_rok, s_lab0, s_labs, s_len, s_reci, s_rec0, sh_21, h21, R21_0, R21_1, R21_2, ld_s ho, ld_n ho hn]
        refine hP (L 0 2 - (q + 1)) (by omega) _ _ _ _ _ _ _ ⟨q + 1, rfl, by omega, ?_, rfl, rfl, rfl, rfl, rfl, rfl⟩
        rw [w32_1, w32_s (by omega), w32_b (by omega) (by omega), sumN_s, if_neg (fun h3 => by rw [h1] at h3; exact absurd h3.1 (by decide))]
        rfl
      · simp [am_In, am_lay, am_pad, am_st1, am_st2, am_kill, am_get, am_isI, am_isL, am_isR, am_cat, am_cats, am_b, fin0_4, fin1_4, fin2_4, fin3_4, List.length_cons, List.length_nil, List.take, List.drop, List.reverse_cons, List.reverse_nil, List.nil_append, List.cons_append, s_wL, s_wQ, s_wW, s_wB, s_wJ, s_wR, s_wS, s_nil, s_cons, s_oR, s_iconst, s_bipush, s_sipush, s_lconst, s_null, s_iload, s_iload_n, s_lload, s_lload_n, s_aload, s_aload_n, s_istore, s_istore_n, s_astore, s_astore_n, s_lstore, s_lstore_n, s_iinc, s_iadd, s_isub, s_imul, s_iand, s_ior, s_ixor, s_ishl, s_ishr, s_iushr, s_idiv, s_ladd, s_lsub, s_lmul, s_land, s_ldiv, s_lrem, s_lshl, s_lshr, s_lcmp, s_i2l, s_l2i, s_i2b, s_i2c, s_dup, s_dup2, s_pop, s_arraylength, s_iaload, s_baload, s_laload, s_aaload, s_iastore, s_bastore, s_lastore, s_aastore, s_oG, s_oP0, s_oP1, s_oP2, s_oP3, s_oC, s_oN, s_oA, s_oI, s_oL, s_oS, s_oX0, s_oX1, s_oX2, s_oX3, s_oX4, s_oX5, s_goto, s_ifeq, s_iceq, s_ifne, s_icne, s_iflt, s_iclt, s_ifge, s_icge, s_ifgt, s_icgt, s_ifle, s_icle, s_ifnull, s_ifnonnull, s_ireturn, s_lreturn, s_areturn, s_return, s_sw, s_sw0, s_sw1, s_push0, s_push1, s_rd0, s_rd1, s_rd2, s_rd3, s_rty0, s_rtyi, s_rtyz, s_rtyl, s_rtyo, s_rtya, s_rok, s_lab0, s_labs, s_len, s_reci, s_rec0, sh_21, h21, R21_0, R21_1, R21_2, ld_s ho, ld_n ho hn]
        refine g_holderOf (by omega) hn hT hH hqT (hk.2 q hqT).1.1 (hk.2 q hqT).1.2 ?_
        simp [am_In, am_lay, am_pad, am_st1, am_st2, am_kill, am_get, am_isI, am_isL, am_isR, am_cat, am_cats, am_b, fin0_4, fin1_4, fin2_4, fin3_4, List.length_cons, List.length_nil, List.take, List.drop, List.reverse_cons, List.reverse_nil, List.nil_append, List.cons_append, s_wL, s_wQ, s_wW, s_wB, s_wJ, s_wR, s_wS, s_nil, s_cons, s_oR, s_iconst, s_bipush, s_sipush, s_lconst, s_null, s_iload, s_iload_n, s_lload, s_lload_n, s_aload, s_aload_n, s_istore, s_istore_n, s_astore, s_astore_n, s_lstore, s_lstore_n, s_iinc, s_iadd, s_isub, s_imul, s_iand, s_ior, s_ixor, s_ishl, s_ishr, s_iushr, s_idiv, s_ladd, s_lsub, s_lmul, s_land, s_ldiv, s_lrem, s_lshl, s_lshr, s_lcmp, s_i2l, s_l2i, s_i2b, s_i2c, s_dup, s_dup2, s_pop, s_arraylength, s_iaload, s_baload, s_laload, s_aaload, s_iastore, s_bastore, s_lastore, s_aastore, s_oG, s_oP0, s_oP1, s_oP2, s_oP3, s_oC, s_oN, s_oA, s_oI, s_oL, s_oS, s_oX0, s_oX1, s_oX2, s_oX3, s_oX4, s_oX5, s_goto, s_ifeq, s_iceq, s_ifne, s_icne, s_iflt, s_iclt, s_ifge, s_icge, s_ifgt, s_icgt, s_ifle, s_icle, s_ifnull, s_ifnonnull, s_ireturn, s_lreturn, s_areturn, s_return, s_sw, s_sw0, s_sw1, s_push0, s_push1, s_rd0, s_rd1, s_rd2, s_rd3, s_rty0, s_rtyi, s_rtyz, s_rtyl, s_rtyo, s_rtya, s_rok, s_lab0, s_labs, s_len, s_reci, s_rec0, sh_21, h21, R21_0, R21_1, R21_2, ld_s ho, ld_n ho hn]
        refine ⟨fun h2 => ?_, fun h2 => ?_⟩
        · refine hP (L 0 2 - (q + 1)) (by omega) _ _ _ _ _ _ _ ⟨q + 1, rfl, by omega, ?_, rfl, rfl, rfl, rfl, rfl, rfl⟩
          rw [w32_1, w32_s (by omega), w32_b (by omega) (by omega), sumN_s, if_neg (fun h3 => h2 (by omega))]
          rfl
        · refine hP (L 0 2 - (q + 1)) (by omega) _ _ _ _ _ _ _ ⟨q + 1, rfl, by omega, ?_, rfl, rfl, rfl, rfl, rfl, rfl⟩
          rw [w32_1, w32_s (by omega), w32_s (by omega), sumN_s, if_pos ⟨by simpa using h1, by omega⟩]
  · exact ⟨0, rfl, Nat.zero_le _, rfl, rfl, rfl, rfl, rfl, rfl, rfl⟩
/-- whether (1 or 0) a person owes another for a thing -/
def fOw (H : Lnd) (t p p2 : Nat) : Nat := if H 0 2 = 1 then (if 1 < H 1 t ∧ hold H t = p ∧ H 2 (10 * t) = p2 then 1 else 0) else sumN (H 1 t) (fun k => if 1 ≤ k ∧ H 2 (10 * t + k) = p ∧ H 2 (10 * t + (k - 1)) = p2 then 1 else 0)
def fDebt (L H : Lnd) (p p2 : Nat) : Nat := sumN (L 0 2) (fun t => if (H 0 3).testBit t = true then fOw H t p p2 * L 3 (L 4 t) else 0)
theorem sumN_pos {f : Nat → Nat} : ∀ k : Nat, sumN k f ≠ 0 → ∃ i, i < k ∧ f i ≠ 0
  | 0, h => absurd rfl h
  | k + 1, h => by
    by_cases h1 : f k = 0
    · rw [sumN_s, h1] at h
      obtain ⟨i, hi, h2⟩ := sumN_pos k h
      exact ⟨i, by omega, h2⟩
    · exact ⟨k, by omega, h1⟩
theorem sumN_ge {f : Nat → Nat} {i : Nat} : ∀ k : Nat, i < k → f i ≤ sumN k f
  | 0, h => absurd h (Nat.not_lt_zero i)
  | k + 1, h => by
    rw [sumN_s]
    by_cases h1 : i = k
    · subst h1
      omega
    · have := sumN_ge (f := f) k (show i < k by omega)
      omega
theorem sumN_one {f : Nat → Nat} (h1 : ∀ i, f i ≤ 1) : ∀ k : Nat, (∀ i j, i < j → j < k → f i ≠ 0 → f j ≠ 0 → False) → sumN k f ≤ 1
  | 0, _ => by simp [sumN]
  | k + 1, h => by
    have ih := sumN_one h1 k (fun i j a c => h i j a (by omega))
    rw [sumN_s]
    by_cases h2 : f k = 0
    · omega
    · by_cases h3 : sumN k f = 0
      · have := h1 k
        omega
      · obtain ⟨i, hi, h4⟩ := sumN_pos k h3
        exact (h i k hi (by omega) h4 h2).elim
theorem fOw_le (hk : Hok L H) {t p p2 : Nat} (ht : t < L 0 2) : fOw H t p p2 ≤ 1 := by
  unfold fOw
  split
  · split <;> omega
  · refine sumN_one (fun i => by split <;> omega) _ (fun i j hij hj h1 h2 => ?_)
    have e1 : 1 ≤ i ∧ H 2 (10 * t + i) = p ∧ H 2 (10 * t + (i - 1)) = p2 := by
      by_cases h9 : 1 ≤ i ∧ H 2 (10 * t + i) = p ∧ H 2 (10 * t + (i - 1)) = p2
      · exact h9
      · rw [if_neg h9] at h1; exact absurd rfl h1
    have e2 : 1 ≤ j ∧ H 2 (10 * t + j) = p ∧ H 2 (10 * t + (j - 1)) = p2 := by
      by_cases h9 : 1 ≤ j ∧ H 2 (10 * t + j) = p ∧ H 2 (10 * t + (j - 1)) = p2
      · exact h9
      · rw [if_neg h9] at h2; exact absurd rfl h2
    exact (hk.2 t ht).2.2.2.2.2 i j hij hj (by omega)
theorem fDebt_le (hL : Lok L) (hk : Hok L H) {p p2 q : Nat} (hq : q ≤ L 0 2) : sumN q (fun t => if (H 0 3).testBit t = true then fOw H t p p2 * L 3 (L 4 t) else 0) ≤ 1188 := by
  have h1 := sumN_le (f := fun t => if (H 0 3).testBit t = true then fOw H t p p2 * L 3 (L 4 t) else 0) (c := 99) q (fun i hi => by
    have e1 := fOw_le hk (p := p) (p2 := p2) (show i < L 0 2 by omega)
    have e2 := (hL.2.2.1 (L 4 i) (hL.2.2.2.1 i (by omega)).1).2
    show (if (H 0 3).testBit i = true then _ else 0) ≤ 99
    split
    · exact Nat.le_trans (Nat.mul_le_mul e1 e2) (by decide)
    · omega)
  have := lk_T hL
  omega
theorem g_owesFor {t p p2 : Nat} (hd9 : 4 ≤ d) (hn : 159 ≤ n) (hT : T ≤ 12) (hH : cH hd 21 H T) (h8 : ∀ t, t < T → 1 ≤ H 1 t ∧ H 1 t ≤ 8) (ht : t < T) (hlw : H 0 2 ≤ 1) (ha : fOw H t p p2 ≠ 0 → Q (some (vI 1)) (am_R f0 b) hd n) (hb : fOw H t p p2 = 0 → Q (some (vI 0)) (am_R f0 b) hd n) : wpM d 55 [vR 21, vI (t : Int), vI (p : Int), vI (p2 : Int)] Q (am_R f0 b) hd n := by
  obtain ⟨e, rfl, he⟩ := am_dep hd9
  apply en55
  simp only [trX3_owesFor, am_In, am_lay, am_pad, am_st1, am_st2, am_kill, am_get, am_isI, am_isL, am_isR, am_cat, am_cats, am_b, fin0_4, fin1_4, fin2_4, fin3_4, List.length_cons, List.length_nil, List.take, List.drop, List.reverse_cons, List.reverse_nil, List.nil_append, List.cons_append, s_wL, s_wQ, s_wW, s_wB, s_wJ, s_wR, s_wS, s_nil, s_cons, s_oR, s_iconst, s_bipush, s_sipush, s_lconst, s_null, s_iload, s_iload_n, s_lload, s_lload_n, s_aload, s_aload_n, s_istore, s_istore_n, s_astore, s_astore_n, s_lstore, s_lstore_n, s_iinc, s_iadd, s_isub, s_imul, s_iand, s_ior, s_ixor, s_ishl, s_ishr, s_iushr, s_idiv, s_ladd, s_lsub, s_lmul, s_land, s_ldiv, s_lrem, s_lshl, s_lshr, s_lcmp, s_i2l, s_l2i, s_i2b, s_i2c, s_dup, s_dup2, s_pop, s_arraylength, s_iaload, s_baload, s_laload, s_aaload, s_iastore, s_bastore, s_lastore, s_aastore, s_oG, s_oP0, s_oP1, s_oP2, s_oP3, s_oC, s_oN, s_oA, s_oI, s_oL, s_oS, s_oX0, s_oX1, s_oX2, s_oX3, s_oX4, s_oX5, s_goto, s_ifeq, s_iceq, s_ifne, s_icne, s_iflt, s_iclt, s_ifge, s_icge, s_ifgt, s_icgt, s_ifle, s_icle, s_ifnull, s_ifnonnull, s_ireturn, s_lreturn, s_areturn, s_return, s_sw, s_sw0, s_sw1, s_push0, s_push1, s_rd0, s_rd1, s_rd2, s_rd3, s_rty0, s_rtyi, s_rtyz, s_rtyl, s_rtyo, s_rtya, s_rok, s_lab0, s_labs, s_len, s_reci, s_rec0]
  have h21 : 21 < n := by omega
  have e8 := h8 t ht
  simp [am_In, am_lay, am_pad, am_st1, am_st2, am_kill, am_get, am_isI, am_isL, am_isR, am_cat, am_cats, am_b, fin0_4, fin1_4, fin2_4, fin3_4, List.length_cons, List.length_nil, List.take, List.drop, List.reverse_cons, List.reverse_nil, List.nil_append, List.cons_append, s_wL, s_wQ, s_wW, s_wB, s_wJ, s_wR, s_wS, s_nil, s_cons, s_oR, s_iconst, s_bipush, s_sipush, s_lconst, s_null, s_iload, s_iload_n, s_lload, s_lload_n, s_aload, s_aload_n, s_istore, s_istore_n, s_astore, s_astore_n, s_lstore, s_lstore_n, s_iinc, s_iadd, s_isub, s_imul, s_iand, s_ior, s_ixor, s_ishl, s_ishr, s_iushr, s_idiv, s_ladd, s_lsub, s_lmul, s_land, s_ldiv, s_lrem, s_lshl, s_lshr, s_lcmp, s_i2l, s_l2i, s_i2b, s_i2c, s_dup, s_dup2, s_pop, s_arraylength, s_iaload, s_baload, s_laload, s_aaload, s_iastore, s_bastore, s_lastore, s_aastore, s_oG, s_oP0, s_oP1, s_oP2, s_oP3, s_oC, s_oN, s_oA, s_oI, s_oL, s_oS, s_oX0, s_oX1, s_oX2, s_oX3, s_oX4, s_oX5, s_goto, s_ifeq, s_iceq, s_ifne, s_icne, s_iflt, s_iclt, s_ifge, s_icge, s_ifgt, s_icgt, s_ifle, s_icle, s_ifnull, s_ifnonnull, s_ireturn, s_lreturn, s_areturn, s_return, s_sw, s_sw0, s_sw1, s_push0, s_push1, s_rd0, s_rd1, s_rd2, s_rd3, s_rty0, s_rtyi, s_rtyz, s_rtyl, s_rtyo, s_rtya, s_rok, s_lab0, s_labs, s_len, s_reci, s_rec0, sh_21, h21, R21_0, R21_1, R21_2]
  refine g_depthOf (by omega) hn hT hH ht ?_
  simp [am_In, am_lay, am_pad, am_st1, am_st2, am_kill, am_get, am_isI, am_isL, am_isR, am_cat, am_cats, am_b, fin0_4, fin1_4, fin2_4, fin3_4, List.length_cons, List.length_nil, List.take, List.drop, List.reverse_cons, List.reverse_nil, List.nil_append, List.cons_append, s_wL, s_wQ, s_wW, s_wB, s_wJ, s_wR, s_wS, s_nil, s_cons, s_oR, s_iconst, s_bipush, s_sipush, s_lconst, s_null, s_iload, s_iload_n, s_lload, s_lload_n, s_aload, s_aload_n, s_istore, s_istore_n, s_astore, s_astore_n, s_lstore, s_lstore_n, s_iinc, s_iadd, s_isub, s_imul, s_iand, s_ior, s_ixor, s_ishl, s_ishr, s_iushr, s_idiv, s_ladd, s_lsub, s_lmul, s_land, s_ldiv, s_lrem, s_lshl, s_lshr, s_lcmp, s_i2l, s_l2i, s_i2b, s_i2c, s_dup, s_dup2, s_pop, s_arraylength, s_iaload, s_baload, s_laload, s_aaload, s_iastore, s_bastore, s_lastore, s_aastore, s_oG, s_oP0, s_oP1, s_oP2, s_oP3, s_oC, s_oN, s_oA, s_oI, s_oL, s_oS, s_oX0, s_oX1, s_oX2, s_oX3, s_oX4, s_oX5, s_goto, s_ifeq, s_iceq, s_ifne, s_icne, s_iflt, s_iclt, s_ifge, s_icge, s_ifgt, s_icgt, s_ifle, s_icle, s_ifnull, s_ifnonnull, s_ireturn, s_lreturn, s_areturn, s_return, s_sw, s_sw0, s_sw1, s_push0, s_push1, s_rd0, s_rd1, s_rd2, s_rd3, s_rty0, s_rtyi, s_rtyz, s_rtyl, s_rtyo, s_rtya, s_rok, s_lab0, s_labs, s_len, s_reci, s_rec0, sh_21, h21, R21_0, R21_1, R21_2]
  rw [hH.2.2.1]
  unfold fOw at ha hb
  refine ⟨fun h1 => ?_, fun h1 => ?_⟩
  · rw [if_neg (by omega)] at ha hb
    refine loop_inv (I := fun k ls st hr9 hd9 n9 u us => ∃ q : Nat, k = H 1 t - q ∧ 1 ≤ q ∧ q ≤ H 1 t ∧ ls = [vR 21, vI (t : Int), vI (p : Int), vI (p2 : Int), vI (H 1 t : Int), vI (q : Int)] ∧ st = [] ∧ am_R f0 b = hr9 ∧ hd = hd9 ∧ n = n9 ∧ u = 0 ∧ us = 0 ∧ sumN q (fun k => if 1 ≤ k ∧ H 2 (10 * t + k) = p ∧ H 2 (10 * t + (k - 1)) = p2 then 1 else 0) = 0) ?_ (H 1 t - 1) ?_
    · intro k ls st hr' hd' n' u us hI P hP
      obtain ⟨q, rfl, hq1, hq, rfl, rfl, rfl, rfl, rfl, rfl, rfl, hs⟩ := hI
      simp [am_In, am_lay, am_pad, am_st1, am_st2, am_kill, am_get, am_isI, am_isL, am_isR, am_cat, am_cats, am_b, fin0_4, fin1_4, fin2_4, fin3_4, List.length_cons, List.length_nil, List.take, List.drop, List.reverse_cons, List.reverse_nil, List.nil_append, List.cons_append, s_wL, s_wQ, s_wW, s_wB, s_wJ, s_wR, s_wS, s_nil, s_cons, s_oR, s_iconst, s_bipush, s_sipush, s_lconst, s_null, s_iload, s_iload_n, s_lload, s_lload_n, s_aload, s_aload_n, s_istore, s_istore_n, s_astore, s_astore_n, s_lstore, s_lstore_n, s_iinc, s_iadd, s_isub, s_imul, s_iand, s_ior, s_ixor, s_ishl, s_ishr, s_iushr, s_idiv, s_ladd, s_lsub, s_lmul, s_land, s_ldiv, s_lrem, s_lshl, s_lshr, s_lcmp, s_i2l, s_l2i, s_i2b, s_i2c, s_dup, s_dup2, s_pop, s_arraylength, s_iaload, s_baload, s_laload, s_aaload, s_iastore, s_bastore, s_lastore, s_aastore, s_oG, s_oP0, s_oP1, s_oP2, s_oP3, s_oC, s_oN, s_oA, s_oI, s_oL, s_oS, s_oX0, s_oX1, s_oX2, s_oX3, s_oX4, s_oX5, s_goto, s_ifeq, s_iceq, s_ifne, s_icne, s_iflt, s_iclt, s_ifge, s_icge, s_ifgt, s_icgt, s_ifle, s_icle, s_ifnull, s_ifnonnull, s_ireturn, s_lreturn, s_areturn, s_return, s_sw, s_sw0, s_sw1, s_push0, s_push1, s_rd0, s_rd1, s_rd2, s_rd3, s_rty0, s_rtyi, s_rtyz, s_rtyl, s_rtyo, s_rtya, s_rok, s_lab0, s_labs, s_len, s_reci, s_rec0, sh_21, h21, R21_0, R21_1, R21_2]
      refine ⟨fun hge => ?_, fun hlt => ?_⟩
      · have e9 : q = H 1 t := by omega
        subst e9
        exact hb hs
      · have hqT : q < H 1 t := by omega
        have next : ¬ (H 2 (10 * t + q) = p ∧ H 2 (10 * t + (q - 1)) = p2) → P [vR 21, vI (t : Int), vI (p : Int), vI (p2 : Int), vI (H 1 t : Int), vI (w32 ((q : Int) + w32 1))] [] (am_R f0 b) hd n 0 0 := by
          intro hne
          refine hP (H 1 t - (q + 1)) (by omega) _ _ _ _ _ _ _ ⟨q + 1, rfl, by omega, by omega, ?_, rfl, rfl, rfl, rfl, rfl, rfl, ?_⟩
          · rw [w32_1, w32_s (by omega)]
          · rw [sumN_s, hs, if_neg (fun h => hne ⟨h.2.1, h.2.2⟩)]
        refine g_whoAt (by omega) hn hT hH ht hqT (by omega) ?_
        simp [am_In, am_lay, am_pad, am_st1, am_st2, am_kill, am_get, am_isI, am_isL, am_isR, am_cat, am_cats, am_b, fin0_4, fin1_4, fin2_4, fin3_4, List.length_cons, List.length_nil, List.take, List.drop, List.reverse_cons, List.reverse_nil, List.nil_append, List.cons_append, s_wL, s_wQ, s_wW, s_wB, s_wJ, s_wR, s_wS, s_nil, s_cons, s_oR, s_iconst, s_bipush, s_sipush, s_lconst, s_null, s_iload, s_iload_n, s_lload, s_lload_n, s_aload, s_aload_n, s_istore, s_istore_n, s_astore, s_astore_n, s_lstore, s_lstore_n, s_iinc, s_iadd, s_isub, s_imul, s_iand, s_ior, s_ixor, s_ishl, s_ishr, s_iushr, s_idiv, s_ladd, s_lsub, s_lmul, s_land, s_ldiv, s_lrem, s_lshl, s_lshr, s_lcmp, s_i2l, s_l2i, s_i2b, s_i2c, s_dup, s_dup2, s_pop, s_arraylength, s_iaload, s_baload, s_laload, s_aaload, s_iastore, s_bastore, s_lastore, s_aastore, s_oG, s_oP0, s_oP1, s_oP2, s_oP3, s_oC, s_oN, s_oA, s_oI, s_oL, s_oS, s_oX0, s_oX1, s_oX2, s_oX3, s_oX4, s_oX5, s_goto, s_ifeq, s_iceq, s_ifne, s_icne, s_iflt, s_iclt, s_ifge, s_icge, s_ifgt, s_icgt, s_ifle, s_icle, s_ifnull, s_ifnonnull, s_ireturn, s_lreturn, s_areturn, s_return, s_sw, s_sw0, s_sw1, s_push0, s_push1, s_rd0, s_rd1, s_rd2, s_rd3, s_rty0, s_rtyi, s_rtyz, s_rtyl, s_rtyo, s_rtya, s_rok, s_lab0, s_labs, s_len, s_reci, s_rec0, sh_21, h21, R21_0, R21_1, R21_2]
        refine ⟨fun h2 => next (fun h => h2 (by omega)), fun h2 => ?_⟩
        rw [w32_b (x := (q : Int) - 1) (by omega) (by omega), show (q : Int) - 1 = ((q - 1 : Nat) : Int) by omega]
        refine g_whoAt (by omega) hn hT hH ht (by omega) (by omega) ?_
        simp [am_In, am_lay, am_pad, am_st1, am_st2, am_kill, am_get, am_isI, am_isL, am_isR, am_cat, am_cats, am_b, fin0_4, fin1_4, fin2_4, fin3_4, List.length_cons, List.length_nil, List.take, List.drop, List.reverse_cons, List.reverse_nil, List.nil_append, List.cons_append, s_wL, s_wQ, s_wW, s_wB, s_wJ, s_wR, s_wS, s_nil, s_cons, s_oR, s_iconst, s_bipush, s_sipush, s_lconst, s_null, s_iload, s_iload_n, s_lload, s_lload_n, s_aload, s_aload_n, s_istore, s_istore_n, s_astore, s_astore_n, s_lstore, s_lstore_n, s_iinc, s_iadd, s_isub, s_imul, s_iand, s_ior, s_ixor, s_ishl, s_ishr, s_iushr, s_idiv, s_ladd, s_lsub, s_lmul, s_land, s_ldiv, s_lrem, s_lshl, s_lshr, s_lcmp, s_i2l, s_l2i, s_i2b, s_i2c, s_dup, s_dup2, s_pop, s_arraylength, s_iaload, s_baload, s_laload, s_aaload, s_iastore, s_bastore, s_lastore, s_aastore, s_oG, s_oP0, s_oP1, s_oP2, s_oP3, s_oC, s_oN, s_oA, s_oI, s_oL, s_oS, s_oX0, s_oX1, s_oX2, s_oX3, s_oX4, s_oX5, s_goto, s_ifeq, s_iceq, s_ifne, s_icne, s_iflt, s_iclt, s_ifge, s_icge, s_ifgt, s_icgt, s_ifle, s_icle, s_ifnull, s_ifnonnull, s_ireturn, s_lreturn, s_areturn, s_return, s_sw, s_sw0, s_sw1, s_push0, s_push1, s_rd0, s_rd1, s_rd2, s_rd3, s_rty0, s_rtyi, s_rtyz, s_rtyl, s_rtyo, s_rtya, s_rok, s_lab0, s_labs, s_len, s_reci, s_rec0, sh_21, h21, R21_0, R21_1, R21_2]
        refine ⟨fun h3 => next (fun h => h3 (by omega)), fun h3 => ?_⟩
        refine ha ?_
        have e5 := sumN_ge (f := fun k => if 1 ≤ k ∧ H 2 (10 * t + k) = p ∧ H 2 (10 * t + (k - 1)) = p2 then 1 else 0) (H 1 t) hqT
        rw [if_pos ⟨hq1, by omega, by omega⟩] at e5
        omega
    · exact ⟨1, rfl, by omega, by omega, rfl, rfl, rfl, rfl, rfl, rfl, rfl, rfl⟩
  · rw [if_pos (by omega)] at ha hb
    refine ⟨fun h2 => ?_, fun h2 => ?_⟩
    · exact hb (by rw [if_neg (fun h => by omega)])
    · refine g_holderOf (by omega) hn hT hH ht e8.1 e8.2 ?_
      simp [am_In, am_lay, am_pad, am_st1, am_st2, am_kill, am_get, am_isI, am_isL, am_isR, am_cat, am_cats, am_b, fin0_4, fin1_4, fin2_4, fin3_4, List.length_cons, List.length_nil, List.take, List.drop, List.reverse_cons, List.reverse_nil, List.nil_append, List.cons_append, s_wL, s_wQ, s_wW, s_wB, s_wJ, s_wR, s_wS, s_nil, s_cons, s_oR, s_iconst, s_bipush, s_sipush, s_lconst, s_null, s_iload, s_iload_n, s_lload, s_lload_n, s_aload, s_aload_n, s_istore, s_istore_n, s_astore, s_astore_n, s_lstore, s_lstore_n, s_iinc, s_iadd, s_isub, s_imul, s_iand, s_ior, s_ixor, s_ishl, s_ishr, s_iushr, s_idiv, s_ladd, s_lsub, s_lmul, s_land, s_ldiv, s_lrem, s_lshl, s_lshr, s_lcmp, s_i2l, s_l2i, s_i2b, s_i2c, s_dup, s_dup2, s_pop, s_arraylength, s_iaload, s_baload, s_laload, s_aaload, s_iastore, s_bastore, s_lastore, s_aastore, s_oG, s_oP0, s_oP1, s_oP2, s_oP3, s_oC, s_oN, s_oA, s_oI, s_oL, s_oS, s_oX0, s_oX1, s_oX2, s_oX3, s_oX4, s_oX5, s_goto, s_ifeq, s_iceq, s_ifne, s_icne, s_iflt, s_iclt, s_ifge, s_icge, s_ifgt, s_icgt, s_ifle, s_icle, s_ifnull, s_ifnonnull, s_ireturn, s_lreturn, s_areturn, s_return, s_sw, s_sw0, s_sw1, s_push0, s_push1, s_rd0, s_rd1, s_rd2, s_rd3, s_rty0, s_rtyi, s_rtyz, s_rtyl, s_rtyo, s_rtya, s_rok, s_lab0, s_labs, s_len, s_reci, s_rec0, sh_21, h21, R21_0, R21_1, R21_2]
      refine ⟨fun h3 => ?_, fun h3 => ?_⟩
      · exact hb (by rw [if_neg (fun h => h3 (by omega))])
      · refine g_whoAt (k := 0) (by omega) hn hT hH ht (by omega) (by omega) ?_
        simp [am_In, am_lay, am_pad, am_st1, am_st2, am_kill, am_get, am_isI, am_isL, am_isR, am_cat, am_cats, am_b, fin0_4, fin1_4, fin2_4, fin3_4, List.length_cons, List.length_nil, List.take, List.drop, List.reverse_cons, List.reverse_nil, List.nil_append, List.cons_append, s_wL, s_wQ, s_wW, s_wB, s_wJ, s_wR, s_wS, s_nil, s_cons, s_oR, s_iconst, s_bipush, s_sipush, s_lconst, s_null, s_iload, s_iload_n, s_lload, s_lload_n, s_aload, s_aload_n, s_istore, s_istore_n, s_astore, s_astore_n, s_lstore, s_lstore_n, s_iinc, s_iadd, s_isub, s_imul, s_iand, s_ior, s_ixor, s_ishl, s_ishr, s_iushr, s_idiv, s_ladd, s_lsub, s_lmul, s_land, s_ldiv, s_lrem, s_lshl, s_lshr, s_lcmp, s_i2l, s_l2i, s_i2b, s_i2c, s_dup, s_dup2, s_pop, s_arraylength, s_iaload, s_baload, s_laload, s_aaload, s_iastore, s_bastore, s_lastore, s_aastore, s_oG, s_oP0, s_oP1, s_oP2, s_oP3, s_oC, s_oN, s_oA, s_oI, s_oL, s_oS, s_oX0, s_oX1, s_oX2, s_oX3, s_oX4, s_oX5, s_goto, s_ifeq, s_iceq, s_ifne, s_icne, s_iflt, s_iclt, s_ifge, s_icge, s_ifgt, s_icgt, s_ifle, s_icle, s_ifnull, s_ifnonnull, s_ireturn, s_lreturn, s_areturn, s_return, s_sw, s_sw0, s_sw1, s_push0, s_push1, s_rd0, s_rd1, s_rd2, s_rd3, s_rty0, s_rtyi, s_rtyz, s_rtyl, s_rtyo, s_rtya, s_rok, s_lab0, s_labs, s_len, s_reci, s_rec0, sh_21, h21, R21_0, R21_1, R21_2]
        refine ⟨fun h4 => ?_, fun h4 => ?_⟩
        · exact hb (by rw [if_neg (fun h => h4 (by omega))])
        · exact ha (by rw [if_pos ⟨by omega, by omega, by omega⟩]; decide)
theorem g_debt {p p2 : Nat} (hd9 : 5 ≤ d) (ho : isLand o) (hn : 159 ≤ n)  (hL : cL hd o L) (hH : cH hd 21 H (L 0 2)) (hk : Hok L H) (h : Q (some (vI (fDebt L H p p2 : Int))) (am_R f0 b) hd n) : wpM d 54 [vR 21, vR o, vI (p : Int), vI (p2 : Int)] Q (am_R f0 b) hd n := by
  obtain ⟨e, rfl, he⟩ := am_dep hd9
  apply en54
  simp only [trX3_debt, am_In, am_lay, am_pad, am_st1, am_st2, am_kill, am_get, am_isI, am_isL, am_isR, am_cat, am_cats, am_b, fin0_4, fin1_4, fin2_4, fin3_4, List.length_cons, List.length_nil, List.take, List.drop, List.reverse_cons, List.reverse_nil, List.nil_append, List.cons_append, s_wL, s_wQ, s_wW, s_wB, s_wJ, s_wR, s_wS, s_nil, s_cons, s_oR, s_iconst, s_bipush, s_sipush, s_lconst, s_null, s_iload, s_iload_n, s_lload, s_lload_n, s_aload, s_aload_n, s_istore, s_istore_n, s_astore, s_astore_n, s_lstore, s_lstore_n, s_iinc, s_iadd, s_isub, s_imul, s_iand, s_ior, s_ixor, s_ishl, s_ishr, s_iushr, s_idiv, s_ladd, s_lsub, s_lmul, s_land, s_ldiv, s_lrem, s_lshl, s_lshr, s_lcmp, s_i2l, s_l2i, s_i2b, s_i2c, s_dup, s_dup2, s_pop, s_arraylength, s_iaload, s_baload, s_laload, s_aaload, s_iastore, s_bastore, s_lastore, s_aastore, s_oG, s_oP0, s_oP1, s_oP2, s_oP3, s_oC, s_oN, s_oA, s_oI, s_oL, s_oS, s_oX0, s_oX1, s_oX2, s_oX3, s_oX4, s_oX5, s_goto, s_ifeq, s_iceq, s_ifne, s_icne, s_iflt, s_iclt, s_ifge, s_icge, s_ifgt, s_icgt, s_ifle, s_icle, s_ifnull, s_ifnonnull, s_ireturn, s_lreturn, s_areturn, s_return, s_sw, s_sw0, s_sw1, s_push0, s_push1, s_rd0, s_rd1, s_rd2, s_rd3, s_rty0, s_rtyi, s_rtyz, s_rtyl, s_rtyo, s_rtya, s_rok, s_lab0, s_labs, s_len, s_reci, s_rec0]
  have h21 : 21 < n := by omega
  have hT := lk_T hL.1
  simp [am_In, am_lay, am_pad, am_st1, am_st2, am_kill, am_get, am_isI, am_isL, am_isR, am_cat, am_cats, am_b, fin0_4, fin1_4, fin2_4, fin3_4, List.length_cons, List.length_nil, List.take, List.drop, List.reverse_cons, List.reverse_nil, List.nil_append, List.cons_append, s_wL, s_wQ, s_wW, s_wB, s_wJ, s_wR, s_wS, s_nil, s_cons, s_oR, s_iconst, s_bipush, s_sipush, s_lconst, s_null, s_iload, s_iload_n, s_lload, s_lload_n, s_aload, s_aload_n, s_istore, s_istore_n, s_astore, s_astore_n, s_lstore, s_lstore_n, s_iinc, s_iadd, s_isub, s_imul, s_iand, s_ior, s_ixor, s_ishl, s_ishr, s_iushr, s_idiv, s_ladd, s_lsub, s_lmul, s_land, s_ldiv, s_lrem, s_lshl, s_lshr, s_lcmp, s_i2l, s_l2i, s_i2b, s_i2c, s_dup, s_dup2, s_pop, s_arraylength, s_iaload, s_baload, s_laload, s_aaload, s_iastore, s_bastore, s_lastore, s_aastore, s_oG, s_oP0, s_oP1, s_oP2, s_oP3, s_oC, s_oN, s_oA, s_oI, s_oL, s_oS, s_oX0, s_oX1, s_oX2, s_oX3, s_oX4, s_oX5, s_goto, s_ifeq, s_iceq, s_ifne, s_icne, s_iflt, s_iclt, s_ifge, s_icge, s_ifgt, s_icgt, s_ifle, s_icle, s_ifnull, s_ifnonnull, s_ireturn, s_lreturn, s_areturn, s_return, s_sw, s_sw0, s_sw1, s_push0, s_push1, s_rd0, s_rd1, s_rd2, s_rd3, s_rty0, s_rtyi, s_rtyz, s_rtyl, s_rtyo, s_rtya, s_rok, s_lab0, s_labs, s_len, s_reci, s_rec0, sh_21, h21, R21_0, R21_1, R21_2, ld_s ho, ld_n ho hn]
  refine loop_inv (I := fun k ls st hr9 hd9 n9 u us => ∃ q : Nat, k = L 0 2 - q ∧ q ≤ L 0 2 ∧ ls = [vR 21, vR o, vI (p : Int), vI (p2 : Int), vI ((sumN q (fun t => if (H 0 3).testBit t = true then fOw H t p p2 * L 3 (L 4 t) else 0) : Nat) : Int), vI (q : Int)] ∧ st = [] ∧ am_R f0 b = hr9 ∧ hd = hd9 ∧ n = n9 ∧ u = 0 ∧ us = 0) ?_ (L 0 2) ?_
  · intro k ls st hr' hd' n' u us hI P hP
    obtain ⟨q, rfl, hq, rfl, rfl, rfl, rfl, rfl, rfl, rfl⟩ := hI
    have hs := fDebt_le (p := p) (p2 := p2) hL.1 hk hq
    simp [am_In, am_lay, am_pad, am_st1, am_st2, am_kill, am_get, am_isI, am_isL, am_isR, am_cat, am_cats, am_b, fin0_4, fin1_4, fin2_4, fin3_4, List.length_cons, List.length_nil, List.take, List.drop, List.reverse_cons, List.reverse_nil, List.nil_append, List.cons_append, s_wL, s_wQ, s_wW, s_wB, s_wJ, s_wR, s_wS, s_nil, s_cons, s_oR, s_iconst, s_bipush, s_sipush, s_lconst, s_null, s_iload, s_iload_n, s_lload, s_lload_n, s_aload, s_aload_n, s_istore, s_istore_n, s_astore, s_astore_n, s_lstore, s_lstore_n, s_iinc, s_iadd, s_isub, s_imul, s_iand, s_ior, s_ixor, s_ishl, s_ishr, s_iushr, s_idiv, s_ladd, s_lsub, s_lmul, s_land, s_ldiv, s_lrem, s_lshl, s_lshr, s_lcmp, s_i2l, s_l2i, s_i2b, s_i2c, s_dup, s_dup2, s_pop, s_arraylength, s_iaload, s_baload, s_laload, s_aaload, s_iastore, s_bastore, s_lastore, s_aastore, s_oG, s_oP0, s_oP1, s_oP2, s_oP3, s_oC, s_oN, s_oA, s_oI, s_oL, s_oS, s_oX0, s_oX1, s_oX2, s_oX3, s_oX4, s_oX5, s_goto, s_ifeq, s_iceq, s_ifne, s_icne, s_iflt, s_iclt, s_ifge, s_icge, s_ifgt, s_icgt, s_ifle, s_icle, s_ifnull, s_ifnonnull, s_ireturn, s_lreturn, s_areturn, s_return, s_sw, s_sw0, s_sw1, s_push0, s_push1, s_rd0, s_rd1, s_rd2, s_rd3, s_rty0, s_rtyi, s_rtyz, s_rtyl, s_rtyo, s_rtya, s_rok, s_lab0, s_labs, s_len, s_reci, s_rec0, sh_21, h21, R21_0, R21_1, R21_2, ld_s ho, ld_n ho hn]
    refine g_things (by omega) ho hn hL ?_
    simp [am_In, am_lay, am_pad, am_st1, am_st2, am_kill, am_get, am_isI, am_isL, am_isR, am_cat, am_cats, am_b, fin0_4, fin1_4, fin2_4, fin3_4, List.length_cons, List.length_nil, List.take, List.drop, List.reverse_cons, List.reverse_nil, List.nil_append, List.cons_append, s_wL, s_wQ, s_wW, s_wB, s_wJ, s_wR, s_wS, s_nil, s_cons, s_oR, s_iconst, s_bipush, s_sipush, s_lconst, s_null, s_iload, s_iload_n, s_lload, s_lload_n, s_aload, s_aload_n, s_istore, s_istore_n, s_astore, s_astore_n, s_lstore, s_lstore_n, s_iinc, s_iadd, s_isub, s_imul, s_iand, s_ior, s_ixor, s_ishl, s_ishr, s_iushr, s_idiv, s_ladd, s_lsub, s_lmul, s_land, s_ldiv, s_lrem, s_lshl, s_lshr, s_lcmp, s_i2l, s_l2i, s_i2b, s_i2c, s_dup, s_dup2, s_pop, s_arraylength, s_iaload, s_baload, s_laload, s_aaload, s_iastore, s_bastore, s_lastore, s_aastore, s_oG, s_oP0, s_oP1, s_oP2, s_oP3, s_oC, s_oN, s_oA, s_oI, s_oL, s_oS, s_oX0, s_oX1, s_oX2, s_oX3, s_oX4, s_oX5, s_goto, s_ifeq, s_iceq, s_ifne, s_icne, s_iflt, s_iclt, s_ifge, s_icge, s_ifgt, s_icgt, s_ifle, s_icle, s_ifnull, s_ifnonnull, s_ireturn, s_lreturn, s_areturn, s_return, s_sw, s_sw0, s_sw1, s_push0, s_push1, s_rd0, s_rd1, s_rd2, s_rd3, s_rty0, s_rtyi, s_rtyz, s_rtyl, s_rtyo, s_rtya, s_rok, s_lab0, s_labs, s_len, s_reci, s_rec0, sh_21, h21, R21_0, R21_1, R21_2, ld_s ho, ld_n ho hn]
    refine ⟨fun hge => ?_, fun hlt => ?_⟩
    · have e9 : q = L 0 2 := by omega
      subst e9
      exact h
    · have hqT : q < L 0 2 := by omega
      have hs1 := fDebt_le (p := p) (p2 := p2) (q := q + 1) hL.1 hk (by omega)
      rw [sumN_s] at hs1
      refine g_isLost (by omega) hn hT hH hk.1.2.2 hqT (fun h1 => ?_) (fun h1 => ?_)
      · simp [am_In, am_lay, am_pad, am_st1, am_st2, am_kill, am_get, am_isI, am_isL, am_isR, am_cat, am_cats, am_b, fin0_4, fin1_4, fin2_4, fin3_4, List.length_cons, List.length_nil, List.take, List.drop, List.reverse_cons, List.reverse_nil, List.nil_append, List.cons_append, s_wL, s_wQ, s_wW, s_wB, s_wJ, s_wR, s_wS, s_nil, s_cons, s_oR, s_iconst, s_bipush, s_sipush, s_lconst, s_null, s_iload, s_iload_n, s_lload, s_lload_n, s_aload, s_aload_n, s_istore, s_istore_n, s_astore, s_astore_n, s_lstore, s_lstore_n, s_iinc, s_iadd, s_isub, s_imul, s_iand, s_ior, s_ixor, s_ishl, s_ishr, s_iushr, s_idiv, s_ladd, s_lsub, s_lmul, s_land, s_ldiv, s_lrem, s_lshl, s_lshr, s_lcmp, s_i2l, s_l2i, s_i2b, s_i2c, s_dup, s_dup2, s_pop, s_arraylength, s_iaload, s_baload, s_laload, s_aaload, s_iastore, s_bastore, s_lastore, s_aastore, s_oG, s_oP0, s_oP1, s_oP2, s_oP3, s_oC, s_oN, s_oA, s_oI, s_oL, s_oS, s_oX0, s_oX1, s_oX2, s_oX3, s_oX4, s_oX5, s_goto, s_ifeq, s_iceq, s_ifne, s_icne, s_iflt, s_iclt, s_ifge, s_icge, s_ifgt, s_icgt, s_ifle, s_icle, s_ifnull, s_ifnonnull, s_ireturn, s_lreturn, s_areturn, s_return, s_sw, s_sw0, s_sw1, s_push0, s_push1, s_rd0, s_rd1, s_rd2, s_rd3, s_rty0, s_rtyi, s_rtyz, s_rtyl, s_rtyo, s_rtya, s_rok, s_lab0, s_labs, s_len, s_reci, s_rec0, sh_21, h21, R21_0, R21_1, R21_2, ld_s ho, ld_n ho hn]
        rw [if_pos h1] at hs1
        have ho1 := fOw_le hk (p := p) (p2 := p2) hqT
        refine g_owesFor (by omega) hn hT hH (fun t ht => (hk.2 t ht).1) hqT hk.1.2.1 (fun h2 => ?_) (fun h2 => ?_)
        · simp [am_In, am_lay, am_pad, am_st1, am_st2, am_kill, am_get, am_isI, am_isL, am_isR, am_cat, am_cats, am_b, fin0_4, fin1_4, fin2_4, fin3_4, List.length_cons, List.length_nil, List.take, List.drop, List.reverse_cons, List.reverse_nil, List.nil_append, List.cons_append, s_wL, s_wQ, s_wW, s_wB, s_wJ, s_wR, s_wS, s_nil, s_cons, s_oR, s_iconst, s_bipush, s_sipush, s_lconst, s_null, s_iload, s_iload_n, s_lload, s_lload_n, s_aload, s_aload_n, s_istore, s_istore_n, s_astore, s_astore_n, s_lstore, s_lstore_n, s_iinc, s_iadd, s_isub, s_imul, s_iand, s_ior, s_ixor, s_ishl, s_ishr, s_iushr, s_idiv, s_ladd, s_lsub, s_lmul, s_land, s_ldiv, s_lrem, s_lshl, s_lshr, s_lcmp, s_i2l, s_l2i, s_i2b, s_i2c, s_dup, s_dup2, s_pop, s_arraylength, s_iaload, s_baload, s_laload, s_aaload, s_iastore, s_bastore, s_lastore, s_aastore, s_oG, s_oP0, s_oP1, s_oP2, s_oP3, s_oC, s_oN, s_oA, s_oI, s_oL, s_oS, s_oX0, s_oX1, s_oX2, s_oX3, s_oX4, s_oX5, s_goto, s_ifeq, s_iceq, s_ifne, s_icne, s_iflt, s_iclt, s_ifge, s_icge, s_ifgt, s_icgt, s_ifle, s_icle, s_ifnull, s_ifnonnull, s_ireturn, s_lreturn, s_areturn, s_return, s_sw, s_sw0, s_sw1, s_push0, s_push1, s_rd0, s_rd1, s_rd2, s_rd3, s_rty0, s_rtyi, s_rtyz, s_rtyl, s_rtyo, s_rtya, s_rok, s_lab0, s_labs, s_len, s_reci, s_rec0, sh_21, h21, R21_0, R21_1, R21_2, ld_s ho, ld_n ho hn]
          refine g_sortOfThing (by omega) ho hn hL hqT ?_
          simp [am_In, am_lay, am_pad, am_st1, am_st2, am_kill, am_get, am_isI, am_isL, am_isR, am_cat, am_cats, am_b, fin0_4, fin1_4, fin2_4, fin3_4, List.length_cons, List.length_nil, List.take, List.drop, List.reverse_cons, List.reverse_nil, List.nil_append, List.cons_append, s_wL, s_wQ, s_wW, s_wB, s_wJ, s_wR, s_wS, s_nil, s_cons, s_oR, s_iconst, s_bipush, s_sipush, s_lconst, s_null, s_iload, s_iload_n, s_lload, s_lload_n, s_aload, s_aload_n, s_istore, s_istore_n, s_astore, s_astore_n, s_lstore, s_lstore_n, s_iinc, s_iadd, s_isub, s_imul, s_iand, s_ior, s_ixor, s_ishl, s_ishr, s_iushr, s_idiv, s_ladd, s_lsub, s_lmul, s_land, s_ldiv, s_lrem, s_lshl, s_lshr, s_lcmp, s_i2l, s_l2i, s_i2b, s_i2c, s_dup, s_dup2, s_pop, s_arraylength, s_iaload, s_baload, s_laload, s_aaload, s_iastore, s_bastore, s_lastore, s_aastore, s_oG, s_oP0, s_oP1, s_oP2, s_oP3, s_oC, s_oN, s_oA, s_oI, s_oL, s_oS, s_oX0, s_oX1, s_oX2, s_oX3, s_oX4, s_oX5, s_goto, s_ifeq, s_iceq, s_ifne, s_icne, s_iflt, s_iclt, s_ifge, s_icge, s_ifgt, s_icgt, s_ifle, s_icle, s_ifnull, s_ifnonnull, s_ireturn, s_lreturn, s_areturn, s_return, s_sw, s_sw0, s_sw1, s_push0, s_push1, s_rd0, s_rd1, s_rd2, s_rd3, s_rty0, s_rtyi, s_rtyz, s_rtyl, s_rtyo, s_rtya, s_rok, s_lab0, s_labs, s_len, s_reci, s_rec0, sh_21, h21, R21_0, R21_1, R21_2, ld_s ho, ld_n ho hn]
          refine g_worthOf (by omega) ho hn hL (hL.1.2.2.2.1 q hqT).1 ?_
          simp [am_In, am_lay, am_pad, am_st1, am_st2, am_kill, am_get, am_isI, am_isL, am_isR, am_cat, am_cats, am_b, fin0_4, fin1_4, fin2_4, fin3_4, List.length_cons, List.length_nil, List.take, List.drop, List.reverse_cons, List.reverse_nil, List.nil_append, List.cons_append, s_wL, s_wQ, s_wW, s_wB, s_wJ, s_wR, s_wS, s_nil, s_cons, s_oR, s_iconst, s_bipush, s_sipush, s_lconst, s_null, s_iload, s_iload_n, s_lload, s_lload_n, s_aload, s_aload_n, s_istore, s_istore_n, s_astore, s_astore_n, s_lstore, s_lstore_n, s_iinc, s_iadd, s_isub, s_imul, s_iand, s_ior, s_ixor, s_ishl, s_ishr, s_iushr, s_idiv, s_ladd, s_lsub, s_lmul, s_land, s_ldiv, s_lrem, s_lshl, s_lshr, s_lcmp, s_i2l, s_l2i, s_i2b, s_i2c, s_dup, s_dup2, s_pop, s_arraylength, s_iaload, s_baload, s_laload, s_aaload, s_iastore, s_bastore, s_lastore, s_aastore, s_oG, s_oP0, s_oP1, s_oP2, s_oP3, s_oC, s_oN, s_oA, s_oI, s_oL, s_oS, s_oX0, s_oX1, s_oX2, s_oX3, s_oX4, s_oX5, s_goto, s_ifeq, s_iceq, s_ifne, s_icne, s_iflt, s_iclt, s_ifge, s_icge, s_ifgt, s_icgt, s_ifle, s_icle, s_ifnull, s_ifnonnull, s_ireturn, s_lreturn, s_areturn, s_return, s_sw, s_sw0, s_sw1, s_push0, s_push1, s_rd0, s_rd1, s_rd2, s_rd3, s_rty0, s_rtyi, s_rtyz, s_rtyl, s_rtyo, s_rtya, s_rok, s_lab0, s_labs, s_len, s_reci, s_rec0, sh_21, h21, R21_0, R21_1, R21_2, ld_s ho, ld_n ho hn]
          refine hP (L 0 2 - (q + 1)) (by omega) _ _ _ _ _ _ _ ⟨q + 1, rfl, by omega, ?_, rfl, rfl, rfl, rfl, rfl, rfl⟩
          have e3 : fOw H q p p2 = 1 := by omega
          rw [e3, Nat.one_mul] at hs1
          rw [w32_1, w32_s (by omega), w32_n (by omega), sumN_s, if_pos h1, e3, Nat.one_mul]
        · simp [am_In, am_lay, am_pad, am_st1, am_st2, am_kill, am_get, am_isI, am_isL, am_isR, am_cat, am_cats, am_b, fin0_4, fin1_4, fin2_4, fin3_4, List.length_cons, List.length_nil, List.take, List.drop, List.reverse_cons, List.reverse_nil, List.nil_append, List.cons_append, s_wL, s_wQ, s_wW, s_wB, s_wJ, s_wR, s_wS, s_nil, s_cons, s_oR, s_iconst, s_bipush, s_sipush, s_lconst, s_null, s_iload, s_iload_n, s_lload, s_lload_n, s_aload, s_aload_n, s_istore, s_istore_n, s_astore, s_astore_n, s_lstore, s_lstore_n, s_iinc, s_iadd, s_isub, s_imul, s_iand, s_ior, s_ixor, s_ishl, s_ishr, s_iushr, s_idiv, s_ladd, s_lsub, s_lmul, s_land, s_ldiv, s_lrem, s_lshl, s_lshr, s_lcmp, s_i2l, s_l2i, s_i2b, s_i2c, s_dup, s_dup2, s_pop, s_arraylength, s_iaload, s_baload, s_laload, s_aaload, s_iastore, s_bastore, s_lastore, s_aastore, s_oG, s_oP0, s_oP1, s_oP2, s_oP3, s_oC, s_oN, s_oA, s_oI, s_oL, s_oS, s_oX0, s_oX1, s_oX2, s_oX3, s_oX4, s_oX5, s_goto, s_ifeq, s_iceq, s_ifne, s_icne, s_iflt, s_iclt, s_ifge, s_icge, s_ifgt, s_icgt, s_ifle, s_icle, s_ifnull, s_ifnonnull, s_ireturn, s_lreturn, s_areturn, s_return, s_sw, s_sw0, s_sw1, s_push0, s_push1, s_rd0, s_rd1, s_rd2, s_rd3, s_rty0, s_rtyi, s_rtyz, s_rtyl, s_rtyo, s_rtya, s_rok, s_lab0, s_labs, s_len, s_reci, s_rec0, sh_21, h21, R21_0, R21_1, R21_2, ld_s ho, ld_n ho hn]
          refine hP (L 0 2 - (q + 1)) (by omega) _ _ _ _ _ _ _ ⟨q + 1, rfl, by omega, ?_, rfl, rfl, rfl, rfl, rfl, rfl⟩
          rw [w32_1, w32_s (by omega), sumN_s, if_pos h1, h2, Nat.zero_mul]
          rfl
      · simp [am_In, am_lay, am_pad, am_st1, am_st2, am_kill, am_get, am_isI, am_isL, am_isR, am_cat, am_cats, am_b, fin0_4, fin1_4, fin2_4, fin3_4, List.length_cons, List.length_nil, List.take, List.drop, List.reverse_cons, List.reverse_nil, List.nil_append, List.cons_append, s_wL, s_wQ, s_wW, s_wB, s_wJ, s_wR, s_wS, s_nil, s_cons, s_oR, s_iconst, s_bipush, s_sipush, s_lconst, s_null, s_iload, s_iload_n, s_lload, s_lload_n, s_aload, s_aload_n, s_istore, s_istore_n, s_astore, s_astore_n, s_lstore, s_lstore_n, s_iinc, s_iadd, s_isub, s_imul, s_iand, s_ior, s_ixor, s_ishl, s_ishr, s_iushr, s_idiv, s_ladd, s_lsub, s_lmul, s_land, s_ldiv, s_lrem, s_lshl, s_lshr, s_lcmp, s_i2l, s_l2i, s_i2b, s_i2c, s_dup, s_dup2, s_pop, s_arraylength, s_iaload, s_baload, s_laload, s_aaload, s_iastore, s_bastore, s_lastore, s_aastore, s_oG, s_oP0, s_oP1, s_oP2, s_oP3, s_oC, s_oN, s_oA, s_oI, s_oL, s_oS, s_oX0, s_oX1, s_oX2, s_oX3, s_oX4, s_oX5, s_goto, s_ifeq, s_iceq, s_ifne, s_icne, s_iflt, s_iclt, s_ifge, s_icge, s_ifgt, s_icgt, s_ifle, s_icle, s_ifnull, s_ifnonnull, s_ireturn, s_lreturn, s_areturn, s_return, s_sw, s_sw0, s_sw1, s_push0, s_push1, s_rd0, s_rd1, s_rd2, s_rd3, s_rty0, s_rtyi, s_rtyz, s_rtyl, s_rtyo, s_rtya, s_rok, s_lab0, s_labs, s_len, s_reci, s_rec0, sh_21, h21, R21_0, R21_1, R21_2, ld_s ho, ld_n ho hn]
        refine hP (L 0 2 - (q + 1)) (by omega) _ _ _ _ _ _ _ ⟨q + 1, rfl, by omega, ?_, rfl, rfl, rfl, rfl, rfl, rfl⟩
        rw [w32_1, w32_s (by omega), sumN_s, if_neg h1]
        rfl
  · exact ⟨0, rfl, Nat.zero_le _, rfl, rfl, rfl, rfl, rfl, rfl, rfl⟩
end
