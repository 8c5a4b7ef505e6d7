/-! HOLDINGS of the class; H: 0 (day, -, law, lost), 1 depth, 2 who at 10 t + k, 3 till when and one -/
def upN (H : Lnd) (a i v : Nat) : Lnd := fun x y => if x = a then (if y = i then v else H x y) else H x y
theorem upN_at (H : Lnd) (a i v x y : Nat) : upN H a i v x y = if x = a then (if y = i then v else H x y) else H x y := rfl
def cH (hd : amD) (o : Nat) (H : Lnd) (T : Nat) : Prop := hd o 3 = H 0 0 ∧ hd o 5 = H 0 3 ∧ hd o 6 = H 0 2 ∧ ∀ t, t < T → hd (o + 1) t = H 1 t ∧ ∀ k, k < H 1 t → hd (o + 2) (8 * t + k) = H 2 (10 * t + k) ∧ hd (o + 3) (8 * t + k) = (H 3 (10 * t + k) : Int) - 1
def Hok (L H : Lnd) : Prop := (H 0 0 ≤ 60 ∧ H 0 2 ≤ 1 ∧ H 0 3 < 4096) ∧ ∀ t, t < L 0 2 → (1 ≤ H 1 t ∧ H 1 t ≤ 8) ∧ H 2 (10 * t) = L 5 t ∧ H 3 (10 * t) = 0 ∧ (∀ k, k < H 1 t → H 2 (10 * t + k) < L 0 0) ∧ (∀ k, 1 ≤ k → k < H 1 t → 1 ≤ H 3 (10 * t + k) ∧ H 3 (10 * t + k) ≤ 61) ∧ (∀ i j, i < j → j < H 1 t → H 2 (10 * t + i) ≠ H 2 (10 * t + j))
def hold (H : Lnd) (t : Nat) : Nat := H 2 (10 * t + (H 1 t - 1))
def pushH (H : Lnd) (t p dd : Nat) : Lnd := upN (upN (upN H 2 (10 * t + H 1 t) p) 3 (10 * t + H 1 t) dd) 1 t (H 1 t + 1)
/-- only the holdings of now are others -/
def nowF (hd hd' : amD) : Prop := ∀ i, ¬ (21 ≤ i ∧ i ≤ 24) → hd' i = hd i
theorem nowF_r (hd : amD) : nowF hd hd := fun _ _ => rfl
theorem nowF_t {a c e : amD} (h1 : nowF a c) (h2 : nowF c e) : nowF a e := fun i hi => by rw [h2 i hi, h1 i hi]
theorem up_ne {α : Type} {f : Nat → Nat → α} {i j a : Nat} {v : α} (h : a ≠ i) : am_up f i j v a = f a := by
  unfold am_up
  rw [if_neg h]
theorem nowF_up {hd hd' : amD} {i j : Nat} {v : Int} (h : nowF hd hd') (hi : 21 ≤ i ∧ i ≤ 24) : nowF hd (am_up hd' i j v) := fun a ha => by
  rw [up_ne (by omega), h a ha]
theorem cL_fr {hd hd' : amD} {o : Nat} {L : Lnd} (h : ∀ k, k ≤ 13 → hd' (o + k) = hd (o + k)) (hL : cL hd o L) : cL hd' o L := by
  unfold cL at *
  have h0 : hd' o = hd o := h 0 (by omega)
  rw [h0, h 2 (by omega), h 3 (by omega), h 5 (by omega), h 6 (by omega), h 7 (by omega), h 8 (by omega), h 9 (by omega), h 10 (by omega), h 11 (by omega), h 12 (by omega), h 13 (by omega)]
  exact hL
theorem cL_now {hd hd' : amD} {o : Nat} {L : Lnd} (ho : isLand o) (h : nowF hd hd') (hL : cL hd o L) : cL hd' o L := cL_fr (fun k hk => h _ (by rcases ho with rfl | rfl <;> omega)) hL
theorem iH : isHold 21 := Or.inl rfl
theorem cH_push {hd : amD} {H : Lnd} {T t p dd : Nat} {x : Int} (h8 : ∀ t, t < T → H 1 t ≤ 8) (hH : cH hd 21 H T) (ht : t < T) (hlt : H 1 t < 8) (hx : x = (dd : Int) - 1) : cH (am_up (am_up (am_up hd 23 (8 * t + H 1 t) (p : Int)) 24 (8 * t + H 1 t) x) 22 t ((H 1 t + 1 : Nat) : Int)) 21 (pushH H t p dd) T := by
  obtain ⟨h1, h2, h3, h4⟩ := hH
  refine ⟨by simpa [up_at, pushH, upN_at] using h1, by simpa [up_at, pushH, upN_at] using h2, by simpa [up_at, pushH, upN_at] using h3, fun t' ht' => ?_⟩
  have e1 := h4 t' ht'
  have e8 := h8 t' ht'
  by_cases he : t' = t
  · subst he
    refine ⟨by simp [up_at, pushH, upN_at], fun k hk => ?_⟩
    have hk' : k < H 1 t' + 1 := by simpa [pushH, upN_at] using hk
    by_cases hk2 : k = H 1 t'
    · subst hk2
      simp [up_at, pushH, upN_at, hx]
    · have := e1.2 k (by omega)
      simpa [up_at, pushH, upN_at, hk2] using this
  · refine ⟨by simpa [up_at, pushH, upN_at, he] using e1.1, fun k hk => ?_⟩
    have hk' : k < H 1 t' := by simpa [pushH, upN_at, he] using hk
    have := e1.2 k hk'
    have n1 : ¬ 8 * t' + k = 8 * t + H 1 t := by omega
    have n2 : ¬ 10 * t' + k = 10 * t + H 1 t := by omega
    simpa [up_at, pushH, upN_at, n1, n2] using this
section
variable {d f0 n o : Nat} {b : Bool} {L : Lnd} {Q : amQ} {hd : amD}
variable {H : Lnd} {T : Nat}
theorem g_depthOf (hd9 : 2 ≤ d) (hn : 159 ≤ n) (hT : T ≤ 12) (hH : cH hd 21 H T) {t : Nat} (ht : t < T) (h : Q (some (vI (H 1 t : Int))) (am_R f0 b) hd n) : wpM d 42 [vR 21, vI (t : Int)] Q (am_R f0 b) hd n := by
  refine z_depthOf hd9 iH hn ?_
  rw [am_A_nat (by omega), (hH.2.2.2 t ht).1]
  exact h
theorem ix8 {t k : Nat} (h : t < 12) (hk : k < 8) : w32 (w32 ((t : Int) * 8) + (k : Int)) = ((8 * t + k : Nat) : Int) := by
  rw [w32_b (x := (t : Int) * 8) (by omega) (by omega), w32_b (by omega) (by omega)]
  omega
theorem g_whoAt (hd9 : 2 ≤ d) (hn : 159 ≤ n) (hT : T ≤ 12) (hH : cH hd 21 H T) {t k : Nat} (ht : t < T) (hk : k < H 1 t) (hk8 : k < 8) (h : Q (some (vI (H 2 (10 * t + k) : Int))) (am_R f0 b) hd n) : wpM d 43 [vR 21, vI (t : Int), vI (k : Int)] Q (am_R f0 b) hd n := by
  refine z_whoAt hd9 iH hn ?_
  rw [ix8 (by omega) hk8, am_A_nat (by omega), ((hH.2.2.2 t ht).2 k hk).1]
  exact h
theorem g_tillAt (hd9 : 2 ≤ d) (hn : 159 ≤ n) (hT : T ≤ 12) (hH : cH hd 21 H T) {t k : Nat} (ht : t < T) (hk : k < H 1 t) (hk8 : k < 8) (h : Q (some (vI ((H 3 (10 * t + k) : Int) - 1))) (am_R f0 b) hd n) : wpM d 44 [vR 21, vI (t : Int), vI (k : Int)] Q (am_R f0 b) hd n := by
  refine z_tillAt hd9 iH hn ?_
  rw [ix8 (by omega) hk8, am_A_nat (by omega), ((hH.2.2.2 t ht).2 k hk).2]
  exact h
theorem g_holderOf (hd9 : 3 ≤ d) (hn : 159 ≤ n) (hT : T ≤ 12) (hH : cH hd 21 H T) {t : Nat} (ht : t < T) (h1 : 1 ≤ H 1 t) (h8 : H 1 t ≤ 8) (h : Q (some (vI (hold H t : Int))) (am_R f0 b) hd n) : wpM d 45 [vR 21, vI (t : Int)] Q (am_R f0 b) hd n := by
  refine z_holderOf hd9 iH hn ?_
  rw [am_A_nat (by omega), (hH.2.2.2 t ht).1, w32_b (x := (H 1 t : Int) - 1) (by omega) (by omega), show (H 1 t : Int) - 1 = ((H 1 t - 1 : Nat) : Int) by omega, ix8 (by omega) (by omega), am_A_nat (by omega), ((hH.2.2.2 t ht).2 (H 1 t - 1) (by omega)).1]
  exact h
theorem g_isLost (hd9 : 2 ≤ d) (hn : 159 ≤ n) (hT : T ≤ 12) (hH : cH hd 21 H T) (hl : H 0 3 < 4096) {t : Nat} (ht : t < T) (ha : (H 0 3).testBit t = true → Q (some (vI 1)) (am_R f0 b) hd n) (hb : ¬ (H 0 3).testBit t = true → Q (some (vI 0)) (am_R f0 b) hd n) : wpM d 40 [vR 21, vI (t : Int)] Q (am_R f0 b) hd n := by
  refine z_isLost hd9 iH hn ?_
  rw [hH.2.1, bit_nat (by omega) (by omega)]
  by_cases h1 : (H 0 3).testBit t = true
  · simp only [h1, if_true]
    exact ha h1
  · simp only [h1]
    exact hb h1
theorem g_apart (hd9 : 3 ≤ d) (ho : isLand o) (hn : 159 ≤ n) (hL : cL hd o L) {p p2 : Nat} (hp : p < L 0 0) (hq : p2 < L 0 0) (h : Q (some (vI (fFar L p p2 : Int))) (am_R f0 b) hd n) : wpM d 93 [vR o, vI (p : Int), vI (p2 : Int)] Q (am_R f0 b) hd n := by
  have hk := lk_P hL.1
  have e1 := (hL.1.2.1 p hp).1
  have e2 := (hL.1.2.1 p2 hq).1
  refine z_apart hd9 ho hn ?_
  rw [am_A_nat (by omega), am_A_nat (by omega), cL_1 hL hp, cL_1 hL hq, w32_b (x := (L 1 p : Int) - (L 1 p2 : Int)) (by omega) (by omega)]
  unfold fFar at h
  by_cases h1 : (L 1 p2 : Int) ≤ (L 1 p : Int)
  · rw [if_pos (by omega)]
    rw [show ((L 1 p - L 1 p2 + (L 1 p2 - L 1 p) : Nat) : Int) = (L 1 p : Int) - (L 1 p2 : Int) by omega] at h
    exact h
  · rw [if_neg (by omega), w32_b (by omega) (by omega)]
    rw [show ((L 1 p - L 1 p2 + (L 1 p2 - L 1 p) : Nat) : Int) = 0 - ((L 1 p : Int) - (L 1 p2 : Int)) by omega] at h
    exact h
theorem fFar_le (hk : Lok L) {p q : Nat} (hp : p < L 0 0) (hq : q < L 0 0) : fFar L p q ≤ 99 := by
  have e1 := (hk.2.1 p hp).1
  have e2 := (hk.2.1 q hq).1
  unfold fFar
  omega
theorem g_push {t p dd : Nat} {x : Int} (hd9 : 3 ≤ d) (hn : 159 ≤ n) (hT : T ≤ 12) (hH : cH hd 21 H T) (h8 : ∀ t, t < T → H 1 t ≤ 8) (ht : t < T) (hlt : H 1 t < 8) (hx : x = (dd : Int) - 1) (h : ∀ hd', nowF hd hd' → hd' 21 = hd 21 → cH hd' 21 (pushH H t p dd) T → Q none (am_R f0 b) hd' n) : wpM d 50 [vR 21, vI (t : Int), vI (p : Int), vI x] Q (am_R f0 b) hd n := by
  obtain ⟨e, rfl, he⟩ := am_dep hd9
  apply en50
  simp only [trX3_push, am_In, am_lay, am_pad, am_st1, am_st2, am_kill, am_get, am_isI, am_isL, am_isR, am_cat, am_cats, am_b, fin0_4, fin1_4, fin2_4, fin3_4, List.length_cons, List.length_nil, List.take, List.drop, List.reverse_cons, List.reverse_nil, List.nil_append, List.cons_append, s_wL, s_wQ, s_wW, s_wB, s_wJ, s_wR, s_wS, s_nil, s_cons, s_oR, s_iconst, s_bipush, s_sipush, s_lconst, s_null, s_iload, s_iload_n, s_lload, s_lload_n, s_aload, s_aload_n, s_istore, s_istore_n, s_astore, s_astore_n, s_lstore, s_lstore_n, s_iinc, s_iadd, s_isub, s_imul, s_iand, s_ior, s_ixor, s_ishl, s_ishr, s_iushr, s_idiv, s_ladd, s_lsub, s_lmul, s_land, s_ldiv, s_lrem, s_lshl, s_lshr, s_lcmp, s_i2l, s_l2i, s_i2b, s_i2c, s_dup, s_dup2, s_pop, s_arraylength, s_iaload, s_baload, s_laload, s_aaload, s_iastore, s_bastore, s_lastore, s_aastore, s_oG, s_oP0, s_oP1, s_oP2, s_oP3, s_oC, s_oN, s_oA, s_oI, s_oL, s_oS, s_oX0, s_oX1, s_oX2, s_oX3, s_oX4, s_oX5, s_goto, s_ifeq, s_iceq, s_ifne, s_icne, s_iflt, s_iclt, s_ifge, s_icge, s_ifgt, s_icgt, s_ifle, s_icle, s_ifnull, s_ifnonnull, s_ireturn, s_lreturn, s_areturn, s_return, s_sw, s_sw0, s_sw1, s_push0, s_push1, s_rd0, s_rd1, s_rd2, s_rd3, s_rty0, s_rtyi, s_rtyz, s_rtyl, s_rtyo, s_rtya, s_rok, s_lab0, s_labs, s_len, s_reci, s_rec0]
  have h21 : 21 < n := by omega
  have h22 : 22 < n := by omega
  have h23 : 23 < n := by omega
  have h24 : 24 < n := by omega
  simp [am_In, am_lay, am_pad, am_st1, am_st2, am_kill, am_get, am_isI, am_isL, am_isR, am_cat, am_cats, am_b, fin0_4, fin1_4, fin2_4, fin3_4, List.length_cons, List.length_nil, List.take, List.drop, List.reverse_cons, List.reverse_nil, List.nil_append, List.cons_append, s_wL, s_wQ, s_wW, s_wB, s_wJ, s_wR, s_wS, s_nil, s_cons, s_oR, s_iconst, s_bipush, s_sipush, s_lconst, s_null, s_iload, s_iload_n, s_lload, s_lload_n, s_aload, s_aload_n, s_istore, s_istore_n, s_astore, s_astore_n, s_lstore, s_lstore_n, s_iinc, s_iadd, s_isub, s_imul, s_iand, s_ior, s_ixor, s_ishl, s_ishr, s_iushr, s_idiv, s_ladd, s_lsub, s_lmul, s_land, s_ldiv, s_lrem, s_lshl, s_lshr, s_lcmp, s_i2l, s_l2i, s_i2b, s_i2c, s_dup, s_dup2, s_pop, s_arraylength, s_iaload, s_baload, s_laload, s_aaload, s_iastore, s_bastore, s_lastore, s_aastore, s_oG, s_oP0, s_oP1, s_oP2, s_oP3, s_oC, s_oN, s_oA, s_oI, s_oL, s_oS, s_oX0, s_oX1, s_oX2, s_oX3, s_oX4, s_oX5, s_goto, s_ifeq, s_iceq, s_ifne, s_icne, s_iflt, s_iclt, s_ifge, s_icge, s_ifgt, s_icgt, s_ifle, s_icle, s_ifnull, s_ifnonnull, s_ireturn, s_lreturn, s_areturn, s_return, s_sw, s_sw0, s_sw1, s_push0, s_push1, s_rd0, s_rd1, s_rd2, s_rd3, s_rty0, s_rtyi, s_rtyz, s_rtyl, s_rtyo, s_rtya, s_rok, s_lab0, s_labs, s_len, s_reci, s_rec0, sh_21, h21, R21_0, R21_1, R21_2]
  refine g_depthOf (by omega) hn hT hH ht ?_
  simp [am_In, am_lay, am_pad, am_st1, am_st2, am_kill, am_get, am_isI, am_isL, am_isR, am_cat, am_cats, am_b, fin0_4, fin1_4, fin2_4, fin3_4, List.length_cons, List.length_nil, List.take, List.drop, List.reverse_cons, List.reverse_nil, List.nil_append, List.cons_append, s_wL, s_wQ, s_wW, s_wB, s_wJ, s_wR, s_wS, s_nil, s_cons, s_oR, s_iconst, s_bipush, s_sipush, s_lconst, s_null, s_iload, s_iload_n, s_lload, s_lload_n, s_aload, s_aload_n, s_istore, s_istore_n, s_astore, s_astore_n, s_lstore, s_lstore_n, s_iinc, s_iadd, s_isub, s_imul, s_iand, s_ior, s_ixor, s_ishl, s_ishr, s_iushr, s_idiv, s_ladd, s_lsub, s_lmul, s_land, s_ldiv, s_lrem, s_lshl, s_lshr, s_lcmp, s_i2l, s_l2i, s_i2b, s_i2c, s_dup, s_dup2, s_pop, s_arraylength, s_iaload, s_baload, s_laload, s_aaload, s_iastore, s_bastore, s_lastore, s_aastore, s_oG, s_oP0, s_oP1, s_oP2, s_oP3, s_oC, s_oN, s_oA, s_oI, s_oL, s_oS, s_oX0, s_oX1, s_oX2, s_oX3, s_oX4, s_oX5, s_goto, s_ifeq, s_iceq, s_ifne, s_icne, s_iflt, s_iclt, s_ifge, s_icge, s_ifgt, s_icgt, s_ifle, s_icle, s_ifnull, s_ifnonnull, s_ireturn, s_lreturn, s_areturn, s_return, s_sw, s_sw0, s_sw1, s_push0, s_push1, s_rd0, s_rd1, s_rd2, s_rd3, s_rty0, s_rtyi, s_rtyz, s_rtyl, s_rtyo, s_rtya, s_rok, s_lab0, s_labs, s_len, s_reci, s_rec0, sh_21, h21, R21_0, R21_1, R21_2]
  refine ⟨fun h1 => by omega, fun h1 => ?_⟩
  rw [ix8 (by omega) (by omega)]
  refine x_putP (by omega) sh_23 (by omega) sl_23 ?_
  rw [am_P_nat (by omega)]
  simp [am_In, am_lay, am_pad, am_st1, am_st2, am_kill, am_get, am_isI, am_isL, am_isR, am_cat, am_cats, am_b, fin0_4, fin1_4, fin2_4, fin3_4, List.length_cons, List.length_nil, List.take, List.drop, List.reverse_cons, List.reverse_nil, List.nil_append, List.cons_append, s_wL, s_wQ, s_wW, s_wB, s_wJ, s_wR, s_wS, s_nil, s_cons, s_oR, s_iconst, s_bipush, s_sipush, s_lconst, s_null, s_iload, s_iload_n, s_lload, s_lload_n, s_aload, s_aload_n, s_istore, s_istore_n, s_astore, s_astore_n, s_lstore, s_lstore_n, s_iinc, s_iadd, s_isub, s_imul, s_iand, s_ior, s_ixor, s_ishl, s_ishr, s_iushr, s_idiv, s_ladd, s_lsub, s_lmul, s_land, s_ldiv, s_lrem, s_lshl, s_lshr, s_lcmp, s_i2l, s_l2i, s_i2b, s_i2c, s_dup, s_dup2, s_pop, s_arraylength, s_iaload, s_baload, s_laload, s_aaload, s_iastore, s_bastore, s_lastore, s_aastore, s_oG, s_oP0, s_oP1, s_oP2, s_oP3, s_oC, s_oN, s_oA, s_oI, s_oL, s_oS, s_oX0, s_oX1, s_oX2, s_oX3, s_oX4, s_oX5, s_goto, s_ifeq, s_iceq, s_ifne, s_icne, s_iflt, s_iclt, s_ifge, s_icge, s_ifgt, s_icgt, s_ifle, s_icle, s_ifnull, s_ifnonnull, s_ireturn, s_lreturn, s_areturn, s_return, s_sw, s_sw0, s_sw1, s_push0, s_push1, s_rd0, s_rd1, s_rd2, s_rd3, s_rty0, s_rtyi, s_rtyz, s_rtyl, s_rtyo, s_rtya, s_rok, s_lab0, s_labs, s_len, s_reci, s_rec0, sh_21, h21, R21_0, R21_1, R21_2]
  rw [show 8 * (t : Int) + (H 1 t : Int) = ((8 * t + H 1 t : Nat) : Int) by omega]
  refine x_putP (by omega) sh_24 (by omega) sl_24 ?_
  rw [am_P_nat (by omega)]
  simp [am_In, am_lay, am_pad, am_st1, am_st2, am_kill, am_get, am_isI, am_isL, am_isR, am_cat, am_cats, am_b, fin0_4, fin1_4, fin2_4, fin3_4, List.length_cons, List.length_nil, List.take, List.drop, List.reverse_cons, List.reverse_nil, List.nil_append, List.cons_append, s_wL, s_wQ, s_wW, s_wB, s_wJ, s_wR, s_wS, s_nil, s_cons, s_oR, s_iconst, s_bipush, s_sipush, s_lconst, s_null, s_iload, s_iload_n, s_lload, s_lload_n, s_aload, s_aload_n, s_istore, s_istore_n, s_astore, s_astore_n, s_lstore, s_lstore_n, s_iinc, s_iadd, s_isub, s_imul, s_iand, s_ior, s_ixor, s_ishl, s_ishr, s_iushr, s_idiv, s_ladd, s_lsub, s_lmul, s_land, s_ldiv, s_lrem, s_lshl, s_lshr, s_lcmp, s_i2l, s_l2i, s_i2b, s_i2c, s_dup, s_dup2, s_pop, s_arraylength, s_iaload, s_baload, s_laload, s_aaload, s_iastore, s_bastore, s_lastore, s_aastore, s_oG, s_oP0, s_oP1, s_oP2, s_oP3, s_oC, s_oN, s_oA, s_oI, s_oL, s_oS, s_oX0, s_oX1, s_oX2, s_oX3, s_oX4, s_oX5, s_goto, s_ifeq, s_iceq, s_ifne, s_icne, s_iflt, s_iclt, s_ifge, s_icge, s_ifgt, s_icgt, s_ifle, s_icle, s_ifnull, s_ifnonnull, s_ireturn, s_lreturn, s_areturn, s_return, s_sw, s_sw0, s_sw1, s_push0, s_push1, s_rd0, s_rd1, s_rd2, s_rd3, s_rty0, s_rtyi, s_rtyz, s_rtyl, s_rtyo, s_rtya, s_rok, s_lab0, s_labs, s_len, s_reci, s_rec0, sh_21, h21, R21_0, R21_1, R21_2]
  rw [w32_s (by omega)]
  refine x_putP (by omega) sh_22 (by omega) sl_22 ?_
  rw [am_P_nat (by omega)]
  simp [am_In, am_lay, am_pad, am_st1, am_st2, am_kill, am_get, am_isI, am_isL, am_isR, am_cat, am_cats, am_b, fin0_4, fin1_4, fin2_4, fin3_4, List.length_cons, List.length_nil, List.take, List.drop, List.reverse_cons, List.reverse_nil, List.nil_append, List.cons_append, s_wL, s_wQ, s_wW, s_wB, s_wJ, s_wR, s_wS, s_nil, s_cons, s_oR, s_iconst, s_bipush, s_sipush, s_lconst, s_null, s_iload, s_iload_n, s_lload, s_lload_n, s_aload, s_aload_n, s_istore, s_istore_n, s_astore, s_astore_n, s_lstore, s_lstore_n, s_iinc, s_iadd, s_isub, s_imul, s_iand, s_ior, s_ixor, s_ishl, s_ishr, s_iushr, s_idiv, s_ladd, s_lsub, s_lmul, s_land, s_ldiv, s_lrem, s_lshl, s_lshr, s_lcmp, s_i2l, s_l2i, s_i2b, s_i2c, s_dup, s_dup2, s_pop, s_arraylength, s_iaload, s_baload, s_laload, s_aaload, s_iastore, s_bastore, s_lastore, s_aastore, s_oG, s_oP0, s_oP1, s_oP2, s_oP3, s_oC, s_oN, s_oA, s_oI, s_oL, s_oS, s_oX0, s_oX1, s_oX2, s_oX3, s_oX4, s_oX5, s_goto, s_ifeq, s_iceq, s_ifne, s_icne, s_iflt, s_iclt, s_ifge, s_icge, s_ifgt, s_icgt, s_ifle, s_icle, s_ifnull, s_ifnonnull, s_ireturn, s_lreturn, s_areturn, s_return, s_sw, s_sw0, s_sw1, s_push0, s_push1, s_rd0, s_rd1, s_rd2, s_rd3, s_rty0, s_rtyi, s_rtyz, s_rtyl, s_rtyo, s_rtya, s_rok, s_lab0, s_labs, s_len, s_reci, s_rec0, sh_21, h21, R21_0, R21_1, R21_2]
  refine h _ ?_ ?_ (cH_push h8 hH ht hlt hx)
  · exact nowF_up (nowF_up (nowF_up (nowF_r hd) (by decide)) (by decide)) (by decide)
  · rw [up_ne (by decide), up_ne (by decide), up_ne (by decide)]
theorem g_isInChain {t p : Nat} (hd9 : 3 ≤ d) (hn : 159 ≤ n) (hT : T ≤ 12) (hH : cH hd 21 H T) (h8 : ∀ t, t < T → H 1 t ≤ 8) (ht : t < T) (ha : (∃ k, k < H 1 t ∧ H 2 (10 * t + k) = p) → Q (some (vI 1)) (am_R f0 b) hd n) (hb : (∀ k, k < H 1 t → H 2 (10 * t + k) ≠ p) → Q (some (vI 0)) (am_R f0 b) hd n) : wpM d 48 [vR 21, vI (t : Int), vI (p : Int)] Q (am_R f0 b) hd n := by
  obtain ⟨e, rfl, he⟩ := am_dep hd9
  apply en48
  simp only [trX3_isInChain, am_In, am_lay, am_pad, am_st1, am_st2, am_kill, am_get, am_isI, am_isL, am_isR, am_cat, am_cats, am_b, fin0_4, fin1_4, fin2_4, fin3_4, List.length_cons, List.length_nil, List.take, List.drop, List.reverse_cons, List.reverse_nil, List.nil_append, List.cons_append, s_wL, s_wQ, s_wW, s_wB, s_wJ, s_wR, s_wS, s_nil, s_cons, s_oR, s_iconst, s_bipush, s_sipush, s_lconst, s_null, s_iload, s_iload_n, s_lload, s_lload_n, s_aload, s_aload_n, s_istore, s_istore_n, s_astore, s_astore_n, s_lstore, s_lstore_n, s_iinc, s_iadd, s_isub, s_imul, s_iand, s_ior, s_ixor, s_ishl, s_ishr, s_iushr, s_idiv, s_ladd, s_lsub, s_lmul, s_land, s_ldiv, s_lrem, s_lshl, s_lshr, s_lcmp, s_i2l, s_l2i, s_i2b, s_i2c, s_dup, s_dup2, s_pop, s_arraylength, s_iaload, s_baload, s_laload, s_aaload, s_iastore, s_bastore, s_lastore, s_aastore, s_oG, s_oP0, s_oP1, s_oP2, s_oP3, s_oC, s_oN, s_oA, s_oI, s_oL, s_oS, s_oX0, s_oX1, s_oX2, s_oX3, s_oX4, s_oX5, s_goto, s_ifeq, s_iceq, s_ifne, s_icne, s_iflt, s_iclt, s_ifge, s_icge, s_ifgt, s_icgt, s_ifle, s_icle, s_ifnull, s_ifnonnull, s_ireturn, s_lreturn, s_areturn, s_return, s_sw, s_sw0, s_sw1, s_push0, s_push1, s_rd0, s_rd1, s_rd2, s_rd3, s_rty0, s_rtyi, s_rtyz, s_rtyl, s_rtyo, s_rtya, s_rok, s_lab0, s_labs, s_len, s_reci, s_rec0]
  have h21 : 21 < n := by omega
  have e8 := h8 t ht
  simp [am_In, am_lay, am_pad, am_st1, am_st2, am_kill, am_get, am_isI, am_isL, am_isR, am_cat, am_cats, am_b, fin0_4, fin1_4, fin2_4, fin3_4, List.length_cons, List.length_nil, List.take, List.drop, List.reverse_cons, List.reverse_nil, List.nil_append, List.cons_append, s_wL, s_wQ, s_wW, s_wB, s_wJ, s_wR, s_wS, s_nil, s_cons, s_oR, s_iconst, s_bipush, s_sipush, s_lconst, s_null, s_iload, s_iload_n, s_lload, s_lload_n, s_aload, s_aload_n, s_istore, s_istore_n, s_astore, s_astore_n, s_lstore, s_lstore_n, s_iinc, s_iadd, s_isub, s_imul, s_iand, s_ior, s_ixor, s_ishl, s_ishr, s_iushr, s_idiv, s_ladd, s_lsub, s_lmul, s_land, s_ldiv, s_lrem, s_lshl, s_lshr, s_lcmp, s_i2l, s_l2i, s_i2b, s_i2c, s_dup, s_dup2, s_pop, s_arraylength, s_iaload, s_baload, s_laload, s_aaload, s_iastore, s_bastore, s_lastore, s_aastore, s_oG, s_oP0, s_oP1, s_oP2, s_oP3, s_oC, s_oN, s_oA, s_oI, s_oL, s_oS, s_oX0, s_oX1, s_oX2, s_oX3, s_oX4, s_oX5, s_goto, s_ifeq, s_iceq, s_ifne, s_icne, s_iflt, s_iclt, s_ifge, s_icge, s_ifgt, s_icgt, s_ifle, s_icle, s_ifnull, s_ifnonnull, s_ireturn, s_lreturn, s_areturn, s_return, s_sw, s_sw0, s_sw1, s_push0, s_push1, s_rd0, s_rd1, s_rd2, s_rd3, s_rty0, s_rtyi, s_rtyz, s_rtyl, s_rtyo, s_rtya, s_rok, s_lab0, s_labs, s_len, s_reci, s_rec0, sh_21, h21, R21_0, R21_1, R21_2]
  refine loop_inv (I := fun k ls st hr9 hd9 n9 u us => ∃ q : Nat, k = H 1 t - q ∧ q ≤ H 1 t ∧ ls = [vR 21, vI (t : Int), vI (p : Int), vI (q : Int)] ∧ st = [] ∧ am_R f0 b = hr9 ∧ hd = hd9 ∧ n = n9 ∧ u = 0 ∧ us = 0 ∧ (∀ k, k < q → H 2 (10 * t + k) ≠ p)) ?_ (H 1 t) ?_
  · intro k ls st hr' hd' n' u us hI P hP
    obtain ⟨q, rfl, hq, rfl, rfl, rfl, rfl, rfl, rfl, rfl, hx9⟩ := hI
    simp [am_In, am_lay, am_pad, am_st1, am_st2, am_kill, am_get, am_isI, am_isL, am_isR, am_cat, am_cats, am_b, fin0_4, fin1_4, fin2_4, fin3_4, List.length_cons, List.length_nil, List.take, List.drop, List.reverse_cons, List.reverse_nil, List.nil_append, List.cons_append, s_wL, s_wQ, s_wW, s_wB, s_wJ, s_wR, s_wS, s_nil, s_cons, s_oR, s_iconst, s_bipush, s_sipush, s_lconst, s_null, s_iload, s_iload_n, s_lload, s_lload_n, s_aload, s_aload_n, s_istore, s_istore_n, s_astore, s_astore_n, s_lstore, s_lstore_n, s_iinc, s_iadd, s_isub, s_imul, s_iand, s_ior, s_ixor, s_ishl, s_ishr, s_iushr, s_idiv, s_ladd, s_lsub, s_lmul, s_land, s_ldiv, s_lrem, s_lshl, s_lshr, s_lcmp, s_i2l, s_l2i, s_i2b, s_i2c, s_dup, s_dup2, s_pop, s_arraylength, s_iaload, s_baload, s_laload, s_aaload, s_iastore, s_bastore, s_lastore, s_aastore, s_oG, s_oP0, s_oP1, s_oP2, s_oP3, s_oC, s_oN, s_oA, s_oI, s_oL, s_oS, s_oX0, s_oX1, s_oX2, s_oX3, s_oX4, s_oX5, s_goto, s_ifeq, s_iceq, s_ifne, s_icne, s_iflt, s_iclt, s_ifge, s_icge, s_ifgt, s_icgt, s_ifle, s_icle, s_ifnull, s_ifnonnull, s_ireturn, s_lreturn, s_areturn, s_return, s_sw, s_sw0, s_sw1, s_push0, s_push1, s_rd0, s_rd1, s_rd2, s_rd3, s_rty0, s_rtyi, s_rtyz, s_rtyl, s_rtyo, s_rtya, s_rok, s_lab0, s_labs, s_len, s_reci, s_rec0, sh_21, h21, R21_0, R21_1, R21_2]
    refine g_depthOf (by omega) hn hT hH ht ?_
    simp [am_In, am_lay, am_pad, am_st1, am_st2, am_kill, am_get, am_isI, am_isL, am_isR, am_cat, am_cats, am_b, fin0_4, fin1_4, fin2_4, fin3_4, List.length_cons, List.length_nil, List.take, List.drop, List.reverse_cons, List.reverse_nil, List.nil_append, List.cons_append, s_wL, s_wQ, s_wW, s_wB, s_wJ, s_wR, s_wS, s_nil, s_cons, s_oR, s_iconst, s_bipush, s_sipush, s_lconst, s_null, s_iload, s_iload_n, s_lload, s_lload_n, s_aload, s_aload_n, s_istore, s_istore_n, s_astore, s_astore_n, s_lstore, s_lstore_n, s_iinc, s_iadd, s_isub, s_imul, s_iand, s_ior, s_ixor, s_ishl, s_ishr, s_iushr, s_idiv, s_ladd, s_lsub, s_lmul, s_land, s_ldiv, s_lrem, s_lshl, s_lshr, s_lcmp, s_i2l, s_l2i, s_i2b, s_i2c, s_dup, s_dup2, s_pop, s_arraylength, s_iaload, s_baload, s_laload, s_aaload, s_iastore, s_bastore, s_lastore, s_aastore, s_oG, s_oP0, s_oP1, s_oP2, s_oP3, s_oC, s_oN, s_oA, s_oI, s_oL, s_oS, s_oX0, s_oX1, s_oX2, s_oX3, s_oX4, s_oX5, s_goto, s_ifeq, s_iceq, s_ifne, s_icne, s_iflt, s_iclt, s_ifge, s_icge, s_ifgt, s_icgt, s_ifle, s_icle, s_ifnull, s_ifnonnull, s_ireturn, s_lreturn, s_areturn, s_return, s_sw, s_sw0, s_sw1, s_push0, s_push1, s_rd0, s_rd1, s_rd2, s_rd3, s_rty0, s_rtyi, s_rtyz, s_rtyl, s_rtyo, s_rtya, s_rok, s_lab0, s_labs, s_len, s_reci, s_rec0, sh_21, h21, R21_0, R21_1, R21_2]
    refine ⟨fun hge => ?_, fun hlt => ?_⟩
    · exact hb (fun k hk => hx9 k (by omega))
    · refine g_whoAt (by omega) hn hT hH ht (by omega) (by omega) ?_
      simp [am_In, am_lay, am_pad, am_st1, am_st2, am_kill, am_get, am_isI, am_isL, am_isR, am_cat, am_cats, am_b, fin0_4, fin1_4, fin2_4, fin3_4, List.length_cons, List.length_nil, List.take, List.drop, List.reverse_cons, List.reverse_nil, List.nil_append, List.cons_append, s_wL, s_wQ, s_wW, s_wB, s_wJ, s_wR, s_wS, s_nil, s_cons, s_oR, s_iconst, s_bipush, s_sipush, s_lconst, s_null, s_iload, s_iload_n, s_lload, s_lload_n, s_aload, s_aload_n, s_istore, s_istore_n, s_astore, s_astore_n, s_lstore, s_lstore_n, s_iinc, s_iadd, s_isub, s_imul, s_iand, s_ior, s_ixor, s_ishl, s_ishr, s_iushr, s_idiv, s_ladd, s_lsub, s_lmul, s_land, s_ldiv, s_lrem, s_lshl, s_lshr, s_lcmp, s_i2l, s_l2i, s_i2b, s_i2c, s_dup, s_dup2, s_pop, s_arraylength, s_iaload, s_baload, s_laload, s_aaload, s_iastore, s_bastore, s_lastore, s_aastore, s_oG, s_oP0, s_oP1, s_oP2, s_oP3, s_oC, s_oN, s_oA, s_oI, s_oL, s_oS, s_oX0, s_oX1, s_oX2, s_oX3, s_oX4, s_oX5, s_goto, s_ifeq, s_iceq, s_ifne, s_icne, s_iflt, s_iclt, s_ifge, s_icge, s_ifgt, s_icgt, s_ifle, s_icle, s_ifnull, s_ifnonnull, s_ireturn, s_lreturn, s_areturn, s_return, s_sw, s_sw0, s_sw1, s_push0, s_push1, s_rd0, s_rd1, s_rd2, s_rd3, s_rty0, s_rtyi, s_rtyz, s_rtyl, s_rtyo, s_rtya, s_rok, s_lab0, s_labs, s_len, s_reci, s_rec0, sh_21, h21, R21_0, R21_1, R21_2]
      refine ⟨fun h1 => ?_, fun h1 => ?_⟩
      · refine hP (H 1 t - (q + 1)) (by omega) _ _ _ _ _ _ _ ⟨q + 1, rfl, by omega, ?_, rfl, rfl, rfl, rfl, rfl, rfl, ?_⟩
        · rw [w32_1, w32_s (by omega)]
        · intro k hk
          by_cases h2 : k = q
          · subst h2; omega
          · exact hx9 k (by omega)
      · exact ha ⟨q, by omega, by omega⟩
  · exact ⟨0, rfl, Nat.zero_le _, rfl, rfl, rfl, rfl, rfl, rfl, rfl, fun k hk => absurd hk (Nat.not_lt_zero k)⟩
end
