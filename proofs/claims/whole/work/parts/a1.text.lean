/-! TEXT: the same bytes -/
theorem w8_i32 (a : Int32) : w8 a.toInt = Int.bmod ((a.toBitVec.setWidth 8).toNat : Int) 256 := by
  show Int.bmod a.toBitVec.toInt 256 = _
  rw [BitVec.toInt_eq_toNat_bmod, BitVec.toNat_setWidth]
  rw [Int.bmod_bmod_of_dvd (by decide)]
  rw [Int.natCast_emod]
  exact (Int.emod_bmod ..).symm
theorem shr_bv {x : Int} {k : Nat} (hk : k < 32) : (Int32.ofInt x >>> (Int32.ofInt (k : Int) &&& 31)).toBitVec = (Int32.ofInt x).toBitVec.sshiftRight k := by
  rw [Int32.toBitVec_shiftRight, sh_amt hk]
  have h2 : ∀ k : Nat, k < 32 → (BitVec.ofNat 32 k).smod 32 = BitVec.ofNat 32 k := by decide +kernel
  rw [h2 k hk, BitVec.sshiftRight', BitVec.toNat_ofNat, Nat.mod_eq_of_lt (by omega)]
theorem ushr_bv {x : Int} {k : Nat} (hk : k < 32) : ((Int32.ofInt x).toUInt32 >>> ((Int32.ofInt (k : Int)).toUInt32 &&& Int32.toUInt32 31)).toInt32.toBitVec = (Int32.ofInt x).toBitVec >>> k := by
  show (Int32.ofInt x).toBitVec >>> ((Int32.ofInt (k : Int) &&& 31).toBitVec % 32) = _
  rw [sh_amt hk]
  have h2 : ∀ k : Nat, k < 32 → (BitVec.ofNat 32 k % 32) = BitVec.ofNat 32 k := by decide +kernel
  rw [h2 k hk, BitVec.ushiftRight_eq', BitVec.toNat_ofNat, Nat.mod_eq_of_lt (by omega)]
theorem w8_sh (x : Int) {k : Nat} (hk : k ≤ 24) : w8 (am_shr x (k : Int)) = w8 (am_ushr x (k : Int)) := by
  show w8 (Int32.ofInt x >>> (Int32.ofInt (k : Int) &&& 31)).toInt = w8 (((Int32.ofInt x).toUInt32 >>> ((Int32.ofInt (k : Int)).toUInt32 &&& Int32.toUInt32 31)).toInt32).toInt
  rw [w8_i32, w8_i32, shr_bv (by omega), ushr_bv (by omega)]
  have e : ((Int32.ofInt x).toBitVec.sshiftRight k).setWidth 8 = ((Int32.ofInt x).toBitVec >>> k).setWidth 8 := by
    apply BitVec.eq_of_getLsbD_eq
    intro i hi
    rw [BitVec.getLsbD_setWidth, BitVec.getLsbD_setWidth, BitVec.getLsbD_sshiftRight, BitVec.getLsbD_ushiftRight]
    simp [show ¬ 32 ≤ i by omega, show k + i < 32 by omega]
  rw [e]
theorem w8_0 (x : Int) : w8 (am_ushr x ((0 : Nat) : Int)) = w8 x := by
  rw [← w8_sh x (by omega)]
  show w8 (Int32.ofInt x >>> (Int32.ofInt ((0 : Nat) : Int) &&& 31)).toInt = w8 x
  rw [ti_bv, shr_bv (by omega), BitVec.sshiftRight_zero]
  show w8 (Int32.ofInt x).toInt = _
  rw [Int32.toInt_ofInt]
  exact Int.bmod_bmod_of_dvd (by decide)
def apN (T : Nat → Int) (m : Nat) (y : Int) : Nat → Int := fun j => if j = m then w8 y else T j
theorem apN_c (T : Nat → Int) (m : Nat) {y z : Int} (h : w8 y = w8 z) : apN T m y = apN T m z := by
  unfold apN
  rw [h]
section
variable {hd : amD} {T : Nat → Int} {m : Nat}
theorem txC_tb (h : txC hd T m) (hm : m < 500) (y : Int) : txC (am_tb hd y) (apN T m y) (m + 1) ∧ ∀ i, i ≠ 18 → i ≠ 19 → am_tb hd y i = hd i := by
  obtain ⟨h1, h2, h3⟩ := h
  have e : am_tb hd y = am_up (am_up hd 19 m (w8 y)) 18 1 ((m + 1 : Nat) : Int) := by
    unfold am_tb
    rw [if_pos ⟨by omega, by omega⟩, h1, Int.toNat_natCast, w32_id ⟨by omega, by omega⟩]
    rfl
  rw [e]
  refine ⟨⟨by rw [up_at, if_pos rfl, if_pos rfl], by omega, fun j hj => ?_⟩, fun i a1 a2 => by rw [up_ne a1, up_ne a2]⟩
  rw [up_ne (show 19 ≠ 18 by decide), up_at, if_pos rfl]
  unfold apN
  by_cases c : j = m
  · rw [if_pos c, if_pos c]
    exact ⟨rfl, w8_in y⟩
  · rw [if_neg c, if_neg c]
    exact h3 j (by omega)
theorem txM_mb (h : txM hd T m) (hm : m < 500) (y : Int) : txM (am_mb hd y) (apN T m y) (m + 1) ∧ (∀ i, i ≠ 98 → i ≠ 100 → am_mb hd y i = hd i) ∧ ∀ j, j ≠ 2 → am_mb hd y 98 j = hd 98 j := by
  obtain ⟨h1, h2, h3⟩ := h
  have e : am_mb hd y = am_up (am_up hd 100 m (w8 y)) 98 2 ((m + 1 : Nat) : Int) := by
    unfold am_mb
    rw [h1, Int.toNat_natCast, w32_id ⟨by omega, by omega⟩]
    rfl
  rw [e]
  refine ⟨⟨by rw [up_at, if_pos rfl, if_pos rfl], by omega, fun j hj => ?_⟩, fun i a1 a2 => by rw [up_ne a1, up_ne a2], fun j hj => by rw [up_at, if_pos rfl, if_neg hj, up_ne (by decide)]⟩
  rw [up_ne (show 100 ≠ 98 by decide), up_at, if_pos rfl]
  unfold apN
  by_cases c : j = m
  · rw [if_pos c, if_pos c]
    exact ⟨rfl, w8_in y⟩
  · rw [if_neg c, if_neg c]
    exact h3 j (by omega)
def F4 (T : Nat → Int) (m : Nat) (x : Int) : Nat → Int := apN (apN (apN (apN T m (am_shr x 24)) (m + 1) (am_shr x 16)) (m + 2) (am_shr x 8)) (m + 3) x
theorem txC_tn (h : txC hd T m) (hm : m + 4 ≤ 500) (x : Int) : txC (am_tn hd x) (F4 T m x) (m + 4) ∧ ∀ i, i ≠ 18 → i ≠ 19 → am_tn hd x i = hd i := by
  have a := txC_tb h (by omega) (am_shr x 24)
  have b := txC_tb a.1 (by omega) (am_shr x 16)
  have c := txC_tb b.1 (by omega) (am_shr x 8)
  have e := txC_tb c.1 (by omega) x
  exact ⟨e.1, fun i a1 a2 => (e.2 i a1 a2).trans ((c.2 i a1 a2).trans ((b.2 i a1 a2).trans (a.2 i a1 a2)))⟩
theorem txM_m4 (h : txM hd T m) (hm : m + 4 ≤ 500) (x : Int) : txM (am_m4 hd x) (F4 T m x) (m + 4) ∧ (∀ i, i ≠ 98 → i ≠ 100 → am_m4 hd x i = hd i) ∧ ∀ j, j ≠ 2 → am_m4 hd x 98 j = hd 98 j := by
  have a := txM_mb h (by omega) (am_ushr x ((24 : Nat) : Int))
  have b := txM_mb a.1 (by omega) (am_ushr x ((16 : Nat) : Int))
  have c := txM_mb b.1 (by omega) (am_ushr x ((8 : Nat) : Int))
  have e := txM_mb c.1 (by omega) (am_ushr x ((0 : Nat) : Int))
  have E : F4 T m x = apN (apN (apN (apN T m (am_ushr x ((24 : Nat) : Int))) (m + 1) (am_ushr x ((16 : Nat) : Int))) (m + 2) (am_ushr x ((8 : Nat) : Int))) (m + 3) (am_ushr x ((0 : Nat) : Int)) := by
    unfold F4
    rw [apN_c T m (w8_sh x (show 24 ≤ 24 by omega)).symm, apN_c _ (m + 1) (w8_sh x (show 16 ≤ 24 by omega)).symm, apN_c _ (m + 2) (w8_sh x (show 8 ≤ 24 by omega)).symm, apN_c _ (m + 3) (w8_0 x)]
    rfl
  rw [E]
  exact ⟨e.1, fun i a1 a2 => (e.2.1 i a1 a2).trans ((c.2.1 i a1 a2).trans ((b.2.1 i a1 a2).trans (a.2.1 i a1 a2))), fun j hj => (e.2.2 j hj).trans ((c.2.2 j hj).trans ((b.2.2 j hj).trans (a.2.2 j hj)))⟩
def F20 (T : Nat → Int) (m : Nat) (x0 x1 x2 x3 x4 : Int) : Nat → Int := F4 (F4 (F4 (F4 (F4 T m x0) (m + 4) x1) (m + 8) x2) (m + 12) x3) (m + 16) x4
theorem txC_20 (h : txC hd T m) (hm : m + 20 ≤ 500) (x0 x1 x2 x3 x4 : Int) : txC (am_tn (am_tn (am_tn (am_tn (am_tn hd x0) x1) x2) x3) x4) (F20 T m x0 x1 x2 x3 x4) (m + 20) ∧ ∀ i, i ≠ 18 → i ≠ 19 → am_tn (am_tn (am_tn (am_tn (am_tn hd x0) x1) x2) x3) x4 i = hd i := by
  have a := txC_tn h (by omega) x0
  have b := txC_tn a.1 (by omega) x1
  have c := txC_tn b.1 (by omega) x2
  have e := txC_tn c.1 (by omega) x3
  have f := txC_tn e.1 (by omega) x4
  exact ⟨f.1, fun i a1 a2 => (f.2 i a1 a2).trans ((e.2 i a1 a2).trans ((c.2 i a1 a2).trans ((b.2 i a1 a2).trans (a.2 i a1 a2))))⟩
theorem txM_20 (h : txM hd T m) (hm : m + 20 ≤ 500) (x0 x1 x2 x3 x4 : Int) : txM (am_m4 (am_m4 (am_m4 (am_m4 (am_m4 hd x0) x1) x2) x3) x4) (F20 T m x0 x1 x2 x3 x4) (m + 20) ∧ (∀ i, i ≠ 98 → i ≠ 100 → am_m4 (am_m4 (am_m4 (am_m4 (am_m4 hd x0) x1) x2) x3) x4 i = hd i) ∧ ∀ j, j ≠ 2 → am_m4 (am_m4 (am_m4 (am_m4 (am_m4 hd x0) x1) x2) x3) x4 98 j = hd 98 j := by
  have a := txM_m4 h (by omega) x0
  have b := txM_m4 a.1 (by omega) x1
  have c := txM_m4 b.1 (by omega) x2
  have e := txM_m4 c.1 (by omega) x3
  have f := txM_m4 e.1 (by omega) x4
  exact ⟨f.1, fun i a1 a2 => (f.2.1 i a1 a2).trans ((e.2.1 i a1 a2).trans ((c.2.1 i a1 a2).trans ((b.2.1 i a1 a2).trans (a.2.1 i a1 a2)))), fun j hj => (f.2.2 j hj).trans ((e.2.2 j hj).trans ((c.2.2 j hj).trans ((b.2.2 j hj).trans (a.2.2 j hj))))⟩
end
