/-! THE SMALL MACHINE: a weakest-precondition reading of the claim's bytecode over a plain store.
A value is an int, a long (both as Int), a place (0: null) or nothing. References lie in one store (amR), numbers in another (amD), by place and slot. -/
abbrev amV : Type := Int ⊕ (Int ⊕ (Nat ⊕ Unit))
abbrev vI (x : Int) : amV := .inl x
abbrev vL (x : Int) : amV := .inr (.inl x)
abbrev vR (i : Nat) : amV := .inr (.inr (.inl i))
abbrev vU : amV := .inr (.inr (.inr ()))
abbrev amR : Type := Nat → Nat → Nat
abbrev amD : Type := Nat → Nat → Int
abbrev amP : Type := List amV → List amV → amR → amD → Nat → Nat → Nat → Prop
abbrev amQ : Type := Option amV → amR → amD → Nat → Prop
abbrev amQu : Type := Option amV → amR → amD → Nat → Nat → Nat → Prop
abbrev amO : Type := Nat → List amV → amQ → amR → amD → Nat → Prop
def w32 (x : Int) : Int := Int.bmod x 4294967296
def w64 (x : Int) : Int := Int.bmod x 18446744073709551616
def w8 (x : Int) : Int := Int.bmod x 256
def am_i2 (f : Int32 → Int32 → Int32) (a b : Int) : Int := (f (Int32.ofInt a) (Int32.ofInt b)).toInt
def am_and (a b : Int) : Int := am_i2 (fun x y => x &&& y) a b
def am_or (a b : Int) : Int := am_i2 (fun x y => x ||| y) a b
def am_xor (a b : Int) : Int := am_i2 (fun x y => x ^^^ y) a b
def am_shl (a b : Int) : Int := am_i2 (fun x y => x <<< (y &&& 31)) a b
def am_shr (a b : Int) : Int := am_i2 (fun x y => x >>> (y &&& 31)) a b
def am_ushr (a b : Int) : Int := am_i2 (fun x y => (x.toUInt32 >>> (y.toUInt32 &&& Int32.toUInt32 31)).toInt32) a b
def am_land (a b : Int) : Int := (Int64.ofInt a &&& Int64.ofInt b).toInt
def am_lshl (a b : Int) : Int := (Int64.ofInt a <<< ((Int32.ofInt b).toInt64 &&& 63)).toInt
def am_lshr (a b : Int) : Int := (Int64.ofInt a >>> ((Int32.ofInt b).toInt64 &&& 63)).toInt
def am_lcmp (a b : Int) : Int := if b < a then 1 else if a = b then 0 else -1
def am_up {α : Type} (f : Nat → Nat → α) (i j : Nat) (v : α) : Nat → Nat → α := fun a => if a = i then (fun b => if b = j then v else f a b) else f a
def am_row {α : Type} (f : Nat → Nat → α) (i : Nat) (g : Nat → α) : Nat → Nat → α := fun a => if a = i then g else f a
def am_get : List amV → Nat → amV
  | [], _ => vU
  | a :: _, 0 => a
  | _ :: l, n + 1 => am_get l n
def am_kill : amV → amV
  | .inr (.inl _) => vU
  | v => v
def am_st1 : List amV → Nat → amV → List amV
  | [], _, _ => []
  | _ :: l, 0, v => v :: l
  | a :: l, 1, v => am_kill a :: am_st1 l 0 v
  | a :: l, n + 2, v => a :: am_st1 l (n + 1) v
def am_st2 : List amV → Nat → amV → List amV
  | [], _, _ => []
  | [a], _, _ => [a]
  | _ :: _ :: l, 0, v => v :: vU :: l
  | a :: b :: l, 1, v => am_kill a :: am_st2 (b :: l) 0 v
  | a :: b :: l, n + 2, v => a :: am_st2 (b :: l) (n + 1) v
def am_cat : amV → Nat
  | .inr (.inl _) => 2
  | _ => 1
def am_cats : List amV → Nat
  | [] => 0
  | a :: l => am_cat a + am_cats l
def am_lay : List amV → List amV
  | [] => []
  | .inr (.inl x) :: l => vL x :: vU :: am_lay l
  | a :: l => a :: am_lay l
def am_pad : List amV → Nat → List amV
  | l, 0 => l
  | [], n + 1 => vU :: am_pad [] n
  | a :: l, n + 1 => a :: am_pad l n
def am_un (f : Int → Int) (Q : amP) : amP := fun ls st => match st with
  | .inl a :: t => Q ls (vI (f a) :: t)
  | _ => fun _ _ _ _ _ => False
def am_bin (f : Int → Int → Int) (Q : amP) : amP := fun ls st => match st with
  | .inl b :: .inl a :: t => Q ls (vI (f a b) :: t)
  | _ => fun _ _ _ _ _ => False
def am_div (f : Int → Int → Int) (Q : amP) : amP := fun ls st hr hd n u us => match st with
  | .inl b :: .inl a :: t => b ≠ 0 ∧ Q ls (vI (f a b) :: t) hr hd n u us
  | _ => False
def am_lbin (f : Int → Int → Int) (Q : amP) : amP := fun ls st => match st with
  | .inr (.inl b) :: .inr (.inl a) :: t => Q ls (vL (f a b) :: t)
  | _ => fun _ _ _ _ _ => False
def am_ldiv (f : Int → Int → Int) (Q : amP) : amP := fun ls st hr hd n u us => match st with
  | .inr (.inl b) :: .inr (.inl a) :: t => b ≠ 0 ∧ Q ls (vL (f a b) :: t) hr hd n u us
  | _ => False
def am_lsh (f : Int → Int → Int) (Q : amP) : amP := fun ls st => match st with
  | .inl b :: .inr (.inl a) :: t => Q ls (vL (f a b) :: t)
  | _ => fun _ _ _ _ _ => False
def am_isI : amV → Prop
  | .inl _ => True
  | _ => False
def am_isL : amV → Prop
  | .inr (.inl _) => True
  | _ => False
def am_isR : amV → Prop
  | .inr (.inr (.inl _)) => True
  | _ => False
def am_ild (j : Nat) (Q : amP) : amP := fun ls st hr hd n u us => am_isI (am_get ls j) ∧ Q ls (am_get ls j :: st) hr hd n u us
def am_lld (j : Nat) (Q : amP) : amP := fun ls st hr hd n u us => am_isL (am_get ls j) ∧ Q ls (am_get ls j :: st) hr hd n u us
def am_ald (j : Nat) (Q : amP) : amP := fun ls st hr hd n u us => am_isR (am_get ls j) ∧ Q ls (am_get ls j :: st) hr hd n u us
def am_ist (j : Nat) (Q : amP) : amP := fun ls st hr hd n u us => match st with
  | .inl x :: t => j < ls.length ∧ Q (am_st1 ls j (vI x)) t hr hd n u us
  | _ => False
def am_ast (j : Nat) (Q : amP) : amP := fun ls st hr hd n u us => match st with
  | .inr (.inr (.inl x)) :: t => j < ls.length ∧ Q (am_st1 ls j (vR x)) t hr hd n u us
  | _ => False
def am_lst (j : Nat) (Q : amP) : amP := fun ls st hr hd n u us => match st with
  | .inr (.inl x) :: t => j + 1 < ls.length ∧ Q (am_st2 ls j (vL x)) t hr hd n u us
  | _ => False
def am_iinc (j : Nat) (k : Int) (Q : amP) : amP := fun ls st hr hd n u us => match am_get ls j with
  | .inl x => j < ls.length ∧ Q (am_st1 ls j (vI (w32 (x + w32 k)))) st hr hd n u us
  | _ => False
/-! shapes: 1 int[], 2 long[], 3 byte[], 4 boolean[], 5 the script, 6 the bytes of a String constant, 7 Holdings[], 8 String[], 9 int[][], 100 + c an object of the c-th class, 113 a String constant -/
abbrev amOp : Type := Instr ⊕ ((Nat × Nat × Nat) ⊕ ((Nat × Nat × Nat) ⊕ ((Nat × Nat × Nat × Nat × Nat) ⊕ ((Nat × Nat) ⊕ (Nat ⊕ (Unit ⊕ (Int ⊕ (Int ⊕ (Nat ⊕ Nat)))))))))
abbrev oR (i : Instr) : amOp := .inl i
abbrev oG (c k kd : Nat) : amOp := .inr (.inl (c, k, kd))
abbrev oP (c k kd : Nat) : amOp := .inr (.inr (.inl (c, k, kd)))
abbrev oC (m na rc km sm : Nat) : amOp := .inr (.inr (.inr (.inl (m, na, rc, km, sm))))
abbrev oN (c nf : Nat) : amOp := .inr (.inr (.inr (.inr (.inl (c, nf)))))
abbrev oA (kd : Nat) : amOp := .inr (.inr (.inr (.inr (.inr (.inl kd)))))
abbrev oM : amOp := .inr (.inr (.inr (.inr (.inr (.inr (.inl ()))))))
abbrev oI (v : Int) : amOp := .inr (.inr (.inr (.inr (.inr (.inr (.inr (.inl v)))))))
abbrev oL (v : Int) : amOp := .inr (.inr (.inr (.inr (.inr (.inr (.inr (.inr (.inl v))))))))
abbrev oS (i : Nat) : amOp := .inr (.inr (.inr (.inr (.inr (.inr (.inr (.inr (.inr (.inl i)))))))))
abbrev oX (k : Nat) : amOp := .inr (.inr (.inr (.inr (.inr (.inr (.inr (.inr (.inr (.inr k)))))))))
section AM1
variable (shp slen : Nat → Nat)
def am_len (hd : amD) (i : Nat) : Int := if shp i = 5 then hd 0 0 else (slen i : Int)
def am_rd (kd : Nat) (hr : amR) (hd : amD) (i k : Nat) : amV := match kd with
  | 1 => vL (hd i k)
  | 2 => vR (hr i k)
  | _ => vI (hd i k)
def am_b (x : Int) : Prop := x = 0 ∨ x = 1
def am_alen (Q : amP) : amP := fun ls st hr hd n u us => match st with
  | .inr (.inr (.inl i)) :: t => (i < n ∧ 0 < shp i ∧ shp i < 100) ∧ Q ls (vI (am_len shp slen hd i) :: t) hr hd n u us
  | _ => False
def am_iald (Q : amP) : amP := fun ls st hr hd n u us => match st with
  | .inl j :: .inr (.inr (.inl i)) :: t => (i < n ∧ (shp i = 1 ∨ shp i = 5)) ∧ (0 ≤ j ∧ j < am_len shp slen hd i) ∧ Q ls (vI (hd i j.toNat) :: t) hr hd n u us
  | _ => False
def am_bald (Q : amP) : amP := fun ls st hr hd n u us => match st with
  | .inl j :: .inr (.inr (.inl i)) :: t => (i < n ∧ (shp i = 3 ∨ shp i = 4 ∨ shp i = 6)) ∧ (0 ≤ j ∧ j < (slen i : Int)) ∧ Q ls (vI (hd i j.toNat) :: t) hr hd n u us
  | _ => False
def am_lald (Q : amP) : amP := fun ls st hr hd n u us => match st with
  | .inl j :: .inr (.inr (.inl i)) :: t => (i < n ∧ shp i = 2) ∧ (0 ≤ j ∧ j < (slen i : Int)) ∧ Q ls (vL (hd i j.toNat) :: t) hr hd n u us
  | _ => False
def am_aald (Q : amP) : amP := fun ls st hr hd n u us => match st with
  | .inl j :: .inr (.inr (.inl i)) :: t => (i < n ∧ (shp i = 7 ∨ shp i = 8 ∨ shp i = 9)) ∧ (0 ≤ j ∧ j < (slen i : Int)) ∧ Q ls (vR (hr i j.toNat) :: t) hr hd n u us
  | _ => False
def am_iast (Q : amP) : amP := fun ls st hr hd n u us => match st with
  | .inl x :: .inl j :: .inr (.inr (.inl i)) :: t => (i < n ∧ shp i = 1) ∧ (0 ≤ j ∧ j < (slen i : Int)) ∧ Q ls t hr (am_up hd i j.toNat x) n u us
  | _ => False
def am_bast (Q : amP) : amP := fun ls st hr hd n u us => match st with
  | .inl x :: .inl j :: .inr (.inr (.inl i)) :: t => (i < n ∧ (shp i = 3 ∨ shp i = 4)) ∧ (0 ≤ j ∧ j < (slen i : Int)) ∧ (shp i = 4 → am_b x) ∧ Q ls t hr (am_up hd i j.toNat (if shp i = 4 then x else w8 x)) n u us
  | _ => False
def am_last (Q : amP) : amP := fun ls st hr hd n u us => match st with
  | .inr (.inl x) :: .inl j :: .inr (.inr (.inl i)) :: t => (i < n ∧ shp i = 2) ∧ (0 ≤ j ∧ j < (slen i : Int)) ∧ Q ls t hr (am_up hd i j.toNat x) n u us
  | _ => False
def am_aast (Q : amP) : amP := fun ls st hr hd n u us => match st with
  | .inr (.inr (.inl v)) :: .inl j :: .inr (.inr (.inl i)) :: t => (i < n ∧ ((shp i = 7 ∧ shp v = 103 ∧ v < n) ∨ (shp i = 8 ∧ 1 ≤ v ∧ v ≤ 7))) ∧ (0 ≤ j ∧ j < (slen i : Int)) ∧ Q ls t (am_up hr i j.toNat v) hd n u us
  | _ => False
def am_dup (Q : amP) : amP := fun ls st hr hd n u us => match st with
  | a :: t => am_cat a = 1 ∧ Q ls (a :: a :: t) hr hd n u us
  | _ => False
def am_dup2 (Q : amP) : amP := fun ls st hr hd n u us => match st with
  | a :: b :: t => (am_cat a = 1 ∧ am_cat b = 1) ∧ Q ls (a :: b :: a :: b :: t) hr hd n u us
  | _ => False
def am_pop (Q : amP) : amP := fun ls st hr hd n u us => match st with
  | a :: t => am_cat a = 1 ∧ Q ls t hr hd n u us
  | _ => False
def am_i2l (Q : amP) : amP := fun ls st => match st with
  | .inl a :: t => Q ls (vL a :: t)
  | _ => fun _ _ _ _ _ => False
def am_l2i (Q : amP) : amP := fun ls st => match st with
  | .inr (.inl a) :: t => Q ls (vI (w32 a) :: t)
  | _ => fun _ _ _ _ _ => False
def am_lcmpQ (Q : amP) : amP := fun ls st => match st with
  | .inr (.inl b) :: .inr (.inl a) :: t => Q ls (vI (am_lcmp a b) :: t)
  | _ => fun _ _ _ _ _ => False
def wpI (i : Instr) (Q : amP) : amP := match i with
  | .iconst k => fun ls st => Q ls (vI k :: st)
  | .bipush k => fun ls st => Q ls (vI k :: st)
  | .sipush k => fun ls st => Q ls (vI k :: st)
  | .lconst k => fun ls st => Q ls (vL ((k : Nat) : Int) :: st)
  | .aconst_null => fun ls st => Q ls (vR 0 :: st)
  | .iload j => am_ild j Q
  | .iload_n j => am_ild (j : Nat) Q
  | .lload j => am_lld j Q
  | .lload_n j => am_lld (j : Nat) Q
  | .aload j => am_ald j Q
  | .aload_n j => am_ald (j : Nat) Q
  | .istore j => am_ist j Q
  | .istore_n j => am_ist (j : Nat) Q
  | .lstore j => am_lst j Q
  | .lstore_n j => am_lst (j : Nat) Q
  | .astore j => am_ast j Q
  | .astore_n j => am_ast (j : Nat) Q
  | .iinc j k => am_iinc j k Q
  | .iadd => am_bin (fun a b => w32 (a + b)) Q
  | .isub => am_bin (fun a b => w32 (a - b)) Q
  | .imul => am_bin (fun a b => w32 (a * b)) Q
  | .idiv => am_div (fun a b => w32 (Int.tdiv a b)) Q
  | .iand => am_bin am_and Q
  | .ior => am_bin am_or Q
  | .ixor => am_bin am_xor Q
  | .ishl => am_bin am_shl Q
  | .ishr => am_bin am_shr Q
  | .iushr => am_bin am_ushr Q
  | .ladd => am_lbin (fun a b => w64 (a + b)) Q
  | .lsub => am_lbin (fun a b => w64 (a - b)) Q
  | .lmul => am_lbin (fun a b => w64 (a * b)) Q
  | .land => am_lbin am_land Q
  | .ldiv => am_ldiv (fun a b => w64 (Int.tdiv a b)) Q
  | .lrem => am_ldiv (fun a b => w64 (Int.tmod a b)) Q
  | .lshl => am_lsh am_lshl Q
  | .lshr => am_lsh am_lshr Q
  | .lcmp => am_lcmpQ Q
  | .i2l => am_i2l Q
  | .l2i => am_l2i Q
  | .i2b => am_un w8 Q
  | .i2c => am_un (fun a => Int.emod a 65536) Q
  | .dup => am_dup Q
  | .dup2 => am_dup2 Q
  | .pop => am_pop Q
  | .arraylength => am_alen shp slen Q
  | .iaload => am_iald shp slen Q
  | .baload => am_bald shp slen Q
  | .laload => am_lald shp slen Q
  | .aaload => am_aald shp slen Q
  | .iastore => am_iast shp slen Q
  | .bastore => am_bast shp slen Q
  | .lastore => am_last shp slen Q
  | .aastore => am_aast shp slen Q
  | _ => fun _ _ _ _ _ _ _ => False
def am_push : Option amV → List amV → List amV
  | none, t => t
  | some v, t => v :: t
def am_getf (c k kd : Nat) (Q : amP) : amP := fun ls st hr hd n u us => match st with
  | .inr (.inr (.inl i)) :: t => (i < n ∧ shp i = 100 + c) ∧ Q ls (am_rd kd hr hd i k :: t) hr hd n u us
  | _ => False
def am_putf (c k kd : Nat) (Q : amP) : amP := fun ls st hr hd n u us => match kd, st with
  | 0, .inl x :: .inr (.inr (.inl i)) :: t => (i < n ∧ shp i = 100 + c) ∧ Q ls t hr (am_up hd i k x) n u us
  | 1, .inr (.inl x) :: .inr (.inr (.inl i)) :: t => (i < n ∧ shp i = 100 + c) ∧ Q ls t hr (am_up hd i k x) n u us
  | 2, .inr (.inr (.inl v)) :: .inr (.inr (.inl i)) :: t => (i < n ∧ shp i = 100 + c) ∧ Q ls t (am_up hr i k v) hd n u us
  | 3, .inl x :: .inr (.inr (.inl i)) :: t => (i < n ∧ shp i = 100 + c) ∧ am_b x ∧ Q ls t hr (am_up hd i k x) n u us
  | _, _ => False
/-- the receiver, below na - 1 others -/
def am_recv (n : Nat) : List amV → Nat → Nat → Prop
  | _, _, 0 => True
  | l, na, rc + 1 => match am_get l (na - 1) with
    | .inr (.inr (.inl i)) => i < n ∧ shp i = 100 + rc
    | _ => False
def am_call (O : amO) (K S m na rc km sm : Nat) (Q : amP) : amP := fun ls st hr hd n u us =>
  (na ≤ st.length ∧ am_cats (st.drop na) ≤ 8) ∧ (u + km ≤ K ∧ us + sm ≤ S) ∧ am_recv shp n st na rc ∧
  O m (st.take na).reverse (fun v hr hd n => Q ls (am_push v (st.drop na)) hr hd n (u + km) (us + sm)) hr hd n
def am_new (K S c nf : Nat) (Q : amP) : amP := fun ls st hr hd n u us => (shp n = 100 + c ∧ u + 1 ≤ K ∧ us + nf ≤ S) ∧ Q ls (vR n :: st) (am_row hr n (fun _ => 0)) (am_row hd n (fun _ => 0)) (n + 1) (u + 1) (us + nf)
def am_newa (K S kd : Nat) (Q : amP) : amP := fun ls st hr hd n u us => match st with
  | .inl x :: t => (shp n = kd ∧ x = (slen n : Int) ∧ slen n < 1000000 ∧ u + 1 ≤ K ∧ us + slen n ≤ S) ∧ Q ls (vR n :: t) (am_row hr n (fun _ => 0)) (am_row hd n (fun _ => 0)) (n + 1) (u + 1) (us + slen n)
  | _ => False
def am_clr {α : Type} (f : Nat → Nat → α) (n a : Nat) (z : α) : Nat → Nat → α := fun i => if n ≤ i ∧ i ≤ n + a then (fun _ => z) else f i
def am_newm (K S : Nat) (Q : amP) : amP := fun ls st hr hd n u us => match st with
  | .inl y :: .inl x :: t => (shp n = 9 ∧ x = (slen n : Int) ∧ slen n < 10 ∧ y = (slen (n + 1) : Int) ∧ slen (n + 1) < 1000000 ∧ (∀ j, j < slen n → shp (n + 1 + j) = 1 ∧ slen (n + 1 + j) = slen (n + 1)) ∧ u + 1 + slen n ≤ K ∧ us + slen n + slen n * slen (n + 1) ≤ S) ∧
    Q ls (vR n :: t) (am_row (am_clr hr n (slen n) 0) n (fun j => if j < slen n then n + 1 + j else 0)) (am_clr hd n (slen n) 0) (n + 1 + slen n) (u + 1 + slen n) (us + slen n + slen n * slen (n + 1))
  | _ => False
def am_cpy (f g : Nat → Int) (sp dp k : Nat) : Nat → Int := fun j => if dp ≤ j ∧ j < dp + k then f (sp + (j - dp)) else g j
def am_acopy (Q : amP) : amP := fun ls st hr hd n u us => match st with
  | .inl k :: .inl dp :: .inr (.inr (.inl b)) :: .inl sp :: .inr (.inr (.inl a)) :: t => (a < n ∧ b < n ∧ shp a = 1 ∧ shp b = 1 ∧ am_cats t ≤ 8) ∧ (0 ≤ k ∧ 0 ≤ dp ∧ 0 ≤ sp ∧ sp + k ≤ (slen a : Int) ∧ dp + k ≤ (slen b : Int)) ∧ Q ls t hr (am_row hd b (am_cpy (hd a) (hd b) sp.toNat dp.toNat k.toNat)) n u us
  | _ => False
def am_prim (K S k : Nat) (Q : amP) : amP := match k with
  | 0 => am_acopy shp slen Q
  | 1 => fun ls st hr hd n u us => match st with
    | .inl x :: t => (am_cats t ≤ 8 ∧ u ≤ K ∧ us ≤ S) ∧ Q ls (vI (if 0 ≤ x then x else w32 (0 - x)) :: t) hr hd n u us
    | _ => False
  | 2 => fun ls st hr hd n u us => match st with
    | .inl y :: .inl x :: t => (am_cats t ≤ 8 ∧ u ≤ K ∧ us ≤ S) ∧ Q ls (vI (if x < y then y else x) :: t) hr hd n u us
    | _ => False
  | 3 => fun ls st hr hd n u us => match st with
    | .inl y :: .inl x :: t => (am_cats t ≤ 8 ∧ u ≤ K ∧ us ≤ S) ∧ Q ls (vI (if y < x then y else x) :: t) hr hd n u us
    | _ => False
  | 4 => fun ls st hr hd n u us => match st with
    | .inr (.inl y) :: .inr (.inl x) :: t => (am_cats t ≤ 8 ∧ u ≤ K ∧ us ≤ S) ∧ Q ls (vL (if y < x then y else x) :: t) hr hd n u us
    | _ => False
  | 5 => fun ls st hr hd n u us => match st with
    | .inr (.inr (.inl i)) :: t => (i < n ∧ 100 ≤ shp i ∧ am_cats t ≤ 8) ∧ Q ls t hr hd n u us
    | _ => False
  | 6 => fun ls st => Q ls (vI 1 :: st)
  | 7 => fun ls st hr hd n u us => Q ls (vR (hr 0 0) :: st) hr hd n u us
  | _ => fun _ _ _ _ _ _ _ => False
def wpO (O : amO) (K S : Nat) (o : amOp) (Q : amP) : amP := match o with
  | .inl i => wpI shp slen i Q
  | .inr (.inl (c, k, kd)) => am_getf shp c k kd Q
  | .inr (.inr (.inl (c, k, kd))) => am_putf shp c k kd Q
  | .inr (.inr (.inr (.inl (m, na, rc, km, sm)))) => am_call shp O K S m na rc km sm Q
  | .inr (.inr (.inr (.inr (.inl (c, nf))))) => am_new shp K S c nf Q
  | .inr (.inr (.inr (.inr (.inr (.inl kd))))) => am_newa shp slen K S kd Q
  | .inr (.inr (.inr (.inr (.inr (.inr (.inl _)))))) => am_newm shp slen K S Q
  | .inr (.inr (.inr (.inr (.inr (.inr (.inr (.inl v))))))) => fun ls st => Q ls (vI v :: st)
  | .inr (.inr (.inr (.inr (.inr (.inr (.inr (.inr (.inl v)))))))) => fun ls st => Q ls (vL v :: st)
  | .inr (.inr (.inr (.inr (.inr (.inr (.inr (.inr (.inr (.inl i))))))))) => fun ls st => Q ls (vR i :: st)
  | .inr (.inr (.inr (.inr (.inr (.inr (.inr (.inr (.inr (.inr k))))))))) => am_prim shp slen K S k Q
def wpL (O : amO) (K S : Nat) : List amOp → amP → amP
  | [], Q => Q
  | o :: l, Q => wpO shp slen O K S o (wpL O K S l Q)
end AM1
def am_c1 (P : Int → Prop) (Qt Qf : amP) : amP := fun ls st hr hd n u us => match st with
  | .inl x :: t => (P x → Qt ls t hr hd n u us) ∧ (¬ P x → Qf ls t hr hd n u us)
  | _ => False
def am_c2 (P : Int → Int → Prop) (Qt Qf : amP) : amP := fun ls st hr hd n u us => match st with
  | .inl y :: .inl x :: t => (P x y → Qt ls t hr hd n u us) ∧ (¬ P x y → Qf ls t hr hd n u us)
  | _ => False
def am_cn (Qt Qf : amP) : amP := fun ls st hr hd n u us => match st with
  | .inr (.inr (.inl i)) :: t => (i = 0 → Qt ls t hr hd n u us) ∧ (¬ i = 0 → Qf ls t hr hd n u us)
  | _ => False
def wpJ (i : Instr) (Qt Qf : amP) : amP := match i with
  | .goto _ => Qt
  | .ifCond .eq _ => am_c1 (fun x => x = 0) Qt Qf
  | .ifCond .ne _ => am_c1 (fun x => ¬ x = 0) Qt Qf
  | .ifCond .lt _ => am_c1 (fun x => x < 0) Qt Qf
  | .ifCond .ge _ => am_c1 (fun x => 0 ≤ x) Qt Qf
  | .ifCond .gt _ => am_c1 (fun x => 0 < x) Qt Qf
  | .ifCond .le _ => am_c1 (fun x => x ≤ 0) Qt Qf
  | .if_icmp .eq _ => am_c2 (fun x y => x = y) Qt Qf
  | .if_icmp .ne _ => am_c2 (fun x y => ¬ x = y) Qt Qf
  | .if_icmp .lt _ => am_c2 (fun x y => x < y) Qt Qf
  | .if_icmp .ge _ => am_c2 (fun x y => y ≤ x) Qt Qf
  | .if_icmp .gt _ => am_c2 (fun x y => y < x) Qt Qf
  | .if_icmp .le _ => am_c2 (fun x y => x ≤ y) Qt Qf
  | .ifnull _ => am_cn Qt Qf
  | .ifnonnull _ => am_cn Qf Qt
  | _ => fun _ _ _ _ _ _ _ => False
def am_rok (rk : Nat) (x : Int) : Prop := match rk with
  | 3 => am_b x
  | 4 => -128 ≤ x ∧ x ≤ 127
  | 5 => 0 ≤ x ∧ x ≤ 65535
  | _ => True
def wpRet (rk : Nat) (i : Instr) (Qr : amQu) : amP := fun _ st hr hd n u us => match i, st with
  | .ireturn, [.inl x] => am_rok rk x ∧ Qr (some (vI x)) hr hd n u us
  | .lreturn, [.inr (.inl x)] => Qr (some (vL x)) hr hd n u us
  | .areturn, [.inr (.inr (.inl x))] => Qr (some (vR x)) hr hd n u us
  | .return_, [] => Qr none hr hd n u us
  | _, _ => False
def am_sw (Qb : Nat → amP) (d : Nat) : List (Int × Nat) → Int → List amV → List amV → amR → amD → Nat → Nat → Nat → Prop
  | [], _ => Qb d
  | (v, k) :: l, x => fun ls st hr hd n u us => (x = v → Qb k ls st hr hd n u us) ∧ (¬ x = v → am_sw Qb d l x ls st hr hd n u us)
def wpSw (cs : List (Int × Nat)) (d : Nat) (Qb : Nat → amP) : amP := fun ls st hr hd n u us => match st with
  | .inl x :: t => am_sw Qb d cs x ls t hr hd n u us
  | _ => False
abbrev amLeaf : Type := List amOp ⊕ ((Instr × Nat) ⊕ (Instr ⊕ (Instr × List (Int × Nat) × Nat)))
abbrev amTree : Type := Lean.RArray amLeaf
abbrev tL (l : List amOp) : amTree := .leaf (.inl l)
abbrev tJ (i : Instr) (k : Nat) : amTree := .leaf (.inr (.inl (i, k)))
abbrev tR (i : Instr) : amTree := .leaf (.inr (.inr (.inl i)))
abbrev tS (i : Instr) (cs : List (Int × Nat)) (d : Nat) : amTree := .leaf (.inr (.inr (.inr (i, cs, d))))
abbrev tQ (a b : amTree) : amTree := .branch 0 a b
abbrev tW (a : amTree) : amTree := .branch 1 a (tL [])
abbrev tB (e : Nat) (a : amTree) : amTree := .branch (e + 2) a (tL [])
/-- behind a label -/
def am_lab (Q : amP) (Qb : Nat → amP) : Nat → amP
  | 0 => Q
  | k + 1 => Qb k
/-- a loop: the least predicate that its body leads back to -/
def am_loop (G : amP → amP) : amP := fun ls st hr hd n u us =>
  ∀ P : amP, (∀ ls st hr hd n u us, G P ls st hr hd n u us → P ls st hr hd n u us) → P ls st hr hd n u us
section AM2
variable (shp slen : Nat → Nat)
def wp (O : amO) (K S rk : Nat) : amTree → amP → (Nat → amP) → amQu → amP
  | .leaf (.inl l), Qf, _, _ => wpL shp slen O K S l Qf
  | .leaf (.inr (.inl (i, k))), Qf, Qb, _ => wpJ i (Qb k) Qf
  | .leaf (.inr (.inr (.inl i))), _, _, Qr => wpRet rk i Qr
  | .leaf (.inr (.inr (.inr (_, cs, d)))), _, Qb, _ => wpSw cs d Qb
  | .branch 0 a b, Qf, Qb, Qr => wp O K S rk a (wp O K S rk b Qf Qb Qr) Qb Qr
  | .branch 1 a _, Qf, Qb, Qr => am_loop (fun P => wp O K S rk a Qf (am_lab P Qb) Qr)
  | .branch (_ + 2) a _, Qf, Qb, Qr => wp O K S rk a Qf (am_lab Qf Qb) Qr
end AM2
