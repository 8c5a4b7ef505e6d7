/-! STEP RULES with all of the state -/
section
variable {O : amO} {K S rk : Nat} {Q Qt Qf : amP} {Qb : Nat → amP} {Qr : amQu} {ls st t : List amV} {hr : amR} {hd : amD} {n u us : Nat}
theorem s_wL {l : List amOp} : wp am_shp am_slen O K S rk (tL l) Qf Qb Qr ls st hr hd n u us = (wpL am_shp am_slen O K S l Qf ls st hr hd n u us) := propext Iff.rfl
theorem s_wQ {a b : amTree} : wp am_shp am_slen O K S rk (tQ a b) Qf Qb Qr ls st hr hd n u us = (wp am_shp am_slen O K S rk a (wp am_shp am_slen O K S rk b Qf Qb Qr) Qb Qr ls st hr hd n u us) := propext Iff.rfl
theorem s_wW {a : amTree} : wp am_shp am_slen O K S rk (tW a) Qf Qb Qr ls st hr hd n u us = (am_loop (fun P => wp am_shp am_slen O K S rk a Qf (am_lab P Qb) Qr) ls st hr hd n u us) := propext Iff.rfl
theorem s_wB {e : Nat} {a : amTree} : wp am_shp am_slen O K S rk (tB e a) Qf Qb Qr ls st hr hd n u us = (wp am_shp am_slen O K S rk a Qf (am_lab Qf Qb) Qr ls st hr hd n u us) := propext Iff.rfl
theorem s_wJ {i : Instr} {k : Nat} : wp am_shp am_slen O K S rk (tJ i k) Qf Qb Qr ls st hr hd n u us = (wpJ i (Qb k) Qf ls st hr hd n u us) := propext Iff.rfl
theorem s_wR {i : Instr} : wp am_shp am_slen O K S rk (tR i) Qf Qb Qr ls st hr hd n u us = (wpRet rk i Qr ls st hr hd n u us) := propext Iff.rfl
theorem s_wS {i : Instr} {cs : List (Int × Nat)} {k : Nat} : wp am_shp am_slen O K S rk (tS i cs k) Qf Qb Qr ls st hr hd n u us = (wpSw cs k Qb ls st hr hd n u us) := propext Iff.rfl
theorem s_nil : wpL am_shp am_slen O K S [] Q ls st hr hd n u us = (Q ls st hr hd n u us) := propext Iff.rfl
theorem s_cons {o : amOp} {l : List amOp} : wpL am_shp am_slen O K S (o :: l) Q ls st hr hd n u us = (wpO am_shp am_slen O K S o (wpL am_shp am_slen O K S l Q) ls st hr hd n u us) := propext Iff.rfl
theorem s_oR {i : Instr} : wpO am_shp am_slen O K S (oR i) Q ls st hr hd n u us = (wpI am_shp am_slen i Q ls st hr hd n u us) := propext Iff.rfl
theorem s_iconst {k} : wpI am_shp am_slen (.iconst k) Q ls st hr hd n u us = (Q ls (vI k :: st) hr hd n u us) := propext Iff.rfl
theorem s_bipush {k} : wpI am_shp am_slen (.bipush k) Q ls st hr hd n u us = (Q ls (vI k :: st) hr hd n u us) := propext Iff.rfl
theorem s_sipush {k} : wpI am_shp am_slen (.sipush k) Q ls st hr hd n u us = (Q ls (vI k :: st) hr hd n u us) := propext Iff.rfl
theorem s_lconst {k} : wpI am_shp am_slen (.lconst k) Q ls st hr hd n u us = (Q ls (vL ((k : Nat) : Int) :: st) hr hd n u us) := propext Iff.rfl
theorem s_null : wpI am_shp am_slen .aconst_null Q ls st hr hd n u us = (Q ls (vR 0 :: st) hr hd n u us) := propext Iff.rfl
theorem s_iload {j} : wpI am_shp am_slen (.iload j) Q ls st hr hd n u us = (am_isI (am_get ls j) ∧ Q ls (am_get ls j :: st) hr hd n u us) := propext Iff.rfl
theorem s_iload_n {j} : wpI am_shp am_slen (.iload_n j) Q ls st hr hd n u us = (am_isI (am_get ls (j : Nat)) ∧ Q ls (am_get ls (j : Nat) :: st) hr hd n u us) := propext Iff.rfl
theorem s_lload {j} : wpI am_shp am_slen (.lload j) Q ls st hr hd n u us = (am_isL (am_get ls j) ∧ Q ls (am_get ls j :: st) hr hd n u us) := propext Iff.rfl
theorem s_lload_n {j} : wpI am_shp am_slen (.lload_n j) Q ls st hr hd n u us = (am_isL (am_get ls (j : Nat)) ∧ Q ls (am_get ls (j : Nat) :: st) hr hd n u us) := propext Iff.rfl
theorem s_aload {j} : wpI am_shp am_slen (.aload j) Q ls st hr hd n u us = (am_isR (am_get ls j) ∧ Q ls (am_get ls j :: st) hr hd n u us) := propext Iff.rfl
theorem s_aload_n {j} : wpI am_shp am_slen (.aload_n j) Q ls st hr hd n u us = (am_isR (am_get ls (j : Nat)) ∧ Q ls (am_get ls (j : Nat) :: st) hr hd n u us) := propext Iff.rfl
theorem s_istore {j} {x : Int} : wpI am_shp am_slen (.istore j) Q ls (vI x :: t) hr hd n u us = (j < ls.length ∧ Q (am_st1 ls j (vI x)) t hr hd n u us) := propext Iff.rfl
theorem s_istore_n {j} {x : Int} : wpI am_shp am_slen (.istore_n j) Q ls (vI x :: t) hr hd n u us = ((j : Nat) < ls.length ∧ Q (am_st1 ls (j : Nat) (vI x)) t hr hd n u us) := propext Iff.rfl
theorem s_astore {j} {x : Nat} : wpI am_shp am_slen (.astore j) Q ls (vR x :: t) hr hd n u us = (j < ls.length ∧ Q (am_st1 ls j (vR x)) t hr hd n u us) := propext Iff.rfl
theorem s_astore_n {j} {x : Nat} : wpI am_shp am_slen (.astore_n j) Q ls (vR x :: t) hr hd n u us = ((j : Nat) < ls.length ∧ Q (am_st1 ls (j : Nat) (vR x)) t hr hd n u us) := propext Iff.rfl
theorem s_lstore {j} {x : Int} : wpI am_shp am_slen (.lstore j) Q ls (vL x :: t) hr hd n u us = (j + 1 < ls.length ∧ Q (am_st2 ls j (vL x)) t hr hd n u us) := propext Iff.rfl
theorem s_lstore_n {j} {x : Int} : wpI am_shp am_slen (.lstore_n j) Q ls (vL x :: t) hr hd n u us = ((j : Nat) + 1 < ls.length ∧ Q (am_st2 ls (j : Nat) (vL x)) t hr hd n u us) := propext Iff.rfl
theorem s_iinc {j k} : wpI am_shp am_slen (.iinc j k) Q ls st hr hd n u us = (match am_get ls j with | .inl x => j < ls.length ∧ Q (am_st1 ls j (vI (w32 (x + w32 k)))) st hr hd n u us | _ => False) := propext Iff.rfl
theorem s_iadd {a b : Int} : wpI am_shp am_slen .iadd Q ls (vI b :: vI a :: t) hr hd n u us = (Q ls (vI (w32 (a + b)) :: t) hr hd n u us) := propext Iff.rfl
theorem s_isub {a b : Int} : wpI am_shp am_slen .isub Q ls (vI b :: vI a :: t) hr hd n u us = (Q ls (vI (w32 (a - b)) :: t) hr hd n u us) := propext Iff.rfl
theorem s_imul {a b : Int} : wpI am_shp am_slen .imul Q ls (vI b :: vI a :: t) hr hd n u us = (Q ls (vI (w32 (a * b)) :: t) hr hd n u us) := propext Iff.rfl
theorem s_iand {a b : Int} : wpI am_shp am_slen .iand Q ls (vI b :: vI a :: t) hr hd n u us = (Q ls (vI (am_and a b) :: t) hr hd n u us) := propext Iff.rfl
theorem s_ior {a b : Int} : wpI am_shp am_slen .ior Q ls (vI b :: vI a :: t) hr hd n u us = (Q ls (vI (am_or a b) :: t) hr hd n u us) := propext Iff.rfl
theorem s_ixor {a b : Int} : wpI am_shp am_slen .ixor Q ls (vI b :: vI a :: t) hr hd n u us = (Q ls (vI (am_xor a b) :: t) hr hd n u us) := propext Iff.rfl
theorem s_ishl {a b : Int} : wpI am_shp am_slen .ishl Q ls (vI b :: vI a :: t) hr hd n u us = (Q ls (vI (am_shl a b) :: t) hr hd n u us) := propext Iff.rfl
theorem s_ishr {a b : Int} : wpI am_shp am_slen .ishr Q ls (vI b :: vI a :: t) hr hd n u us = (Q ls (vI (am_shr a b) :: t) hr hd n u us) := propext Iff.rfl
theorem s_iushr {a b : Int} : wpI am_shp am_slen .iushr Q ls (vI b :: vI a :: t) hr hd n u us = (Q ls (vI (am_ushr a b) :: t) hr hd n u us) := propext Iff.rfl
theorem s_idiv {a b : Int} : wpI am_shp am_slen .idiv Q ls (vI b :: vI a :: t) hr hd n u us = (b ≠ 0 ∧ Q ls (vI (w32 (Int.tdiv a b)) :: t) hr hd n u us) := propext Iff.rfl
theorem s_ladd {a b : Int} : wpI am_shp am_slen .ladd Q ls (vL b :: vL a :: t) hr hd n u us = (Q ls (vL (w64 (a + b)) :: t) hr hd n u us) := propext Iff.rfl
theorem s_lsub {a b : Int} : wpI am_shp am_slen .lsub Q ls (vL b :: vL a :: t) hr hd n u us = (Q ls (vL (w64 (a - b)) :: t) hr hd n u us) := propext Iff.rfl
theorem s_lmul {a b : Int} : wpI am_shp am_slen .lmul Q ls (vL b :: vL a :: t) hr hd n u us = (Q ls (vL (w64 (a * b)) :: t) hr hd n u us) := propext Iff.rfl
theorem s_land {a b : Int} : wpI am_shp am_slen .land Q ls (vL b :: vL a :: t) hr hd n u us = (Q ls (vL (am_land a b) :: t) hr hd n u us) := propext Iff.rfl
theorem s_ldiv {a b : Int} : wpI am_shp am_slen .ldiv Q ls (vL b :: vL a :: t) hr hd n u us = (b ≠ 0 ∧ Q ls (vL (w64 (Int.tdiv a b)) :: t) hr hd n u us) := propext Iff.rfl
theorem s_lrem {a b : Int} : wpI am_shp am_slen .lrem Q ls (vL b :: vL a :: t) hr hd n u us = (b ≠ 0 ∧ Q ls (vL (w64 (Int.tmod a b)) :: t) hr hd n u us) := propext Iff.rfl
theorem s_lshl {a b : Int} : wpI am_shp am_slen .lshl Q ls (vI b :: vL a :: t) hr hd n u us = (Q ls (vL (am_lshl a b) :: t) hr hd n u us) := propext Iff.rfl
theorem s_lshr {a b : Int} : wpI am_shp am_slen .lshr Q ls (vI b :: vL a :: t) hr hd n u us = (Q ls (vL (am_lshr a b) :: t) hr hd n u us) := propext Iff.rfl
theorem s_lcmp {a b : Int} : wpI am_shp am_slen .lcmp Q ls (vL b :: vL a :: t) hr hd n u us = (Q ls (vI (am_lcmp a b) :: t) hr hd n u us) := propext Iff.rfl
theorem s_i2l {a : Int} : wpI am_shp am_slen .i2l Q ls (vI a :: t) hr hd n u us = (Q ls (vL a :: t) hr hd n u us) := propext Iff.rfl
theorem s_l2i {a : Int} : wpI am_shp am_slen .l2i Q ls (vL a :: t) hr hd n u us = (Q ls (vI (w32 a) :: t) hr hd n u us) := propext Iff.rfl
theorem s_i2b {a : Int} : wpI am_shp am_slen .i2b Q ls (vI a :: t) hr hd n u us = (Q ls (vI (w8 a) :: t) hr hd n u us) := propext Iff.rfl
theorem s_i2c {a : Int} : wpI am_shp am_slen .i2c Q ls (vI a :: t) hr hd n u us = (Q ls (vI (Int.emod a 65536) :: t) hr hd n u us) := propext Iff.rfl
theorem s_dup {a : amV} : wpI am_shp am_slen .dup Q ls (a :: t) hr hd n u us = (am_cat a = 1 ∧ Q ls (a :: a :: t) hr hd n u us) := propext Iff.rfl
theorem s_dup2 {a b : amV} : wpI am_shp am_slen .dup2 Q ls (a :: b :: t) hr hd n u us = ((am_cat a = 1 ∧ am_cat b = 1) ∧ Q ls (a :: b :: a :: b :: t) hr hd n u us) := propext Iff.rfl
theorem s_pop {a : amV} : wpI am_shp am_slen .pop Q ls (a :: t) hr hd n u us = (am_cat a = 1 ∧ Q ls t hr hd n u us) := propext Iff.rfl
theorem s_arraylength {i : Nat} : wpI am_shp am_slen .arraylength Q ls (vR i :: t) hr hd n u us = ((i < n ∧ 0 < am_shp i ∧ am_shp i < 100) ∧ Q ls (vI (am_len am_shp am_slen hd i) :: t) hr hd n u us) := propext Iff.rfl
theorem s_iaload {i : Nat} {j : Int} : wpI am_shp am_slen .iaload Q ls (vI j :: vR i :: t) hr hd n u us = ((i < n ∧ (am_shp i = 1 ∨ am_shp i = 5)) ∧ (0 ≤ j ∧ j < am_len am_shp am_slen hd i) ∧ Q ls (vI (hd i j.toNat) :: t) hr hd n u us) := propext Iff.rfl
theorem s_baload {i : Nat} {j : Int} : wpI am_shp am_slen .baload Q ls (vI j :: vR i :: t) hr hd n u us = ((i < n ∧ (am_shp i = 3 ∨ am_shp i = 4 ∨ am_shp i = 6)) ∧ (0 ≤ j ∧ j < (am_slen i : Int)) ∧ Q ls (vI (hd i j.toNat) :: t) hr hd n u us) := propext Iff.rfl
theorem s_laload {i : Nat} {j : Int} : wpI am_shp am_slen .laload Q ls (vI j :: vR i :: t) hr hd n u us = ((i < n ∧ am_shp i = 2) ∧ (0 ≤ j ∧ j < (am_slen i : Int)) ∧ Q ls (vL (hd i j.toNat) :: t) hr hd n u us) := propext Iff.rfl
theorem s_aaload {i : Nat} {j : Int} : wpI am_shp am_slen .aaload Q ls (vI j :: vR i :: t) hr hd n u us = ((i < n ∧ (am_shp i = 7 ∨ am_shp i = 8 ∨ am_shp i = 9)) ∧ (0 ≤ j ∧ j < (am_slen i : Int)) ∧ Q ls (vR (hr i j.toNat) :: t) hr hd n u us) := propext Iff.rfl
theorem s_iastore {i : Nat} {j x : Int} : wpI am_shp am_slen .iastore Q ls (vI x :: vI j :: vR i :: t) hr hd n u us = ((i < n ∧ am_shp i = 1) ∧ (0 ≤ j ∧ j < (am_slen i : Int)) ∧ Q ls t hr (am_up hd i j.toNat x) n u us) := propext Iff.rfl
theorem s_bastore {i : Nat} {j x : Int} : wpI am_shp am_slen .bastore Q ls (vI x :: vI j :: vR i :: t) hr hd n u us = ((i < n ∧ (am_shp i = 3 ∨ am_shp i = 4)) ∧ (0 ≤ j ∧ j < (am_slen i : Int)) ∧ (am_shp i = 4 → am_b x) ∧ Q ls t hr (am_up hd i j.toNat (if am_shp i = 4 then x else w8 x)) n u us) := propext Iff.rfl
theorem s_lastore {i : Nat} {j x : Int} : wpI am_shp am_slen .lastore Q ls (vL x :: vI j :: vR i :: t) hr hd n u us = ((i < n ∧ am_shp i = 2) ∧ (0 ≤ j ∧ j < (am_slen i : Int)) ∧ Q ls t hr (am_up hd i j.toNat x) n u us) := propext Iff.rfl
theorem s_aastore {i v : Nat} {j : Int} : wpI am_shp am_slen .aastore Q ls (vR v :: vI j :: vR i :: t) hr hd n u us = ((i < n ∧ ((am_shp i = 7 ∧ am_shp v = 103 ∧ v < n) ∨ (am_shp i = 8 ∧ 1 ≤ v ∧ v ≤ 7))) ∧ (0 ≤ j ∧ j < (am_slen i : Int)) ∧ Q ls t (am_up hr i j.toNat v) hd n u us) := propext Iff.rfl
theorem s_oG {c k kd i : Nat} : wpO am_shp am_slen O K S (oG c k kd) Q ls (vR i :: t) hr hd n u us = ((i < n ∧ am_shp i = 100 + c) ∧ Q ls (am_rd kd hr hd i k :: t) hr hd n u us) := propext Iff.rfl
theorem s_oP0 {c k i : Nat} {x : Int} : wpO am_shp am_slen O K S (oP c k 0) Q ls (vI x :: vR i :: t) hr hd n u us = ((i < n ∧ am_shp i = 100 + c) ∧ Q ls t hr (am_up hd i k x) n u us) := propext Iff.rfl
theorem s_oP1 {c k i : Nat} {x : Int} : wpO am_shp am_slen O K S (oP c k 1) Q ls (vL x :: vR i :: t) hr hd n u us = ((i < n ∧ am_shp i = 100 + c) ∧ Q ls t hr (am_up hd i k x) n u us) := propext Iff.rfl
theorem s_oP2 {c k i v : Nat} : wpO am_shp am_slen O K S (oP c k 2) Q ls (vR v :: vR i :: t) hr hd n u us = ((i < n ∧ am_shp i = 100 + c) ∧ Q ls t (am_up hr i k v) hd n u us) := propext Iff.rfl
theorem s_oP3 {c k i : Nat} {x : Int} : wpO am_shp am_slen O K S (oP c k 3) Q ls (vI x :: vR i :: t) hr hd n u us = ((i < n ∧ am_shp i = 100 + c) ∧ am_b x ∧ Q ls t hr (am_up hd i k x) n u us) := propext Iff.rfl
theorem s_oC {m na rc km sm : Nat} : wpO am_shp am_slen O K S (oC m na rc km sm) Q ls st hr hd n u us = ((na ≤ st.length ∧ am_cats (st.drop na) ≤ 8) ∧ (u + km ≤ K ∧ us + sm ≤ S) ∧ am_recv am_shp n st na rc ∧ O m (st.take na).reverse (fun v hr hd n => Q ls (am_push v (st.drop na)) hr hd n (u + km) (us + sm)) hr hd n) := propext Iff.rfl
theorem s_oN {c nf : Nat} : wpO am_shp am_slen O K S (oN c nf) Q ls st hr hd n u us = (am_new am_shp K S c nf Q ls st hr hd n u us) := propext Iff.rfl
theorem s_oA {kd : Nat} {x : Int} : wpO am_shp am_slen O K S (oA kd) Q ls (vI x :: t) hr hd n u us = ((am_shp n = kd ∧ x = (am_slen n : Int) ∧ am_slen n < 1000000 ∧ u + 1 ≤ K ∧ us + am_slen n ≤ S) ∧ Q ls (vR n :: t) (am_row hr n (fun _ => 0)) (am_row hd n (fun _ => 0)) (n + 1) (u + 1) (us + am_slen n)) := propext Iff.rfl
theorem s_oI {v : Int} : wpO am_shp am_slen O K S (oI v) Q ls st hr hd n u us = (Q ls (vI v :: st) hr hd n u us) := propext Iff.rfl
theorem s_oL {v : Int} : wpO am_shp am_slen O K S (oL v) Q ls st hr hd n u us = (Q ls (vL v :: st) hr hd n u us) := propext Iff.rfl
theorem s_oS {i : Nat} : wpO am_shp am_slen O K S (oS i) Q ls st hr hd n u us = (Q ls (vR i :: st) hr hd n u us) := propext Iff.rfl
theorem s_oX0 {k dp sp : Int} {a b : Nat} : wpO am_shp am_slen O K S (oX 0) Q ls (vI k :: vI dp :: vR b :: vI sp :: vR a :: t) hr hd n u us = ((a < n ∧ b < n ∧ am_shp a = 1 ∧ am_shp b = 1 ∧ am_cats t ≤ 8) ∧ (0 ≤ k ∧ 0 ≤ dp ∧ 0 ≤ sp ∧ sp + k ≤ (am_slen a : Int) ∧ dp + k ≤ (am_slen b : Int)) ∧ Q ls t hr (am_row hd b (am_cpy (hd a) (hd b) sp.toNat dp.toNat k.toNat)) n u us) := propext Iff.rfl
theorem s_oX1 {x : Int} : wpO am_shp am_slen O K S (oX 1) Q ls (vI x :: t) hr hd n u us = ((am_cats t ≤ 8 ∧ u ≤ K ∧ us ≤ S) ∧ Q ls (vI (if 0 ≤ x then x else w32 (0 - x)) :: t) hr hd n u us) := propext Iff.rfl
theorem s_oX2 {x y : Int} : wpO am_shp am_slen O K S (oX 2) Q ls (vI y :: vI x :: t) hr hd n u us = ((am_cats t ≤ 8 ∧ u ≤ K ∧ us ≤ S) ∧ Q ls (vI (if x < y then y else x) :: t) hr hd n u us) := propext Iff.rfl
theorem s_oX3 {x y : Int} : wpO am_shp am_slen O K S (oX 3) Q ls (vI y :: vI x :: t) hr hd n u us = ((am_cats t ≤ 8 ∧ u ≤ K ∧ us ≤ S) ∧ Q ls (vI (if y < x then y else x) :: t) hr hd n u us) := propext Iff.rfl
theorem s_oX4 {x y : Int} : wpO am_shp am_slen O K S (oX 4) Q ls (vL y :: vL x :: t) hr hd n u us = ((am_cats t ≤ 8 ∧ u ≤ K ∧ us ≤ S) ∧ Q ls (vL (if y < x then y else x) :: t) hr hd n u us) := propext Iff.rfl
theorem s_oX5 {i : Nat} : wpO am_shp am_slen O K S (oX 5) Q ls (vR i :: t) hr hd n u us = ((i < n ∧ 100 ≤ am_shp i ∧ am_cats t ≤ 8) ∧ Q ls t hr hd n u us) := propext Iff.rfl
theorem s_goto {q : Int} : wpJ (.goto q) Qt Qf ls st hr hd n u us = (Qt ls st hr hd n u us) := propext Iff.rfl
theorem s_ifeq {q : Int} {x : Int} : wpJ (.ifCond .eq q) Qt Qf ls (vI x :: t) hr hd n u us = ((x = 0 → Qt ls t hr hd n u us) ∧ (¬ (x = 0) → Qf ls t hr hd n u us)) := propext Iff.rfl
theorem s_iceq {q : Int} {x y : Int} : wpJ (.if_icmp .eq q) Qt Qf ls (vI y :: vI x :: t) hr hd n u us = ((x = y → Qt ls t hr hd n u us) ∧ (¬ (x = y) → Qf ls t hr hd n u us)) := propext Iff.rfl
theorem s_ifne {q : Int} {x : Int} : wpJ (.ifCond .ne q) Qt Qf ls (vI x :: t) hr hd n u us = ((¬ x = 0 → Qt ls t hr hd n u us) ∧ (¬ (¬ x = 0) → Qf ls t hr hd n u us)) := propext Iff.rfl
theorem s_icne {q : Int} {x y : Int} : wpJ (.if_icmp .ne q) Qt Qf ls (vI y :: vI x :: t) hr hd n u us = ((¬ x = y → Qt ls t hr hd n u us) ∧ (¬ (¬ x = y) → Qf ls t hr hd n u us)) := propext Iff.rfl
theorem s_iflt {q : Int} {x : Int} : wpJ (.ifCond .lt q) Qt Qf ls (vI x :: t) hr hd n u us = ((x < 0 → Qt ls t hr hd n u us) ∧ (¬ (x < 0) → Qf ls t hr hd n u us)) := propext Iff.rfl
theorem s_iclt {q : Int} {x y : Int} : wpJ (.if_icmp .lt q) Qt Qf ls (vI y :: vI x :: t) hr hd n u us = ((x < y → Qt ls t hr hd n u us) ∧ (¬ (x < y) → Qf ls t hr hd n u us)) := propext Iff.rfl
theorem s_ifge {q : Int} {x : Int} : wpJ (.ifCond .ge q) Qt Qf ls (vI x :: t) hr hd n u us = ((0 ≤ x → Qt ls t hr hd n u us) ∧ (¬ (0 ≤ x) → Qf ls t hr hd n u us)) := propext Iff.rfl
theorem s_icge {q : Int} {x y : Int} : wpJ (.if_icmp .ge q) Qt Qf ls (vI y :: vI x :: t) hr hd n u us = ((y ≤ x → Qt ls t hr hd n u us) ∧ (¬ (y ≤ x) → Qf ls t hr hd n u us)) := propext Iff.rfl
theorem s_ifgt {q : Int} {x : Int} : wpJ (.ifCond .gt q) Qt Qf ls (vI x :: t) hr hd n u us = ((0 < x → Qt ls t hr hd n u us) ∧ (¬ (0 < x) → Qf ls t hr hd n u us)) := propext Iff.rfl
theorem s_icgt {q : Int} {x y : Int} : wpJ (.if_icmp .gt q) Qt Qf ls (vI y :: vI x :: t) hr hd n u us = ((y < x → Qt ls t hr hd n u us) ∧ (¬ (y < x) → Qf ls t hr hd n u us)) := propext Iff.rfl
theorem s_ifle {q : Int} {x : Int} : wpJ (.ifCond .le q) Qt Qf ls (vI x :: t) hr hd n u us = ((x ≤ 0 → Qt ls t hr hd n u us) ∧ (¬ (x ≤ 0) → Qf ls t hr hd n u us)) := propext Iff.rfl
theorem s_icle {q : Int} {x y : Int} : wpJ (.if_icmp .le q) Qt Qf ls (vI y :: vI x :: t) hr hd n u us = ((x ≤ y → Qt ls t hr hd n u us) ∧ (¬ (x ≤ y) → Qf ls t hr hd n u us)) := propext Iff.rfl
theorem s_ifnull {q : Int} {i : Nat} : wpJ (.ifnull q) Qt Qf ls (vR i :: t) hr hd n u us = ((i = 0 → Qt ls t hr hd n u us) ∧ (¬ i = 0 → Qf ls t hr hd n u us)) := propext Iff.rfl
theorem s_ifnonnull {q : Int} {i : Nat} : wpJ (.ifnonnull q) Qt Qf ls (vR i :: t) hr hd n u us = ((i = 0 → Qf ls t hr hd n u us) ∧ (¬ i = 0 → Qt ls t hr hd n u us)) := propext Iff.rfl
theorem s_ireturn {x : Int} : wpRet rk .ireturn Qr ls [vI x] hr hd n u us = (am_rok rk x ∧ Qr (some (vI x)) hr hd n u us) := propext Iff.rfl
theorem s_lreturn {x : Int} : wpRet rk .lreturn Qr ls [vL x] hr hd n u us = (Qr (some (vL x)) hr hd n u us) := propext Iff.rfl
theorem s_areturn {x : Nat} : wpRet rk .areturn Qr ls [vR x] hr hd n u us = (Qr (some (vR x)) hr hd n u us) := propext Iff.rfl
theorem s_return : wpRet rk .return_ Qr ls [] hr hd n u us = (Qr none hr hd n u us) := propext Iff.rfl
theorem s_sw {cs : List (Int × Nat)} {k : Nat} {x : Int} : wpSw cs k Qb ls (vI x :: t) hr hd n u us = (am_sw Qb k cs x ls t hr hd n u us) := propext Iff.rfl
theorem s_sw0 {k : Nat} {x : Int} : am_sw Qb k [] x ls st hr hd n u us = (Qb k ls st hr hd n u us) := propext Iff.rfl
theorem s_sw1 {k k1 : Nat} {v x : Int} {l : List (Int × Nat)} : am_sw Qb k ((v, k1) :: l) x ls st hr hd n u us = ((x = v → Qb k1 ls st hr hd n u us) ∧ (¬ x = v → am_sw Qb k l x ls st hr hd n u us)) := propext Iff.rfl
end
theorem s_push0 {t : List amV} : am_push none t = t := rfl
theorem s_push1 {t : List amV} {v : amV} : am_push (some v) t = v :: t := rfl
theorem s_rd0 {hr : amR} {hd : amD} {i k : Nat} : am_rd 0 hr hd i k = vI (hd i k) := rfl
theorem s_rd1 {hr : amR} {hd : amD} {i k : Nat} : am_rd 1 hr hd i k = vL (hd i k) := rfl
theorem s_rd2 {hr : amR} {hd : amD} {i k : Nat} : am_rd 2 hr hd i k = vR (hr i k) := rfl
theorem s_rd3 {hr : amR} {hd : amD} {i k : Nat} : am_rd 3 hr hd i k = vI (hd i k) := rfl
theorem s_rty0 : am_rty none none = True := rfl
theorem s_rtyi {x : Int} : am_rty (some .int) (some (vI x)) = True := rfl
theorem s_rtyz {x : Int} : am_rty (some .boolean) (some (vI x)) = (x = 0 ∨ x = 1) := rfl
theorem s_rtyl {x : Int} : am_rty (some .long) (some (vL x)) = True := rfl
theorem s_rtyo {x : Nat} {c : String} : am_rty (some (.object c)) (some (vR x)) = True := rfl
theorem s_rtya {x : Nat} {c : FieldType} : am_rty (some (.array c)) (some (vR x)) = True := rfl
theorem s_rok {x : Int} : am_rok 0 x = True := rfl
theorem s_lab0 {Q : amP} {Qb : Nat → amP} : am_lab Q Qb 0 = Q := rfl
theorem s_labs {Q : amP} {Qb : Nat → amP} {k : Nat} : am_lab Q Qb (k + 1) = Qb k := rfl
theorem s_len {hd : amD} {i : Nat} : am_len am_shp am_slen hd i = if am_shp i = 5 then hd 0 0 else (am_slen i : Int) := rfl
theorem s_reci {n rc : Nat} {l : List amV} {na : Nat} : am_recv am_shp n l na (rc + 1) = (match am_get l (na - 1) with | .inr (.inr (.inl i)) => i < n ∧ am_shp i = 100 + rc | _ => False) := rfl
theorem s_rec0 {n : Nat} {l : List amV} {na : Nat} : am_recv am_shp n l na 0 = True := rfl
