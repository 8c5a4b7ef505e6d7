/-! THE CHECK of a tree against the bytes, and of the tables against the words -/
def am_iok (i : Instr) (n : Nat) : Bool := match i with
  | .iconst k => n == 1 && (decide (-128 ≤ k) && decide (k < 128))
  | .bipush k => n == 2 && (decide (-128 ≤ k) && decide (k < 128))
  | .sipush k => n == 3 && (decide (-32768 ≤ k) && decide (k < 32768))
  | .lconst _ => n == 1
  | .aconst_null => n == 1
  | .iload _ => n == 2
  | .iload_n _ => n == 1
  | .lload _ => n == 2
  | .lload_n _ => n == 1
  | .aload _ => n == 2
  | .aload_n _ => n == 1
  | .istore _ => n == 2
  | .istore_n _ => n == 1
  | .lstore _ => n == 2
  | .lstore_n _ => n == 1
  | .astore _ => n == 2
  | .astore_n _ => n == 1
  | .iinc _ _ => n == 3
  | .iadd => n == 1
  | .isub => n == 1
  | .imul => n == 1
  | .idiv => n == 1
  | .iand => n == 1
  | .ior => n == 1
  | .ixor => n == 1
  | .ishl => n == 1
  | .ishr => n == 1
  | .iushr => n == 1
  | .ladd => n == 1
  | .lsub => n == 1
  | .lmul => n == 1
  | .land => n == 1
  | .ldiv => n == 1
  | .lrem => n == 1
  | .lshl => n == 1
  | .lshr => n == 1
  | .lcmp => n == 1
  | .i2l => n == 1
  | .l2i => n == 1
  | .i2b => n == 1
  | .i2c => n == 1
  | .dup => n == 1
  | .dup2 => n == 1
  | .pop => n == 1
  | .arraylength => n == 1
  | .iaload => n == 1
  | .baload => n == 1
  | .laload => n == 1
  | .aaload => n == 1
  | .iastore => n == 1
  | .bastore => n == 1
  | .lastore => n == 1
  | .aastore => n == 1
  | _ => false
def am_fin (c k : Nat) : Bool := match vwCl[c]? with
  | some (_, T, _) => (T k).2.2.2
  | none => true
def am_h3 (l : List (Nat × Nat × Nat)) (a b c : Nat) : Bool := l.any (fun e => e.1 == a && (e.2.1 == b && e.2.2 == c))
def am_h4 (l : List (Nat × Nat × Nat × Nat)) (a b c d : Nat) : Bool := l.any (fun e => (e.1 == a && e.2.1 == b) && (e.2.2.1 == c && e.2.2.2 == d))
def am_hi (l : List (Nat × Nat × Int)) (a b : Nat) (c : Int) : Bool := l.any (fun e => e.1 == a && (e.2.1 == b && e.2.2 == c))
def am_chkO (o : Nat) (ini : Bool) (dj : Option (Instr × Nat)) (op : amOp) : Option Nat := match dj with
  | some (j, n) => (match op with
    | .inl i => if j = i ∧ am_iok i n = true then some n else none
    | .inr (.inl (c, k, kd)) => (match j with
      | .getfield idx => if n = 3 ∧ am_h4 am_fT o idx c k = true ∧ (if c = 13 then kd = (if k = 0 then 2 else 0) else kd = am_fk c k) then some 3 else none
      | _ => none)
    | .inr (.inr (.inl (c, k, kd))) => (match j with
      | .putfield idx => if n = 3 ∧ am_h4 am_fT o idx c k = true ∧ (c < 13 ∧ kd = am_fk c k) ∧ (am_fin c k = true → ini = true ∧ o = c) then some 3 else none
      | _ => none)
    | .inr (.inr (.inr (.inl (m, na, rc, km, sm)))) => (match am_ML[m]? with
      | some (_, _, _, _, ow, K, S, fl, np) => (match j with
        | .invokevirtual idx => if n = 3 ∧ fl = 0 ∧ m + 1 < am_NM ∧ (na = np + 1 ∧ rc = ow + 1 ∧ km = K ∧ sm = S) ∧ (am_h4 am_mT o idx m 0 = true ∨ am_h4 am_mT o idx m 1 = true) then some 3 else none
        | .invokestatic idx => if n = 3 ∧ fl = 1 ∧ m + 1 < am_NM ∧ (na = np ∧ rc = 0 ∧ km = K ∧ sm = S) ∧ (am_h4 am_mT o idx m 0 = true ∨ am_h4 am_mT o idx m 1 = true) then some 3 else none
        | .invokespecial idx => if n = 3 ∧ fl = 2 ∧ m + 1 < am_NM ∧ (na = np + 1 ∧ rc = ow + 1 ∧ km = K ∧ sm = S) ∧ (am_h4 am_mT o idx m 0 = true ∨ am_h4 am_mT o idx m 1 = true) then some 3 else none
        | _ => none)
      | none => none)
    | .inr (.inr (.inr (.inr (.inl (c, nf))))) => (match j with
      | .new idx => if n = 3 ∧ am_h3 am_nT o idx c = true ∧ (vwCl[c]?.map (fun q => q.2.2)) = some nf then some 3 else none
      | _ => none)
    | .inr (.inr (.inr (.inr (.inr (.inl kd))))) => (match j with
      | .newarray t => if n = 2 ∧ newarray.typeOf t = am_aty kd ∧ (kd = 1 ∨ kd = 2 ∨ kd = 3 ∨ kd = 4) then some 2 else none
      | .anewarray idx => if n = 3 ∧ am_h3 am_aT o idx kd = true ∧ (kd = 7 ∨ kd = 8) then some 3 else none
      | _ => none)
    | .inr (.inr (.inr (.inr (.inr (.inr (.inl _)))))) => (match j with
      | .multianewarray idx dm => if n = 4 ∧ dm = 2 ∧ am_h3 am_aT o idx 9 = true then some 4 else none
      | _ => none)
    | .inr (.inr (.inr (.inr (.inr (.inr (.inr (.inl v))))))) => (match j with
      | .ldc idx => if n = 2 ∧ am_hi am_cT o idx v = true then some 2 else none
      | .ldc_w idx => if n = 3 ∧ am_hi am_cT o idx v = true then some 3 else none
      | _ => none)
    | .inr (.inr (.inr (.inr (.inr (.inr (.inr (.inr (.inl v)))))))) => (match j with
      | .ldc2_w idx => if n = 3 ∧ am_hi am_lT o idx v = true then some 3 else none
      | _ => none)
    | .inr (.inr (.inr (.inr (.inr (.inr (.inr (.inr (.inr (.inl i))))))))) => (match j with
      | .ldc idx => if n = 2 ∧ am_h3 am_sT o idx i = true then some 2 else none
      | _ => none)
    | .inr (.inr (.inr (.inr (.inr (.inr (.inr (.inr (.inr (.inr k))))))))) => if 8 ≤ k then some n else (match j with
      | .getstatic idx => if n = 3 ∧ (k = 6 ∨ k = 7) ∧ am_h3 am_gT o idx k = true then some 3 else none
      | .invokestatic idx => if n = 3 ∧ k < 5 ∧ am_h3 am_pT o idx k = true then some 3 else none
      | .invokespecial idx => if n = 3 ∧ k = 5 ∧ am_h3 am_pT o idx 5 = true then some 3 else none
      | _ => none))
  | none => none
def am_chkL (o : Nat) (ini : Bool) : List amOp → Nat → List UInt8 → Option (Nat × List UInt8)
  | [], pc, l => some (pc, l)
  | op :: ops, pc, l => match am_chkO o ini (fdec l) op with
    | some n => am_chkL o ini ops (pc + n) (l.drop n)
    | none => none
/-- a jump's offset -/
def am_off (i : Instr) : Option Int := match i with
  | .goto d => some d
  | .ifCond _ d => some d
  | .if_icmp _ d => some d
  | .ifnull d => some d
  | .ifnonnull d => some d
  | _ => none
def am_tgt (labels : List Nat) (pc : Nat) (d : Int) (k : Nat) : Bool := match labels[k]? with
  | some t => (pc : Int) + d == (t : Int)
  | none => false
/-- the cases of a switch, from place lo on -/
def am_swT (labels : List Nat) (pc : Nat) : List Int → Int → List (Int × Nat) → Bool
  | [], _, [] => true
  | d :: ds, v, (w, k) :: cs => (v == w && am_tgt labels pc d k) && am_swT labels pc ds (v + 1) cs
  | _, _, _ => false
def am_swP (labels : List Nat) (pc : Nat) : List (Int × Int) → List (Int × Nat) → Bool
  | [], [] => true
  | (v, d) :: ds, (w, k) :: cs => (v == w && am_tgt labels pc d k) && am_swP labels pc ds cs
  | _, _ => false
def am_chk (o : Nat) (ini : Bool) (cc : ByteArray) : amTree → List Nat → Nat → List UInt8 → Option (Nat × List UInt8)
  | .leaf (.inl ops), _, pc, l => am_chkL o ini ops pc l
  | .leaf (.inr (.inl (i, k))), labels, pc, l => (match fdec l, am_off i with
    | some (j, n), some d => if j = i ∧ n = 3 ∧ am_tgt labels pc d k = true then some (pc + 3, l.drop 3) else none
    | _, _ => none)
  | .leaf (.inr (.inr (.inl i))), _, pc, l => (match fdec l with
    | some (j, n) => if j = i ∧ n = 1 then some (pc + 1, l.drop 1) else none
    | _ => none)
  | .leaf (.inr (.inr (.inr (i, cs, d)))), labels, pc, l => (match decode cc pc with
    | .ok (j, n) => if j = i then (match i with
      | .tableswitch df lo hi offs => if am_tgt labels pc df d = true ∧ am_swT labels pc offs.toList lo cs = true ∧ hi = lo + (cs.length : Int) - 1 ∧ 0 < cs.length then some (pc + n, l.drop n) else none
      | .lookupswitch df ps => if am_tgt labels pc df d = true ∧ am_swP labels pc ps.toList cs = true ∧ (ps.toList.zip (ps.toList.drop 1)).all (fun (a, next) => a.1 < next.1) = true then some (pc + n, l.drop n) else none
      | _ => none) else none
    | _ => none)
  | .branch 0 a b, labels, pc, l => (match am_chk o ini cc a labels pc l with
    | some (pc', l') => am_chk o ini cc b labels pc' l'
    | none => none)
  | .branch 1 a _, labels, pc, l => am_chk o ini cc a (pc :: labels) pc l
  | .branch (e + 2) a _, labels, pc, l => (match am_chk o ini cc a (e :: labels) pc l with
    | some (pc', l') => if pc' = e then some (pc', l') else none
    | none => none)
def am_okM (q : amM × amTree) : Bool := (am_chk q.1.2.2.2.2.1 (q.1.2.2.2.2.2.2.2.1 == 2) q.1.2.1 q.2 [] 0 q.1.2.1.data.toList).isSome
set_option maxRecDepth 100000 in
theorem am_ok0 : (am_ML0.zip am_TL0).all am_okM = true := by decide +kernel
