/-! A QUICK READING OF THE BYTES: each opcode's reading by itself, and a table of them -/
theorem fd_u1 {code : ByteArray} {pc : Nat} (h : pc < code.size) : (Reader.u1 : Decoder Nat) code pc = .ok (code[pc].toNat, pc + 1) := by
  have e : (Reader.u1 : Decoder Nat) code pc = (if h : pc < code.size then (fun (_ : ByteArray) (_ : Nat) => (Except.ok (code[pc].toNat, pc + 1) : Except DecodeError (Nat × Nat))) else (fun _ _ => .error (.truncated pc))) code pc := by
    unfold Reader.u1
    show (if h : pc < code.size then _ else _ : Decoder Nat) code pc = _
    by_cases h : pc < code.size
    · rw [dif_pos h, dif_pos h]; rfl
    · rw [dif_neg h, dif_neg h]; rfl
  rw [e, dif_pos h]
theorem fd_b {α β : Type} (r : Decoder α) (f : α → Decoder β) (code : ByteArray) (pc : Nat) : (r >>= f) code pc = Except.bind (r code pc) (fun x => f x.1 code x.2) := rfl
theorem fd_m {α β : Type} (r : Decoder α) (f : α → β) (code : ByteArray) (pc : Nat) : (f <$> r) code pc = Except.bind (r code pc) (fun x => .ok (f x.1, x.2)) := by
  show Except.map _ _ = _
  cases r code pc <;> rfl
theorem fd_d (code : ByteArray) (pc : Nat) : decode code pc = Except.bind ((Decoder.instr pc) code pc) (fun x => .ok (x.1, x.2 - pc)) := rfl
/-- from pc on, the array holds these bytes -/
def fd_at (code : ByteArray) (pc : Nat) (l : List UInt8) : Prop := code.data.toList.drop pc = l
theorem fd_at.head {code : ByteArray} {pc : Nat} {o : UInt8} {t : List UInt8} (h : fd_at code pc (o :: t)) : ∃ hp : pc < code.size, code[pc] = o ∧ fd_at code (pc + 1) t := by
  unfold fd_at at h
  have hl : pc < code.data.toList.length := by
    rcases Nat.lt_or_ge pc code.data.toList.length with q | q
    · exact q
    · rw [List.drop_eq_nil_of_le q] at h; cases h
  rw [List.drop_eq_getElem_cons hl] at h
  have hh := List.cons.inj h
  refine ⟨(show pc < code.data.size by rw [← Array.length_toList]; exact hl), ?_, hh.2⟩
  rw [← hh.1]
  rfl
theorem fd_at.drop {code : ByteArray} {pc n : Nat} {l : List UInt8} (h : fd_at code pc l) : fd_at code (pc + n) (l.drop n) := by
  unfold fd_at at h ⊢
  rw [← h, List.drop_drop]
theorem fd_1 {code : ByteArray} {pc : Nat} {o : UInt8} {t : List UInt8} (h : fd_at code pc (o :: t)) : (Reader.u1 : Decoder Nat) code pc = .ok (o.toNat, pc + 1) ∧ fd_at code (pc + 1) t := by
  obtain ⟨hp, h1, h2⟩ := h.head
  rw [fd_u1 hp, h1]
  exact ⟨rfl, h2⟩
theorem fd_2 {code : ByteArray} {pc : Nat} {a b : UInt8} {t : List UInt8} (h : fd_at code pc (a :: b :: t)) : (Reader.u2 : Decoder Nat) code pc = .ok (a.toNat * 256 + b.toNat, pc + 1 + 1) ∧ fd_at code (pc + 1 + 1) t := by
  obtain ⟨h1, h2⟩ := fd_1 h
  obtain ⟨h3, h4⟩ := fd_1 h2
  refine ⟨?_, h4⟩
  unfold Reader.u2
  rw [fd_b, h1]
  show ((Reader.u1 : Decoder Nat) >>= _) code (pc + 1) = _
  rw [fd_b, h3]
  rfl
theorem fd_s1 {code : ByteArray} {pc : Nat} {a : UInt8} {t : List UInt8} (h : fd_at code pc (a :: t)) : (Reader.s1 : Decoder Int) code pc = .ok (Reader.signed 8 a.toNat, pc + 1) ∧ fd_at code (pc + 1) t := by
  obtain ⟨h1, h2⟩ := fd_1 h
  refine ⟨?_, h2⟩
  unfold Reader.s1
  rw [fd_m, h1]
  rfl
theorem fd_s2 {code : ByteArray} {pc : Nat} {a b : UInt8} {t : List UInt8} (h : fd_at code pc (a :: b :: t)) : (Reader.s2 : Decoder Int) code pc = .ok (Reader.signed 16 (a.toNat * 256 + b.toNat), pc + 1 + 1) ∧ fd_at code (pc + 1 + 1) t := by
  obtain ⟨h1, h2⟩ := fd_2 h
  refine ⟨?_, h2⟩
  unfold Reader.s2
  rw [fd_m, h1]
  rfl
abbrev fdF : Type := List UInt8 → Option (Instr × Nat)
def fd_ok (op : Nat) (f : fdF) : Prop := ∀ (code : ByteArray) (pc : Nat) (o : UInt8) (t : List UInt8) (i : Instr) (n : Nat), o.toNat = op → fd_at code pc (o :: t) → f t = some (i, n) → decode code pc = .ok (i, n)
def fk0 (i : Instr) : fdF := fun _ => some (i, 1)
def fku (g : Nat → Instr) : fdF := fun t => match t with
  | a :: _ => some (g a.toNat, 2)
  | _ => none
def fks (g : Int → Instr) : fdF := fun t => match t with
  | a :: _ => some (g (Reader.signed 8 a.toNat), 2)
  | _ => none
def fku2 (g : Nat → Instr) : fdF := fun t => match t with
  | a :: b :: _ => some (g (a.toNat * 256 + b.toNat), 3)
  | _ => none
def fks2 (g : Int → Instr) : fdF := fun t => match t with
  | a :: b :: _ => some (g (Reader.signed 16 (a.toNat * 256 + b.toNat)), 3)
  | _ => none
def fkii : fdF := fun t => match t with
  | a :: b :: _ => some (.iinc a.toNat (Reader.signed 8 b.toNat), 3)
  | _ => none
def fkna : fdF := fun t => match t with
  | a :: _ => match a.toNat with
    | 4 => some (.newarray .boolean, 2)
    | 8 => some (.newarray .byte, 2)
    | 10 => some (.newarray .int, 2)
    | 11 => some (.newarray .long, 2)
    | _ => none
  | _ => none
def fkmn : fdF := fun t => match t with
  | a :: b :: d :: _ => if d.toNat = 2 then some (.multianewarray (a.toNat * 256 + b.toNat) 2, 4) else none
  | _ => none
theorem fd_op1 : fd_ok 1 (fk0 (.aconst_null)) := by
  intro code pc o t i n ho h hf
  obtain ⟨h1, h2⟩ := fd_1 h
  rw [ho] at h1
  rw [fd_d]
  unfold Decoder.instr
  cases hf
  rw [fd_b, h1]
  show Except.ok (_, pc + 1 - pc) = _
  rw [Nat.add_sub_cancel_left]
theorem fd_op2 : fd_ok 2 (fk0 (.iconst (-1))) := by
  intro code pc o t i n ho h hf
  obtain ⟨h1, h2⟩ := fd_1 h
  rw [ho] at h1
  rw [fd_d]
  unfold Decoder.instr
  cases hf
  rw [fd_b, h1]
  show Except.ok (_, pc + 1 - pc) = _
  rw [Nat.add_sub_cancel_left]
theorem fd_op3 : fd_ok 3 (fk0 (.iconst 0)) := by
  intro code pc o t i n ho h hf
  obtain ⟨h1, h2⟩ := fd_1 h
  rw [ho] at h1
  rw [fd_d]
  unfold Decoder.instr
  cases hf
  rw [fd_b, h1]
  show Except.ok (_, pc + 1 - pc) = _
  rw [Nat.add_sub_cancel_left]
theorem fd_op4 : fd_ok 4 (fk0 (.iconst 1)) := by
  intro code pc o t i n ho h hf
  obtain ⟨h1, h2⟩ := fd_1 h
  rw [ho] at h1
  rw [fd_d]
  unfold Decoder.instr
  cases hf
  rw [fd_b, h1]
  show Except.ok (_, pc + 1 - pc) = _
  rw [Nat.add_sub_cancel_left]
theorem fd_op5 : fd_ok 5 (fk0 (.iconst 2)) := by
  intro code pc o t i n ho h hf
  obtain ⟨h1, h2⟩ := fd_1 h
  rw [ho] at h1
  rw [fd_d]
  unfold Decoder.instr
  cases hf
  rw [fd_b, h1]
  show Except.ok (_, pc + 1 - pc) = _
  rw [Nat.add_sub_cancel_left]
theorem fd_op6 : fd_ok 6 (fk0 (.iconst 3)) := by
  intro code pc o t i n ho h hf
  obtain ⟨h1, h2⟩ := fd_1 h
  rw [ho] at h1
  rw [fd_d]
  unfold Decoder.instr
  cases hf
  rw [fd_b, h1]
  show Except.ok (_, pc + 1 - pc) = _
  rw [Nat.add_sub_cancel_left]
theorem fd_op7 : fd_ok 7 (fk0 (.iconst 4)) := by
  intro code pc o t i n ho h hf
  obtain ⟨h1, h2⟩ := fd_1 h
  rw [ho] at h1
  rw [fd_d]
  unfold Decoder.instr
  cases hf
  rw [fd_b, h1]
  show Except.ok (_, pc + 1 - pc) = _
  rw [Nat.add_sub_cancel_left]
theorem fd_op8 : fd_ok 8 (fk0 (.iconst 5)) := by
  intro code pc o t i n ho h hf
  obtain ⟨h1, h2⟩ := fd_1 h
  rw [ho] at h1
  rw [fd_d]
  unfold Decoder.instr
  cases hf
  rw [fd_b, h1]
  show Except.ok (_, pc + 1 - pc) = _
  rw [Nat.add_sub_cancel_left]
theorem fd_op9 : fd_ok 9 (fk0 (.lconst 0)) := by
  intro code pc o t i n ho h hf
  obtain ⟨h1, h2⟩ := fd_1 h
  rw [ho] at h1
  rw [fd_d]
  unfold Decoder.instr
  cases hf
  rw [fd_b, h1]
  show Except.ok (_, pc + 1 - pc) = _
  rw [Nat.add_sub_cancel_left]
theorem fd_op10 : fd_ok 10 (fk0 (.lconst 1)) := by
  intro code pc o t i n ho h hf
  obtain ⟨h1, h2⟩ := fd_1 h
  rw [ho] at h1
  rw [fd_d]
  unfold Decoder.instr
  cases hf
  rw [fd_b, h1]
  show Except.ok (_, pc + 1 - pc) = _
  rw [Nat.add_sub_cancel_left]
theorem fd_op16 : fd_ok 16 (fks (fun x => .bipush x)) := by
  intro code pc o t i n ho h hf
  obtain ⟨h1, h2⟩ := fd_1 h
  rw [ho] at h1
  rw [fd_d]
  unfold Decoder.instr
  match t, hf, h2 with
  | a :: t, hf, h2 =>
    cases hf
    obtain ⟨h3, h4⟩ := fd_s1 h2
    rw [fd_b, h1]
    show Except.bind (((Reader.s1 : Decoder Int) >>= _) code (pc + 1)) _ = _
    rw [fd_b, h3]
    show Except.ok (_, pc + 1 + 1 - pc) = _
    rw [show pc + 1 + 1 - pc = 2 by omega]
theorem fd_op17 : fd_ok 17 (fks2 (fun x => .sipush x)) := by
  intro code pc o t i n ho h hf
  obtain ⟨h1, h2⟩ := fd_1 h
  rw [ho] at h1
  rw [fd_d]
  unfold Decoder.instr
  match t, hf, h2 with
  | a :: b :: t, hf, h2 =>
    cases hf
    obtain ⟨h3, h4⟩ := fd_s2 h2
    rw [fd_b, h1]
    show Except.bind (((Reader.s2 : Decoder Int) >>= _) code (pc + 1)) _ = _
    rw [fd_b, h3]
    show Except.ok (_, pc + 1 + 1 + 1 - pc) = _
    rw [show pc + 1 + 1 + 1 - pc = 3 by omega]
theorem fd_op18 : fd_ok 18 (fku (fun x => .ldc x)) := by
  intro code pc o t i n ho h hf
  obtain ⟨h1, h2⟩ := fd_1 h
  rw [ho] at h1
  rw [fd_d]
  unfold Decoder.instr
  match t, hf, h2 with
  | a :: t, hf, h2 =>
    cases hf
    obtain ⟨h3, h4⟩ := fd_1 h2
    rw [fd_b, h1]
    show Except.bind (((Reader.u1 : Decoder Nat) >>= _) code (pc + 1)) _ = _
    rw [fd_b, h3]
    show Except.ok (_, pc + 1 + 1 - pc) = _
    rw [show pc + 1 + 1 - pc = 2 by omega]
theorem fd_op19 : fd_ok 19 (fku2 (fun x => .ldc_w x)) := by
  intro code pc o t i n ho h hf
  obtain ⟨h1, h2⟩ := fd_1 h
  rw [ho] at h1
  rw [fd_d]
  unfold Decoder.instr
  match t, hf, h2 with
  | a :: b :: t, hf, h2 =>
    cases hf
    obtain ⟨h3, h4⟩ := fd_2 h2
    rw [fd_b, h1]
    show Except.bind (((Reader.u2 : Decoder Nat) >>= _) code (pc + 1)) _ = _
    rw [fd_b, h3]
    show Except.ok (_, pc + 1 + 1 + 1 - pc) = _
    rw [show pc + 1 + 1 + 1 - pc = 3 by omega]
theorem fd_op20 : fd_ok 20 (fku2 (fun x => .ldc2_w x)) := by
  intro code pc o t i n ho h hf
  obtain ⟨h1, h2⟩ := fd_1 h
  rw [ho] at h1
  rw [fd_d]
  unfold Decoder.instr
  match t, hf, h2 with
  | a :: b :: t, hf, h2 =>
    cases hf
    obtain ⟨h3, h4⟩ := fd_2 h2
    rw [fd_b, h1]
    show Except.bind (((Reader.u2 : Decoder Nat) >>= _) code (pc + 1)) _ = _
    rw [fd_b, h3]
    show Except.ok (_, pc + 1 + 1 + 1 - pc) = _
    rw [show pc + 1 + 1 + 1 - pc = 3 by omega]
theorem fd_op21 : fd_ok 21 (fku (fun x => .iload x)) := by
  intro code pc o t i n ho h hf
  obtain ⟨h1, h2⟩ := fd_1 h
  rw [ho] at h1
  rw [fd_d]
  unfold Decoder.instr
  match t, hf, h2 with
  | a :: t, hf, h2 =>
    cases hf
    obtain ⟨h3, h4⟩ := fd_1 h2
    rw [fd_b, h1]
    show Except.bind (((Reader.u1 : Decoder Nat) >>= _) code (pc + 1)) _ = _
    rw [fd_b, h3]
    show Except.ok (_, pc + 1 + 1 - pc) = _
    rw [show pc + 1 + 1 - pc = 2 by omega]
theorem fd_op22 : fd_ok 22 (fku (fun x => .lload x)) := by
  intro code pc o t i n ho h hf
  obtain ⟨h1, h2⟩ := fd_1 h
  rw [ho] at h1
  rw [fd_d]
  unfold Decoder.instr
  match t, hf, h2 with
  | a :: t, hf, h2 =>
    cases hf
    obtain ⟨h3, h4⟩ := fd_1 h2
    rw [fd_b, h1]
    show Except.bind (((Reader.u1 : Decoder Nat) >>= _) code (pc + 1)) _ = _
    rw [fd_b, h3]
    show Except.ok (_, pc + 1 + 1 - pc) = _
    rw [show pc + 1 + 1 - pc = 2 by omega]
theorem fd_op25 : fd_ok 25 (fku (fun x => .aload x)) := by
  intro code pc o t i n ho h hf
  obtain ⟨h1, h2⟩ := fd_1 h
  rw [ho] at h1
  rw [fd_d]
  unfold Decoder.instr
  match t, hf, h2 with
  | a :: t, hf, h2 =>
    cases hf
    obtain ⟨h3, h4⟩ := fd_1 h2
    rw [fd_b, h1]
    show Except.bind (((Reader.u1 : Decoder Nat) >>= _) code (pc + 1)) _ = _
    rw [fd_b, h3]
    show Except.ok (_, pc + 1 + 1 - pc) = _
    rw [show pc + 1 + 1 - pc = 2 by omega]
theorem fd_op26 : fd_ok 26 (fk0 (.iload_n 0)) := by
  intro code pc o t i n ho h hf
  obtain ⟨h1, h2⟩ := fd_1 h
  rw [ho] at h1
  rw [fd_d]
  unfold Decoder.instr
  cases hf
  rw [fd_b, h1]
  show Except.ok (_, pc + 1 - pc) = _
  rw [Nat.add_sub_cancel_left]
theorem fd_op27 : fd_ok 27 (fk0 (.iload_n 1)) := by
  intro code pc o t i n ho h hf
  obtain ⟨h1, h2⟩ := fd_1 h
  rw [ho] at h1
  rw [fd_d]
  unfold Decoder.instr
  cases hf
  rw [fd_b, h1]
  show Except.ok (_, pc + 1 - pc) = _
  rw [Nat.add_sub_cancel_left]
theorem fd_op28 : fd_ok 28 (fk0 (.iload_n 2)) := by
  intro code pc o t i n ho h hf
  obtain ⟨h1, h2⟩ := fd_1 h
  rw [ho] at h1
  rw [fd_d]
  unfold Decoder.instr
  cases hf
  rw [fd_b, h1]
  show Except.ok (_, pc + 1 - pc) = _
  rw [Nat.add_sub_cancel_left]
theorem fd_op29 : fd_ok 29 (fk0 (.iload_n 3)) := by
  intro code pc o t i n ho h hf
  obtain ⟨h1, h2⟩ := fd_1 h
  rw [ho] at h1
  rw [fd_d]
  unfold Decoder.instr
  cases hf
  rw [fd_b, h1]
  show Except.ok (_, pc + 1 - pc) = _
  rw [Nat.add_sub_cancel_left]
theorem fd_op30 : fd_ok 30 (fk0 (.lload_n 0)) := by
  intro code pc o t i n ho h hf
  obtain ⟨h1, h2⟩ := fd_1 h
  rw [ho] at h1
  rw [fd_d]
  unfold Decoder.instr
  cases hf
  rw [fd_b, h1]
  show Except.ok (_, pc + 1 - pc) = _
  rw [Nat.add_sub_cancel_left]
theorem fd_op31 : fd_ok 31 (fk0 (.lload_n 1)) := by
  intro code pc o t i n ho h hf
  obtain ⟨h1, h2⟩ := fd_1 h
  rw [ho] at h1
  rw [fd_d]
  unfold Decoder.instr
  cases hf
  rw [fd_b, h1]
  show Except.ok (_, pc + 1 - pc) = _
  rw [Nat.add_sub_cancel_left]
theorem fd_op32 : fd_ok 32 (fk0 (.lload_n 2)) := by
  intro code pc o t i n ho h hf
  obtain ⟨h1, h2⟩ := fd_1 h
  rw [ho] at h1
  rw [fd_d]
  unfold Decoder.instr
  cases hf
  rw [fd_b, h1]
  show Except.ok (_, pc + 1 - pc) = _
  rw [Nat.add_sub_cancel_left]
theorem fd_op33 : fd_ok 33 (fk0 (.lload_n 3)) := by
  intro code pc o t i n ho h hf
  obtain ⟨h1, h2⟩ := fd_1 h
  rw [ho] at h1
  rw [fd_d]
  unfold Decoder.instr
  cases hf
  rw [fd_b, h1]
  show Except.ok (_, pc + 1 - pc) = _
  rw [Nat.add_sub_cancel_left]
theorem fd_op42 : fd_ok 42 (fk0 (.aload_n 0)) := by
  intro code pc o t i n ho h hf
  obtain ⟨h1, h2⟩ := fd_1 h
  rw [ho] at h1
  rw [fd_d]
  unfold Decoder.instr
  cases hf
  rw [fd_b, h1]
  show Except.ok (_, pc + 1 - pc) = _
  rw [Nat.add_sub_cancel_left]
theorem fd_op43 : fd_ok 43 (fk0 (.aload_n 1)) := by
  intro code pc o t i n ho h hf
  obtain ⟨h1, h2⟩ := fd_1 h
  rw [ho] at h1
  rw [fd_d]
  unfold Decoder.instr
  cases hf
  rw [fd_b, h1]
  show Except.ok (_, pc + 1 - pc) = _
  rw [Nat.add_sub_cancel_left]
theorem fd_op44 : fd_ok 44 (fk0 (.aload_n 2)) := by
  intro code pc o t i n ho h hf
  obtain ⟨h1, h2⟩ := fd_1 h
  rw [ho] at h1
  rw [fd_d]
  unfold Decoder.instr
  cases hf
  rw [fd_b, h1]
  show Except.ok (_, pc + 1 - pc) = _
  rw [Nat.add_sub_cancel_left]
theorem fd_op45 : fd_ok 45 (fk0 (.aload_n 3)) := by
  intro code pc o t i n ho h hf
  obtain ⟨h1, h2⟩ := fd_1 h
  rw [ho] at h1
  rw [fd_d]
  unfold Decoder.instr
  cases hf
  rw [fd_b, h1]
  show Except.ok (_, pc + 1 - pc) = _
  rw [Nat.add_sub_cancel_left]
theorem fd_op46 : fd_ok 46 (fk0 (.iaload)) := by
  intro code pc o t i n ho h hf
  obtain ⟨h1, h2⟩ := fd_1 h
  rw [ho] at h1
  rw [fd_d]
  unfold Decoder.instr
  cases hf
  rw [fd_b, h1]
  show Except.ok (_, pc + 1 - pc) = _
  rw [Nat.add_sub_cancel_left]
theorem fd_op47 : fd_ok 47 (fk0 (.laload)) := by
  intro code pc o t i n ho h hf
  obtain ⟨h1, h2⟩ := fd_1 h
  rw [ho] at h1
  rw [fd_d]
  unfold Decoder.instr
  cases hf
  rw [fd_b, h1]
  show Except.ok (_, pc + 1 - pc) = _
  rw [Nat.add_sub_cancel_left]
theorem fd_op50 : fd_ok 50 (fk0 (.aaload)) := by
  intro code pc o t i n ho h hf
  obtain ⟨h1, h2⟩ := fd_1 h
  rw [ho] at h1
  rw [fd_d]
  unfold Decoder.instr
  cases hf
  rw [fd_b, h1]
  show Except.ok (_, pc + 1 - pc) = _
  rw [Nat.add_sub_cancel_left]
theorem fd_op51 : fd_ok 51 (fk0 (.baload)) := by
  intro code pc o t i n ho h hf
  obtain ⟨h1, h2⟩ := fd_1 h
  rw [ho] at h1
  rw [fd_d]
  unfold Decoder.instr
  cases hf
  rw [fd_b, h1]
  show Except.ok (_, pc + 1 - pc) = _
  rw [Nat.add_sub_cancel_left]
theorem fd_op54 : fd_ok 54 (fku (fun x => .istore x)) := by
  intro code pc o t i n ho h hf
  obtain ⟨h1, h2⟩ := fd_1 h
  rw [ho] at h1
  rw [fd_d]
  unfold Decoder.instr
  match t, hf, h2 with
  | a :: t, hf, h2 =>
    cases hf
    obtain ⟨h3, h4⟩ := fd_1 h2
    rw [fd_b, h1]
    show Except.bind (((Reader.u1 : Decoder Nat) >>= _) code (pc + 1)) _ = _
    rw [fd_b, h3]
    show Except.ok (_, pc + 1 + 1 - pc) = _
    rw [show pc + 1 + 1 - pc = 2 by omega]
theorem fd_op55 : fd_ok 55 (fku (fun x => .lstore x)) := by
  intro code pc o t i n ho h hf
  obtain ⟨h1, h2⟩ := fd_1 h
  rw [ho] at h1
  rw [fd_d]
  unfold Decoder.instr
  match t, hf, h2 with
  | a :: t, hf, h2 =>
    cases hf
    obtain ⟨h3, h4⟩ := fd_1 h2
    rw [fd_b, h1]
    show Except.bind (((Reader.u1 : Decoder Nat) >>= _) code (pc + 1)) _ = _
    rw [fd_b, h3]
    show Except.ok (_, pc + 1 + 1 - pc) = _
    rw [show pc + 1 + 1 - pc = 2 by omega]
theorem fd_op58 : fd_ok 58 (fku (fun x => .astore x)) := by
  intro code pc o t i n ho h hf
  obtain ⟨h1, h2⟩ := fd_1 h
  rw [ho] at h1
  rw [fd_d]
  unfold Decoder.instr
  match t, hf, h2 with
  | a :: t, hf, h2 =>
    cases hf
    obtain ⟨h3, h4⟩ := fd_1 h2
    rw [fd_b, h1]
    show Except.bind (((Reader.u1 : Decoder Nat) >>= _) code (pc + 1)) _ = _
    rw [fd_b, h3]
    show Except.ok (_, pc + 1 + 1 - pc) = _
    rw [show pc + 1 + 1 - pc = 2 by omega]
theorem fd_op59 : fd_ok 59 (fk0 (.istore_n 0)) := by
  intro code pc o t i n ho h hf
  obtain ⟨h1, h2⟩ := fd_1 h
  rw [ho] at h1
  rw [fd_d]
  unfold Decoder.instr
  cases hf
  rw [fd_b, h1]
  show Except.ok (_, pc + 1 - pc) = _
  rw [Nat.add_sub_cancel_left]
theorem fd_op60 : fd_ok 60 (fk0 (.istore_n 1)) := by
  intro code pc o t i n ho h hf
  obtain ⟨h1, h2⟩ := fd_1 h
  rw [ho] at h1
  rw [fd_d]
  unfold Decoder.instr
  cases hf
  rw [fd_b, h1]
  show Except.ok (_, pc + 1 - pc) = _
  rw [Nat.add_sub_cancel_left]
theorem fd_op61 : fd_ok 61 (fk0 (.istore_n 2)) := by
  intro code pc o t i n ho h hf
  obtain ⟨h1, h2⟩ := fd_1 h
  rw [ho] at h1
  rw [fd_d]
  unfold Decoder.instr
  cases hf
  rw [fd_b, h1]
  show Except.ok (_, pc + 1 - pc) = _
  rw [Nat.add_sub_cancel_left]
theorem fd_op62 : fd_ok 62 (fk0 (.istore_n 3)) := by
  intro code pc o t i n ho h hf
  obtain ⟨h1, h2⟩ := fd_1 h
  rw [ho] at h1
  rw [fd_d]
  unfold Decoder.instr
  cases hf
  rw [fd_b, h1]
  show Except.ok (_, pc + 1 - pc) = _
  rw [Nat.add_sub_cancel_left]
theorem fd_op63 : fd_ok 63 (fk0 (.lstore_n 0)) := by
  intro code pc o t i n ho h hf
  obtain ⟨h1, h2⟩ := fd_1 h
  rw [ho] at h1
  rw [fd_d]
  unfold Decoder.instr
  cases hf
  rw [fd_b, h1]
  show Except.ok (_, pc + 1 - pc) = _
  rw [Nat.add_sub_cancel_left]
theorem fd_op64 : fd_ok 64 (fk0 (.lstore_n 1)) := by
  intro code pc o t i n ho h hf
  obtain ⟨h1, h2⟩ := fd_1 h
  rw [ho] at h1
  rw [fd_d]
  unfold Decoder.instr
  cases hf
  rw [fd_b, h1]
  show Except.ok (_, pc + 1 - pc) = _
  rw [Nat.add_sub_cancel_left]
theorem fd_op65 : fd_ok 65 (fk0 (.lstore_n 2)) := by
  intro code pc o t i n ho h hf
  obtain ⟨h1, h2⟩ := fd_1 h
  rw [ho] at h1
  rw [fd_d]
  unfold Decoder.instr
  cases hf
  rw [fd_b, h1]
  show Except.ok (_, pc + 1 - pc) = _
  rw [Nat.add_sub_cancel_left]
theorem fd_op66 : fd_ok 66 (fk0 (.lstore_n 3)) := by
  intro code pc o t i n ho h hf
  obtain ⟨h1, h2⟩ := fd_1 h
  rw [ho] at h1
  rw [fd_d]
  unfold Decoder.instr
  cases hf
  rw [fd_b, h1]
  show Except.ok (_, pc + 1 - pc) = _
  rw [Nat.add_sub_cancel_left]
theorem fd_op75 : fd_ok 75 (fk0 (.astore_n 0)) := by
  intro code pc o t i n ho h hf
  obtain ⟨h1, h2⟩ := fd_1 h
  rw [ho] at h1
  rw [fd_d]
  unfold Decoder.instr
  cases hf
  rw [fd_b, h1]
  show Except.ok (_, pc + 1 - pc) = _
  rw [Nat.add_sub_cancel_left]
theorem fd_op76 : fd_ok 76 (fk0 (.astore_n 1)) := by
  intro code pc o t i n ho h hf
  obtain ⟨h1, h2⟩ := fd_1 h
  rw [ho] at h1
  rw [fd_d]
  unfold Decoder.instr
  cases hf
  rw [fd_b, h1]
  show Except.ok (_, pc + 1 - pc) = _
  rw [Nat.add_sub_cancel_left]
theorem fd_op77 : fd_ok 77 (fk0 (.astore_n 2)) := by
  intro code pc o t i n ho h hf
  obtain ⟨h1, h2⟩ := fd_1 h
  rw [ho] at h1
  rw [fd_d]
  unfold Decoder.instr
  cases hf
  rw [fd_b, h1]
  show Except.ok (_, pc + 1 - pc) = _
  rw [Nat.add_sub_cancel_left]
theorem fd_op78 : fd_ok 78 (fk0 (.astore_n 3)) := by
  intro code pc o t i n ho h hf
  obtain ⟨h1, h2⟩ := fd_1 h
  rw [ho] at h1
  rw [fd_d]
  unfold Decoder.instr
  cases hf
  rw [fd_b, h1]
  show Except.ok (_, pc + 1 - pc) = _
  rw [Nat.add_sub_cancel_left]
theorem fd_op79 : fd_ok 79 (fk0 (.iastore)) := by
  intro code pc o t i n ho h hf
  obtain ⟨h1, h2⟩ := fd_1 h
  rw [ho] at h1
  rw [fd_d]
  unfold Decoder.instr
  cases hf
  rw [fd_b, h1]
  show Except.ok (_, pc + 1 - pc) = _
  rw [Nat.add_sub_cancel_left]
theorem fd_op80 : fd_ok 80 (fk0 (.lastore)) := by
  intro code pc o t i n ho h hf
  obtain ⟨h1, h2⟩ := fd_1 h
  rw [ho] at h1
  rw [fd_d]
  unfold Decoder.instr
  cases hf
  rw [fd_b, h1]
  show Except.ok (_, pc + 1 - pc) = _
  rw [Nat.add_sub_cancel_left]
theorem fd_op83 : fd_ok 83 (fk0 (.aastore)) := by
  intro code pc o t i n ho h hf
  obtain ⟨h1, h2⟩ := fd_1 h
  rw [ho] at h1
  rw [fd_d]
  unfold Decoder.instr
  cases hf
  rw [fd_b, h1]
  show Except.ok (_, pc + 1 - pc) = _
  rw [Nat.add_sub_cancel_left]
theorem fd_op84 : fd_ok 84 (fk0 (.bastore)) := by
  intro code pc o t i n ho h hf
  obtain ⟨h1, h2⟩ := fd_1 h
  rw [ho] at h1
  rw [fd_d]
  unfold Decoder.instr
  cases hf
  rw [fd_b, h1]
  show Except.ok (_, pc + 1 - pc) = _
  rw [Nat.add_sub_cancel_left]
theorem fd_op87 : fd_ok 87 (fk0 (.pop)) := by
  intro code pc o t i n ho h hf
  obtain ⟨h1, h2⟩ := fd_1 h
  rw [ho] at h1
  rw [fd_d]
  unfold Decoder.instr
  cases hf
  rw [fd_b, h1]
  show Except.ok (_, pc + 1 - pc) = _
  rw [Nat.add_sub_cancel_left]
theorem fd_op89 : fd_ok 89 (fk0 (.dup)) := by
  intro code pc o t i n ho h hf
  obtain ⟨h1, h2⟩ := fd_1 h
  rw [ho] at h1
  rw [fd_d]
  unfold Decoder.instr
  cases hf
  rw [fd_b, h1]
  show Except.ok (_, pc + 1 - pc) = _
  rw [Nat.add_sub_cancel_left]
theorem fd_op92 : fd_ok 92 (fk0 (.dup2)) := by
  intro code pc o t i n ho h hf
  obtain ⟨h1, h2⟩ := fd_1 h
  rw [ho] at h1
  rw [fd_d]
  unfold Decoder.instr
  cases hf
  rw [fd_b, h1]
  show Except.ok (_, pc + 1 - pc) = _
  rw [Nat.add_sub_cancel_left]
theorem fd_op96 : fd_ok 96 (fk0 (.iadd)) := by
  intro code pc o t i n ho h hf
  obtain ⟨h1, h2⟩ := fd_1 h
  rw [ho] at h1
  rw [fd_d]
  unfold Decoder.instr
  cases hf
  rw [fd_b, h1]
  show Except.ok (_, pc + 1 - pc) = _
  rw [Nat.add_sub_cancel_left]
theorem fd_op97 : fd_ok 97 (fk0 (.ladd)) := by
  intro code pc o t i n ho h hf
  obtain ⟨h1, h2⟩ := fd_1 h
  rw [ho] at h1
  rw [fd_d]
  unfold Decoder.instr
  cases hf
  rw [fd_b, h1]
  show Except.ok (_, pc + 1 - pc) = _
  rw [Nat.add_sub_cancel_left]
theorem fd_op100 : fd_ok 100 (fk0 (.isub)) := by
  intro code pc o t i n ho h hf
  obtain ⟨h1, h2⟩ := fd_1 h
  rw [ho] at h1
  rw [fd_d]
  unfold Decoder.instr
  cases hf
  rw [fd_b, h1]
  show Except.ok (_, pc + 1 - pc) = _
  rw [Nat.add_sub_cancel_left]
theorem fd_op101 : fd_ok 101 (fk0 (.lsub)) := by
  intro code pc o t i n ho h hf
  obtain ⟨h1, h2⟩ := fd_1 h
  rw [ho] at h1
  rw [fd_d]
  unfold Decoder.instr
  cases hf
  rw [fd_b, h1]
  show Except.ok (_, pc + 1 - pc) = _
  rw [Nat.add_sub_cancel_left]
theorem fd_op104 : fd_ok 104 (fk0 (.imul)) := by
  intro code pc o t i n ho h hf
  obtain ⟨h1, h2⟩ := fd_1 h
  rw [ho] at h1
  rw [fd_d]
  unfold Decoder.instr
  cases hf
  rw [fd_b, h1]
  show Except.ok (_, pc + 1 - pc) = _
  rw [Nat.add_sub_cancel_left]
theorem fd_op105 : fd_ok 105 (fk0 (.lmul)) := by
  intro code pc o t i n ho h hf
  obtain ⟨h1, h2⟩ := fd_1 h
  rw [ho] at h1
  rw [fd_d]
  unfold Decoder.instr
  cases hf
  rw [fd_b, h1]
  show Except.ok (_, pc + 1 - pc) = _
  rw [Nat.add_sub_cancel_left]
theorem fd_op108 : fd_ok 108 (fk0 (.idiv)) := by
  intro code pc o t i n ho h hf
  obtain ⟨h1, h2⟩ := fd_1 h
  rw [ho] at h1
  rw [fd_d]
  unfold Decoder.instr
  cases hf
  rw [fd_b, h1]
  show Except.ok (_, pc + 1 - pc) = _
  rw [Nat.add_sub_cancel_left]
theorem fd_op109 : fd_ok 109 (fk0 (.ldiv)) := by
  intro code pc o t i n ho h hf
  obtain ⟨h1, h2⟩ := fd_1 h
  rw [ho] at h1
  rw [fd_d]
  unfold Decoder.instr
  cases hf
  rw [fd_b, h1]
  show Except.ok (_, pc + 1 - pc) = _
  rw [Nat.add_sub_cancel_left]
theorem fd_op113 : fd_ok 113 (fk0 (.lrem)) := by
  intro code pc o t i n ho h hf
  obtain ⟨h1, h2⟩ := fd_1 h
  rw [ho] at h1
  rw [fd_d]
  unfold Decoder.instr
  cases hf
  rw [fd_b, h1]
  show Except.ok (_, pc + 1 - pc) = _
  rw [Nat.add_sub_cancel_left]
theorem fd_op116 : fd_ok 116 (fk0 (.ineg)) := by
  intro code pc o t i n ho h hf
  obtain ⟨h1, h2⟩ := fd_1 h
  rw [ho] at h1
  rw [fd_d]
  unfold Decoder.instr
  cases hf
  rw [fd_b, h1]
  show Except.ok (_, pc + 1 - pc) = _
  rw [Nat.add_sub_cancel_left]
theorem fd_op120 : fd_ok 120 (fk0 (.ishl)) := by
  intro code pc o t i n ho h hf
  obtain ⟨h1, h2⟩ := fd_1 h
  rw [ho] at h1
  rw [fd_d]
  unfold Decoder.instr
  cases hf
  rw [fd_b, h1]
  show Except.ok (_, pc + 1 - pc) = _
  rw [Nat.add_sub_cancel_left]
theorem fd_op121 : fd_ok 121 (fk0 (.lshl)) := by
  intro code pc o t i n ho h hf
  obtain ⟨h1, h2⟩ := fd_1 h
  rw [ho] at h1
  rw [fd_d]
  unfold Decoder.instr
  cases hf
  rw [fd_b, h1]
  show Except.ok (_, pc + 1 - pc) = _
  rw [Nat.add_sub_cancel_left]
theorem fd_op122 : fd_ok 122 (fk0 (.ishr)) := by
  intro code pc o t i n ho h hf
  obtain ⟨h1, h2⟩ := fd_1 h
  rw [ho] at h1
  rw [fd_d]
  unfold Decoder.instr
  cases hf
  rw [fd_b, h1]
  show Except.ok (_, pc + 1 - pc) = _
  rw [Nat.add_sub_cancel_left]
theorem fd_op123 : fd_ok 123 (fk0 (.lshr)) := by
  intro code pc o t i n ho h hf
  obtain ⟨h1, h2⟩ := fd_1 h
  rw [ho] at h1
  rw [fd_d]
  unfold Decoder.instr
  cases hf
  rw [fd_b, h1]
  show Except.ok (_, pc + 1 - pc) = _
  rw [Nat.add_sub_cancel_left]
theorem fd_op124 : fd_ok 124 (fk0 (.iushr)) := by
  intro code pc o t i n ho h hf
  obtain ⟨h1, h2⟩ := fd_1 h
  rw [ho] at h1
  rw [fd_d]
  unfold Decoder.instr
  cases hf
  rw [fd_b, h1]
  show Except.ok (_, pc + 1 - pc) = _
  rw [Nat.add_sub_cancel_left]
theorem fd_op126 : fd_ok 126 (fk0 (.iand)) := by
  intro code pc o t i n ho h hf
  obtain ⟨h1, h2⟩ := fd_1 h
  rw [ho] at h1
  rw [fd_d]
  unfold Decoder.instr
  cases hf
  rw [fd_b, h1]
  show Except.ok (_, pc + 1 - pc) = _
  rw [Nat.add_sub_cancel_left]
theorem fd_op127 : fd_ok 127 (fk0 (.land)) := by
  intro code pc o t i n ho h hf
  obtain ⟨h1, h2⟩ := fd_1 h
  rw [ho] at h1
  rw [fd_d]
  unfold Decoder.instr
  cases hf
  rw [fd_b, h1]
  show Except.ok (_, pc + 1 - pc) = _
  rw [Nat.add_sub_cancel_left]
theorem fd_op128 : fd_ok 128 (fk0 (.ior)) := by
  intro code pc o t i n ho h hf
  obtain ⟨h1, h2⟩ := fd_1 h
  rw [ho] at h1
  rw [fd_d]
  unfold Decoder.instr
  cases hf
  rw [fd_b, h1]
  show Except.ok (_, pc + 1 - pc) = _
  rw [Nat.add_sub_cancel_left]
theorem fd_op130 : fd_ok 130 (fk0 (.ixor)) := by
  intro code pc o t i n ho h hf
  obtain ⟨h1, h2⟩ := fd_1 h
  rw [ho] at h1
  rw [fd_d]
  unfold Decoder.instr
  cases hf
  rw [fd_b, h1]
  show Except.ok (_, pc + 1 - pc) = _
  rw [Nat.add_sub_cancel_left]
theorem fd_op132 : fd_ok 132 (fkii) := by
  intro code pc o t i n ho h hf
  obtain ⟨h1, h2⟩ := fd_1 h
  rw [ho] at h1
  rw [fd_d]
  unfold Decoder.instr
  match t, hf, h2 with
  | a :: b :: t, hf, h2 =>
    cases hf
    obtain ⟨h3, h4⟩ := fd_1 h2
    obtain ⟨h5, h6⟩ := fd_s1 h4
    rw [fd_b, h1]
    show Except.bind (((Reader.u1 : Decoder Nat) >>= _) code (pc + 1)) _ = _
    rw [fd_b, h3]
    show Except.bind (((Reader.s1 : Decoder Int) >>= _) code (pc + 1 + 1)) _ = _
    rw [fd_b, h5]
    show Except.ok (_, pc + 1 + 1 + 1 - pc) = _
    rw [show pc + 1 + 1 + 1 - pc = 3 by omega]
theorem fd_op133 : fd_ok 133 (fk0 (.i2l)) := by
  intro code pc o t i n ho h hf
  obtain ⟨h1, h2⟩ := fd_1 h
  rw [ho] at h1
  rw [fd_d]
  unfold Decoder.instr
  cases hf
  rw [fd_b, h1]
  show Except.ok (_, pc + 1 - pc) = _
  rw [Nat.add_sub_cancel_left]
theorem fd_op136 : fd_ok 136 (fk0 (.l2i)) := by
  intro code pc o t i n ho h hf
  obtain ⟨h1, h2⟩ := fd_1 h
  rw [ho] at h1
  rw [fd_d]
  unfold Decoder.instr
  cases hf
  rw [fd_b, h1]
  show Except.ok (_, pc + 1 - pc) = _
  rw [Nat.add_sub_cancel_left]
theorem fd_op145 : fd_ok 145 (fk0 (.i2b)) := by
  intro code pc o t i n ho h hf
  obtain ⟨h1, h2⟩ := fd_1 h
  rw [ho] at h1
  rw [fd_d]
  unfold Decoder.instr
  cases hf
  rw [fd_b, h1]
  show Except.ok (_, pc + 1 - pc) = _
  rw [Nat.add_sub_cancel_left]
theorem fd_op146 : fd_ok 146 (fk0 (.i2c)) := by
  intro code pc o t i n ho h hf
  obtain ⟨h1, h2⟩ := fd_1 h
  rw [ho] at h1
  rw [fd_d]
  unfold Decoder.instr
  cases hf
  rw [fd_b, h1]
  show Except.ok (_, pc + 1 - pc) = _
  rw [Nat.add_sub_cancel_left]
theorem fd_op148 : fd_ok 148 (fk0 (.lcmp)) := by
  intro code pc o t i n ho h hf
  obtain ⟨h1, h2⟩ := fd_1 h
  rw [ho] at h1
  rw [fd_d]
  unfold Decoder.instr
  cases hf
  rw [fd_b, h1]
  show Except.ok (_, pc + 1 - pc) = _
  rw [Nat.add_sub_cancel_left]
theorem fd_op153 : fd_ok 153 (fks2 (fun x => .ifCond .eq x)) := by
  intro code pc o t i n ho h hf
  obtain ⟨h1, h2⟩ := fd_1 h
  rw [ho] at h1
  rw [fd_d]
  unfold Decoder.instr
  match t, hf, h2 with
  | a :: b :: t, hf, h2 =>
    cases hf
    obtain ⟨h3, h4⟩ := fd_s2 h2
    rw [fd_b, h1]
    show Except.bind (((Reader.s2 : Decoder Int) >>= _) code (pc + 1)) _ = _
    rw [fd_b, h3]
    show Except.ok (_, pc + 1 + 1 + 1 - pc) = _
    rw [show pc + 1 + 1 + 1 - pc = 3 by omega]
theorem fd_op154 : fd_ok 154 (fks2 (fun x => .ifCond .ne x)) := by
  intro code pc o t i n ho h hf
  obtain ⟨h1, h2⟩ := fd_1 h
  rw [ho] at h1
  rw [fd_d]
  unfold Decoder.instr
  match t, hf, h2 with
  | a :: b :: t, hf, h2 =>
    cases hf
    obtain ⟨h3, h4⟩ := fd_s2 h2
    rw [fd_b, h1]
    show Except.bind (((Reader.s2 : Decoder Int) >>= _) code (pc + 1)) _ = _
    rw [fd_b, h3]
    show Except.ok (_, pc + 1 + 1 + 1 - pc) = _
    rw [show pc + 1 + 1 + 1 - pc = 3 by omega]
theorem fd_op155 : fd_ok 155 (fks2 (fun x => .ifCond .lt x)) := by
  intro code pc o t i n ho h hf
  obtain ⟨h1, h2⟩ := fd_1 h
  rw [ho] at h1
  rw [fd_d]
  unfold Decoder.instr
  match t, hf, h2 with
  | a :: b :: t, hf, h2 =>
    cases hf
    obtain ⟨h3, h4⟩ := fd_s2 h2
    rw [fd_b, h1]
    show Except.bind (((Reader.s2 : Decoder Int) >>= _) code (pc + 1)) _ = _
    rw [fd_b, h3]
    show Except.ok (_, pc + 1 + 1 + 1 - pc) = _
    rw [show pc + 1 + 1 + 1 - pc = 3 by omega]
theorem fd_op156 : fd_ok 156 (fks2 (fun x => .ifCond .ge x)) := by
  intro code pc o t i n ho h hf
  obtain ⟨h1, h2⟩ := fd_1 h
  rw [ho] at h1
  rw [fd_d]
  unfold Decoder.instr
  match t, hf, h2 with
  | a :: b :: t, hf, h2 =>
    cases hf
    obtain ⟨h3, h4⟩ := fd_s2 h2
    rw [fd_b, h1]
    show Except.bind (((Reader.s2 : Decoder Int) >>= _) code (pc + 1)) _ = _
    rw [fd_b, h3]
    show Except.ok (_, pc + 1 + 1 + 1 - pc) = _
    rw [show pc + 1 + 1 + 1 - pc = 3 by omega]
theorem fd_op157 : fd_ok 157 (fks2 (fun x => .ifCond .gt x)) := by
  intro code pc o t i n ho h hf
  obtain ⟨h1, h2⟩ := fd_1 h
  rw [ho] at h1
  rw [fd_d]
  unfold Decoder.instr
  match t, hf, h2 with
  | a :: b :: t, hf, h2 =>
    cases hf
    obtain ⟨h3, h4⟩ := fd_s2 h2
    rw [fd_b, h1]
    show Except.bind (((Reader.s2 : Decoder Int) >>= _) code (pc + 1)) _ = _
    rw [fd_b, h3]
    show Except.ok (_, pc + 1 + 1 + 1 - pc) = _
    rw [show pc + 1 + 1 + 1 - pc = 3 by omega]
theorem fd_op158 : fd_ok 158 (fks2 (fun x => .ifCond .le x)) := by
  intro code pc o t i n ho h hf
  obtain ⟨h1, h2⟩ := fd_1 h
  rw [ho] at h1
  rw [fd_d]
  unfold Decoder.instr
  match t, hf, h2 with
  | a :: b :: t, hf, h2 =>
    cases hf
    obtain ⟨h3, h4⟩ := fd_s2 h2
    rw [fd_b, h1]
    show Except.bind (((Reader.s2 : Decoder Int) >>= _) code (pc + 1)) _ = _
    rw [fd_b, h3]
    show Except.ok (_, pc + 1 + 1 + 1 - pc) = _
    rw [show pc + 1 + 1 + 1 - pc = 3 by omega]
theorem fd_op159 : fd_ok 159 (fks2 (fun x => .if_icmp .eq x)) := by
  intro code pc o t i n ho h hf
  obtain ⟨h1, h2⟩ := fd_1 h
  rw [ho] at h1
  rw [fd_d]
  unfold Decoder.instr
  match t, hf, h2 with
  | a :: b :: t, hf, h2 =>
    cases hf
    obtain ⟨h3, h4⟩ := fd_s2 h2
    rw [fd_b, h1]
    show Except.bind (((Reader.s2 : Decoder Int) >>= _) code (pc + 1)) _ = _
    rw [fd_b, h3]
    show Except.ok (_, pc + 1 + 1 + 1 - pc) = _
    rw [show pc + 1 + 1 + 1 - pc = 3 by omega]
theorem fd_op160 : fd_ok 160 (fks2 (fun x => .if_icmp .ne x)) := by
  intro code pc o t i n ho h hf
  obtain ⟨h1, h2⟩ := fd_1 h
  rw [ho] at h1
  rw [fd_d]
  unfold Decoder.instr
  match t, hf, h2 with
  | a :: b :: t, hf, h2 =>
    cases hf
    obtain ⟨h3, h4⟩ := fd_s2 h2
    rw [fd_b, h1]
    show Except.bind (((Reader.s2 : Decoder Int) >>= _) code (pc + 1)) _ = _
    rw [fd_b, h3]
    show Except.ok (_, pc + 1 + 1 + 1 - pc) = _
    rw [show pc + 1 + 1 + 1 - pc = 3 by omega]
theorem fd_op161 : fd_ok 161 (fks2 (fun x => .if_icmp .lt x)) := by
  intro code pc o t i n ho h hf
  obtain ⟨h1, h2⟩ := fd_1 h
  rw [ho] at h1
  rw [fd_d]
  unfold Decoder.instr
  match t, hf, h2 with
  | a :: b :: t, hf, h2 =>
    cases hf
    obtain ⟨h3, h4⟩ := fd_s2 h2
    rw [fd_b, h1]
    show Except.bind (((Reader.s2 : Decoder Int) >>= _) code (pc + 1)) _ = _
    rw [fd_b, h3]
    show Except.ok (_, pc + 1 + 1 + 1 - pc) = _
    rw [show pc + 1 + 1 + 1 - pc = 3 by omega]
theorem fd_op162 : fd_ok 162 (fks2 (fun x => .if_icmp .ge x)) := by
  intro code pc o t i n ho h hf
  obtain ⟨h1, h2⟩ := fd_1 h
  rw [ho] at h1
  rw [fd_d]
  unfold Decoder.instr
  match t, hf, h2 with
  | a :: b :: t, hf, h2 =>
    cases hf
    obtain ⟨h3, h4⟩ := fd_s2 h2
    rw [fd_b, h1]
    show Except.bind (((Reader.s2 : Decoder Int) >>= _) code (pc + 1)) _ = _
    rw [fd_b, h3]
    show Except.ok (_, pc + 1 + 1 + 1 - pc) = _
    rw [show pc + 1 + 1 + 1 - pc = 3 by omega]
theorem fd_op163 : fd_ok 163 (fks2 (fun x => .if_icmp .gt x)) := by
  intro code pc o t i n ho h hf
  obtain ⟨h1, h2⟩ := fd_1 h
  rw [ho] at h1
  rw [fd_d]
  unfold Decoder.instr
  match t, hf, h2 with
  | a :: b :: t, hf, h2 =>
    cases hf
    obtain ⟨h3, h4⟩ := fd_s2 h2
    rw [fd_b, h1]
    show Except.bind (((Reader.s2 : Decoder Int) >>= _) code (pc + 1)) _ = _
    rw [fd_b, h3]
    show Except.ok (_, pc + 1 + 1 + 1 - pc) = _
    rw [show pc + 1 + 1 + 1 - pc = 3 by omega]
theorem fd_op164 : fd_ok 164 (fks2 (fun x => .if_icmp .le x)) := by
  intro code pc o t i n ho h hf
  obtain ⟨h1, h2⟩ := fd_1 h
  rw [ho] at h1
  rw [fd_d]
  unfold Decoder.instr
  match t, hf, h2 with
  | a :: b :: t, hf, h2 =>
    cases hf
    obtain ⟨h3, h4⟩ := fd_s2 h2
    rw [fd_b, h1]
    show Except.bind (((Reader.s2 : Decoder Int) >>= _) code (pc + 1)) _ = _
    rw [fd_b, h3]
    show Except.ok (_, pc + 1 + 1 + 1 - pc) = _
    rw [show pc + 1 + 1 + 1 - pc = 3 by omega]
theorem fd_op167 : fd_ok 167 (fks2 (fun x => .goto x)) := by
  intro code pc o t i n ho h hf
  obtain ⟨h1, h2⟩ := fd_1 h
  rw [ho] at h1
  rw [fd_d]
  unfold Decoder.instr
  match t, hf, h2 with
  | a :: b :: t, hf, h2 =>
    cases hf
    obtain ⟨h3, h4⟩ := fd_s2 h2
    rw [fd_b, h1]
    show Except.bind (((Reader.s2 : Decoder Int) >>= _) code (pc + 1)) _ = _
    rw [fd_b, h3]
    show Except.ok (_, pc + 1 + 1 + 1 - pc) = _
    rw [show pc + 1 + 1 + 1 - pc = 3 by omega]
theorem fd_op172 : fd_ok 172 (fk0 (.ireturn)) := by
  intro code pc o t i n ho h hf
  obtain ⟨h1, h2⟩ := fd_1 h
  rw [ho] at h1
  rw [fd_d]
  unfold Decoder.instr
  cases hf
  rw [fd_b, h1]
  show Except.ok (_, pc + 1 - pc) = _
  rw [Nat.add_sub_cancel_left]
theorem fd_op173 : fd_ok 173 (fk0 (.lreturn)) := by
  intro code pc o t i n ho h hf
  obtain ⟨h1, h2⟩ := fd_1 h
  rw [ho] at h1
  rw [fd_d]
  unfold Decoder.instr
  cases hf
  rw [fd_b, h1]
  show Except.ok (_, pc + 1 - pc) = _
  rw [Nat.add_sub_cancel_left]
theorem fd_op176 : fd_ok 176 (fk0 (.areturn)) := by
  intro code pc o t i n ho h hf
  obtain ⟨h1, h2⟩ := fd_1 h
  rw [ho] at h1
  rw [fd_d]
  unfold Decoder.instr
  cases hf
  rw [fd_b, h1]
  show Except.ok (_, pc + 1 - pc) = _
  rw [Nat.add_sub_cancel_left]
theorem fd_op177 : fd_ok 177 (fk0 (.return_)) := by
  intro code pc o t i n ho h hf
  obtain ⟨h1, h2⟩ := fd_1 h
  rw [ho] at h1
  rw [fd_d]
  unfold Decoder.instr
  cases hf
  rw [fd_b, h1]
  show Except.ok (_, pc + 1 - pc) = _
  rw [Nat.add_sub_cancel_left]
theorem fd_op178 : fd_ok 178 (fku2 (fun x => .getstatic x)) := by
  intro code pc o t i n ho h hf
  obtain ⟨h1, h2⟩ := fd_1 h
  rw [ho] at h1
  rw [fd_d]
  unfold Decoder.instr
  match t, hf, h2 with
  | a :: b :: t, hf, h2 =>
    cases hf
    obtain ⟨h3, h4⟩ := fd_2 h2
    rw [fd_b, h1]
    show Except.bind (((Reader.u2 : Decoder Nat) >>= _) code (pc + 1)) _ = _
    rw [fd_b, h3]
    show Except.ok (_, pc + 1 + 1 + 1 - pc) = _
    rw [show pc + 1 + 1 + 1 - pc = 3 by omega]
theorem fd_op180 : fd_ok 180 (fku2 (fun x => .getfield x)) := by
  intro code pc o t i n ho h hf
  obtain ⟨h1, h2⟩ := fd_1 h
  rw [ho] at h1
  rw [fd_d]
  unfold Decoder.instr
  match t, hf, h2 with
  | a :: b :: t, hf, h2 =>
    cases hf
    obtain ⟨h3, h4⟩ := fd_2 h2
    rw [fd_b, h1]
    show Except.bind (((Reader.u2 : Decoder Nat) >>= _) code (pc + 1)) _ = _
    rw [fd_b, h3]
    show Except.ok (_, pc + 1 + 1 + 1 - pc) = _
    rw [show pc + 1 + 1 + 1 - pc = 3 by omega]
theorem fd_op181 : fd_ok 181 (fku2 (fun x => .putfield x)) := by
  intro code pc o t i n ho h hf
  obtain ⟨h1, h2⟩ := fd_1 h
  rw [ho] at h1
  rw [fd_d]
  unfold Decoder.instr
  match t, hf, h2 with
  | a :: b :: t, hf, h2 =>
    cases hf
    obtain ⟨h3, h4⟩ := fd_2 h2
    rw [fd_b, h1]
    show Except.bind (((Reader.u2 : Decoder Nat) >>= _) code (pc + 1)) _ = _
    rw [fd_b, h3]
    show Except.ok (_, pc + 1 + 1 + 1 - pc) = _
    rw [show pc + 1 + 1 + 1 - pc = 3 by omega]
theorem fd_op182 : fd_ok 182 (fku2 (fun x => .invokevirtual x)) := by
  intro code pc o t i n ho h hf
  obtain ⟨h1, h2⟩ := fd_1 h
  rw [ho] at h1
  rw [fd_d]
  unfold Decoder.instr
  match t, hf, h2 with
  | a :: b :: t, hf, h2 =>
    cases hf
    obtain ⟨h3, h4⟩ := fd_2 h2
    rw [fd_b, h1]
    show Except.bind (((Reader.u2 : Decoder Nat) >>= _) code (pc + 1)) _ = _
    rw [fd_b, h3]
    show Except.ok (_, pc + 1 + 1 + 1 - pc) = _
    rw [show pc + 1 + 1 + 1 - pc = 3 by omega]
theorem fd_op183 : fd_ok 183 (fku2 (fun x => .invokespecial x)) := by
  intro code pc o t i n ho h hf
  obtain ⟨h1, h2⟩ := fd_1 h
  rw [ho] at h1
  rw [fd_d]
  unfold Decoder.instr
  match t, hf, h2 with
  | a :: b :: t, hf, h2 =>
    cases hf
    obtain ⟨h3, h4⟩ := fd_2 h2
    rw [fd_b, h1]
    show Except.bind (((Reader.u2 : Decoder Nat) >>= _) code (pc + 1)) _ = _
    rw [fd_b, h3]
    show Except.ok (_, pc + 1 + 1 + 1 - pc) = _
    rw [show pc + 1 + 1 + 1 - pc = 3 by omega]
theorem fd_op184 : fd_ok 184 (fku2 (fun x => .invokestatic x)) := by
  intro code pc o t i n ho h hf
  obtain ⟨h1, h2⟩ := fd_1 h
  rw [ho] at h1
  rw [fd_d]
  unfold Decoder.instr
  match t, hf, h2 with
  | a :: b :: t, hf, h2 =>
    cases hf
    obtain ⟨h3, h4⟩ := fd_2 h2
    rw [fd_b, h1]
    show Except.bind (((Reader.u2 : Decoder Nat) >>= _) code (pc + 1)) _ = _
    rw [fd_b, h3]
    show Except.ok (_, pc + 1 + 1 + 1 - pc) = _
    rw [show pc + 1 + 1 + 1 - pc = 3 by omega]
theorem fd_op187 : fd_ok 187 (fku2 (fun x => .new x)) := by
  intro code pc o t i n ho h hf
  obtain ⟨h1, h2⟩ := fd_1 h
  rw [ho] at h1
  rw [fd_d]
  unfold Decoder.instr
  match t, hf, h2 with
  | a :: b :: t, hf, h2 =>
    cases hf
    obtain ⟨h3, h4⟩ := fd_2 h2
    rw [fd_b, h1]
    show Except.bind (((Reader.u2 : Decoder Nat) >>= _) code (pc + 1)) _ = _
    rw [fd_b, h3]
    show Except.ok (_, pc + 1 + 1 + 1 - pc) = _
    rw [show pc + 1 + 1 + 1 - pc = 3 by omega]
theorem fd_op188 : fd_ok 188 (fkna) := by
  intro code pc o t i n ho h hf
  obtain ⟨h1, h2⟩ := fd_1 h
  rw [ho] at h1
  rw [fd_d]
  unfold Decoder.instr
  match t, hf, h2 with
  | a :: t, hf, h2 =>
    obtain ⟨h3, h4⟩ := fd_1 h2
    rw [fd_b, h1]
    show Except.bind ((Decoder.newarray pc) code (pc + 1)) _ = _
    unfold Decoder.newarray
    rw [fd_b, h3]
    have e9 : pc + 1 + 1 - pc = 2 := by omega
    unfold fkna at hf
    simp only [] at hf
    split at hf
    · rename_i e8
      cases hf
      rw [e8]
      show Except.ok (_, pc + 1 + 1 - pc) = _
      rw [e9]
    · rename_i e8
      cases hf
      rw [e8]
      show Except.ok (_, pc + 1 + 1 - pc) = _
      rw [e9]
    · rename_i e8
      cases hf
      rw [e8]
      show Except.ok (_, pc + 1 + 1 - pc) = _
      rw [e9]
    · rename_i e8
      cases hf
      rw [e8]
      show Except.ok (_, pc + 1 + 1 - pc) = _
      rw [e9]
    · cases hf
theorem fd_op189 : fd_ok 189 (fku2 (fun x => .anewarray x)) := by
  intro code pc o t i n ho h hf
  obtain ⟨h1, h2⟩ := fd_1 h
  rw [ho] at h1
  rw [fd_d]
  unfold Decoder.instr
  match t, hf, h2 with
  | a :: b :: t, hf, h2 =>
    cases hf
    obtain ⟨h3, h4⟩ := fd_2 h2
    rw [fd_b, h1]
    show Except.bind (((Reader.u2 : Decoder Nat) >>= _) code (pc + 1)) _ = _
    rw [fd_b, h3]
    show Except.ok (_, pc + 1 + 1 + 1 - pc) = _
    rw [show pc + 1 + 1 + 1 - pc = 3 by omega]
theorem fd_op190 : fd_ok 190 (fk0 (.arraylength)) := by
  intro code pc o t i n ho h hf
  obtain ⟨h1, h2⟩ := fd_1 h
  rw [ho] at h1
  rw [fd_d]
  unfold Decoder.instr
  cases hf
  rw [fd_b, h1]
  show Except.ok (_, pc + 1 - pc) = _
  rw [Nat.add_sub_cancel_left]
theorem fd_op191 : fd_ok 191 (fk0 (.athrow)) := by
  intro code pc o t i n ho h hf
  obtain ⟨h1, h2⟩ := fd_1 h
  rw [ho] at h1
  rw [fd_d]
  unfold Decoder.instr
  cases hf
  rw [fd_b, h1]
  show Except.ok (_, pc + 1 - pc) = _
  rw [Nat.add_sub_cancel_left]
theorem fd_op197 : fd_ok 197 (fkmn) := by
  intro code pc o t i n ho h hf
  obtain ⟨h1, h2⟩ := fd_1 h
  rw [ho] at h1
  rw [fd_d]
  unfold Decoder.instr
  match t, hf, h2 with
  | a :: b :: d :: t, hf, h2 =>
    unfold fkmn at hf
    simp only [] at hf
    split at hf
    case isFalse => cases hf
    case isTrue h0 =>
    cases hf
    obtain ⟨h3, h4⟩ := fd_2 h2
    obtain ⟨h5, h6⟩ := fd_1 h4
    rw [h0] at h5
    rw [fd_b, h1]
    show Except.bind ((Decoder.multianewarray pc) code (pc + 1)) _ = _
    unfold Decoder.multianewarray
    rw [fd_b, h3]
    show Except.bind (((Reader.u1 : Decoder Nat) >>= _) code (pc + 1 + 1 + 1)) _ = _
    rw [fd_b, h5]
    show Except.ok (_, pc + 1 + 1 + 1 + 1 - pc) = _
    rw [show pc + 1 + 1 + 1 + 1 - pc = 4 by omega]
theorem fd_op198 : fd_ok 198 (fks2 (fun x => .ifnull x)) := by
  intro code pc o t i n ho h hf
  obtain ⟨h1, h2⟩ := fd_1 h
  rw [ho] at h1
  rw [fd_d]
  unfold Decoder.instr
  match t, hf, h2 with
  | a :: b :: t, hf, h2 =>
    cases hf
    obtain ⟨h3, h4⟩ := fd_s2 h2
    rw [fd_b, h1]
    show Except.bind (((Reader.s2 : Decoder Int) >>= _) code (pc + 1)) _ = _
    rw [fd_b, h3]
    show Except.ok (_, pc + 1 + 1 + 1 - pc) = _
    rw [show pc + 1 + 1 + 1 - pc = 3 by omega]
theorem fd_op199 : fd_ok 199 (fks2 (fun x => .ifnonnull x)) := by
  intro code pc o t i n ho h hf
  obtain ⟨h1, h2⟩ := fd_1 h
  rw [ho] at h1
  rw [fd_d]
  unfold Decoder.instr
  match t, hf, h2 with
  | a :: b :: t, hf, h2 =>
    cases hf
    obtain ⟨h3, h4⟩ := fd_s2 h2
    rw [fd_b, h1]
    show Except.bind (((Reader.s2 : Decoder Int) >>= _) code (pc + 1)) _ = _
    rw [fd_b, h3]
    show Except.ok (_, pc + 1 + 1 + 1 - pc) = _
    rw [show pc + 1 + 1 + 1 - pc = 3 by omega]
def am_FD : List (Nat × fdF) := [(42, fk0 (.aload_n 0)), (180, fku2 (fun x => .getfield x)), (182, fku2 (fun x => .invokevirtual x)), (3, fk0 (.iconst 0)), (172, fk0 (.ireturn)), (21, fku (fun x => .iload x)), (27, fk0 (.iload_n 1)), (4, fk0 (.iconst 1)), (29, fk0 (.iload_n 3)), (167, fks2 (fun x => .goto x)), (181, fku2 (fun x => .putfield x)), (28, fk0 (.iload_n 2)), (46, fk0 (.iaload)), (96, fk0 (.iadd)), (184, fku2 (fun x => .invokestatic x)), (16, fks (fun x => .bipush x)), (54, fku (fun x => .istore x)), (43, fk0 (.aload_n 1)), (162, fks2 (fun x => .if_icmp .ge x)), (2, fk0 (.iconst (-1))), (153, fks2 (fun x => .ifCond .eq x)), (154, fks2 (fun x => .ifCond .ne x)), (132, fkii), (50, fk0 (.aaload)), (160, fks2 (fun x => .if_icmp .ne x)), (62, fk0 (.istore_n 3)), (100, fk0 (.isub)), (177, fk0 (.return_)), (159, fks2 (fun x => .if_icmp .eq x)), (5, fk0 (.iconst 2)), (89, fk0 (.dup)), (188, fkna), (61, fk0 (.istore_n 2)), (79, fk0 (.iastore)), (44, fk0 (.aload_n 2)), (133, fk0 (.i2l)), (164, fks2 (fun x => .if_icmp .le x)), (20, fku2 (fun x => .ldc2_w x)), (6, fk0 (.iconst 3)), (155, fks2 (fun x => .ifCond .lt x)), (9, fk0 (.lconst 0)), (163, fks2 (fun x => .if_icmp .gt x)), (126, fk0 (.iand)), (183, fku2 (fun x => .invokespecial x)), (26, fk0 (.iload_n 0)), (161, fks2 (fun x => .if_icmp .lt x)), (18, fku (fun x => .ldc x)), (104, fk0 (.imul)), (120, fk0 (.ishl)), (7, fk0 (.iconst 4)), (60, fk0 (.istore_n 1)), (190, fk0 (.arraylength)), (187, fku2 (fun x => .new x)), (122, fk0 (.ishr)), (128, fk0 (.ior)), (10, fk0 (.lconst 1)), (197, fkmn), (51, fk0 (.baload)), (92, fk0 (.dup2)), (17, fks2 (fun x => .sipush x)), (32, fk0 (.lload_n 2)), (8, fk0 (.iconst 5)), (83, fk0 (.aastore)), (97, fk0 (.ladd)), (148, fk0 (.lcmp)), (158, fks2 (fun x => .ifCond .le x)), (31, fk0 (.lload_n 1)), (19, fku2 (fun x => .ldc_w x)), (22, fku (fun x => .lload x)), (65, fk0 (.lstore_n 2)), (124, fk0 (.iushr)), (173, fk0 (.lreturn)), (25, fku (fun x => .aload x)), (59, fk0 (.istore_n 0)), (55, fku (fun x => .lstore x)), (30, fk0 (.lload_n 0)), (76, fk0 (.astore_n 1)), (77, fk0 (.astore_n 2)), (84, fk0 (.bastore)), (105, fk0 (.lmul)), (80, fk0 (.lastore)), (87, fk0 (.pop)), (108, fk0 (.idiv)), (136, fk0 (.l2i)), (178, fku2 (fun x => .getstatic x)), (64, fk0 (.lstore_n 1)), (47, fk0 (.laload)), (109, fk0 (.ldiv)), (113, fk0 (.lrem)), (121, fk0 (.lshl)), (123, fk0 (.lshr)), (127, fk0 (.land)), (130, fk0 (.ixor)), (145, fk0 (.i2b)), (176, fk0 (.areturn)), (58, fku (fun x => .astore x)), (156, fks2 (fun x => .ifCond .ge x)), (157, fks2 (fun x => .ifCond .gt x)), (198, fks2 (fun x => .ifnull x)), (189, fku2 (fun x => .anewarray x)), (1, fk0 (.aconst_null)), (101, fk0 (.lsub)), (146, fk0 (.i2c)), (191, fk0 (.athrow)), (199, fks2 (fun x => .ifnonnull x)), (63, fk0 (.lstore_n 0)), (75, fk0 (.astore_n 0)), (33, fk0 (.lload_n 3)), (45, fk0 (.aload_n 3)), (66, fk0 (.lstore_n 3)), (78, fk0 (.astore_n 3)), (116, fk0 (.ineg))]
theorem am_FD_ok : ∀ e ∈ am_FD, fd_ok e.1 e.2 := List.forall_mem_cons.mpr ⟨fd_op42, List.forall_mem_cons.mpr ⟨fd_op180, List.forall_mem_cons.mpr ⟨fd_op182, List.forall_mem_cons.mpr ⟨fd_op3, List.forall_mem_cons.mpr ⟨fd_op172, List.forall_mem_cons.mpr ⟨fd_op21, List.forall_mem_cons.mpr ⟨fd_op27, List.forall_mem_cons.mpr ⟨fd_op4, List.forall_mem_cons.mpr ⟨fd_op29, List.forall_mem_cons.mpr ⟨fd_op167, List.forall_mem_cons.mpr ⟨fd_op181, List.forall_mem_cons.mpr ⟨fd_op28, List.forall_mem_cons.mpr ⟨fd_op46, List.forall_mem_cons.mpr ⟨fd_op96, List.forall_mem_cons.mpr ⟨fd_op184, List.forall_mem_cons.mpr ⟨fd_op16, List.forall_mem_cons.mpr ⟨fd_op54, List.forall_mem_cons.mpr ⟨fd_op43, List.forall_mem_cons.mpr ⟨fd_op162, List.forall_mem_cons.mpr ⟨fd_op2, List.forall_mem_cons.mpr ⟨fd_op153, List.forall_mem_cons.mpr ⟨fd_op154, List.forall_mem_cons.mpr ⟨fd_op132, List.forall_mem_cons.mpr ⟨fd_op50, List.forall_mem_cons.mpr ⟨fd_op160, List.forall_mem_cons.mpr ⟨fd_op62, List.forall_mem_cons.mpr ⟨fd_op100, List.forall_mem_cons.mpr ⟨fd_op177, List.forall_mem_cons.mpr ⟨fd_op159, List.forall_mem_cons.mpr ⟨fd_op5, List.forall_mem_cons.mpr ⟨fd_op89, List.forall_mem_cons.mpr ⟨fd_op188, List.forall_mem_cons.mpr ⟨fd_op61, List.forall_mem_cons.mpr ⟨fd_op79, List.forall_mem_cons.mpr ⟨fd_op44, List.forall_mem_cons.mpr ⟨fd_op133, List.forall_mem_cons.mpr ⟨fd_op164, List.forall_mem_cons.mpr ⟨fd_op20, List.forall_mem_cons.mpr ⟨fd_op6, List.forall_mem_cons.mpr ⟨fd_op155, List.forall_mem_cons.mpr ⟨fd_op9, List.forall_mem_cons.mpr ⟨fd_op163, List.forall_mem_cons.mpr ⟨fd_op126, List.forall_mem_cons.mpr ⟨fd_op183, List.forall_mem_cons.mpr ⟨fd_op26, List.forall_mem_cons.mpr ⟨fd_op161, List.forall_mem_cons.mpr ⟨fd_op18, List.forall_mem_cons.mpr ⟨fd_op104, List.forall_mem_cons.mpr ⟨fd_op120, List.forall_mem_cons.mpr ⟨fd_op7, List.forall_mem_cons.mpr ⟨fd_op60, List.forall_mem_cons.mpr ⟨fd_op190, List.forall_mem_cons.mpr ⟨fd_op187, List.forall_mem_cons.mpr ⟨fd_op122, List.forall_mem_cons.mpr ⟨fd_op128, List.forall_mem_cons.mpr ⟨fd_op10, List.forall_mem_cons.mpr ⟨fd_op197, List.forall_mem_cons.mpr ⟨fd_op51, List.forall_mem_cons.mpr ⟨fd_op92, List.forall_mem_cons.mpr ⟨fd_op17, List.forall_mem_cons.mpr ⟨fd_op32, List.forall_mem_cons.mpr ⟨fd_op8, List.forall_mem_cons.mpr ⟨fd_op83, List.forall_mem_cons.mpr ⟨fd_op97, List.forall_mem_cons.mpr ⟨fd_op148, List.forall_mem_cons.mpr ⟨fd_op158, List.forall_mem_cons.mpr ⟨fd_op31, List.forall_mem_cons.mpr ⟨fd_op19, List.forall_mem_cons.mpr ⟨fd_op22, List.forall_mem_cons.mpr ⟨fd_op65, List.forall_mem_cons.mpr ⟨fd_op124, List.forall_mem_cons.mpr ⟨fd_op173, List.forall_mem_cons.mpr ⟨fd_op25, List.forall_mem_cons.mpr ⟨fd_op59, List.forall_mem_cons.mpr ⟨fd_op55, List.forall_mem_cons.mpr ⟨fd_op30, List.forall_mem_cons.mpr ⟨fd_op76, List.forall_mem_cons.mpr ⟨fd_op77, List.forall_mem_cons.mpr ⟨fd_op84, List.forall_mem_cons.mpr ⟨fd_op105, List.forall_mem_cons.mpr ⟨fd_op80, List.forall_mem_cons.mpr ⟨fd_op87, List.forall_mem_cons.mpr ⟨fd_op108, List.forall_mem_cons.mpr ⟨fd_op136, List.forall_mem_cons.mpr ⟨fd_op178, List.forall_mem_cons.mpr ⟨fd_op64, List.forall_mem_cons.mpr ⟨fd_op47, List.forall_mem_cons.mpr ⟨fd_op109, List.forall_mem_cons.mpr ⟨fd_op113, List.forall_mem_cons.mpr ⟨fd_op121, List.forall_mem_cons.mpr ⟨fd_op123, List.forall_mem_cons.mpr ⟨fd_op127, List.forall_mem_cons.mpr ⟨fd_op130, List.forall_mem_cons.mpr ⟨fd_op145, List.forall_mem_cons.mpr ⟨fd_op176, List.forall_mem_cons.mpr ⟨fd_op58, List.forall_mem_cons.mpr ⟨fd_op156, List.forall_mem_cons.mpr ⟨fd_op157, List.forall_mem_cons.mpr ⟨fd_op198, List.forall_mem_cons.mpr ⟨fd_op189, List.forall_mem_cons.mpr ⟨fd_op1, List.forall_mem_cons.mpr ⟨fd_op101, List.forall_mem_cons.mpr ⟨fd_op146, List.forall_mem_cons.mpr ⟨fd_op191, List.forall_mem_cons.mpr ⟨fd_op199, List.forall_mem_cons.mpr ⟨fd_op63, List.forall_mem_cons.mpr ⟨fd_op75, List.forall_mem_cons.mpr ⟨fd_op33, List.forall_mem_cons.mpr ⟨fd_op45, List.forall_mem_cons.mpr ⟨fd_op66, List.forall_mem_cons.mpr ⟨fd_op78, List.forall_mem_cons.mpr ⟨fd_op116, fun _ h => absurd h List.not_mem_nil⟩⟩⟩⟩⟩⟩⟩⟩⟩⟩⟩⟩⟩⟩⟩⟩⟩⟩⟩⟩⟩⟩⟩⟩⟩⟩⟩⟩⟩⟩⟩⟩⟩⟩⟩⟩⟩⟩⟩⟩⟩⟩⟩⟩⟩⟩⟩⟩⟩⟩⟩⟩⟩⟩⟩⟩⟩⟩⟩⟩⟩⟩⟩⟩⟩⟩⟩⟩⟩⟩⟩⟩⟩⟩⟩⟩⟩⟩⟩⟩⟩⟩⟩⟩⟩⟩⟩⟩⟩⟩⟩⟩⟩⟩⟩⟩⟩⟩⟩⟩⟩⟩⟩⟩⟩⟩⟩⟩⟩⟩⟩⟩
def fdec (l : List UInt8) : Option (Instr × Nat) := match l with
  | [] => none
  | o :: t => match am_FD.find? (fun e => Nat.beq e.1 o.toNat) with
    | some e => e.2 t
    | none => none
theorem fdec_ok {code : ByteArray} {pc : Nat} {l : List UInt8} {i : Instr} {n : Nat} (h : fd_at code pc l) (hf : fdec l = some (i, n)) : decode code pc = .ok (i, n) := by
  match l, h, hf with
  | o :: t, h, hf =>
    unfold fdec at hf
    simp only [] at hf
    split at hf
    · rename_i e he
      have h1 := List.find?_some he
      have h2 := List.mem_of_find?_eq_some he
      exact am_FD_ok e h2 code pc o t i n (Nat.eq_of_beq_eq_true h1).symm h hf
    · cases hf
