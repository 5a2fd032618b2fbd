/-! the abstract machine's steps -/
def am_kill (o : Option Value) : Option Value := match o with
  | some (.long _) => none
  | some (.double _) => none
  | o => o
/-- a value of one slot is stored -/
def am_st1 : List (Option Value) → Nat → Value → List (Option Value)
  | [], _, _ => []
  | _ :: l, 0, v => some v :: l
  | x :: l, n + 1, v => (match n with | 0 => am_kill x | _ => x) :: am_st1 l n v
/-- a long is stored -/
def am_st2 : List (Option Value) → Nat → Value → List (Option Value)
  | [], _, _ => []
  | _ :: l, 0, v => some v :: (match l with | [] => [] | _ :: l' => none :: l')
  | x :: l, n + 1, v => (match n with | 0 => am_kill x | _ => x) :: am_st2 l n v
/-- what a field of a kind may hold -/
def am_fg (ty : FieldType) (v : Value) : Prop := match ty, v with
  | .int, .int _ => True
  | .long, .long _ => True
  | .boolean, .int x => x = 0 ∨ x = 1
  | .object _, .ref _ => True
  | .object _, .null => True
  | .array _, .ref _ => True
  | .array _, .null => True
  | _, _ => False
def am_tk : Nat → List Value → List Value → Option (List Value × List Value)
  | 0, st, acc => some (acc, st)
  | n + 1, v :: st, acc => am_tk n st (v :: acc)
  | _ + 1, [], _ => none
def am_room (st : List Value) : Bool := Nat.ble (st.map fun v => v.category).sum 8
def am_fits (as : List Value) (n : Nat) : Bool := Nat.ble (as.map fun v => v.category).sum n
/-- the arguments as locals -/
def am_ent : Nat → List Value → List (Option Value)
  | n, [] => List.replicate n none
  | 0, _ :: _ => []
  | n + 1, v :: vs => some v :: (match v with
    | .long _ => (match n with | 0 => [] | m + 1 => none :: am_ent m vs)
    | .double _ => (match n with | 0 => [] | m + 1 => none :: am_ent m vs)
    | _ => am_ent n vs)
/-- 0 a step, 1 a call, 2 an end -/
def am_kd (i : Jvm.ClassFile.Instr) (b : Nat) : Nat := match i with
  | .invokevirtual _ => (match b with | 0 => 1 | 5 => 0 | _ => 9)
  | .invokespecial _ => (match b with | 1 => 1 | 2 => 1 | 4 => 0 | _ => 9)
  | .invokestatic _ => (match b with | 3 => 1 | 6 => 0 | 7 => 0 | 8 => 0 | _ => 9)
  | .ireturn => 2
  | .lreturn => 2
  | .areturn => 2
  | .return_ => 2
  | _ => 0
abbrev am_O : Type := Prop × Nat × List (Option Value) × List Value × List am_C
def am_ldi (nx a b : Nat) (k : Int32) (l : Int64) (ls : List (Option Value)) (st : List Value) (h : List am_C) : Option am_O := match am_get ls a with
  | some (some (.int x)) => some (True, nx, ls, .int x :: st, h)
  | _ => none
def am_ldl (nx a b : Nat) (k : Int32) (l : Int64) (ls : List (Option Value)) (st : List Value) (h : List am_C) : Option am_O := match am_get ls a with
  | some (some (.long x)) => some (True, nx, ls, .long x :: st, h)
  | _ => none
def am_lda (nx a b : Nat) (k : Int32) (l : Int64) (ls : List (Option Value)) (st : List Value) (h : List am_C) : Option am_O := match am_get ls a with
  | some (some (.ref x)) => some (True, nx, ls, .ref x :: st, h)
  | some (some .null) => some (True, nx, ls, .null :: st, h)
  | _ => none
def am_sti (nx a b : Nat) (k : Int32) (l : Int64) (ls : List (Option Value)) (st : List Value) (h : List am_C) : Option am_O := match st with
  | .int x :: r => some (True, nx, am_st1 ls a (.int x), r, h)
  | _ => none
def am_stl (nx a b : Nat) (k : Int32) (l : Int64) (ls : List (Option Value)) (st : List Value) (h : List am_C) : Option am_O := match st with
  | .long x :: r => some (True, nx, am_st2 ls a (.long x), r, h)
  | _ => none
def am_sta (nx a b : Nat) (k : Int32) (l : Int64) (ls : List (Option Value)) (st : List Value) (h : List am_C) : Option am_O := match st with
  | .ref x :: r => some (True, nx, am_st1 ls a (.ref x), r, h)
  | .null :: r => some (True, nx, am_st1 ls a .null, r, h)
  | _ => none
def am_cst (nx a b : Nat) (k : Int32) (l : Int64) (ls : List (Option Value)) (st : List Value) (h : List am_C) : Option am_O := some (True, nx, ls, .int k :: st, h)
/-- comparisons of two ints, of one with 0 -/
def am_i2 (c : Jvm.ClassFile.Cond) (nx a b : Nat) (k : Int32) (l : Int64) (ls : List (Option Value)) (st : List Value) (h : List am_C) : Option am_O := match st with
  | .int y :: .int x :: r => (match c with
    | .eq => some (True, if x = y then a else nx, ls, r, h)
    | .ne => some (True, if ¬ x = y then a else nx, ls, r, h)
    | .lt => some (True, if x < y then a else nx, ls, r, h)
    | .ge => some (True, if y ≤ x then a else nx, ls, r, h)
    | .gt => some (True, if y < x then a else nx, ls, r, h)
    | .le => some (True, if x ≤ y then a else nx, ls, r, h))
  | _ => none
def am_i1 (c : Jvm.ClassFile.Cond) (nx a b : Nat) (k : Int32) (l : Int64) (ls : List (Option Value)) (st : List Value) (h : List am_C) : Option am_O := match st with
  | .int x :: r => (match c with
    | .eq => some (True, if x = 0 then a else nx, ls, r, h)
    | .ne => some (True, if ¬ x = 0 then a else nx, ls, r, h)
    | .lt => some (True, if x < 0 then a else nx, ls, r, h)
    | .ge => some (True, if 0 ≤ x then a else nx, ls, r, h)
    | .gt => some (True, if 0 < x then a else nx, ls, r, h)
    | .le => some (True, if x ≤ 0 then a else nx, ls, r, h))
  | _ => none
def am_acmp (c : Jvm.ClassFile.ACond) (nx a b : Nat) (k : Int32) (l : Int64) (ls : List (Option Value)) (st : List Value) (h : List am_C) : Option am_O := match st with
  | .ref y :: .ref x :: r => (match c with
    | .eq => some (x = y ∨ (1 ≤ x ∧ x ≤ 3 ∧ 1 ≤ y ∧ y ≤ 3), if x = y then a else nx, ls, r, h)
    | .ne => some (x = y ∨ (1 ≤ x ∧ x ≤ 3 ∧ 1 ≤ y ∧ y ≤ 3), if ¬ x = y then a else nx, ls, r, h))
  | _ => none
/-- reading and writing rows -/
def am_ald (t1 t2 : Nat) (nx a b : Nat) (k : Int32) (l : Int64) (ls : List (Option Value)) (st : List Value) (h : List am_C) : Option am_O := match st with
  | .int i :: .ref r :: st' => (match am_get h r with
    | some (.inl (t, (n, .inl f))) => (match Nat.beq t t1 || Nat.beq t t2 with
      | true => some (vp_in i n, nx, ls, .int (f i.toNatClampNeg) :: st', h)
      | false => none)
    | _ => none)
  | _ => none
def am_lald (nx a b : Nat) (k : Int32) (l : Int64) (ls : List (Option Value)) (st : List Value) (h : List am_C) : Option am_O := match st with
  | .int i :: .ref r :: st' => (match am_get h r with
    | some (.inl (t, (n, .inr (.inl f)))) => (match Nat.beq t 3 with
      | true => some (vp_in i n, nx, ls, .long (f i.toNatClampNeg) :: st', h)
      | false => none)
    | _ => none)
  | _ => none
def am_aald (nx a b : Nat) (k : Int32) (l : Int64) (ls : List (Option Value)) (st : List Value) (h : List am_C) : Option am_O := match st with
  | .int i :: .ref r :: st' => (match am_get h r with
    | some (.inl (t, (n, .inr (.inr (.inr (.inr f)))))) => (match Nat.ble 6 r && (Nat.beq t 4 || Nat.beq t 5) with
      | true => some (vp_in i n, nx, ls, va_rf (f i.toNatClampNeg) :: st', h)
      | false => none)
    | _ => none)
  | _ => none
def am_iast (nx a b : Nat) (k : Int32) (l : Int64) (ls : List (Option Value)) (st : List Value) (h : List am_C) : Option am_O := match st with
  | .int x :: .int i :: .ref r :: st' => (match am_get h r with
    | some (.inl (t, (n, .inl f))) => (match Nat.beq t 0 && Nat.ble 6 r with
      | true => some (vp_in i n, nx, ls, st', am_set h r (.inl (t, (n, .inl (upd f i.toNatClampNeg x)))))
      | false => none)
    | _ => none)
  | _ => none
def am_bast (nx a b : Nat) (k : Int32) (l : Int64) (ls : List (Option Value)) (st : List Value) (h : List am_C) : Option am_O := match st with
  | .int x :: .int i :: .ref r :: st' => (match am_get h r with
    | some (.inl (t, (n, .inl f))) => (match t with
      | 1 => some (vp_in i n, nx, ls, st', am_set h r (.inl (1, (n, .inl (upd f i.toNatClampNeg (vp_nar .byte x))))))
      | 2 => some (vp_in i n, nx, ls, st', am_set h r (.inl (2, (n, .inl (upd f i.toNatClampNeg (vp_nar .boolean x))))))
      | _ => none)
    | _ => none)
  | _ => none
def am_last (nx a b : Nat) (k : Int32) (l : Int64) (ls : List (Option Value)) (st : List Value) (h : List am_C) : Option am_O := match st with
  | .long x :: .int i :: .ref r :: st' => (match am_get h r with
    | some (.inl (t, (n, .inr (.inl f)))) => (match Nat.beq t 3 with
      | true => some (vp_in i n, nx, ls, st', am_set h r (.inl (t, (n, .inr (.inl (vp_updL f i.toNatClampNeg x))))))
      | false => none)
    | _ => none)
  | _ => none
/-- the kinds of objects that a row of objects takes: rows of Objects take Parts (9), rows of Languages take Languages (2) -/
def am_cast (t ci : Nat) : Bool := (Nat.beq t 4 && Nat.beq ci 9) || (Nat.beq t 5 && Nat.beq ci 2)
def am_aast (nx a b : Nat) (k : Int32) (l : Int64) (ls : List (Option Value)) (st : List Value) (h : List am_C) : Option am_O := match st with
  | .ref v :: .int i :: .ref r :: st' => (match am_get h r with
    | some (.inl (t, (n, .inr (.inr (.inr (.inr f)))))) => (match am_get h v with
      | some (.inr (ci, _)) => (match am_cast t ci && Nat.ble 6 r && Nat.ble 6 v with
        | true => some (vp_in i n, nx, ls, st', am_set h r (.inl (t, (n, .inr (.inr (.inr (.inr (va_up f i.toNatClampNeg (some v)))))))))
        | false => none)
      | _ => none)
    | _ => none)
  | .null :: .int i :: .ref r :: st' => (match am_get h r with
    | some (.inl (t, (n, .inr (.inr (.inr (.inr f)))))) => (match Nat.ble 6 r && (Nat.beq t 4 || Nat.beq t 5) with
      | true => some (vp_in i n, nx, ls, st', am_set h r (.inl (t, (n, .inr (.inr (.inr (.inr (va_up f i.toNatClampNeg none))))))))
      | false => none)
    | _ => none)
  | _ => none
def am_alen (nx a b : Nat) (k : Int32) (l : Int64) (ls : List (Option Value)) (st : List Value) (h : List am_C) : Option am_O := match st with
  | .ref r :: st' => (match am_get h r with
    | some (.inl (t, (n, _))) => (match Nat.ble t 5 with
      | true => some (True, nx, ls, .int (Int32.ofNat n) :: st', h)
      | false => none)
    | _ => none)
  | _ => none
def am_zero (t : Nat) (n : Nat) : am_C := match t with
  | 3 => .inl (3, (n, .inr (.inl fun _ => 0)))
  | t => .inl (t, (n, .inl fun _ => 0))
def am_newa (nx a b : Nat) (k : Int32) (l : Int64) (ls : List (Option Value)) (st : List Value) (h : List am_C) : Option am_O := match st with
  | .int n :: st' => some (¬ n < 0 ∧ n.toNatClampNeg ≤ 67108864, nx, ls, .ref h.length :: st', h ++ [am_zero a n.toNatClampNeg])
  | _ => none
def am_newq (nx a b : Nat) (k : Int32) (l : Int64) (ls : List (Option Value)) (st : List Value) (h : List am_C) : Option am_O := match st with
  | .int n :: st' => some (¬ n < 0 ∧ n.toNatClampNeg ≤ 67108864, nx, ls, .ref h.length :: st', h ++ [.inl (a, (n.toNatClampNeg, .inr (.inr (.inr (.inr fun _ => none)))))])
  | _ => none
def am_getf (nx a b : Nat) (k : Int32) (l : Int64) (ls : List (Option Value)) (st : List Value) (h : List am_C) : Option am_O := match st with
  | .ref r :: st' => (match am_get h r with
    | some (.inr (ci, fs)) => (match Nat.beq ci a with
      | true => (match am_get fs b with
        | some v => some (True, nx, ls, v :: st', h)
        | none => none)
      | false => none)
    | _ => none)
  | _ => none
def am_getc (nx a b : Nat) (k : Int32) (l : Int64) (ls : List (Option Value)) (st : List Value) (h : List am_C) : Option am_O := match st with
  | .ref r :: st' => (match am_get h r with
    | some (.inl (t, _)) => (match Nat.beq t 4 && Nat.ble 6 r && am_room st' with
      | true => some (True, nx, ls, .ref 4 :: st', h)
      | false => none)
    | _ => none)
  | _ => none
def am_chk (nx a b : Nat) (k : Int32) (l : Int64) (ls : List (Option Value)) (st : List Value) (h : List am_C) : Option am_O := match st with
  | .ref r :: st' => (match am_get h r with
    | some (.inr (ci, _)) => (match Nat.beq ci a && Nat.ble 6 r with
      | true => some (True, nx, ls, .ref r :: st', h)
      | false => none)
    | _ => none)
  | _ => none
def am_cpy (nx a b : Nat) (k : Int32) (l : Int64) (ls : List (Option Value)) (st : List Value) (h : List am_C) : Option am_O := match st with
  | .int n :: .int dp :: .ref r1 :: .int sp :: .ref r0 :: st' => (match am_room st', am_get h r0, am_get h r1 with
    | true, some (.inl (3, (n0, .inr (.inl f)))), some (.inl (3, (n1, .inr (.inl g)))) =>
      some (¬ sp < 0 ∧ ¬ dp < 0 ∧ ¬ n < 0 ∧ sp.toNatClampNeg + n.toNatClampNeg ≤ n0 ∧ dp.toNatClampNeg + n.toNatClampNeg ≤ n1, nx, ls, st',
        am_set h r1 (.inl (3, (n1, .inr (.inl (va_cpy f g sp.toNatClampNeg dp.toNatClampNeg n.toNatClampNeg))))))
    | true, some (.inl (4, (n0, .inr (.inr (.inr (.inr f)))))), some (.inl (4, (n1, .inr (.inr (.inr (.inr g)))))) =>
      some (6 ≤ r0 ∧ 6 ≤ r1 ∧ ¬ sp < 0 ∧ ¬ dp < 0 ∧ ¬ n < 0 ∧ sp.toNatClampNeg + n.toNatClampNeg ≤ n0 ∧ dp.toNatClampNeg + n.toNatClampNeg ≤ n1 ∧ (∀ i : Nat, i < n.toNatClampNeg → ∀ y : Nat, f (sp.toNatClampNeg + i) = some y → 6 ≤ y ∧ ∃ fs, am_get h y = some (.inr (9, fs))), nx, ls, st',
        am_set h r1 (.inl (4, (n1, .inr (.inr (.inr (.inr (va_cpy f g sp.toNatClampNeg dp.toNatClampNeg n.toNatClampNeg))))))))
    | _, _, _ => none)
  | _ => none
/-- one step of a method's own: what must hold for it, and what comes; the defaults of fields: am_df -/
def am_s (df : Nat → List Value) (ft : Nat → Nat → FieldType) (i : Jvm.ClassFile.Instr) (nx a b : Nat) (k : Int32) (l : Int64) (ls : List (Option Value)) (st : List Value) (h : List am_C) : Option am_O := match i with
  | .aconst_null => some (True, nx, ls, .null :: st, h)
  | .aload _ => am_lda nx a b k l ls st h
  | .aload_n _ => am_lda nx a b k l ls st h
  | .iload _ => am_ldi nx a b k l ls st h
  | .iload_n _ => am_ldi nx a b k l ls st h
  | .lload _ => am_ldl nx a b k l ls st h
  | .lload_n _ => am_ldl nx a b k l ls st h
  | .astore _ => am_sta nx a b k l ls st h
  | .astore_n _ => am_sta nx a b k l ls st h
  | .istore _ => am_sti nx a b k l ls st h
  | .istore_n _ => am_sti nx a b k l ls st h
  | .lstore _ => am_stl nx a b k l ls st h
  | .lstore_n _ => am_stl nx a b k l ls st h
  | .iconst _ => am_cst nx a b k l ls st h
  | .bipush _ => am_cst nx a b k l ls st h
  | .sipush _ => am_cst nx a b k l ls st h
  | .lconst _ => some (True, nx, ls, .long l :: st, h)
  | .ldc2_w _ => some (True, nx, ls, .long l :: st, h)
  | .ldc _ => (match b with
    | 0 => some (True, nx, ls, .int k :: st, h)
    | _ => some (True, nx, ls, .ref a :: st, h))
  | .getstatic _ => some (True, nx, ls, .ref a :: st, h)
  | .iinc _ _ => (match am_get ls a with
    | some (some (.int x)) => some (True, nx, am_st1 ls a (.int (x + k)), st, h)
    | _ => none)
  | .iadd => (match st with
    | .int y :: .int x :: r => some (True, nx, ls, .int (x + y) :: r, h)
    | _ => none)
  | .isub => (match st with
    | .int y :: .int x :: r => some (True, nx, ls, .int (x - y) :: r, h)
    | _ => none)
  | .imul => (match st with
    | .int y :: .int x :: r => some (True, nx, ls, .int (x * y) :: r, h)
    | _ => none)
  | .iand => (match st with
    | .int y :: .int x :: r => some (True, nx, ls, .int (x &&& y) :: r, h)
    | _ => none)
  | .irem => (match st with
    | .int y :: .int x :: r => some (¬ y = 0, nx, ls, .int (x - x / y * y) :: r, h)
    | _ => none)
  | .ishr => (match st with
    | .int y :: .int x :: r => some (True, nx, ls, .int (x >>> (y &&& 31)) :: r, h)
    | _ => none)
  | .ladd => (match st with
    | .long y :: .long x :: r => some (True, nx, ls, .long (x + y) :: r, h)
    | _ => none)
  | .lsub => (match st with
    | .long y :: .long x :: r => some (True, nx, ls, .long (x - y) :: r, h)
    | _ => none)
  | .lmul => (match st with
    | .long y :: .long x :: r => some (True, nx, ls, .long (x * y) :: r, h)
    | _ => none)
  | .land => (match st with
    | .long y :: .long x :: r => some (True, nx, ls, .long (x &&& y) :: r, h)
    | _ => none)
  | .lor => (match st with
    | .long y :: .long x :: r => some (True, nx, ls, .long (x ||| y) :: r, h)
    | _ => none)
  | .ldiv => (match st with
    | .long y :: .long x :: r => some (¬ y = 0, nx, ls, .long (x / y) :: r, h)
    | _ => none)
  | .lrem => (match st with
    | .long y :: .long x :: r => some (¬ y = 0, nx, ls, .long (x - x / y * y) :: r, h)
    | _ => none)
  | .lcmp => (match st with
    | .long y :: .long x :: r => some (True, nx, ls, .int (lg_cmp x y) :: r, h)
    | _ => none)
  | .lshl => (match st with
    | .int y :: .long x :: r => some (True, nx, ls, .long (x <<< (y.toInt64 &&& 63)) :: r, h)
    | _ => none)
  | .lshr => (match st with
    | .int y :: .long x :: r => some (True, nx, ls, .long (x >>> (y.toInt64 &&& 63)) :: r, h)
    | _ => none)
  | .lushr => (match st with
    | .int y :: .long x :: r => some (True, nx, ls, .long (x.toUInt64 >>> (y.toInt64.toUInt64 &&& Int64.toUInt64 63)).toInt64 :: r, h)
    | _ => none)
  | .i2l => (match st with
    | .int x :: r => some (True, nx, ls, .long x.toInt64 :: r, h)
    | _ => none)
  | .l2i => (match st with
    | .long x :: r => some (True, nx, ls, .int x.toInt32 :: r, h)
    | _ => none)
  | .i2b => (match st with
    | .int x :: r => some (True, nx, ls, .int x.toInt8.toInt32 :: r, h)
    | _ => none)
  | .dup => (match st with
    | .int x :: r => some (True, nx, ls, .int x :: .int x :: r, h)
    | .ref x :: r => some (True, nx, ls, .ref x :: .ref x :: r, h)
    | _ => none)
  | .pop => (match st with
    | .int _ :: r => some (True, nx, ls, r, h)
    | .ref _ :: r => some (True, nx, ls, r, h)
    | _ => none)
  | .dup_x1 => (match st with
    | .ref x :: .ref y :: r => some (True, nx, ls, .ref x :: .ref y :: .ref x :: r, h)
    | .int x :: .ref y :: r => some (True, nx, ls, .int x :: .ref y :: .int x :: r, h)
    | _ => none)
  | .dup2 => (match st with
    | .int x :: .ref y :: r => some (True, nx, ls, .int x :: .ref y :: .int x :: .ref y :: r, h)
    | .long x :: r => some (True, nx, ls, .long x :: .long x :: r, h)
    | _ => none)
  | .goto _ => some (True, a, ls, st, h)
  | .if_icmp c _ => am_i2 c nx a b k l ls st h
  | .ifCond c _ => am_i1 c nx a b k l ls st h
  | .if_acmp c _ => am_acmp c nx a b k l ls st h
  | .ifnull _ => (match st with
    | .null :: r => some (True, a, ls, r, h)
    | .ref _ :: r => some (True, nx, ls, r, h)
    | _ => none)
  | .ifnonnull _ => (match st with
    | .null :: r => some (True, nx, ls, r, h)
    | .ref _ :: r => some (True, a, ls, r, h)
    | _ => none)
  | .tableswitch _ lo hi offs => (match st with
    | .int x :: r => some (True, if x.toInt < lo ∨ hi < x.toInt then a else ((b : Int) + offs.getD (x.toInt - lo).toNat 0).toNat, ls, r, h)
    | _ => none)
  | .iaload => am_ald 0 0 nx a b k l ls st h
  | .baload => am_ald 1 2 nx a b k l ls st h
  | .laload => am_lald nx a b k l ls st h
  | .aaload => am_aald nx a b k l ls st h
  | .iastore => am_iast nx a b k l ls st h
  | .bastore => am_bast nx a b k l ls st h
  | .lastore => am_last nx a b k l ls st h
  | .aastore => am_aast nx a b k l ls st h
  | .arraylength => am_alen nx a b k l ls st h
  | .newarray _ => am_newa nx a b k l ls st h
  | .anewarray _ => am_newq nx a b k l ls st h
  | .new _ => some (True, nx, ls, .ref h.length :: st, h ++ [.inr (a, df a)])
  | .getfield _ => am_getf nx a b k l ls st h
  | .putfield _ => (match st with
    | v :: .ref r :: st' => (match am_get h r with
      | some (.inr (ci, fs)) => (match Nat.beq ci a with
        | true => (match am_get fs b with
          | some _ => some (am_fg (ft a b) v, nx, ls, st', am_set h r (.inr (a, am_set fs b v)))
          | none => none)
        | false => none)
      | _ => none)
    | _ => none)
  | .checkcast _ => am_chk nx a b k l ls st h
  | .invokevirtual _ => am_getc nx a b k l ls st h
  | .invokespecial _ => (match st with
    | .ref _ :: r => (match am_room r with
      | true => some (True, nx, ls, r, h)
      | false => none)
    | _ => none)
  | .invokestatic _ => (match b with
    | 6 => am_cpy nx a b k l ls st h
    | 7 => (match st with
      | .int y :: .int x :: r => (match am_room r with
        | true => some (True, nx, ls, .int (if x < y then y else x) :: r, h)
        | false => none)
      | _ => none)
    | 8 => (match st with
      | .int y :: .int x :: r => (match am_room r with
        | true => some (True, nx, ls, .int (if y < x then y else x) :: r, h)
        | false => none)
      | _ => none)
    | _ => none)
  | _ => none
/-- a call: whom, with what, what stays on the stack; kc: the callee's class -/
def am_call (kc ml : Nat → Nat) (a b c : Nat) (st : List Value) (h : List am_C) : Option (Nat × List Value × List Value) := match am_tk c st [] with
  | some (as, st') => (match b with
    | 3 => (match am_room st' && am_fits as (ml a) with
      | true => some (a, as, st')
      | false => none)
    | 0 => (match st' with
      | .ref r :: st2 => (match am_get h r with
        | some (.inr (ci, _)) => (match Nat.beq ci (kc a) && Nat.ble 6 r && am_room st2 && am_fits (.ref r :: as) (ml a) with
          | true => some (a, .ref r :: as, st2)
          | false => none)
        | _ => none)
      | _ => none)
    | _ => (match st' with
      | .ref r :: st2 => (match am_room st2 && am_fits (.ref r :: as) (ml a) with
        | true => some (a, .ref r :: as, st2)
        | false => none)
      | _ => none))
  | none => none
/-- an end: am_a is 1 where a boolean is answered -/
def am_ret (i : Jvm.ClassFile.Instr) (a : Nat) (st : List Value) : Option (Prop × Option Value) := match i with
  | .return_ => (match st with
    | [] => some (True, none)
    | _ => none)
  | .ireturn => (match st with
    | [.int v] => (match a with
      | 0 => some (True, some (.int v))
      | _ => some (v = 0 ∨ v = 1, some (.int v)))
    | _ => none)
  | .lreturn => (match st with
    | [.long v] => some (True, some (.long v))
    | _ => none)
  | .areturn => (match st with
    | [.ref v] => some (True, some (.ref v))
    | [.null] => some (True, some .null)
    | _ => none)
  | _ => none
