/-! A small machine over numbers, whose runs the real one follows (part 03). Values are the kit's; '.ref i' is the cell number i of the heap here, '.float k' the String constant number k (k < 99) or the law's script (k = 99): no float occurs in the program. -/
abbrev gm_C : Type := (Nat × vp_A) ⊕ (Nat × List Value)
abbrev gm_H : Type := Nat × (Nat → gm_C)
abbrev gm_L : Type := List (Option Value)
abbrev gm_S : Type := Nat × gm_L × List Value × gm_H
abbrev gm_I : Type := Instr × Nat × Nat
abbrev gm_R : Type := Option Value × gm_H × Nat × Nat
abbrev gm_O : Type := (gm_S × Nat × Nat) ⊕ (Option Value × gm_H)
/-- of a method: places of its locals, what it returns, how many values a call takes, kind (0 static, 1 virtual, 2 constructor, 3 of a String constant, 4 Object's constructor), the receiver's class number -/
abbrev gm_D : Type := Nat × Option FieldType × Nat × Nat × Nat
/-- code, methods, field types, a class' fields when new, may cells be made, the script -/
abbrev gm_T : Type := (Nat → Nat → Option gm_I) × (Nat → gm_D) × (Nat → Nat → FieldType) × (Nat → List Value) × Bool × Nat × (Nat → Int32)
abbrev gm_code (T : gm_T) : Nat → Nat → Option gm_I := T.1
abbrev gm_dat (T : gm_T) : Nat → gm_D := T.2.1
abbrev gm_fty (T : gm_T) : Nat → Nat → FieldType := T.2.2.1
abbrev gm_dfl (T : gm_T) : Nat → List Value := T.2.2.2.1
abbrev gm_al (T : gm_T) : Bool := T.2.2.2.2.1
abbrev gm_sl (T : gm_T) : Nat := T.2.2.2.2.2.1
abbrev gm_sx (T : gm_T) : Nat → Int32 := T.2.2.2.2.2.2
def gm_get (h : gm_H) (a : Nat) : Option gm_C := if a < h.1 then some (h.2 a) else none
def gm_put (h : gm_H) (a : Nat) (c : gm_C) : gm_H := (h.1, va_up h.2 a c)
def gm_app (h : gm_H) (c : gm_C) : gm_H := (h.1 + 1, va_up h.2 h.1 c)
def gm_isI : Value → Bool
  | .int _ => true
  | _ => false
def gm_isL : Value → Bool
  | .long _ => true
  | _ => false
def gm_isR : Value → Bool
  | .ref _ => true
  | .float _ => true
  | _ => false
def gm_clr (L : gm_L) : Nat → gm_L
  | 0 => L
  | k + 1 => match L[k]? with
    | some (some w) => if w.category = 2 then L.set k none else L
    | _ => L
def gm_set1 (L : gm_L) (i : Nat) (v : Value) : gm_L := (gm_clr L i).set i (some v)
def gm_set2 (L : gm_L) (i : Nat) (v : Value) : gm_L := ((gm_clr L i).set i (some v)).set (i + 1) none
def gm_ent1 : List Value → gm_L
  | [] => []
  | v :: vs => if v.category = 2 then some v :: none :: gm_ent1 vs else some v :: gm_ent1 vs
def gm_ent (n : Nat) (vs : List Value) : gm_L := gm_ent1 vs ++ List.replicate (n - (gm_ent1 vs).length) none
def gm_nx (pc : Nat) (L : gm_L) (S : List Value) (h : gm_H) : Option gm_O := some (.inl ((pc, L, S, h), 0, 0))
def gm_ld (q : Value → Bool) (pc k : Nat) (L : gm_L) (S : List Value) (h : gm_H) : Option gm_O := match L[k]? with
  | some (some v) => if q v = true then gm_nx pc L (v :: S) h else none
  | _ => none
def gm_st1 (q : Value → Bool) (pc i : Nat) (L : gm_L) (S : List Value) (h : gm_H) : Option gm_O := match S with
  | v :: r => if q v = true then (if i < L.length then gm_nx pc (gm_set1 L i v) r h else none) else none
  | [] => none
def gm_st2 (pc i : Nat) (L : gm_L) (S : List Value) (h : gm_H) : Option gm_O := match S with
  | .long x :: r => if i + 1 < L.length then gm_nx pc (gm_set2 L i (.long x)) r h else none
  | _ => none
def gm_ii (f : Int32 → Int32 → Int32) (pc : Nat) (L : gm_L) (S : List Value) (h : gm_H) : Option gm_O := match S with
  | .int y :: .int x :: r => gm_nx pc L (.int (f x y) :: r) h
  | _ => none
def gm_i1 (f : Int32 → Int32) (pc : Nat) (L : gm_L) (S : List Value) (h : gm_H) : Option gm_O := match S with
  | .int x :: r => gm_nx pc L (.int (f x) :: r) h
  | _ => none
def gm_ll (f : Int64 → Int64 → Int64) (pc : Nat) (L : gm_L) (S : List Value) (h : gm_H) : Option gm_O := match S with
  | .long y :: .long x :: r => gm_nx pc L (.long (f x y) :: r) h
  | _ => none
def gm_lI (f : Int64 → Int32 → Int64) (pc : Nat) (L : gm_L) (S : List Value) (h : gm_H) : Option gm_O := match S with
  | .int y :: .long x :: r => gm_nx pc L (.long (f x y) :: r) h
  | _ => none
def gm_br2 (c : Jvm.ClassFile.Cond) (pc tgt : Nat) (L : gm_L) (S : List Value) (h : gm_H) : Option gm_O := match S with
  | .int y :: .int x :: r => match c with
    | .eq => if x = y then gm_nx tgt L r h else gm_nx (pc + 3) L r h
    | .ne => if x = y then gm_nx (pc + 3) L r h else gm_nx tgt L r h
    | .lt => if x < y then gm_nx tgt L r h else gm_nx (pc + 3) L r h
    | .ge => if y ≤ x then gm_nx tgt L r h else gm_nx (pc + 3) L r h
    | .gt => if y < x then gm_nx tgt L r h else gm_nx (pc + 3) L r h
    | .le => if x ≤ y then gm_nx tgt L r h else gm_nx (pc + 3) L r h
  | _ => none
def gm_br1 (c : Jvm.ClassFile.Cond) (pc tgt : Nat) (L : gm_L) (S : List Value) (h : gm_H) : Option gm_O := match S with
  | .int x :: r => match c with
    | .eq => if x = 0 then gm_nx tgt L r h else gm_nx (pc + 3) L r h
    | .ne => if x = 0 then gm_nx (pc + 3) L r h else gm_nx tgt L r h
    | .lt => if x < 0 then gm_nx tgt L r h else gm_nx (pc + 3) L r h
    | .ge => if 0 ≤ x then gm_nx tgt L r h else gm_nx (pc + 3) L r h
    | .gt => if 0 < x then gm_nx tgt L r h else gm_nx (pc + 3) L r h
    | .le => if x ≤ 0 then gm_nx tgt L r h else gm_nx (pc + 3) L r h
  | _ => none
/-- an int out of an array of kind t -/
def gm_ald (T : gm_T) (t pc : Nat) (L : gm_L) (S : List Value) (h : gm_H) : Option gm_O := match S with
  | .int k :: .ref a :: r => match gm_get h a with
    | some (.inl (t', n, .inl f)) => if t' = t then (if k < 0 ∨ n ≤ k.toNatClampNeg then none else gm_nx pc L (.int (f k.toNatClampNeg) :: r) h) else none
    | _ => none
  | .int k :: .float u :: r => if u = 99 ∧ t = 0 then (if k < 0 ∨ gm_sl T ≤ k.toNatClampNeg then none else gm_nx pc L (.int (gm_sx T k.toNatClampNeg) :: r) h) else none
  | _ => none
def gm_lald (pc : Nat) (L : gm_L) (S : List Value) (h : gm_H) : Option gm_O := match S with
  | .int k :: .ref a :: r => match gm_get h a with
    | some (.inl (t', n, .inr (.inl f))) => if t' = 2 then (if k < 0 ∨ n ≤ k.toNatClampNeg then none else gm_nx pc L (.long (f k.toNatClampNeg) :: r) h) else none
    | _ => none
  | _ => none
def gm_aald (pc : Nat) (L : gm_L) (S : List Value) (h : gm_H) : Option gm_O := match S with
  | .int k :: .ref a :: r => match gm_get h a with
    | some (.inl (t', n, .inr (.inr (.inr (.inr f))))) => if t' = 5 then (if k < 0 ∨ n ≤ k.toNatClampNeg then none else match f k.toNatClampNeg with
      | some v => gm_nx pc L (.ref v :: r) h
      | none => none) else none
    | _ => none
  | _ => none
def gm_ast (t : Nat) (ty : FieldType) (pc : Nat) (L : gm_L) (S : List Value) (h : gm_H) : Option gm_O := match S with
  | .int x :: .int k :: .ref a :: r => match gm_get h a with
    | some (.inl (t', n, .inl f)) => if t' = t then (if k < 0 ∨ n ≤ k.toNatClampNeg then none else gm_nx pc L r (gm_put h a (.inl (t', n, .inl (upd f k.toNatClampNeg (vp_nar ty x)))))) else none
    | _ => none
  | _ => none
def gm_last (pc : Nat) (L : gm_L) (S : List Value) (h : gm_H) : Option gm_O := match S with
  | .long x :: .int k :: .ref a :: r => match gm_get h a with
    | some (.inl (t', n, .inr (.inl f))) => if t' = 2 then (if k < 0 ∨ n ≤ k.toNatClampNeg then none else gm_nx pc L r (gm_put h a (.inl (t', n, .inr (.inl (vp_updL f k.toNatClampNeg x)))))) else none
    | _ => none
  | _ => none
def gm_aast (pc : Nat) (L : gm_L) (S : List Value) (h : gm_H) : Option gm_O := match S with
  | .ref v :: .int k :: .ref a :: r => match gm_get h a, gm_get h v with
    | some (.inl (t', n, .inr (.inr (.inr (.inr f))))), some (.inr (ci, _)) => if t' = 5 ∧ ci = 6 then (if k < 0 ∨ n ≤ k.toNatClampNeg then none else gm_nx pc L r (gm_put h a (.inl (t', n, .inr (.inr (.inr (.inr (va_up f k.toNatClampNeg (some v))))))))) else none
    | _, _ => none
  | _ => none
/-- may this value be held by a place of this type -/
def gm_fok : FieldType → Value → Bool
  | .int, .int _ => true
  | .long, .long _ => true
  | .object _, .ref _ => true
  | .array _, .ref _ => true
  | .boolean, .int x => decide (x = 0) || decide (x = 1)
  | _, _ => false
def gm_gf (pc ci k : Nat) (L : gm_L) (S : List Value) (h : gm_H) : Option gm_O := match S with
  | .ref a :: r => match gm_get h a with
    | some (.inr (ci', fs)) => if ci' = ci then match fs[k]? with
      | some v => gm_nx pc L (v :: r) h
      | none => none
      else none
    | _ => none
  | _ => none
def gm_pf (T : gm_T) (pc ci k : Nat) (L : gm_L) (S : List Value) (h : gm_H) : Option gm_O := match S with
  | v :: .ref a :: r => match gm_get h a with
    | some (.inr (ci', fs)) => if ci' = ci ∧ k < fs.length ∧ gm_fok (gm_fty T ci k) v = true then gm_nx pc L r (gm_put h a (.inr (ci', fs.set k v))) else none
    | _ => none
  | _ => none
def gm_rcv (T : gm_T) (j : Nat) (h : gm_H) (As : List Value) : Bool := match (gm_dat T j).2.2.2.1 with
  | 0 => true
  | 1 => match As with
    | .ref a :: _ => match gm_get h a with
      | some (.inr (ci, _)) => Nat.beq ci (gm_dat T j).2.2.2.2
      | _ => false
    | _ => false
  | 2 => match As with
    | .ref _ :: _ => true
    | _ => false
  | 3 => match As with
    | .float k :: _ => decide (k < 99)
    | _ => false
  | _ => false
def gm_cat (S : List Value) : Nat := (S.map fun v => v.category).sum
def gm_cal (T : gm_T) (call : Nat → List Value → gm_H → Option gm_R) (j pc : Nat) (L : gm_L) (S : List Value) (h : gm_H) : Option gm_O :=
  if S.length < (gm_dat T j).2.2.1 then none
  else if 8 < gm_cat (S.drop (gm_dat T j).2.2.1) then none
  else if gm_rcv T j h (S.take (gm_dat T j).2.2.1).reverse = true then match call j (S.take (gm_dat T j).2.2.1).reverse h with
    | some (v, h', dc, ds) => some (.inl ((pc, L, v.toList ++ S.drop (gm_dat T j).2.2.1, h'), dc, ds))
    | none => none
  else none
/-- max, min, abs of ints, max of longs -/
def gm_mx (pc : Nat) (L : gm_L) (S : List Value) (h : gm_H) : Option gm_O := match S with
  | .int y :: .int x :: r => if gm_cat r ≤ 8 then gm_nx pc L (.int (if x < y then y else x) :: r) h else none
  | _ => none
def gm_mn (pc : Nat) (L : gm_L) (S : List Value) (h : gm_H) : Option gm_O := match S with
  | .int y :: .int x :: r => if gm_cat r ≤ 8 then gm_nx pc L (.int (if y < x then y else x) :: r) h else none
  | _ => none
def gm_ab (pc : Nat) (L : gm_L) (S : List Value) (h : gm_H) : Option gm_O := match S with
  | .int x :: r => if gm_cat r ≤ 8 then gm_nx pc L (.int (if 0 ≤ x then x else 0 - x) :: r) h else none
  | _ => none
def gm_mxl (pc : Nat) (L : gm_L) (S : List Value) (h : gm_H) : Option gm_O := match S with
  | .long y :: .long x :: r => if gm_cat r ≤ 8 then gm_nx pc L (.long (if y < x then x else y) :: r) h else none
  | _ => none
/-- a place of a switch -/
def gm_sw (pc : Nat) (off : Int) (L : gm_L) (S : List Value) (h : gm_H) : Option gm_O := match (pc : Int) + off with
  | .ofNat t => gm_nx t L S h
  | _ => none
def gm_kind : ArrayType → Option (Nat × FieldType × vp_A)
  | .int => some (0, .int, 0, .inl fun _ => 0)
  | .char => some (1, .char, 0, .inl fun _ => 0)
  | .long => some (2, .long, 0, .inr (.inl fun _ => 0))
  | .byte => some (3, .byte, 0, .inl fun _ => 0)
  | .boolean => some (4, .boolean, 0, .inl fun _ => 0)
  | _ => none
def gm_rok : Option FieldType → Int32 → Bool
  | some .int, _ => true
  | some .boolean, v => decide (v = 0) || decide (v = 1)
  | some .char, v => decide (vp_nar .char v = v)
  | _, _ => false
/-- one instruction -/
def gm_stp (T : gm_T) (call : Nat → List Value → gm_H → Option gm_R) (j : Nat) (i : gm_I) (pc : Nat) (L : gm_L) (S : List Value) (h : gm_H) : Option gm_O := match i.1 with
  | .iconst n => gm_nx (pc + 1) L (.int (Int32.ofInt n) :: S) h
  | .bipush n => gm_nx (pc + 2) L (.int (Int8.ofInt n).toInt32 :: S) h
  | .sipush n => gm_nx (pc + 3) L (.int (Int16.ofInt n).toInt32 :: S) h
  | .lconst n => gm_nx (pc + 1) L (.long (Int64.ofNat n) :: S) h
  | .ldc _ => if i.2.2 = 0 then gm_nx (pc + 2) L (.int (Int32.ofNat i.2.1) :: S) h else if i.2.2 = 2 then gm_nx (pc + 2) L (.float (UInt32.ofNat i.2.1) :: S) h else none
  | .ldc_w _ => gm_nx (pc + 3) L (.int (Int32.ofNat i.2.1) :: S) h
  | .ldc2_w _ => gm_nx (pc + 3) L (.long (Int64.ofNat i.2.1) :: S) h
  | .iload k => gm_ld gm_isI (pc + 2) k L S h
  | .iload_n k => gm_ld gm_isI (pc + 1) k L S h
  | .lload k => gm_ld gm_isL (pc + 2) k L S h
  | .lload_n k => gm_ld gm_isL (pc + 1) k L S h
  | .aload k => gm_ld gm_isR (pc + 2) k L S h
  | .aload_n k => gm_ld gm_isR (pc + 1) k L S h
  | .istore k => gm_st1 gm_isI (pc + 2) k L S h
  | .istore_n k => gm_st1 gm_isI (pc + 1) k L S h
  | .astore k => gm_st1 gm_isR (pc + 2) k L S h
  | .astore_n k => gm_st1 gm_isR (pc + 1) k L S h
  | .lstore k => gm_st2 (pc + 2) k L S h
  | .lstore_n k => gm_st2 (pc + 1) k L S h
  | .iinc k n => match L[k]? with
    | some (some (.int x)) => gm_nx (pc + 3) (gm_set1 L k (.int (x + Int32.ofInt n))) S h
    | _ => none
  | .iadd => gm_ii (fun x y => x + y) (pc + 1) L S h
  | .isub => gm_ii (fun x y => x - y) (pc + 1) L S h
  | .imul => gm_ii (fun x y => x * y) (pc + 1) L S h
  | .iand => gm_ii (fun x y => x &&& y) (pc + 1) L S h
  | .ior => gm_ii (fun x y => x ||| y) (pc + 1) L S h
  | .ixor => gm_ii (fun x y => x ^^^ y) (pc + 1) L S h
  | .ishl => gm_ii (fun x y => x <<< (y &&& 31)) (pc + 1) L S h
  | .ishr => gm_ii (fun x y => x >>> (y &&& 31)) (pc + 1) L S h
  | .iushr => gm_ii (fun x y => (x.toUInt32 >>> (y.toUInt32 &&& Int32.toUInt32 31)).toInt32) (pc + 1) L S h
  | .idiv => match S with
    | .int y :: .int x :: r => if y = 0 then none else gm_nx (pc + 1) L (.int (x / y) :: r) h
    | _ => none
  | .irem => match S with
    | .int y :: .int x :: r => if y = 0 then none else gm_nx (pc + 1) L (.int (x - x / y * y) :: r) h
    | _ => none
  | .ineg => gm_i1 (fun x => -x) (pc + 1) L S h
  | .i2b => gm_i1 (fun x => x.toInt8.toInt32) (pc + 1) L S h
  | .i2s => gm_i1 (fun x => x.toInt16.toInt32) (pc + 1) L S h
  | .i2c => gm_i1 (fun x => (x.toUInt32 % 65536).toInt32) (pc + 1) L S h
  | .i2l => match S with
    | .int x :: r => gm_nx (pc + 1) L (.long x.toInt64 :: r) h
    | _ => none
  | .l2i => match S with
    | .long x :: r => gm_nx (pc + 1) L (.int x.toInt32 :: r) h
    | _ => none
  | .ladd => gm_ll (fun x y => x + y) (pc + 1) L S h
  | .lsub => gm_ll (fun x y => x - y) (pc + 1) L S h
  | .lmul => gm_ll (fun x y => x * y) (pc + 1) L S h
  | .land => gm_ll (fun x y => x &&& y) (pc + 1) L S h
  | .lxor => gm_ll (fun x y => x ^^^ y) (pc + 1) L S h
  | .ldiv => match S with
    | .long y :: .long x :: r => if y = 0 then none else gm_nx (pc + 1) L (.long (x / y) :: r) h
    | _ => none
  | .lrem => match S with
    | .long y :: .long x :: r => if y = 0 then none else gm_nx (pc + 1) L (.long (x - x / y * y) :: r) h
    | _ => none
  | .lshl => gm_lI (fun x y => x <<< (y.toInt64 &&& 63)) (pc + 1) L S h
  | .lushr => gm_lI (fun x y => (x.toUInt64 >>> (y.toInt64.toUInt64 &&& Int64.toUInt64 63)).toInt64) (pc + 1) L S h
  | .lcmp => match S with
    | .long y :: .long x :: r => gm_nx (pc + 1) L (.int (lg_cmp x y) :: r) h
    | _ => none
  | .dup => match S with
    | v :: r => if v.category = 1 then gm_nx (pc + 1) L (v :: v :: r) h else none
    | _ => none
  | .dup_x1 => match S with
    | v :: w :: r => if v.category = 1 ∧ w.category = 1 then gm_nx (pc + 1) L (v :: w :: v :: r) h else none
    | _ => none
  | .dup2 => match S with
    | v :: w :: r => if v.category = 1 ∧ w.category = 1 then gm_nx (pc + 1) L (v :: w :: v :: w :: r) h else none
    | _ => none
  | .pop => match S with
    | v :: r => if v.category = 1 then gm_nx (pc + 1) L r h else none
    | _ => none
  | .goto _ => gm_nx i.2.1 L S h
  | .if_icmp c _ => gm_br2 c pc i.2.1 L S h
  | .ifCond c _ => gm_br1 c pc i.2.1 L S h
  | .tableswitch d lo hi offs => match S with
    | .int x :: r => if x.toInt < lo ∨ hi < x.toInt then gm_sw pc d L r h else match offs[(x.toInt - lo).toNat]? with
      | some o => gm_sw pc o L r h
      | none => none
    | _ => none
  | .lookupswitch d ps => match S with
    | .int x :: r => gm_sw pc (Op.lookupswitch.offset ps.toList d x.toInt) L r h
    | _ => none
  | .arraylength => match S with
    | .ref a :: r => match gm_get h a with
      | some (.inl (t, n, _)) => if t < 6 then gm_nx (pc + 1) L (.int (Int32.ofNat n) :: r) h else none
      | _ => none
    | .float u :: r => if u = 99 then gm_nx (pc + 1) L (.int (Int32.ofNat (gm_sl T)) :: r) h else none
    | _ => none
  | .iaload => gm_ald T 0 (pc + 1) L S h
  | .caload => gm_ald T 1 (pc + 1) L S h
  | .laload => gm_lald (pc + 1) L S h
  | .baload => if i.2.1 = 3 ∨ i.2.1 = 4 then gm_ald T i.2.1 (pc + 1) L S h else none
  | .aaload => gm_aald (pc + 1) L S h
  | .iastore => gm_ast 0 .int (pc + 1) L S h
  | .castore => gm_ast 1 .char (pc + 1) L S h
  | .lastore => gm_last (pc + 1) L S h
  | .bastore => if i.2.1 = 3 then gm_ast 3 .byte (pc + 1) L S h else if i.2.1 = 4 then gm_ast 4 .boolean (pc + 1) L S h else none
  | .aastore => gm_aast (pc + 1) L S h
  | .getfield _ => gm_gf (pc + 3) i.2.1 i.2.2 L S h
  | .putfield _ => gm_pf T (pc + 3) i.2.1 i.2.2 L S h
  | .new _ => if gm_al T = true then some (.inl ((pc + 3, L, .ref h.1 :: S, gm_app h (.inr (i.2.1, gm_dfl T i.2.1))), 1, (gm_dfl T i.2.1).length)) else none
  | .newarray at_ => if gm_al T = true then match S, gm_kind at_ with
    | .int n :: r, some (t, _, _, z) => if n < 0 ∨ 10000 < n.toNatClampNeg then none else some (.inl ((pc + 2, L, .ref h.1 :: r, gm_app h (.inl (t, n.toNatClampNeg, z))), 1, n.toNatClampNeg))
    | _, _ => none
    else none
  | .anewarray _ => if gm_al T = true then match S with
    | .int n :: r => if n < 0 ∨ 10000 < n.toNatClampNeg then none else some (.inl ((pc + 3, L, .ref h.1 :: r, gm_app h (.inl (5, n.toNatClampNeg, .inr (.inr (.inr (.inr fun _ => none)))))), 1, n.toNatClampNeg))
    | _ => none
    else none
  | .invokestatic _ => if (gm_dat T i.2.1).2.2.2.1 = 0 then gm_cal T call i.2.1 (pc + 3) L S h else if (gm_dat T i.2.1).2.2.2.1 = 5 then gm_mx (pc + 3) L S h else if (gm_dat T i.2.1).2.2.2.1 = 6 then gm_mn (pc + 3) L S h else if (gm_dat T i.2.1).2.2.2.1 = 7 then gm_ab (pc + 3) L S h else if (gm_dat T i.2.1).2.2.2.1 = 8 then gm_mxl (pc + 3) L S h else none
  | .invokevirtual _ => if (gm_dat T i.2.1).2.2.2.1 = 1 ∨ (gm_dat T i.2.1).2.2.2.1 = 3 then gm_cal T call i.2.1 (pc + 3) L S h else none
  | .invokespecial _ => if (gm_dat T i.2.1).2.2.2.1 = 4 then match S with
    | .ref _ :: r => if gm_cat r ≤ 8 then gm_nx (pc + 3) L r h else none
    | _ => none
    else if (gm_dat T i.2.1).2.2.2.1 = 2 then gm_cal T call i.2.1 (pc + 3) L S h else none
  | .ireturn => match S with
    | [.int v] => if gm_rok (gm_dat T j).2.1 v = true then some (.inr (some (.int v), h)) else none
    | _ => none
  | .lreturn => match S with
    | [.long v] => if (gm_dat T j).2.1 = some .long then some (.inr (some (.long v), h)) else none
    | _ => none
  | .areturn => match S with
    | [.ref a] => match (gm_dat T j).2.1 with
      | some (.object _) => some (.inr (some (.ref a), h))
      | _ => none
    | _ => none
  | .return_ => match S with
    | [] => if (gm_dat T j).2.1 = none then some (.inr (none, h)) else none
    | _ => none
  | _ => none
def gm_run (T : gm_T) (call : Nat → List Value → gm_H → Option gm_R) (j : Nat) : Nat → gm_S → Nat → Nat → Option gm_R
  | 0, _, _, _ => none
  | n + 1, s, kc, ks => match gm_code T j s.1 with
    | none => none
    | some i => match gm_stp T call j i s.1 s.2.1 s.2.2.1 s.2.2.2 with
      | none => none
      | some (.inr (v, h)) => some (v, h, kc, ks)
      | some (.inl (s', dc, ds)) => gm_run T call j n s' (kc + dc) (ks + ds)
/-- method j, at most d frames deep, at most n steps each; 'prim' answers for what isn't run here -/
def gm_ev (T : gm_T) (prim : Nat → List Value → gm_H → Option gm_R) (n : Nat) : Nat → Nat → List Value → gm_H → Option gm_R
  | 0, _, _, _ => none
  | d + 1, j, As, h => if j < 1000 then (if (gm_ent1 As).length ≤ (gm_dat T j).1 then gm_run T (gm_ev T prim n d) j n (0, gm_ent (gm_dat T j).1 As, [], h) 0 0 else none) else if 16 ≤ d then prim j As h else none
