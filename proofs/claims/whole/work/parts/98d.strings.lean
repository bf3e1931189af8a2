/-! The Strings' own methods, over the real machine: length, charAt, indexOf at the two constants. -/
def zB : List (List Int32) := [[98, 108, 104, 109, 101, 102, 100, 119], [40, 98, 43, 49, 41, 42, 51, 43, 104, 42, 52, 43, 40, 109, 45, 101, 41, 47, 50]]
def zL : List Nat := [8, 19]
def zS (A : Nat → Prop) (aK adV : Nat → Nat) (U : State) : Prop :=
  vk_S 2 zL zB aK adV A U U.heap ∧ va_Z "java/lang/String" "COMPACT_STRINGS" "Z" (.int 1) A U U.heap ∧ ∃ w : Value, (w = .null ∨ ∃ t : Nat, w = .ref t) ∧ va_Z "jdk/internal/util/Preconditions" "SIOOBE_FORMATTER" "Ljava/util/function/BiFunction;" w A U U.heap
theorem zS.move {A : Nat → Prop} {aK adV : Nat → Nat} {s U : State} (h : zS A aK adV s) (hv : s.vm.Alike U.vm) (hq : ∀ a : Nat, a < s.heap.size → ¬ A a → U.heap[a]? = s.heap[a]?) : zS A aK adV U := by
  obtain ⟨h1, h2, w, h3, h4⟩ := h
  exact ⟨vk_S.moved hv (h1.kept hq), va_Z.moved hv (h2.kept hq), w, h3, va_Z.moved hv (h4.kept hq)⟩
def zQ (v : Option Value) : Array Value → State → Outcome → State → Prop := fun _ st oc t => oc = .returned v ∧ t.heap = st.heap
def zP (A : Nat → Prop) (aK adV : Nat → Nat) (As : List Value) : Array Value → State → Prop := fun a U => a = As.toArray ∧ zS A aK adV U
def zR (d : Nat) : Room := { frames := d, cells := 0, slots := 0, locals := d * 64 }
def zM (l : Launch) (A : Nat → Prop) (aK adV : Nat → Nat) (y : MethodName) (bytes : ByteArray) (maxL : Nat) (ret : Option FieldType) (d : Nat) (As : List Value) (v : Option Value) : Prop :=
  Met l y (Cond.code y bytes maxL ret :: gG) (zR d) (zP A aK adV As) (zQ v) 0 0 (fun _ => False)
theorem zP_blind {A : Nat → Prop} {aK adV : Nat → Nat} {As : List Value} : FrameBlind (zP A aK adV As) := fun a U g mk h => ⟨h.1, zS.move (U := U.calling g mk a) h.2 (Vm.Alike.refl U.vm) (fun _ _ _ => rfl)⟩
def yzCod : MethodName := ⟨"java/lang/String", "coder", "()B"⟩
def yzLat : MethodName := ⟨"java/lang/String", "isLatin1", "()Z"⟩
def yzLen : MethodName := ⟨"java/lang/String", "length", "()I"⟩
def yzChr : MethodName := ⟨"java/lang/String", "charAt", "(I)C"⟩
def yzIx1 : MethodName := ⟨"java/lang/String", "indexOf", "(I)I"⟩
def yzIx2 : MethodName := ⟨"java/lang/String", "indexOf", "(II)I"⟩
def yzChk : MethodName := ⟨"java/lang/String", "checkIndex", "(II)V"⟩
def yzLch : MethodName := ⟨"java/lang/StringLatin1", "charAt", "([BI)C"⟩
def yzCan : MethodName := ⟨"java/lang/StringLatin1", "canEncode", "(I)Z"⟩
def yzLix : MethodName := ⟨"java/lang/StringLatin1", "indexOf", "([BIII)I"⟩
def yzLic : MethodName := ⟨"java/lang/StringLatin1", "indexOfChar", "([BIII)I"⟩
def yzPre : MethodName := ⟨"jdk/internal/util/Preconditions", "checkIndex", "(IILjava/util/function/BiFunction;)I"⟩
abbrev kzCod : Cond := .code yzCod prog_21_method_152_code 1 (some .byte)
abbrev kzLat : Cond := .code yzLat prog_21_method_154_code 1 (some .boolean)
abbrev kzLen : Cond := .code yzLen prog_21_method_54_code 1 (some .int)
abbrev kzIx2 : Cond := .code yzIx2 prog_21_method_80_code 3 (some .int)
abbrev kzChk : Cond := .code yzChk prog_21_method_155_code 2 none
abbrev kzLch : Cond := .code yzLch prog_22_method_2_code 2 (some .char)
abbrev kzCan : Cond := .code yzCan prog_22_method_4_code 1 (some .boolean)
abbrev kzLix : Cond := .code yzLix prog_22_method_22_code 4 (some .int)
abbrev kzLic : Cond := .code yzLic prog_22_method_23_code 6 (some .int)
abbrev kzPre : Cond := .code yzPre prog_28_method_11_code 3 (some .int)
def zW : List Cond := [
  .fieldLink "java/lang/String" 38 "java/lang/String" "COMPACT_STRINGS" "Z", .fieldLink "java/lang/String" 15 "java/lang/String" "coder" "B", .fieldLink "java/lang/String" 9 "java/lang/String" "value" "[B",
  .methodLink "java/lang/String" 335 yzCod, .instanceMethod yzCod, .selects "java/lang/String" yzCod yzCod, .initialized "java/lang/String", kzCod,
  .methodLink "java/lang/String" 492 yzLat, .instanceMethod yzLat, .selects "java/lang/String" yzLat yzLat, kzLat,
  .methodLink "java/lang/String" 495 yzLch, .static yzLch, .initialized "java/lang/StringLatin1", kzLch,
  .methodLink "java/lang/StringLatin1" 9 yzChk, .static yzChk, kzChk,
  .fieldLink "java/lang/String" 1053 "jdk/internal/util/Preconditions" "SIOOBE_FORMATTER" "Ljava/util/function/BiFunction;",
  .methodLink "java/lang/String" 1059 yzPre, .static yzPre, .initialized "jdk/internal/util/Preconditions", kzPre,
  .methodLink "java/lang/String" 633 yzIx2, .instanceMethod yzIx2, .selects "java/lang/String" yzIx2 yzIx2, kzIx2,
  .methodLink "java/lang/String" 505 yzLen, .instanceMethod yzLen, .selects "java/lang/String" yzLen yzLen, kzLen,
  .methodLink "java/lang/String" 637 yzLix, .static yzLix, kzLix,
  .methodLink "java/lang/StringLatin1" 88 yzCan, .static yzCan, kzCan,
  .methodLink "java/lang/StringLatin1" 95 yzLic, .static yzLic, kzLic,
  .methodLink "java/lang/StringLatin1" 92 Lib.Math.max.name, .static Lib.Math.max.name, .initialized "java/lang/Math", .code Lib.Math.max.name Lib.Math.max.code 2 (some .int),
  .methodLink "java/lang/StringLatin1" 38 Lib.Math.min.name, .static Lib.Math.min.name, .code Lib.Math.min.name Lib.Math.min.code 2 (some .int)]
set_option maxRecDepth 100000 in
theorem zW_tbl : (zW.all fun w => lw_tbl.contains w && goodWord w) = true := by decide +kernel
