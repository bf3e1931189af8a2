/-! Names and words for the readers' throws. -/
def wfN : MethodName := ⟨"CommandByTurnsLaw", "field", "(LCommandByTurns;II[J)I"⟩
def wcN : MethodName := ⟨"CommandByTurnsLaw", "consul", "(LCommandByTurns;II[J)I"⟩
def wrN : MethodName := ⟨"CommandByTurnsLaw", "row", "(LCommandByTurns;I[J)I"⟩
abbrev nseE : String := "java/util/NoSuchElementException"
abbrev nseL : List String := ["java/lang/RuntimeException", "java/lang/Exception"]
abbrev wfH : List (Nat × Nat × Nat × Nat) := [(0, 10, 13, 13)]
abbrev wrH : List (Nat × Nat × Nat × Nat) := [(0, 8, 11, 13)]
def xW : List Cond := [
  .methodLink "CommandByTurnsLaw" 49 wfN, .static wfN, .initialized "CommandByTurnsLaw", .codeWith wfN method_3_code 5 (some .int) wfH,
  .methodLink "CommandByTurnsLaw" 58 wcN, .static wcN, .codeWith wcN method_4_code 5 (some .int) wfH,
  .methodLink "CommandByTurnsLaw" 223 wrN, .static wrN, .codeWith wrN method_5_code 4 (some .int) wrH,
  .classLink "CommandByTurnsLaw" 13 nseE, .classLink "CommandByTurns" 155 nseE, .initialized nseE,
  .methodLink "CommandByTurnsLaw" 7 (gt_y 80), .methodLink "CommandByTurnsLaw" 18 (gt_y 146)]
set_option maxRecDepth 100000 in
theorem xW_tbl : (xW.all fun w => lw_tbl.contains w && goodWord w) = true := by decide +kernel
/-- the words for 'throw new NoSuchElementException(text)': its constructor finds the one above at 13, those above at 7 -/
def nseA (own : String) (ic : Nat) : List Cond :=
  Bundle.throwableAtoms ++ Bundle.throwableSAtoms ++ Bundle.passSAtoms nseE "java/lang/RuntimeException" 13 prog_27_method_4_code ++ Bundle.chainSAtoms "java/lang/RuntimeException" ["java/lang/Exception"] ++
  [.methodLink own ic (Bundle.initS nseE), .instantiable nseE 6, .castable nseE nseE, .selects nseE Bundle.tFill0 Bundle.tFill0, .selects nseE Bundle.tFill Bundle.tFill,
   .lays nseE Bundle.tN "cause" "Ljava/lang/Throwable;", .lays nseE Bundle.tN "stackTrace" Bundle.steD, .lays nseE Bundle.tN "suppressedExceptions" Bundle.listD, .lays nseE Bundle.tN "detailMessage" "Ljava/lang/String;",
   .isRef (.static Bundle.tN "UNASSIGNED_STACK" Bundle.steD), .isRef (.static Bundle.tN "SUPPRESSED_SENTINEL" Bundle.listD),
   .fieldLink Bundle.tN 198 Bundle.tN "backtrace" "Ljava/lang/Object;", .lays Bundle.tN Bundle.tN "backtrace" "Ljava/lang/Object;", .lays nseE Bundle.tN "backtrace" "Ljava/lang/Object;"]
set_option maxRecDepth 100000 in
theorem nseA_tbl : (((nseA "CommandByTurns" 159).filter vx_no).all fun w => lw_tbl.contains w) = true := by decide +kernel
theorem nseA_ot : ((Cond.classLink "CommandByTurns" 155 nseE :: Cond.initialized nseE :: (nseA "CommandByTurns" 159).filter vx_no).all fun w => vx_ot w) = true := by decide +kernel
