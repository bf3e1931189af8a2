/-! The start: what both constructors leave. -/
/-- the numbers of a heap; nothing behind an array's end -/
def sOf (h : gm_H) : gs :=
  (fun i k => match h.2 i with
    | .inr (_, fs) => (match fs[k]? with
      | some (.int x) => x
      | _ => 0)
    | _ => 0,
   fun i k => match h.2 i with
    | .inr (_, fs) => (match fs[k]? with
      | some (.long x) => x
      | _ => 0)
    | _ => 0,
   fun i k => match h.2 i with
    | .inl (_, n, .inl f) => if k < n then f k else 0
    | _ => 0,
   fun i k => match h.2 i with
    | .inl (_, n, .inr (.inl f)) => if k < n then f k else 0
    | _ => 0, 0)
def shF : Nat → Option Value → Bool
  | 0, some (.int _) => true
  | 1, some (.long _) => true
  | 2, some .null => true
  | n + 3, some (.ref m) => Nat.beq m n
  | _, _ => false
def ctOk (t n i : Nat) : ((Nat → Int32) ⊕ (Nat → Int64) ⊕ (Nat → UInt32) ⊕ (Nat → UInt64) ⊕ (Nat → Option Nat)) → Bool
  | .inl _ => !Nat.beq t 2 && !Nat.beq t 5
  | .inr (.inl _) => Nat.beq t 2
  | .inr (.inr (.inr (.inr f))) => Nat.beq t 5 && (List.range n).all (fun k => match f k with
    | some q => Nat.beq q (i + 1 + k)
    | none => false)
  | _ => false
def shOk (h : gm_H) (i : Nat) : Bool := match gs_sh i, h.2 i with
  | .inl (t, n), .inl (t', n', c) => Nat.beq t' t && (Nat.beq n' n && ctOk t n i c)
  | .inr (ci, ks), .inr (ci', fs) => Nat.beq ci' ci && (Nat.beq fs.length ks.length && (List.range ks.length).all (fun k => shF (ks.getD k 9) fs[k]?))
  | _, _ => false
def norC : List Int32 := [1000, 1, 2043, 3, 2042, 1002, 4, 2042, 2043, 1003, 1004, 2045, 2, 2047, 2043]
def datP (s : gs) : Prop :=
  (gsV s 1 1 = 0 ∧ gsV s 3 2 = 2 ∧ gsA s 4 0 = 0 ∧ gsA s 4 1 = 0 ∧ gsV s 3 1 = 0 ∧ gsV s 5 1 = 15 ∧ ∀ i, i < 15 → gsA s 6 i = norC.getD i 0) ∧
  (gsV s 10 0 = 9 ∧ gsV s 12 0 = 3 ∧ gsV s 10 1 = 5 ∧ gsV s 12 1 = 5 ∧ gsV s 10 3 = 0 ∧ gsV s 10 4 = 0 ∧ gsV s 12 3 = 0 ∧ gsV s 12 4 = 0) ∧
  ((∀ i, i < 108 → xg s 14 i = gsA s 49 i) ∧ gsV s 17 2 = 0 ∧ gsV s 17 1 = 0 ∧ gsV s 0 10 = 0 ∧ gsV s 34 1 = 0 ∧ gsV s 41 1 = 0 ∧ ∀ i, i < 20 → gsA s 42 i = gsA s 69 i) ∧
  (gsV s 48 10 = 0 ∧ gsV s 48 1 = 2 ∧ gsA s 50 0 = 0 ∧ gsA s 50 1 = 0 ∧ gsA s 51 0 = 0 ∧ gsV s 48 22 = 0 ∧ gsA s 52 0 = 9 ∧ gsA s 52 1 = 3 ∧ gsA s 53 0 = 5 ∧ gsA s 53 1 = 5 ∧ gsA s 55 0 = 0 ∧ gsA s 55 1 = 0 ∧ gsA s 56 0 = 0 ∧ gsA s 56 1 = 0) ∧
  (gsV s 48 26 = 0 ∧ gsA s 72 0 = 0 ∧ gsA s 72 1 = 0 ∧ gsV s 48 12 = 0 ∧ gsV s 48 34 = 0 ∧ gsA s 49 0 = 0 ∧ gsA s 49 1 = 0 ∧ gsA s 49 2 = 1 ∧ gsA s 49 3 = 900 ∧ gsA s 49 4 = 900 ∧ gsA s 49 5 = 500)
def gL1 : gm_L := [some (.float 99), some (.ref 0), some (.ref 48), some (.ref 73), some (.int 0), none, none, none]
def datB (s : gs) : Bool :=
  (decide (gsV s 1 1 = 0 ∧ gsV s 3 2 = 2 ∧ gsA s 4 0 = 0 ∧ gsA s 4 1 = 0 ∧ gsV s 3 1 = 0 ∧ gsV s 5 1 = 15) && (List.range 15).all (fun i => decide (gsA s 6 i = norC.getD i 0))) &&
  (decide (gsV s 10 0 = 9 ∧ gsV s 12 0 = 3 ∧ gsV s 10 1 = 5 ∧ gsV s 12 1 = 5 ∧ gsV s 10 3 = 0 ∧ gsV s 10 4 = 0 ∧ gsV s 12 3 = 0 ∧ gsV s 12 4 = 0) &&
  (((List.range 108).all (fun i => decide (xg s 14 i = gsA s 49 i)) && (decide (gsV s 17 2 = 0 ∧ gsV s 17 1 = 0 ∧ gsV s 0 10 = 0 ∧ gsV s 34 1 = 0 ∧ gsV s 41 1 = 0) && (List.range 20).all (fun i => decide (gsA s 42 i = gsA s 69 i)))) &&
  (decide (gsV s 48 10 = 0 ∧ gsV s 48 1 = 2 ∧ gsA s 50 0 = 0 ∧ gsA s 50 1 = 0 ∧ gsA s 51 0 = 0 ∧ gsV s 48 22 = 0 ∧ gsA s 52 0 = 9 ∧ gsA s 52 1 = 3 ∧ gsA s 53 0 = 5 ∧ gsA s 53 1 = 5 ∧ gsA s 55 0 = 0 ∧ gsA s 55 1 = 0 ∧ gsA s 56 0 = 0 ∧ gsA s 56 1 = 0) &&
  decide (gsV s 48 26 = 0 ∧ gsA s 72 0 = 0 ∧ gsA s 72 1 = 0 ∧ gsV s 48 12 = 0 ∧ gsV s 48 34 = 0 ∧ gsA s 49 0 = 0 ∧ gsA s 49 1 = 0 ∧ gsA s 49 2 = 1 ∧ gsA s 49 3 = 900 ∧ gsA s 49 4 = 900 ∧ gsA s 49 5 = 500))))
theorem all_r {n : Nat} {f : Nat → Bool} (h : (List.range n).all f = true) {i : Nat} (hi : i < n) : f i = true := List.all_eq_true.mp h i (List.mem_range.mpr hi)
theorem datB_P {s : gs} (h : datB s = true) : datP s := by
  unfold datB at h
  rw [Bool.and_eq_true, Bool.and_eq_true, Bool.and_eq_true, Bool.and_eq_true, Bool.and_eq_true, Bool.and_eq_true, Bool.and_eq_true] at h
  obtain ⟨⟨h1, h2⟩, h3, ⟨h4, h5, h6⟩, h7, h8⟩ := h
  obtain ⟨a1, a2, a3, a4, a5, a6⟩ := of_decide_eq_true h1
  obtain ⟨b1, b2, b3, b4, b5⟩ := of_decide_eq_true h5
  exact ⟨⟨a1, a2, a3, a4, a5, a6, fun i hi => of_decide_eq_true (all_r h2 hi)⟩, of_decide_eq_true h3, ⟨fun i hi => of_decide_eq_true (all_r h4 hi), b1, b2, b3, b4, b5, fun i hi => of_decide_eq_true (all_r h6 hi)⟩, of_decide_eq_true h7, of_decide_eq_true h8⟩
def gChk : Bool := match gSt with
  | some ((pc, L, S, h), kc, ks) => Nat.beq pc 23 && (S.isEmpty && (decide (L = gL1) && (Nat.beq h.1 74 && (Nat.ble kc 100 && (Nat.ble ks 10000 && ((List.range 74).all (shOk h) && datB (sOf h)))))))
  | none => false
theorem gChk_t : gChk = true := by decide +kernel
