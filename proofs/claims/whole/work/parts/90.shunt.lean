/-! The rule: the class's look through it (mr) and its reading (rd), beside the reference's reader (pp). -/
def rkN (x : Nat) : Nat := if x = 42 ∨ x = 47 then 3 else if x = 43 ∨ x = 45 then 2 else if x = 60 ∨ x = 61 ∨ x = 62 then 1 else 0
def rkI (x : Int32) : Nat := if x = 42 ∨ x = 47 then 3 else if x = 43 ∨ x = 45 then 2 else if x = 60 ∨ x = 61 ∨ x = 62 then 1 else if x = 256 then 4 else 0
theorem rkI_N : ∀ x, x < 256 → rkI (nI x) = rkN x := by decide +kernel
abbrev dgt (x : Nat) : Prop := 48 ≤ x ∧ x ≤ 57
def mr (t : Nat → Nat) (n : Nat) : Nat → Nat → Bool → Nat → Nat → (Nat → Bool) → Option Nat
  | 0, _, due, _, q, _ => if 40 < n then some 40 else if due = true ∨ 0 < q then some n else none
  | m + 1, i, due, g, q, X => if due = true then (if t i = 40 ∧ q < 4 then mr t n m (i + 1) true g (q + 1) (s2n X (q + 1) false) else if dgt (t i) then mr t n m (i + 1) false 1 q X else if (lix (t i)).isSome = true then mr t n m (i + 1) false 3 q X else if t i = 45 then mr t n m (i + 1) true g q X else some i)
    else (if dgt (t i) ∧ g < 3 then mr t n m (i + 1) false (g + 1) q X else if t i = 41 ∧ 0 < q then mr t n m (i + 1) false 3 (q - 1) X else if 1 < rkN (t i) then mr t n m (i + 1) true g q X else if rkN (t i) = 1 ∧ X q = false then mr t n m (i + 1) true g q (s2n X q true) else some i)
theorem mr_0 (t : Nat → Nat) (n i : Nat) (due : Bool) (g q : Nat) (X : Nat → Bool) : mr t n 0 i due g q X = if 40 < n then some 40 else if due = true ∨ 0 < q then some n else none := rfl
theorem mr_T (t : Nat → Nat) {n i : Nat} (h : i < min n 40) (g q : Nat) (X : Nat → Bool) : mr t n (min n 40 - i) i true g q X = (if t i = 40 ∧ q < 4 then mr t n (min n 40 - (i + 1)) (i + 1) true g (q + 1) (s2n X (q + 1) false) else if dgt (t i) then mr t n (min n 40 - (i + 1)) (i + 1) false 1 q X else if (lix (t i)).isSome = true then mr t n (min n 40 - (i + 1)) (i + 1) false 3 q X else if t i = 45 then mr t n (min n 40 - (i + 1)) (i + 1) true g q X else some i) := by
  rw [show min n 40 - i = (min n 40 - (i + 1)) + 1 by omega]
  rfl
theorem mr_F (t : Nat → Nat) {n i : Nat} (h : i < min n 40) (g q : Nat) (X : Nat → Bool) : mr t n (min n 40 - i) i false g q X = (if dgt (t i) ∧ g < 3 then mr t n (min n 40 - (i + 1)) (i + 1) false (g + 1) q X else if t i = 41 ∧ 0 < q then mr t n (min n 40 - (i + 1)) (i + 1) false 3 (q - 1) X else if 1 < rkN (t i) then mr t n (min n 40 - (i + 1)) (i + 1) true g q X else if rkN (t i) = 1 ∧ X q = false then mr t n (min n 40 - (i + 1)) (i + 1) true g q (s2n X q true) else some i) := by
  rw [show min n 40 - i = (min n 40 - (i + 1)) + 1 by omega]
  rfl
def wrC (C : List Int32) (x : Int32) : List Int32 := if C.length < 40 then C ++ [x] else C
def fls (r : Nat) : List Int32 → List Int32 → List Int32 × List Int32
  | [], C => ([], C)
  | x :: W, C => if rkI x < r then (x :: W, C) else fls r W (wrC C (2000 + x))
def mulL (C : List Int32) (x : Int32) : List Int32 := C.set (C.length - 1) (C.getD (C.length - 1) 0 * 10 + x)
def rsS (x : Nat) (due : Bool) (C W : List Int32) : Bool × List Int32 × List Int32 :=
  if dgt x then (false, if due = true then wrC C (nI (x - 48)) else mulL C (nI (x - 48)), W)
  else match lix x with
    | some k => (false, wrC C (nI (1000 + k)), W)
    | none => if x = 41 then (false, (fls 1 W C).2, (fls 1 W C).1.tail)
      else if x = 40 then (true, C, psh W 40)
      else if due = true then (true, C, psh W 256)
      else (true, (fls (rkN x) W C).2, psh (fls (rkN x) W C).1 (nI x))
def rd (t : Nat → Nat) : Nat → Nat → Bool → List Int32 → List Int32 → List Int32
  | 0, _, _, C, W => (fls 1 W C).2
  | m + 1, i, due, C, W => rd t m (i + 1) (rsS (t i) due C W).1 (rsS (t i) due C W).2.1 (rsS (t i) due C W).2.2
theorem rd_s (t : Nat → Nat) {n i : Nat} (h : i < min n 40) (due : Bool) (C W : List Int32) : rd t (min n 40 - i) i due C W = rd t (min n 40 - (i + 1)) (i + 1) (rsS (t i) due C W).1 (rsS (t i) due C W).2.1 (rsS (t i) due C W).2.2 := by
  rw [show min n 40 - i = (min n 40 - (i + 1)) + 1 by omega]
  rfl
def topr (r : Nat) : List Int32 → Prop
  | [] => True
  | x :: _ => rkI x < r
def P2 (P : List Int32) : List Int32 := P.map (fun x => 2000 + x)
theorem P2_app (P Q : List Int32) : P2 (P ++ Q) = P2 P ++ P2 Q := List.map_append
theorem P2_len (P : List Int32) : (P2 P).length = P.length := List.length_map _
theorem fls_top {r : Nat} : ∀ {W : List Int32} (C : List Int32), topr r W → fls r W C = (W, C)
  | [], _, _ => rfl
  | x :: W, C, h => by
    have h' : rkI x < r := h
    show (if rkI x < r then (x :: W, C) else fls r W (wrC C (2000 + x))) = _
    rw [if_pos h']
theorem fls_app {r : Nat} {W : List Int32} (hW : topr r W) : ∀ (P C : List Int32), (∀ x ∈ P, r ≤ rkI x) → C.length + P.length ≤ 40 → fls r (P ++ W) C = (W, C ++ P2 P)
  | [], C, _, _ => by
    rw [List.nil_append, fls_top C hW]
    show (W, C) = (W, C ++ [])
    rw [List.append_nil]
  | x :: P, C, h, hl => by
    rw [List.length_cons] at hl
    show (if rkI x < r then (x :: (P ++ W), C) else fls r (P ++ W) (wrC C (2000 + x))) = _
    have hx := h x (List.mem_cons_self ..)
    have e : wrC C (2000 + x) = C ++ [2000 + x] := by unfold wrC; rw [if_pos (by omega)]
    rw [if_neg (by omega), e, fls_app hW P _ (fun y hy => h y (List.mem_cons_of_mem _ hy)) (by rw [List.length_append, List.length_singleton]; omega), List.append_assoc]
    rfl
theorem rpn_app (th : Nat → Int32) : ∀ (l m st : List Int32), rpn th (l ++ m) st = rpn th m (rpn th l st)
  | [], _, _ => rfl
  | x :: l, m, st => rpn_app th l m (rq1 th x st)
abbrev opr (x : Nat) : Prop := x = 42 ∨ x = 47 ∨ x = 43 ∨ x = 45 ∨ x = 60 ∨ x = 61 ∨ x = 62
theorem op_sub (x : Int32) : 2000 + x - 2000 = x := by grind
theorem rq_op (th : Nat → Int32) {x : Nat} (h : opr x) (o v : Int32) {st : List Int32} (hs : st.length < 40) : rq1 th (2000 + nI x) (o :: v :: st) = jn (nI x) v o :: st := by
  have e : rq1 th (2000 + nI x) (o :: v :: st) = psh st (jn (2000 + nI x - 2000) v o) := by
    unfold rq1
    have h1 : ¬ 2000 + nI x < 1000 := by rcases h with rfl | rfl | rfl | rfl | rfl | rfl | rfl <;> decide
    have h2 : ¬ 2000 + nI x < 2000 := by rcases h with rfl | rfl | rfl | rfl | rfl | rfl | rfl <;> decide
    have h3 : ¬ 2000 + nI x = 2256 := by rcases h with rfl | rfl | rfl | rfl | rfl | rfl | rfl <;> decide
    rw [if_neg h1, if_neg h2, if_neg h3]
    rfl
  rw [e, op_sub]
  unfold psh
  rw [if_pos hs]
theorem rq_ng (th : Nat → Int32) (v : Int32) {st : List Int32} (hs : st.length < 40) : rq1 th (2000 + 256) (v :: st) = -v :: st := by
  have e : rq1 th (2000 + 256) (v :: st) = psh st (-v) := by
    unfold rq1
    rw [if_neg (by decide), if_neg (by decide), if_pos (by decide)]
    rfl
  rw [e]
  unfold psh
  rw [if_pos hs]
theorem rq_nm (th : Nat → Int32) {k : Nat} (hk : k < 1000) {st : List Int32} (hs : st.length < 40) : rq1 th (nI k) st = nI k :: st := by
  unfold rq1 psh
  rw [if_pos (show nI k < 1000 from (nI_lt' (b := 1000) (by omega) (by decide)).mpr hk), if_pos hs]
theorem rq_lt (th : Nat → Int32) {k : Nat} (hk : k < 8) {st : List Int32} (hs : st.length < 40) : rq1 th (nI (1000 + k)) st = th k :: st := by
  have h1 : ¬ nI (1000 + k) < 1000 := nI_nlt (b := 1000) (by omega) (by omega)
  have h2 : nI (1000 + k) < 2000 := (nI_lt' (b := 2000) (by omega) (by decide)).mpr (by omega)
  have h3 : nI (1000 + k) - 1000 = nI k := by
    show nI (1000 + k) - nI 1000 = nI k
    rw [pk_sub (by omega), Nat.add_sub_cancel_left]
  have h4 : nI k < 8 := (nI_lt' (b := 8) (by omega) (by decide)).mpr hk
  unfold rq1
  rw [if_neg h1, if_pos h2, h3, if_pos h4, nI_clamp (by omega)]
  unfold psh
  rw [if_pos hs]
def evl (th : Nat → Int32) (l : List Int32) (k : Nat) (v : Int32) : Prop := ∀ st : List Int32, st.length + k ≤ 40 → rpn th l st = v :: st
theorem lix_8 {x k : Nat} (h : lix x = some k) : k < 8 ∧ x < 256 ∧ ¬ dgt x ∧ ¬ x = 45 ∧ ¬ x = 40 ∧ ¬ x = 41 := by
  unfold lix at h
  repeat' split at h
  all_goals first | (cases h; subst_vars; exact ⟨by decide, by decide, by decide, by decide, by decide, by decide⟩) | cases h
section SH
variable {t : Nat → Nat} {n : Nat} {th : Nat → Int32}
/-- behind an operand: what has been read from a0 to b is v; P waits -/
def AS (t : Nat → Nat) (n : Nat) (th : Nat → Int32) (r q : Nat) (C W : List Int32) (F : (Nat → Bool) → Prop) (a0 : Nat) (mL : Option Nat) (rL : List Int32) (v : Int32) (b : Nat) : Prop :=
  b ≤ min n 40 ∧ a0 < b ∧ ∃ (g : Nat) (X : Nat → Bool) (c P : List Int32), mL = mr t n (min n 40 - b) b false g q X ∧ F X ∧ (dgt (hr t n b) → 3 ≤ g) ∧ rL = rd t (min n 40 - b) b false (C ++ c) (P ++ W) ∧ C.length + c.length + P.length + W.length ≤ b ∧ (∀ x ∈ P, r ≤ rkI x) ∧ evl th (c ++ P2 P) (b - a0) v
theorem AS_r {r r' q a0 b : Nat} {C W : List Int32} {F : (Nat → Bool) → Prop} {mL : Option Nat} {rL : List Int32} {v : Int32} (h : AS t n th r q C W F a0 mL rL v b) (hr : r' ≤ r) : AS t n th r' q C W F a0 mL rL v b := by
  obtain ⟨h1, h2, g, X, c, P, h3, h4, h5, h6, h7, h8, h9⟩ := h
  exact ⟨h1, h2, g, X, c, P, h3, h4, h5, h6, h7, fun x hx => Nat.le_trans hr (h8 x hx), h9⟩
theorem hr_in {b : Nat} (h : hr t n b ≠ 999) : b < min n 40 ∧ hr t n b = t b := by
  unfold hr at h ⊢
  by_cases q : b < n ∧ b < 40
  · rw [if_pos q]; exact ⟨by omega, rfl⟩
  · rw [if_neg q] at h; exact absurd rfl h
theorem hr_of {b : Nat} (h : b < min n 40) : hr t n b = t b := by
  unfold hr
  rw [if_pos (by omega)]
/-- an operator that binds faster than what waits below -/
theorem AS_op {r q a0 b x : Nat} {C W : List Int32} {F : (Nat → Bool) → Prop} {mL : Option Nat} {rL : List Int32} {v : Int32} (h : AS t n th r q C W F a0 mL rL v b) (hx : opr x) (hb : hr t n b = x) (hrk : rkN x ≤ r) (hW : topr (rkN x) W) (hcm : rkN x = 1 → ∀ X, F X → X q = false) : ∃ (g : Nat) (X : Nat → Bool) (c P : List Int32), b + 1 ≤ min n 40 ∧ F X ∧ mL = mr t n (min n 40 - (b + 1)) (b + 1) true g q (if rkN x = 1 then s2n X q true else X) ∧ rL = rd t (min n 40 - (b + 1)) (b + 1) true (C ++ (c ++ P2 P)) (nI x :: W) ∧ (C ++ (c ++ P2 P)).length + (nI x :: W).length ≤ b + 1 ∧ evl th (c ++ P2 P) (b - a0) v := by
  obtain ⟨h1, h2, g, X, c, P, h3, h4, h5, h6, h7, h8, h9⟩ := h
  have hx256 : x < 256 := by omega
  have hin := hr_in (t := t) (n := n) (b := b) (by rw [hb]; omega)
  have ht : t b = x := by rw [← hin.2]; exact hb
  have rk1 : 1 ≤ rkN x := by rcases hx with rfl | rfl | rfl | rfl | rfl | rfl | rfl <;> decide
  refine ⟨g, X, c, P, by omega, h4, ?_, ?_, ?_, h9⟩
  · rw [h3, mr_F t hin.1, ht, if_neg (by omega), if_neg (by omega)]
    by_cases q1 : rkN x = 1
    · rw [if_neg (by omega), if_pos ⟨q1, hcm q1 X h4⟩, if_pos q1]
    · rw [if_pos (by omega), if_neg q1]
  · have hl : lix x = none := by rcases hx with rfl | rfl | rfl | rfl | rfl | rfl | rfl <;> rfl
    have hf : fls (rkN x) (P ++ W) (C ++ c) = (W, (C ++ c) ++ P2 P) := fls_app hW P _ (fun y hy => Nat.le_trans hrk (h8 y hy)) (by rw [List.length_append]; omega)
    have e : rsS x false (C ++ c) (P ++ W) = (true, C ++ (c ++ P2 P), nI x :: W) := by
      unfold rsS
      rw [if_neg (by omega), hl]
      show (if x = 41 then _ else if x = 40 then _ else if false = true then _ else _) = _
      rw [if_neg (by omega), if_neg (by omega), if_neg (by decide), hf]
      show (true, C ++ c ++ P2 P, psh W (nI x)) = _
      rw [List.append_assoc]
      unfold psh
      rw [if_pos (by omega)]
    rw [h6, rd_s t hin.1, ht, e]
  · rw [List.length_append, List.length_append, P2_len, List.length_cons]
    omega
/-- an operand behind it: worked out -/
theorem AS_bin {r q a0 b x e : Nat} {C W c P : List Int32} {F F' : (Nat → Bool) → Prop} {mL : Option Nat} {rL : List Int32} {v o : Int32} (hx : opr x) (hrk : r ≤ rkN x) (ha : a0 < b) (hv : evl th (c ++ P2 P) (b - a0) v) (h : AS t n th r q (C ++ (c ++ P2 P)) (nI x :: W) F (b + 1) mL rL o e) (hF : ∀ X, F X → F' X) : AS t n th r q C W F' a0 mL rL (jn (nI x) v o) e := by
  obtain ⟨h1, h2, g, X, c2, Q, h3, h4, h5, h6, h7, h8, h9⟩ := h
  have hx256 : x < 256 := by omega
  refine ⟨h1, by omega, g, X, (c ++ P2 P) ++ c2, Q ++ [nI x], h3, hF X h4, h5, ?_, ?_, fun y hy => ?_, fun st hst => ?_⟩
  · rw [h6, List.append_assoc, List.append_assoc Q]
    rfl
  · simp only [List.length_append, List.length_cons, List.length_nil] at h7 ⊢
    omega
  · rcases List.mem_append.mp hy with z | z
    · exact h8 y z
    · rw [List.mem_singleton.mp z, rkI_N x hx256]; exact hrk
  · have e1 : (c ++ P2 P) ++ c2 ++ P2 (Q ++ [nI x]) = (c ++ P2 P) ++ ((c2 ++ P2 Q) ++ [2000 + nI x]) := by
      rw [P2_app, List.append_assoc, List.append_assoc c2]
      rfl
    rw [e1, rpn_app, hv st (by omega), rpn_app, h9 (v :: st) (by rw [List.length_cons]; omega)]
    show rq1 th (2000 + nI x) (o :: v :: st) = _
    exact rq_op th hx o v (by omega)
/-- where the class stops -/
theorem mr_stk {b g q : Nat} {X : Nat → Bool} (hb : b ≤ min n 40) (h1 : dgt (hr t n b) → 3 ≤ g) (h2 : ¬ (hr t n b = 42 ∨ hr t n b = 47) ∧ ¬ (hr t n b = 43 ∨ hr t n b = 45)) (h3 : hr t n b = 60 ∨ hr t n b = 61 ∨ hr t n b = 62 → X q = true) (h4 : hr t n b = 41 → q = 0) : mr t n (min n 40 - b) b false g q X = if b < n then some b else if 0 < q then some n else none := by
  by_cases hin : b < min n 40
  · have e := hr_of (t := t) (n := n) hin
    rw [e] at h1 h2 h3 h4
    have r2 : ¬ 1 < rkN (t b) := by unfold rkN; rw [if_neg h2.1, if_neg h2.2]; split <;> omega
    have r1 : ¬ (rkN (t b) = 1 ∧ X q = false) := by
      rintro ⟨z, z2⟩
      by_cases w : t b = 60 ∨ t b = 61 ∨ t b = 62
      · rw [h3 w] at z2; cases z2
      · unfold rkN at z; rw [if_neg h2.1, if_neg h2.2, if_neg w] at z; cases z
    rw [mr_F t hin, if_neg (fun z => by have := h1 z.1; omega), if_neg (fun z => by have := h4 z.1; omega), if_neg r2, if_neg r1, if_pos (by omega)]
  · have e : b = min n 40 := by omega
    rw [show min n 40 - b = 0 by omega, mr_0]
    by_cases q4 : 40 < n
    · rw [if_pos q4, if_pos (by omega)]; congr 1; omega
    · rw [if_neg q4, if_neg (show ¬ b < n by omega)]
      by_cases q0 : 0 < q
      · rw [if_pos (Or.inr q0), if_pos q0]
      · rw [if_neg (fun z => z.elim (fun w => by cases w) q0), if_neg q0]
def smX (q : Nat) (X : Nat → Bool) : (Nat → Bool) → Prop := fun Y => ∀ j, j ≤ q → Y j = X j
def smZ (t : Nat → Nat) (n q b : Nat) (X : Nat → Bool) : (Nat → Bool) → Prop := fun Y => (∀ j, j < q → Y j = X j) ∧ (hr t n b = 60 ∨ hr t n b = 61 ∨ hr t n b = 62 → Y q = true)
def T5 (t : Nat → Nat) (n : Nat) (th : Nat → Int32) (r rt q a : Nat) (R : Nat ⊕ (Int32 × Nat)) (E : Nat → Prop) : Prop := ∀ (C W : List Int32) (X : Nat → Bool) (g : Nat), C.length + W.length ≤ a → topr rt W → match R with
  | .inl e => mr t n (min n 40 - a) a true g q X = some e
  | .inr y => AS t n th r q C W (smX q X) a (mr t n (min n 40 - a) a true g q X) (rd t (min n 40 - a) a true C W) y.1 y.2 ∧ E y.2
def T0 (t : Nat → Nat) (n : Nat) (th : Nat → Int32) (q a : Nat) (R : Nat ⊕ (Int32 × Nat)) : Prop := ∀ (C W : List Int32) (X : Nat → Bool) (g : Nat), C.length + W.length ≤ a → topr 1 W → X q = false → match R with
  | .inl e => mr t n (min n 40 - a) a true g q X = some e
  | .inr y => AS t n th 1 q C W (smZ t n q y.2 X) a (mr t n (min n 40 - a) a true g q X) (rd t (min n 40 - a) a true C W) y.1 y.2 ∧ ¬ (hr t n y.2 = 42 ∨ hr t n y.2 = 47) ∧ ¬ (hr t n y.2 = 43 ∨ hr t n y.2 = 45)
def T4 (t : Nat → Nat) (n : Nat) (th : Nat → Int32) (r q : Nat) (v : Int32) (b : Nat) (R : Nat ⊕ (Int32 × Nat)) (E0 E : Nat → Prop) : Prop := ∀ (C W : List Int32) (X : Nat → Bool) (a0 : Nat) (mL : Option Nat) (rL : List Int32), AS t n th r q C W (smX q X) a0 mL rL v b → topr r W → E0 b → match R with
  | .inl e => mL = some e
  | .inr y => AS t n th r q C W (smX q X) a0 mL rL y.1 y.2 ∧ E y.2
abbrev nMul (t : Nat → Nat) (n b : Nat) : Prop := ¬ (hr t n b = 42 ∨ hr t n b = 47)
abbrev nAdd (t : Nat → Nat) (n b : Nat) : Prop := ¬ (hr t n b = 43 ∨ hr t n b = 45)
theorem topr_up {r r' : Nat} {W : List Int32} (h : topr r W) (hr : r ≤ r') : topr r' W := by
  cases W with
  | nil => trivial
  | cons x W => exact Nat.lt_of_lt_of_le h hr
theorem rkI_4 (x : Int32) : rkI x < 5 := by
  unfold rkI
  repeat' split
  all_goals decide
theorem topr_5 (W : List Int32) : topr 5 W := by
  cases W with
  | nil => trivial
  | cons x W => exact rkI_4 x
/-- a digit more -/
theorem num_d {a q g : Nat} {X : Nat → Bool} {C W : List Int32} {y : Nat} (ha : a < min n 40) (hd : dgt (t a)) (hg : g < 3) : mr t n (min n 40 - a) a false g q X = mr t n (min n 40 - (a + 1)) (a + 1) false (g + 1) q X ∧ rd t (min n 40 - a) a false (C ++ [nI y]) W = rd t (min n 40 - (a + 1)) (a + 1) false (C ++ [nI (10 * y + (t a - 48))]) W := by
  refine ⟨by rw [mr_F t ha, if_pos ⟨hd, hg⟩], ?_⟩
  have e : mulL (C ++ [nI y]) (nI (t a - 48)) = C ++ [nI (10 * y + (t a - 48))] := by
    unfold mulL
    have e1 : (C ++ [nI y]).length - 1 = C.length := by rw [List.length_append, List.length_singleton]; omega
    have e2 : (C ++ [nI y]).getD C.length 0 = nI y := by simp [List.getD]
    rw [e1, e2, show nI y * 10 = nI (y * 10) from pk_mul y 10, nI_add, Nat.mul_comm y 10]
    simp
  have e3 : rsS (t a) false (C ++ [nI y]) W = (false, C ++ [nI (10 * y + (t a - 48))], W) := by
    unfold rsS
    rw [if_pos hd, if_neg (by decide), e]
  rw [rd_s t ha, e3]
theorem shy : ∀ (f q : Nat) (v : Int32) (a : Nat), q ≤ 4 → a ≤ min n 40 →
    (8 * (41 - a) + 4 ≤ f → T0 t n th q a (pp t n th f 0 q v a)) ∧
    (8 * (41 - a) + 3 ≤ f → T5 t n th 2 2 q a (pp t n th f 1 q v a) (fun b => nMul t n b ∧ nAdd t n b)) ∧
    (8 * (41 - a) + 1 ≤ f → T4 t n th 2 q v a (pp t n th f 2 q v a) (nMul t n) (fun b => nMul t n b ∧ nAdd t n b)) ∧
    (8 * (41 - a) + 2 ≤ f → T5 t n th 3 3 q a (pp t n th f 3 q v a) (nMul t n)) ∧
    (8 * (41 - a) + 1 ≤ f → T4 t n th 3 q v a (pp t n th f 4 q v a) (fun _ => True) (nMul t n)) ∧
    (8 * (41 - a) + 1 ≤ f → T5 t n th 4 5 q a (pp t n th f 5 q v a) (fun _ => True)) := by
  intro f
  induction f with
  | zero =>
    intro q v a hq ha
    refine ⟨fun h => ?_, fun h => ?_, fun h => ?_, fun h => ?_, fun h => ?_, fun h => ?_⟩ <;> omega
  | succ f ih =>
    intro q v a hq ha
    refine ⟨fun hf => ?_, fun hf => ?_, fun hf => ?_, fun hf => ?_, fun hf => ?_, fun hf => ?_⟩
    · -- held
      intro C W X g hl hW hX
      have h1 := (ih q 0 a hq ha).2.1 (by omega) C W X g hl (topr_up hW (by decide))
      rw [pp0]
      cases hs : pp t n th f 1 q 0 a with
      | inl e => rw [hs] at h1; exact h1
      | inr y =>
        obtain ⟨v1, b⟩ := y
        rw [hs] at h1
        obtain ⟨h2, h3, h4⟩ := h1
        have hb := h2.1
        have hab := h2.2.1
        show (match (if hr t n b = 60 ∨ hr t n b = 62 ∨ hr t n b = 61 then pbd (pp t n th f 1 q 0 (b + 1)) fun o e => .inr (jn (nI (hr t n b)) v1 o, e) else .inr (v1, b)) with
          | .inl e => mr t n (min n 40 - a) a true g q X = some e
          | .inr y => AS t n th 1 q C W (smZ t n q y.2 X) a (mr t n (min n 40 - a) a true g q X) (rd t (min n 40 - a) a true C W) y.1 y.2 ∧ ¬ (hr t n y.2 = 42 ∨ hr t n y.2 = 47) ∧ ¬ (hr t n y.2 = 43 ∨ hr t n y.2 = 45))
        by_cases q1 : hr t n b = 60 ∨ hr t n b = 62 ∨ hr t n b = 61
        · rw [if_pos q1]
          have hop : opr (hr t n b) := by omega
          have hrk : rkN (hr t n b) = 1 := by unfold rkN; rw [if_neg h3, if_neg h4, if_pos (by omega)]
          obtain ⟨g2, X2, c, P, k1, k2, k3, k4, k5, k6⟩ := AS_op h2 hop rfl (by omega) (by rw [hrk]; exact hW) (fun _ Y hY => by rw [hY q (Nat.le_refl _)]; exact hX)
          rw [if_pos hrk] at k3
          have h5 := (ih q 0 (b + 1) hq k1).2.1 (by omega) (C ++ (c ++ P2 P)) (nI (hr t n b) :: W) (s2n X2 q true) g2 k5 (by show rkI (nI (hr t n b)) < 2; rw [rkI_N _ (by omega), hrk]; decide)
          rw [← k3, ← k4] at h5
          cases hs2 : pp t n th f 1 q 0 (b + 1) with
          | inl e => rw [hs2] at h5; exact h5
          | inr z =>
            obtain ⟨o, e⟩ := z
            rw [hs2] at h5
            obtain ⟨h6, h7, h8⟩ := h5
            refine ⟨AS_bin hop (by omega) hab k6 (AS_r h6 (by decide)) (fun Y hY => ⟨fun j hj => ?_, fun _ => ?_⟩), h7, h8⟩
            · rw [hY j (by omega)]
              show (if j = q then true else X2 j) = X j
              rw [if_neg (by omega)]
              exact k2 j (by omega)
            · rw [hY q (Nat.le_refl _)]
              show (if q = q then true else X2 q) = true
              rw [if_pos rfl]
        · rw [if_neg q1]
          obtain ⟨a1, a2, g2, X2, c, P, a3, a4, a5, a6, a7, a8, a9⟩ := AS_r h2 (show 1 ≤ 2 by decide)
          exact ⟨⟨a1, a2, g2, X2, c, P, a3, ⟨fun j hj => a4 j (by omega), fun z => absurd z (by show ¬ (hr t n b = 60 ∨ hr t n b = 61 ∨ hr t n b = 62); omega)⟩, a5, a6, a7, a8, a9⟩, h3, h4⟩
    · -- sum
      intro C W X g hl hW
      have h1 := (ih q 0 a hq ha).2.2.2.1 (by omega) C W X g hl (topr_up hW (by decide))
      rw [pp1]
      cases hs : pp t n th f 3 q 0 a with
      | inl e => rw [hs] at h1; exact h1
      | inr y =>
        obtain ⟨v1, b⟩ := y
        rw [hs] at h1
        exact (ih q v1 b hq h1.1.1).2.2.1 (by have := h1.1.2.1; have := h1.1.1; show 8 * (41 - b) + 1 ≤ f; omega) C W X a _ _ (AS_r h1.1 (by decide)) hW h1.2
    · -- sum goes on
      intro C W X a0 mL rL h2 hW hE
      rw [pp2]
      have hab := h2.2.1
      by_cases q1 : hr t n a = 43 ∨ hr t n a = 45
      · rw [if_pos q1]
        have hop : opr (hr t n a) := by omega
        have hrk : rkN (hr t n a) = 2 := by unfold rkN; rw [if_neg hE, if_pos q1]
        obtain ⟨g2, X2, c, P, k1, k2, k3, k4, k5, k6⟩ := AS_op h2 hop rfl (by omega) (by rw [hrk]; exact hW) (fun z => by omega)
        rw [if_neg (by omega)] at k3
        have h5 := (ih q 0 (a + 1) hq k1).2.2.2.1 (by omega) (C ++ (c ++ P2 P)) (nI (hr t n a) :: W) X2 g2 k5 (by show rkI (nI (hr t n a)) < 3; rw [rkI_N _ (by omega), hrk]; decide)
        rw [← k3, ← k4] at h5
        cases hs2 : pp t n th f 3 q 0 (a + 1) with
        | inl e => rw [hs2] at h5; exact h5
        | inr z =>
          obtain ⟨o, e⟩ := z
          rw [hs2] at h5
          obtain ⟨h6, h7⟩ := h5
          have he := h6.2.1
          have he1 := h6.1
          refine (ih q (jn (nI (hr t n a)) v o) e hq he1).2.2.1 (by show 8 * (41 - e) + 1 ≤ f; omega) C W X a0 mL rL (AS_bin hop (by omega) hab k6 (AS_r h6 (by decide)) (fun Y hY j hj => ?_)) hW h7
          rw [hY j hj]
          exact k2 j hj
      · rw [if_neg q1]
        exact ⟨h2, hE, q1⟩
    · -- product
      intro C W X g hl hW
      have h1 := (ih q 0 a hq ha).2.2.2.2.2 (by omega) C W X g hl (topr_5 W)
      rw [pp3]
      cases hs : pp t n th f 5 q 0 a with
      | inl e => rw [hs] at h1; exact h1
      | inr y =>
        obtain ⟨v1, b⟩ := y
        rw [hs] at h1
        exact (ih q v1 b hq h1.1.1).2.2.2.2.1 (by have := h1.1.2.1; have := h1.1.1; show 8 * (41 - b) + 1 ≤ f; omega) C W X a _ _ (AS_r h1.1 (by decide)) hW trivial
    · -- product goes on
      intro C W X a0 mL rL h2 hW _
      rw [pp4]
      have hab := h2.2.1
      by_cases q1 : hr t n a = 42 ∨ hr t n a = 47
      · rw [if_pos q1]
        have hop : opr (hr t n a) := by omega
        have hrk : rkN (hr t n a) = 3 := by unfold rkN; rw [if_pos q1]
        obtain ⟨g2, X2, c, P, k1, k2, k3, k4, k5, k6⟩ := AS_op h2 hop rfl (by omega) (by rw [hrk]; exact hW) (fun z => by omega)
        rw [if_neg (by omega)] at k3
        have h5 := (ih q 0 (a + 1) hq k1).2.2.2.2.2 (by omega) (C ++ (c ++ P2 P)) (nI (hr t n a) :: W) X2 g2 k5 (topr_5 _)
        rw [← k3, ← k4] at h5
        cases hs2 : pp t n th f 5 q 0 (a + 1) with
        | inl e => rw [hs2] at h5; exact h5
        | inr z =>
          obtain ⟨o, e⟩ := z
          rw [hs2] at h5
          have h6 := h5.1
          have he := h6.2.1
          have he1 := h6.1
          refine (ih q (jn (nI (hr t n a)) v o) e hq he1).2.2.2.2.1 (by show 8 * (41 - e) + 1 ≤ f; omega) C W X a0 mL rL (AS_bin hop (by omega) hab k6 (AS_r h6 (by decide)) (fun Y hY j hj => ?_)) hW trivial
          rw [hY j hj]
          exact k2 j hj
      · rw [if_neg q1]
        exact ⟨h2, q1⟩
    · -- thing
      intro C W X g hl hW
      rw [pp5 t n th f q v a 0]
      by_cases q1 : hr t n a = 45
      · rw [if_pos q1]
        have hin := hr_in (t := t) (n := n) (b := a) (by rw [q1]; decide)
        have ht : t a = 45 := by rw [← hin.2]; exact q1
        have m1 : mr t n (min n 40 - a) a true g q X = mr t n (min n 40 - (a + 1)) (a + 1) true g q X := by
          rw [mr_T t hin.1, ht, if_neg (by omega), if_neg (by decide), if_neg (by decide), if_pos rfl]
        have r1 : rd t (min n 40 - a) a true C W = rd t (min n 40 - (a + 1)) (a + 1) true C (256 :: W) := by
          have e : rsS 45 true C W = (true, C, 256 :: W) := by
            have e1 : rsS 45 true C W = (true, C, psh W 256) := rfl
            rw [e1]
            unfold psh
            rw [if_pos (by omega)]
          rw [rd_s t hin.1, ht, e]
        have h5 := (ih q 0 (a + 1) hq (by omega)).2.2.2.2.2 (by omega) C (256 :: W) X g (by rw [List.length_cons]; omega) (topr_5 _)
        rw [← m1, ← r1] at h5
        cases hs2 : pp t n th f 5 q 0 (a + 1) with
        | inl e => rw [hs2] at h5; exact h5
        | inr z =>
          obtain ⟨v1, b⟩ := z
          rw [hs2] at h5
          obtain ⟨⟨h1, h2, g2, X2, c, P, h3, h4, h6, h7, h8, h9, h10⟩, _⟩ := h5
          have h1' : b ≤ min n 40 := h1
          have h2' : a + 1 < b := h2
          refine ⟨⟨h1, by show a < b; omega, g2, X2, c, P ++ [256], h3, h4, h6, ?_, ?_, fun x hx => ?_, fun st hst => ?_⟩, trivial⟩
          · rw [h7, List.append_assoc P]
            rfl
          · simp only [List.length_append, List.length_cons, List.length_nil] at h8 ⊢
            omega
          · rcases List.mem_append.mp hx with w | w
            · exact h9 x w
            · rw [List.mem_singleton.mp w]; decide
          · have hst' : st.length + (b - a) ≤ 40 := hst
            have e1 : c ++ P2 (P ++ [256]) = (c ++ P2 P) ++ [2000 + 256] := by
              rw [P2_app, List.append_assoc]
              rfl
            rw [e1, rpn_app, h10 st (by show st.length + (b - (a + 1)) ≤ 40; omega)]
            exact rq_ng th v1 (by omega)
      rw [if_neg q1]
      by_cases q2 : hr t n a = 40 ∧ q < 4
      · rw [if_pos q2]
        have hin := hr_in (t := t) (n := n) (b := a) (by rw [q2.1]; decide)
        have ht : t a = 40 := by rw [← hin.2]; exact q2.1
        have m1 : mr t n (min n 40 - a) a true g q X = mr t n (min n 40 - (a + 1)) (a + 1) true g (q + 1) (s2n X (q + 1) false) := by
          rw [mr_T t hin.1, if_pos ⟨ht, q2.2⟩]
        have r1 : rd t (min n 40 - a) a true C W = rd t (min n 40 - (a + 1)) (a + 1) true C (40 :: W) := by
          have e : rsS 40 true C W = (true, C, 40 :: W) := by
            have e1 : rsS 40 true C W = (true, C, psh W 40) := rfl
            rw [e1]
            unfold psh
            rw [if_pos (by omega)]
          rw [rd_s t hin.1, ht, e]
        have h5 := (ih (q + 1) 0 (a + 1) (by omega) (by omega)).1 (by omega) C (40 :: W) (s2n X (q + 1) false) g (by rw [List.length_cons]; omega) (by show rkI 40 < 1; decide) (by show (if q + 1 = q + 1 then false else X (q + 1)) = false; rw [if_pos rfl])
        rw [← m1, ← r1] at h5
        cases hs2 : pp t n th f 0 (q + 1) 0 (a + 1) with
        | inl e => rw [hs2] at h5; exact h5
        | inr z =>
          obtain ⟨v1, b⟩ := z
          rw [hs2] at h5
          obtain ⟨⟨h1, h2, g2, X2, c, P, h3, ⟨h4, h4'⟩, h6, h7, h8, h9, h10⟩, n1, n2⟩ := h5
          have h1' : b ≤ min n 40 := h1
          have h2' : a + 1 < b := h2
          have hz : (pbd (.inr (v1, b)) fun v b => if hr t n b = 41 then .inr (v, b + 1) else .inl b) = (if hr t n b = 41 then .inr (v1, b + 1) else .inl b : Nat ⊕ (Int32 × Nat)) := rfl
          rw [hz]
          by_cases q3 : hr t n b = 41
          · rw [if_pos q3]
            have hb := hr_in (t := t) (n := n) (b := b) (by rw [q3]; decide)
            have htb : t b = 41 := by rw [← hb.2]; exact q3
            have hf : fls 1 (P ++ 40 :: W) (C ++ c) = (40 :: W, (C ++ c) ++ P2 P) := fls_app (by show rkI 40 < 1; decide) P _ h9 (by simp only [List.length_append, List.length_cons] at h8 ⊢; omega)
            have e : rsS 41 false (C ++ c) (P ++ 40 :: W) = (false, C ++ (c ++ P2 P), W) := by
              have e1 : rsS 41 false (C ++ c) (P ++ 40 :: W) = (false, (fls 1 (P ++ 40 :: W) (C ++ c)).2, (fls 1 (P ++ 40 :: W) (C ++ c)).1.tail) := rfl
              rw [e1, hf, List.append_assoc]
              rfl
            refine ⟨⟨by show b + 1 ≤ min n 40; omega, by show a < b + 1; omega, 3, X2, c ++ P2 P, [], ?_, fun j hj => ?_, fun _ => Nat.le_refl _, ?_, ?_, fun x hx => absurd hx (List.not_mem_nil), fun st hst => ?_⟩, trivial⟩
            · rw [h3, mr_F t hb.1, htb, if_neg (by omega), if_pos ⟨rfl, by omega⟩]
              rfl
            · rw [h4 j (by omega)]
              show (if j = q + 1 then false else X j) = X j
              rw [if_neg (by omega)]
            · rw [h7, rd_s t hb.1, htb, e]
              rfl
            · simp only [List.length_append, List.length_cons, List.length_nil, P2_len] at h8 ⊢
              omega
            · have hst' : st.length + (b + 1 - a) ≤ 40 := hst
              have e2 : c ++ P2 P ++ P2 [] = c ++ P2 P := List.append_nil _
              rw [e2]
              exact h10 st (by show st.length + (b - (a + 1)) ≤ 40; omega)
          · rw [if_neg q3]
            show mr t n (min n 40 - a) a true g q X = some b
            rw [h3, mr_stk h1' h6 ⟨n1, n2⟩ h4' (fun z => absurd z q3)]
            by_cases q4 : b < n
            · rw [if_pos q4]
            · rw [if_neg q4, if_pos (by omega)]
              congr 1
              omega
      rw [if_neg q2]
      by_cases q3 : 48 ≤ hr t n a ∧ hr t n a ≤ 57
      · rw [if_pos q3]
        have hin := hr_in (t := t) (n := n) (b := a) (by omega)
        have hd : dgt (t a) := by rw [← hin.2]; exact q3
        have m1 : mr t n (min n 40 - a) a true g q X = mr t n (min n 40 - (a + 1)) (a + 1) false 1 q X := by
          rw [mr_T t hin.1, if_neg (by omega), if_pos hd]
        have r1 : rd t (min n 40 - a) a true C W = rd t (min n 40 - (a + 1)) (a + 1) false (C ++ [nI (t a - 48)]) W := by
          have e : rsS (t a) true C W = (false, C ++ [nI (t a - 48)], W) := by
            unfold rsS wrC
            rw [if_pos hd, if_pos rfl, if_pos (by omega)]
          rw [rd_s t hin.1, e]
        have fin : ∀ (b y g2 : Nat), a < b → b ≤ min n 40 → y < 1000 → (dgt (hr t n b) → 3 ≤ g2) → mr t n (min n 40 - a) a true g q X = mr t n (min n 40 - b) b false g2 q X → rd t (min n 40 - a) a true C W = rd t (min n 40 - b) b false (C ++ [nI y]) W → AS t n th 4 q C W (smX q X) a (mr t n (min n 40 - a) a true g q X) (rd t (min n 40 - a) a true C W) (nI y) b := by
          intro b y g2 hab hb hy hg hm hrd
          refine ⟨hb, hab, g2, X, [nI y], [], hm, fun j _ => rfl, hg, hrd, ?_, fun x hx => absurd hx (List.not_mem_nil), fun st hst => ?_⟩
          · simp only [List.length_cons, List.length_nil]
            omega
          · show rq1 th (nI y) st = nI y :: st
            exact rq_nm th hy (by omega)
        unfold pnm
        by_cases d1 : 48 ≤ hr t n (a + 1) ∧ hr t n (a + 1) ≤ 57
        · have hi1 := hr_in (t := t) (n := n) (b := a + 1) (by omega)
          have hd1 : dgt (t (a + 1)) := by rw [← hi1.2]; exact d1
          obtain ⟨m2, r2⟩ := num_d (q := q) (X := X) (C := C) (W := W) (y := t a - 48) hi1.1 hd1 (show 1 < 3 by decide)
          rw [if_pos d1]
          by_cases d2 : 48 ≤ hr t n (a + 2) ∧ hr t n (a + 2) ≤ 57
          · have hi2 := hr_in (t := t) (n := n) (b := a + 2) (by omega)
            have hd2 : dgt (t (a + 2)) := by rw [← hi2.2]; exact d2
            obtain ⟨m3, r3⟩ := num_d (q := q) (X := X) (C := C) (W := W) (y := 10 * (t a - 48) + (t (a + 1) - 48)) hi2.1 hd2 (show 2 < 3 by decide)
            rw [if_pos d2]
            refine ⟨?_, trivial⟩
            have := fin (a + 3) (10 * (10 * (t a - 48) + (t (a + 1) - 48)) + (t (a + 2) - 48)) 3 (by omega) (by omega) (by omega) (fun _ => Nat.le_refl _) (m1.trans (m2.trans m3)) (r1.trans (r2.trans r3))
            rw [show 10 * (10 * (t a - 48) + (t (a + 1) - 48)) + (t (a + 2) - 48) = 100 * (t a - 48) + 10 * (t (a + 1) - 48) + (t (a + 2) - 48) by omega] at this
            exact this
          · rw [if_neg d2]
            exact ⟨fin (a + 2) (10 * (t a - 48) + (t (a + 1) - 48)) 2 (by omega) (by omega) (by omega) (fun z => absurd z d2) (m1.trans m2) (r1.trans r2), trivial⟩
        · rw [if_neg d1]
          exact ⟨fin (a + 1) (t a - 48) 1 (by omega) (by omega) (by omega) (fun z => absurd z d1) m1 r1, trivial⟩
      rw [if_neg q3]
      cases hlx : lix (hr t n a) with
      | some k =>
        obtain ⟨l1, l2, l3, l4, l5, l6⟩ := lix_8 hlx
        have hin := hr_in (t := t) (n := n) (b := a) (by omega)
        rw [hin.2] at hlx l2 l3 l4 l5 l6
        have m1 : mr t n (min n 40 - a) a true g q X = mr t n (min n 40 - (a + 1)) (a + 1) false 3 q X := by
          rw [mr_T t hin.1, if_neg (fun z => l5 z.1), if_neg l3, if_pos (by rw [hlx]; rfl)]
        have r1 : rd t (min n 40 - a) a true C W = rd t (min n 40 - (a + 1)) (a + 1) false (C ++ [nI (1000 + k)]) W := by
          have e : rsS (t a) true C W = (false, C ++ [nI (1000 + k)], W) := by
            unfold rsS wrC
            rw [if_neg l3, hlx]
            show (false, (if C.length < 40 then C ++ [nI (1000 + k)] else C), W) = _
            rw [if_pos (by omega)]
          rw [rd_s t hin.1, e]
        refine ⟨⟨by show a + 1 ≤ min n 40; omega, Nat.lt_succ_self a, 3, X, [nI (1000 + k)], [], m1, fun j _ => rfl, fun _ => Nat.le_refl _, r1, ?_, fun x hx => absurd hx (List.not_mem_nil), fun st hst => ?_⟩, trivial⟩
        · simp only [List.length_cons, List.length_nil]
          omega
        · have hst' : st.length + (a + 1 - a) ≤ 40 := hst
          show rq1 th (nI (1000 + k)) st = th k :: st
          exact rq_lt th l1 (by omega)
      | none =>
        show mr t n (min n 40 - a) a true g q X = some a
        by_cases hin : a < min n 40
        · rw [hr_of hin] at q1 q2 q3 hlx
          rw [mr_T t hin, if_neg q2, if_neg q3, if_neg (by rw [hlx]; decide), if_neg q1]
        · rw [show min n 40 - a = 0 by omega, mr_0]
          by_cases q4 : 40 < n
          · rw [if_pos q4]; congr 1; omega
          · rw [if_neg q4, if_pos (Or.inl rfl)]; congr 1; omega
/-- the class and the reference -/
theorem shy_all (hn : 0 < n) (th : Nat → Int32) : match pp t n th 1000 0 0 0 0 with
    | .inl e => mr t n (min n 40) 0 true 0 0 (fun _ => false) = some e
    | .inr y => if y.2 < n then mr t n (min n 40) 0 true 0 0 (fun _ => false) = some y.2 else (mr t n (min n 40) 0 true 0 0 (fun _ => false) = none ∧ n ≤ 40 ∧ y.2 = n ∧ rpv th (rd t n 0 true [] []) = y.1) := by
  have h := (shy (t := t) (n := n) (th := th) 1000 0 0 0 (by decide) (Nat.zero_le _)).1 (by decide) [] [] (fun _ => false) 0 (by decide) trivial rfl
  rw [Nat.sub_zero] at h
  cases hs : pp t n th 1000 0 0 0 0 with
  | inl e => rw [hs] at h; exact h
  | inr y =>
    obtain ⟨v, b⟩ := y
    rw [hs] at h
    obtain ⟨⟨h1, h2, g, X, c, P, h3, ⟨h4, h4'⟩, h5, h6, h7, h8, h9⟩, n1, n2⟩ := h
    have h1' : b ≤ min n 40 := h1
    have hm := mr_stk (q := 0) h1' h5 ⟨n1, n2⟩ h4' (fun _ => rfl)
    rw [← h3] at hm
    show if b < n then _ else _
    by_cases q : b < n
    · rw [if_pos q]
      rw [if_pos q] at hm
      exact hm
    · rw [if_neg q]
      rw [if_neg q, if_neg (by decide)] at hm
      have hb : b = n := by omega
      refine ⟨hm, by omega, hb, ?_⟩
      have e40 : min n 40 = n := by omega
      have h6' : rd t (min n 40) 0 true [] [] = rd t (min n 40 - b) b false ([] ++ c) (P ++ []) := h6
      rw [e40, hb, Nat.sub_self] at h6'
      have h7' : 0 + c.length + P.length + 0 ≤ b := h7
      have e2 : rd t 0 n false ([] ++ c) (P ++ []) = c ++ P2 P := by
        show (fls 1 (P ++ []) ([] ++ c)).2 = _
        rw [fls_app (W := []) trivial P _ h8 (by rw [List.nil_append]; omega)]
        rfl
      rw [h6', e2]
      unfold rpv
      have h9' : evl th (c ++ P2 P) (b - 0) v := h9
      rw [h9' [] (by show 0 + (b - 0) ≤ 40; omega)]
      rfl
end SH
