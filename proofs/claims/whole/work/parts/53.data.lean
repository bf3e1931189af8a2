/-! What both sides stand for: one tuple of plain data; QX: the class's cells stand for it, QM: the reference's do. -/
abbrev DD : Type := (Nat × (Nat → Nat)) × (Nat × (Nat → Int32) × (Nat → Bool)) × ((Nat → Int32) → Int32) × ((Nat → Int32) × (Nat → Int32)) × ((Nat → Nat) × (Nat → Nat) × (Nat → Nat → Int32)) × (Nat → Int32) × (Nat × (Nat → Nat → Int32)) × ((Nat → Bool) × (Nat → Nat → Int32)) × (Nat × (Nat → Int64)) × (Int32 × (Nat → Int32))
/-- the text -/
abbrev dT (D : DD) : Nat := D.1.1
abbrev dt (D : DD) : Nat → Nat := D.1.2
/-- fields, heights, rivers -/
abbrev dF (D : DD) : Nat := D.2.1.1
abbrev dh (D : DD) : Nat → Int32 := D.2.1.2.1
abbrev dr (D : DD) : Nat → Bool := D.2.1.2.2
/-- what the rule says of eight things -/
abbrev dV (D : DD) : (Nat → Int32) → Int32 := D.2.2.1
abbrev db (D : DD) : Nat → Int32 := D.2.2.2.1.1
abbrev dl (D : DD) : Nat → Int32 := D.2.2.2.1.2
/-- wishes: how many, told on, digits -/
abbrev dn (D : DD) : Nat → Nat := D.2.2.2.2.1.1
abbrev dd (D : DD) : Nat → Nat := D.2.2.2.2.1.2.1
abbrev dw (D : DD) : Nat → Nat → Int32 := D.2.2.2.2.1.2.2
/-- the standing -/
abbrev dg (D : DD) : Nat → Int32 := D.2.2.2.2.2.1
/-- to be undone: how many, from the oldest on -/
abbrev du (D : DD) : Nat := D.2.2.2.2.2.2.1.1
abbrev dU (D : DD) : Nat → Nat → Int32 := D.2.2.2.2.2.2.1.2
abbrev dk (D : DD) : Nat → Bool := D.2.2.2.2.2.2.2.1.1
abbrev dK (D : DD) : Nat → Nat → Int32 := D.2.2.2.2.2.2.2.1.2
/-- the row -/
abbrev dm (D : DD) : Nat := D.2.2.2.2.2.2.2.2.1.1
abbrev dR (D : DD) : Nat → Int64 := D.2.2.2.2.2.2.2.2.1.2
/-- marches seen -/
abbrev ds (D : DD) : Int32 := D.2.2.2.2.2.2.2.2.2.1
abbrev dS (D : DD) : Nat → Int32 := D.2.2.2.2.2.2.2.2.2.2
def uT (D : DD) (T : Nat) (t : Nat → Nat) : DD := ((T, t), D.2)
def uL (D : DD) (F : Nat) (h : Nat → Int32) (r : Nat → Bool) : DD := (D.1, (F, h, r), D.2.2)
def uV (D : DD) (V : (Nat → Int32) → Int32) : DD := (D.1, D.2.1, V, D.2.2.2)
def uB (D : DD) (b l : Nat → Int32) : DD := (D.1, D.2.1, D.2.2.1, (b, l), D.2.2.2.2)
def uN (D : DD) (n m : Nat → Nat) (w : Nat → Nat → Int32) : DD := (D.1, D.2.1, D.2.2.1, D.2.2.2.1, (n, m, w), D.2.2.2.2.2)
def uG (D : DD) (g : Nat → Int32) : DD := (D.1, D.2.1, D.2.2.1, D.2.2.2.1, D.2.2.2.2.1, g, D.2.2.2.2.2.2)
def uU (D : DD) (n : Nat) (U : Nat → Nat → Int32) : DD := (D.1, D.2.1, D.2.2.1, D.2.2.2.1, D.2.2.2.2.1, D.2.2.2.2.2.1, (n, U), D.2.2.2.2.2.2.2)
def uK (D : DD) (k : Nat → Bool) (K : Nat → Nat → Int32) : DD := (D.1, D.2.1, D.2.2.1, D.2.2.2.1, D.2.2.2.2.1, D.2.2.2.2.2.1, D.2.2.2.2.2.2.1, (k, K), D.2.2.2.2.2.2.2.2)
def uW (D : DD) (n : Nat) (R : Nat → Int64) : DD := (D.1, D.2.1, D.2.2.1, D.2.2.2.1, D.2.2.2.2.1, D.2.2.2.2.2.1, D.2.2.2.2.2.2.1, D.2.2.2.2.2.2.2.1, (n, R), D.2.2.2.2.2.2.2.2.2)
def uS (D : DD) (b : Int32) (S : Nat → Int32) : DD := (D.1, D.2.1, D.2.2.1, D.2.2.2.1, D.2.2.2.2.1, D.2.2.2.2.2.1, D.2.2.2.2.2.2.1, D.2.2.2.2.2.2.2.1, D.2.2.2.2.2.2.2.2.1, (b, S))
/-- a byte as it lies in an array of bytes -/
def sby (n : Nat) : Int32 := if n < 128 then nI n else nI n - 256
/-- the class's rule, worked out: st the operands that wait (the last one first), as the class keeps them: at most 40 -/
def jn (o a b : Int32) : Int32 := if o = 60 then (if a < b then 1 else 0) else if o = 62 then (if b < a then 1 else 0) else if o = 61 then (if a = b then 1 else 0) else if o = 43 then a + b else if o = 45 then a - b else if o = 42 then a * b else if b = 0 then 0 else a / b
def psh (st : List Int32) (x : Int32) : List Int32 := if st.length < 40 then x :: st else st
def rq1 (th : Nat → Int32) (x : Int32) (st : List Int32) : List Int32 :=
  if x < 1000 then psh st x
  else if x < 2000 then psh st (if x - 1000 < 8 then th (x - 1000).toNatClampNeg else 0)
  else if x = 2256 then psh st.tail (-st.headD 0)
  else psh st.tail.tail (jn (x - 2000) (st.tail.headD 0) (st.headD 0))
def rpn (th : Nat → Int32) : List Int32 → List Int32 → List Int32
  | [], st => st
  | x :: l, st => rpn th l (rq1 th x st)
def rpv (th : Nat → Int32) (l : List Int32) : Int32 := (rpn th l []).headD 0
/-- the reference's rule, read: t the signs, L how many, th the things; modes: 0 held, 1 sum, 2 sum goes on, 3 product, 4 product goes on, 5 thing. Answers: .inl the wrong place, .inr the number and the next place -/
def hr (t : Nat → Nat) (L a : Nat) : Nat := if a < L ∧ a < 40 then t a else 999
def isd (x : Nat) : Prop := 48 ≤ x ∧ x ≤ 57
def lix (x : Nat) : Option Nat := if x = 98 then some 0 else if x = 108 then some 1 else if x = 104 then some 2 else if x = 109 then some 3 else if x = 101 then some 4 else if x = 102 then some 5 else if x = 100 then some 6 else if x = 119 then some 7 else none
def pnm (t : Nat → Nat) (L a : Nat) : Int32 × Nat :=
  if 48 ≤ hr t L (a + 1) ∧ hr t L (a + 1) ≤ 57 then
    (if 48 ≤ hr t L (a + 2) ∧ hr t L (a + 2) ≤ 57 then (nI (100 * (t a - 48) + 10 * (t (a + 1) - 48) + (t (a + 2) - 48)), a + 3)
    else (nI (10 * (t a - 48) + (t (a + 1) - 48)), a + 2))
  else (nI (t a - 48), a + 1)
def pbd (x : Nat ⊕ (Int32 × Nat)) (f : Int32 → Nat → Nat ⊕ (Int32 × Nat)) : Nat ⊕ (Int32 × Nat) := match x with
  | .inl e => .inl e
  | .inr y => f y.1 y.2
def pp (t : Nat → Nat) (L : Nat) (th : Nat → Int32) : Nat → Nat → Nat → Int32 → Nat → Nat ⊕ (Int32 × Nat)
  | 0, _, _, _, a => .inl a
  | n + 1, 0, q, _, a => pbd (pp t L th n 1 q 0 a) fun v b =>
      if hr t L b = 60 ∨ hr t L b = 62 ∨ hr t L b = 61 then pbd (pp t L th n 1 q 0 (b + 1)) fun o e => .inr (jn (nI (hr t L b)) v o, e)
      else .inr (v, b)
  | n + 1, 1, q, _, a => pbd (pp t L th n 3 q 0 a) fun v b => pp t L th n 2 q v b
  | n + 1, 2, q, v, b =>
    if hr t L b = 43 ∨ hr t L b = 45 then pbd (pp t L th n 3 q 0 (b + 1)) fun o e => pp t L th n 2 q (jn (nI (hr t L b)) v o) e
    else .inr (v, b)
  | n + 1, 3, q, _, a => pbd (pp t L th n 5 q 0 a) fun v b => pp t L th n 4 q v b
  | n + 1, 4, q, v, b =>
    if hr t L b = 42 ∨ hr t L b = 47 then pbd (pp t L th n 5 q 0 (b + 1)) fun o e => pp t L th n 4 q (jn (nI (hr t L b)) v o) e
    else .inr (v, b)
  | n + 1, _, q, _, a =>
    if hr t L a = 45 then pbd (pp t L th n 5 q 0 (a + 1)) fun v b => .inr (-v, b)
    else if hr t L a = 40 ∧ q < 4 then pbd (pp t L th n 0 (q + 1) 0 (a + 1)) fun v b => if hr t L b = 41 then .inr (v, b + 1) else .inl b
    else if 48 ≤ hr t L a ∧ hr t L a ≤ 57 then .inr (pnm t L a)
    else match lix (hr t L a) with
      | some i => .inr (th i, a + 1)
      | none => .inl a
/-- no rule told -/
def dfl (th : Nat → Int32) : Int32 := (th 0 + 1) * 3 + th 2 * 4 + (th 3 - th 4) / 2
def XT (s : gs) (D : DD) : Prop := dT D ≤ 80 ∧ gsV s 1 1 = nI (dT D) ∧ ∀ i, i < dT D → dt D i < 256 ∧ gsA s 2 i = nI (dt D i)
def MT (s : gs) (D : DD) : Prop := dT D ≤ 80 ∧ gsV s 48 10 = nI (dT D) ∧ ∀ i, i < dT D → dt D i < 256 ∧ gsA s 57 i = sby (dt D i)
def okF (D : DD) : Prop := 2 ≤ dF D ∧ dF D ≤ 12
def XL (s : gs) (D : DD) : Prop := okF D ∧ gsV s 3 2 = nI (dF D) ∧ (∀ i, i < dF D → gsA s 4 i = dh D i) ∧ ∀ i, i < 12 → (gsV s 3 1).toBitVec.getLsbD i = (decide (i + 1 < dF D) && dr D i)
def ML (s : gs) (D : DD) : Prop := okF D ∧ gsV s 48 1 = nI (dF D) ∧ (∀ i, i < dF D → gsA s 50 i = dh D i) ∧ ∀ i, i + 1 < dF D → gsA s 51 i = if dr D i then 1 else 0
def XR (s : gs) (D : DD) : Prop := ∃ l : List Int32, l.length ≤ 40 ∧ gsV s 5 1 = nI l.length ∧ (∀ i, i < l.length → gsA s 6 i = l.getD i 0) ∧ ∀ th, rpv th l = dV D th
def MR (s : gs) (D : DD) : Prop := ∃ (L : Nat) (t : Nat → Nat), L ≤ 40 ∧ gsV s 48 22 = nI L ∧ (∀ i, i < L → t i < 256 ∧ gsA s 61 i = sby (t i)) ∧ (L = 0 → ∀ th, dV D th = dfl th) ∧ (0 < L → ∀ th, pp t L th 1000 0 0 0 0 = .inr (dV D th, L))
def XD (s : gs) (D : DD) : Prop := gsV s 10 0 = db D 0 ∧ gsV s 12 0 = db D 1 ∧ gsV s 10 1 = dl D 0 ∧ gsV s 12 1 = dl D 1
def MD (s : gs) (D : DD) : Prop := ∀ i, i < 2 → gsA s 52 i = db D i ∧ gsA s 53 i = dl D i
def XN (s : gs) (D : DD) : Prop := ∀ i, i < 2 → dn D i ≤ 20 ∧ gsV s (10 + 2 * i) 3 = nI (dn D i) ∧ gsV s (10 + 2 * i) 4 = nI (dd D i) ∧ ∀ k, k < dn D i → gsA s (11 + 2 * i) k = dw D i k
def MN (s : gs) (D : DD) : Prop := ∀ i, i < 2 → dn D i ≤ 20 ∧ gsA s 56 i = nI (dn D i) ∧ gsA s 55 i = nI (dd D i) ∧ ∀ k, k < dn D i → gsA s 54 (20 * i + k) = dw D i k
def XG (s : gs) (D : DD) : Prop := xg s 14 = dg D
def MG (s : gs) (D : DD) : Prop := gsA s 49 = dg D
def XU (s : gs) (D : DD) : Prop := gsV s 17 2 = nI (du D) ∧ du D ≤ 12 ∧ ∃ p, p < 12 ∧ gsV s 17 1 = nI p ∧ ∀ i, i < du D → xg s (19 + (p + 12 - du D + i) % 12) = dU D i
def MU (s : gs) (D : DD) : Prop := gsV s 48 26 = nI (du D) ∧ du D ≤ 12 ∧ ∀ i, i < du D → ∀ k, k < 108 → gsA s 63 (108 * i + k) = dU D i k
def XK (s : gs) (D : DD) : Prop := ∀ i, i < 2 → (gsV s 0 10).toBitVec.getLsbD i = dk D i ∧ (dk D i = true → xg s (32 + i) = dK D i)
def MK (s : gs) (D : DD) : Prop := ∀ i, i < 2 → gsA s 72 i = (if dk D i then 1 else 0) ∧ (dk D i = true → ∀ k, k < 108 → gsA s 71 (108 * i + k) = dK D i k)
def XW (s : gs) (D : DD) : Prop := dm D ≤ 32 ∧ gsV s 34 1 = nI (dm D) ∧ ∀ i, i < dm D → gsR s 35 i = dR D i
def MW (s : gs) (D : DD) : Prop := dm D ≤ 32 ∧ gsV s 48 12 = nI (dm D) ∧ ∀ i, i < dm D → gsR s 58 i = dR D i
def XO (s : gs) (D : DD) : Prop := gsV s 41 1 = ds D ∧ ∀ i, i < 20 → gsA s 42 i = dS D i
def MO (s : gs) (D : DD) : Prop := gsV s 48 34 = ds D ∧ ∀ i, i < 20 → gsA s 69 i = dS D i
def MZ (s : gs) : Prop := ∀ i, 108 ≤ i → gsA s 65 i = 0
def QX (s : gs) (D : DD) : Prop := XT s D ∧ XL s D ∧ XR s D ∧ XD s D ∧ XN s D ∧ XG s D ∧ XU s D ∧ XK s D ∧ XW s D ∧ XO s D
def QM (s : gs) (D : DD) : Prop := MT s D ∧ ML s D ∧ MR s D ∧ MD s D ∧ MN s D ∧ MG s D ∧ MU s D ∧ MK s D ∧ MW s D ∧ MO s D ∧ MZ s
def okG (F B : Nat) (g : Nat → Int32) : Prop := (∃ n, n ≤ B ∧ g 0 = nI n) ∧ (∃ n, n < F ∧ g 1 = nI n) ∧ (∃ n, n < F ∧ g 2 = nI n) ∧ (∃ n, n ≤ 9999 ∧ g 3 = nI n) ∧ (∃ n, n ≤ 9999 ∧ g 4 = nI n) ∧ (∃ n, n ≤ 9999 ∧ g 5 = nI n) ∧ ∀ i, 108 ≤ i → g i = 0
def VD (B : Nat) (D : DD) : Prop := okF D ∧ okG (dF D) B (dg D) ∧ (∀ i, i < du D → okG (dF D) B (dU D i)) ∧ (∀ i, i < 2 → dk D i = true → okG (dF D) B (dK D i)) ∧ ∀ i, i < 2 → dd D i ≤ B ∧ (∃ n, n ≤ 9 ∧ db D i = nI n) ∧ ∀ k, k < dn D i → ∃ n, n ≤ 9 ∧ dw D i k = nI n
def frX (s s' : gs) : Prop := ∀ b, 48 ≤ b → gsV s' b = gsV s b ∧ gsE s' b = gsE s b ∧ gsA s' b = gsA s b ∧ gsR s' b = gsR s b
def frM (s s' : gs) : Prop := ∀ b, b < 48 → gsV s' b = gsV s b ∧ gsE s' b = gsE s b ∧ gsA s' b = gsA s b ∧ gsR s' b = gsR s b
def XS (s0 s : gs) (D : DD) : Prop := QX s D ∧ frX s0 s
def MS (s0 s : gs) (D : DD) : Prop := QM s D ∧ frM s0 s
theorem frX_rf (s : gs) : frX s s := fun _ _ => ⟨rfl, rfl, rfl, rfl⟩
theorem frM_rf (s : gs) : frM s s := fun _ _ => ⟨rfl, rfl, rfl, rfl⟩
theorem xg_cg {s s' : gs} {a : Nat} (h1 : gsV s' a = gsV s a) (h2 : gsE s' a = gsE s a) : xg s' a = xg s a := by
  unfold xg
  rw [h1, h2]
theorem QM_frX {s s' : gs} {D : DD} (h : QM s D) (f : frX s s') : QM s' D := by
  have v := (f 48 (by decide)).1
  have a : ∀ b, 48 ≤ b → gsA s' b = gsA s b := fun b hb => (f b hb).2.2.1
  have r := (f 58 (by decide)).2.2.2
  unfold QM MT ML MR MD MN MG MU MK MW MO MZ at h ⊢
  rw [v, r, a 57 (by decide), a 50 (by decide), a 51 (by decide), a 61 (by decide), a 52 (by decide), a 53 (by decide), a 54 (by decide), a 55 (by decide), a 56 (by decide), a 49 (by decide), a 63 (by decide), a 71 (by decide), a 72 (by decide), a 69 (by decide), a 65 (by decide)]
  exact h
theorem QX_frM {s s' : gs} {D : DD} (h : QX s D) (f : frM s s') : QX s' D := by
  have v : ∀ b, b < 48 → gsV s' b = gsV s b := fun b hb => (f b hb).1
  have a : ∀ b, b < 48 → gsA s' b = gsA s b := fun b hb => (f b hb).2.2.1
  have r := (f 35 (by decide)).2.2.2
  have x : ∀ b, b < 48 → xg s' b = xg s b := fun b hb => xg_cg (f b hb).1 (f b hb).2.1
  obtain ⟨h1, h2, h3, h4, h5, h6, h7, h8, h9, h10⟩ := h
  refine ⟨?_, ?_, ?_, ?_, ?_, ?_, ?_, ?_, ?_, ?_⟩
  · unfold XT at *; rw [v 1 (by decide), a 2 (by decide)]; exact h1
  · unfold XL at *; rw [v 3 (by decide), a 4 (by decide)]; exact h2
  · unfold XR at *; rw [v 5 (by decide), a 6 (by decide)]; exact h3
  · unfold XD at *; rw [v 10 (by decide), v 12 (by decide)]; exact h4
  · unfold XN at *
    intro i hi
    rw [v (10 + 2 * i) (by omega), a (11 + 2 * i) (by omega)]; exact h5 i hi
  · unfold XG at *; rw [x 14 (by decide)]; exact h6
  · unfold XU at *
    rw [v 17 (by decide)]
    obtain ⟨a1, a2, p, a3, a4, a5⟩ := h7
    refine ⟨a1, a2, p, a3, a4, fun i hi => ?_⟩
    rw [x _ (by omega)]; exact a5 i hi
  · unfold XK at *
    intro i hi
    rw [v 0 (by decide), x (32 + i) (by omega)]; exact h8 i hi
  · unfold XW at *; rw [v 34 (by decide), r]; exact h9
  · unfold XO at *; rw [v 41 (by decide), a 42 (by decide)]; exact h10
