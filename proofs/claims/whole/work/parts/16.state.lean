/-! The heap once both objects are made: 74 cells of a fixed shape; what changes are numbers. gs: the int fields, the long fields, the int arrays (byte, char, boolean too), the long arrays, the array that the reference reads (0: none). -/
abbrev gs : Type := (Nat → Nat → Int32) × (Nat → Nat → Int64) × (Nat → Nat → Int32) × (Nat → Nat → Int64) × Nat
abbrev gsV (s : gs) : Nat → Nat → Int32 := s.1
abbrev gsE (s : gs) : Nat → Nat → Int64 := s.2.1
abbrev gsA (s : gs) : Nat → Nat → Int32 := s.2.2.1
abbrev gsR (s : gs) : Nat → Nat → Int64 := s.2.2.2.1
abbrev gsP (s : gs) : Nat := s.2.2.2.2
def gs_u2 {α : Type} (f : Nat → Nat → α) (a k : Nat) (x : α) : Nat → Nat → α := fun i j => if i = a then (if j = k then x else f i j) else f i j
def gs_V (s : gs) (a k : Nat) (x : Int32) : gs := (gs_u2 (gsV s) a k x, s.2)
def gs_E (s : gs) (a k : Nat) (x : Int64) : gs := (s.1, gs_u2 (gsE s) a k x, s.2.2)
def gs_A (s : gs) (a k : Nat) (x : Int32) : gs := (s.1, s.2.1, gs_u2 (gsA s) a k x, s.2.2.2)
def gs_R (s : gs) (a k : Nat) (x : Int64) : gs := (s.1, s.2.1, s.2.2.1, gs_u2 (gsR s) a k x, s.2.2.2.2)
def gs_P (s : gs) (r : Nat) : gs := (s.1, s.2.1, s.2.2.1, s.2.2.2.1, r)
/-- the shapes: an array's kind and length; an object's class and fields: 0 an int, 1 a long, 2 the array that is read, 3 + n the cell n -/
def gs_st : (Nat × Nat) ⊕ (Nat × List Nat) := .inr (6, [0, 0, 0, 0, 0, 0, 1, 1, 0, 0])
def gs_shl : List (List ((Nat × Nat) ⊕ (Nat × List Nat))) := [
  [.inr (9, [4, 6, 8, 13, 15, 17, 18, 19, 20, 34, 0, 37, 39, 44, 48, 49, 50]), .inr (7, [5, 0]), .inl (1, 80), .inr (1, [7, 0, 0]), .inl (0, 12), .inr (0, [9, 0, 10, 0]), .inl (0, 40), .inl (0, 40), .inr (7, [12, 0]), .inl (1, 80), .inr (2, [0, 0, 14, 0, 0]), .inl (0, 20), .inr (2, [0, 0, 16, 0, 0]), .inl (0, 20), gs_st, gs_st],
  [gs_st, .inr (4, [21, 0, 0]), .inl (5, 12), gs_st, gs_st, gs_st, gs_st, gs_st, gs_st, gs_st, gs_st, gs_st, gs_st, gs_st, gs_st, .inl (5, 2)],
  [gs_st, gs_st, .inr (5, [38, 0]), .inl (2, 32), .inr (8, [40, 41, 42, 43, 0, 0]), .inl (0, 12), .inl (0, 12), .inl (0, 20), .inl (0, 21), .inr (3, [45, 0, 46, 47]), .inl (0, 20), .inl (0, 20), .inl (0, 160), .inl (0, 8), .inl (0, 30), .inl (0, 30)],
  [.inr (10, [52, 0, 53, 54, 55, 56, 57, 58, 59, 60, 0, 61, 0, 0, 2, 0, 0, 0, 0, 62, 63, 64, 0, 0, 65, 66, 0, 67, 68, 69, 70, 71, 0, 72, 0, 73, 0, 0, 74, 75]), .inl (0, 108), .inl (0, 12), .inl (4, 12), .inl (0, 2), .inl (0, 2), .inl (0, 40), .inl (0, 2), .inl (0, 2), .inl (3, 80), .inl (2, 32), .inl (0, 12), .inl (4, 12), .inl (3, 40), .inl (0, 8), .inl (0, 1296)],
  [.inl (0, 108), .inl (0, 108), .inl (0, 160), .inl (0, 21), .inl (0, 252), .inl (0, 20), .inl (0, 168), .inl (0, 216), .inl (4, 2), .inl (2, 1)]]
def gs_sh (i : Nat) : (Nat × Nat) ⊕ (Nat × List Nat) := (gs_shl.getD (i / 16) []).getD (i % 16) (.inl (9, 0))
def gs_val (s : gs) (i k : Nat) : Nat → Value
  | 0 => .int (gsV s i k)
  | 1 => .long (gsE s i k)
  | 2 => if gsP s = 0 then .null else .ref (gsP s)
  | n + 3 => .ref n
/-- an array of cells begins behind itself -/
def gs_cell (s : gs) (i : Nat) : gm_C := match gs_sh i with
  | .inl (t, n) => if t = 2 then .inl (2, n, .inr (.inl (gsR s i))) else if t = 5 then .inl (5, n, .inr (.inr (.inr (.inr fun k => some (i + 1 + k))))) else .inl (t, n, .inl (gsA s i))
  | .inr (ci, ks) => .inr (ci, ks.mapIdx (fun k q => gs_val s i k q))
def RL (h : gm_H) (s : gs) : Prop := h.1 = 74 ∧ ∀ i, i < 74 → h.2 i = gs_cell s i
/-- cell r is an object of class ci whose field k is of kind q -/
def gs_fk (r ci k q : Nat) : Bool := decide (r < 74) && (match gs_sh r with
  | .inr (c, ks) => decide (c = ci) && decide (ks[k]? = some q)
  | _ => false)
def gs_isC (r ci : Nat) : Bool := decide (r < 74) && (match gs_sh r with
  | .inr (c, _) => decide (c = ci)
  | _ => false)
def gs_isA (r t n : Nat) : Bool := decide (r < 74) && (match gs_sh r with
  | .inl q => decide (q = (t, n))
  | _ => false)
theorem RL_get {h : gm_H} {s : gs} (hR : RL h s) {i : Nat} (hi : i < 74) : gm_get h i = some (gs_cell s i) := by
  unfold gm_get
  rw [hR.1, if_pos hi, hR.2 i hi]
theorem gs_isC_of {r ci : Nat} (h : gs_isC r ci = true) : r < 74 ∧ ∃ ks, gs_sh r = .inr (ci, ks) := by
  unfold gs_isC at h
  rw [Bool.and_eq_true] at h
  refine ⟨of_decide_eq_true h.1, ?_⟩
  cases hs : gs_sh r with
  | inl q => rw [hs] at h; cases h.2
  | inr q =>
    obtain ⟨c, ks⟩ := q
    rw [hs] at h
    have : c = ci := of_decide_eq_true h.2
    subst this
    exact ⟨ks, rfl⟩
theorem gs_fk_of {r ci k q : Nat} (h : gs_fk r ci k q = true) : r < 74 ∧ ∃ ks, gs_sh r = .inr (ci, ks) ∧ ks[k]? = some q := by
  unfold gs_fk at h
  rw [Bool.and_eq_true] at h
  refine ⟨of_decide_eq_true h.1, ?_⟩
  cases hs : gs_sh r with
  | inl q => rw [hs] at h; cases h.2
  | inr z =>
    obtain ⟨c, ks⟩ := z
    rw [hs] at h
    have h2 : (decide (c = ci) && decide (ks[k]? = some q)) = true := h.2
    rw [Bool.and_eq_true] at h2
    have : c = ci := of_decide_eq_true h2.1
    subst this
    exact ⟨ks, rfl, of_decide_eq_true h2.2⟩
theorem gs_isA_of {r t n : Nat} (h : gs_isA r t n = true) : r < 74 ∧ gs_sh r = .inl (t, n) := by
  unfold gs_isA at h
  rw [Bool.and_eq_true] at h
  refine ⟨of_decide_eq_true h.1, ?_⟩
  cases hs : gs_sh r with
  | inr q => rw [hs] at h; cases h.2
  | inl z =>
    rw [hs] at h
    have h2 : decide (z = (t, n)) = true := h.2
    rw [of_decide_eq_true h2]
theorem RL_o {h : gm_H} {s : gs} (hR : RL h s) {r ci : Nat} (hc : gs_isC r ci = true) : ∃ fs, gm_get h r = some (.inr (ci, fs)) := by
  obtain ⟨h1, ks, h2⟩ := gs_isC_of hc
  refine ⟨ks.mapIdx (fun k q => gs_val s r k q), ?_⟩
  rw [RL_get hR h1]
  unfold gs_cell
  rw [h2]
theorem RL_f {h : gm_H} {s : gs} (hR : RL h s) {r ci k q : Nat} (hc : gs_fk r ci k q = true) : gm_fld h r ci k = some (gs_val s r k q) := by
  obtain ⟨h1, ks, h2, h3⟩ := gs_fk_of hc
  unfold gm_fld
  rw [RL_get hR h1]
  unfold gs_cell
  rw [h2]
  show (if ci = ci then (ks.mapIdx (fun k q => gs_val s r k q))[k]? else none) = _
  rw [if_pos rfl, List.getElem?_mapIdx, h3]
  rfl
theorem RL_fI {h : gm_H} {s : gs} (hR : RL h s) {r ci k : Nat} (hc : gs_fk r ci k 0 = true) : gm_fld h r ci k = some (.int (gsV s r k)) := RL_f hR hc
theorem RL_fJ {h : gm_H} {s : gs} (hR : RL h s) {r ci k : Nat} (hc : gs_fk r ci k 1 = true) : gm_fld h r ci k = some (.long (gsE s r k)) := RL_f hR hc
theorem RL_fR {h : gm_H} {s : gs} (hR : RL h s) {r ci k n : Nat} (hc : gs_fk r ci k (n + 3) = true) : gm_fld h r ci k = some (.ref n) := RL_f hR hc
theorem RL_fP {h : gm_H} {s : gs} (hR : RL h s) (hp : ¬ gsP s = 0) : gm_fld h 48 10 14 = some (.ref (gsP s)) := by
  have := RL_f hR (r := 48) (ci := 10) (k := 14) (q := 2) (by decide)
  rw [this]
  show some (if gsP s = 0 then Value.null else .ref (gsP s)) = _
  rw [if_neg hp]
theorem RL_a {h : gm_H} {s : gs} (hR : RL h s) {a t n : Nat} (hc : gs_isA a t n = true) (ht : ¬ t = 2 ∧ ¬ t = 5) : gm_get h a = some (.inl (t, n, .inl (gsA s a))) := by
  obtain ⟨h1, h2⟩ := gs_isA_of hc
  rw [RL_get hR h1]
  unfold gs_cell
  rw [h2]
  show some (if t = 2 then _ else if t = 5 then _ else _) = _
  rw [if_neg ht.1, if_neg ht.2]
theorem RL_aJ {h : gm_H} {s : gs} (hR : RL h s) {a n : Nat} (hc : gs_isA a 2 n = true) : gm_get h a = some (.inl (2, n, .inr (.inl (gsR s a)))) := by
  obtain ⟨h1, h2⟩ := gs_isA_of hc
  rw [RL_get hR h1]
  unfold gs_cell
  rw [h2]
  rfl
theorem RL_aR {h : gm_H} {s : gs} (hR : RL h s) {a n : Nat} (hc : gs_isA a 5 n = true) : gm_get h a = some (.inl (5, n, .inr (.inr (.inr (.inr fun k => some (a + 1 + k)))))) := by
  obtain ⟨h1, h2⟩ := gs_isA_of hc
  rw [RL_get hR h1]
  unfold gs_cell
  rw [h2]
  rfl
theorem RL_set {h : gm_H} {s s' : gs} (hR : RL h s) {a : Nat} {c : gm_C} (hc : gs_cell s' a = c) (ho : ∀ i, i < 74 → i ≠ a → gs_cell s' i = gs_cell s i) : RL (gm_put h a c) s' := by
  refine ⟨hR.1, fun i hi => ?_⟩
  show va_up h.2 a c i = _
  unfold va_up
  by_cases e : i = a
  · rw [if_pos e, e, hc]
  · rw [if_neg e, hR.2 i hi, ho i hi e]
theorem gs_cell_congr {s s' : gs} {i : Nat} (h1 : ∀ k, gsV s' i k = gsV s i k) (h2 : ∀ k, gsE s' i k = gsE s i k) (h3 : gsA s' i = gsA s i) (h4 : gsR s' i = gsR s i) (h5 : i = 48 → gsP s' = gsP s) (h6 : ∀ ci ks, gs_sh i = .inr (ci, ks) → i ≠ 48 → ∀ q ∈ ks, q ≠ 2) : gs_cell s' i = gs_cell s i := by
  unfold gs_cell
  cases hs : gs_sh i with
  | inl q => simp only [h3, h4]
  | inr q =>
    obtain ⟨ci, ks⟩ := q
    simp only
    congr 2
    apply List.ext_getElem?
    intro k
    rw [List.getElem?_mapIdx, List.getElem?_mapIdx]
    cases hk : ks[k]? with
    | none => rfl
    | some q =>
      show some (gs_val s' i k q) = some (gs_val s i k q)
      congr 1
      match q, hk with
      | 0, _ => show Value.int _ = Value.int _; rw [h1]
      | 1, _ => show Value.long _ = Value.long _; rw [h2]
      | 2, hk =>
        by_cases e : i = 48
        · show (if gsP s' = 0 then Value.null else .ref (gsP s')) = _
          rw [h5 e]
          rfl
        · exact absurd rfl (h6 ci ks hs e 2 (List.mem_of_getElem? hk))
      | n + 3, _ => rfl
theorem gs_no2 : ∀ i, i < 74 → i ≠ 48 → ∀ q ∈ (match gs_sh i with
    | .inr (_, ks) => ks
    | .inl _ => []), q ≠ 2 := by decide +kernel
theorem gs_no2' {i : Nat} (hi : i < 74) : ∀ ci ks, gs_sh i = .inr (ci, ks) → i ≠ 48 → ∀ q ∈ ks, q ≠ 2 := by
  intro ci ks hs hn q hq
  have := gs_no2 i hi hn q
  rw [hs] at this
  exact this hq
theorem gs_only2 : ∀ k, k < 40 → (match gs_sh 48 with
    | .inr (_, ks) => ks
    | .inl _ => [])[k]? = some 2 → k = 14 := by decide +kernel
/-- writing an int field -/
theorem RL_pI {h : gm_H} {s : gs} (hR : RL h s) {r ci k : Nat} {fs : List Value} {x : Int32} (hc : gs_fk r ci k 0 = true) (hg : gm_get h r = some (.inr (ci, fs))) : k < fs.length ∧ RL (gm_put h r (.inr (ci, fs.set k (.int x)))) (gs_V s r k x) := by
  obtain ⟨h1, ks, h2, h3⟩ := gs_fk_of hc
  have e : fs = ks.mapIdx (fun k q => gs_val s r k q) := by
    rw [RL_get hR h1] at hg
    unfold gs_cell at hg
    rw [h2] at hg
    cases hg
    rfl
  have hl : k < ks.length := (List.getElem?_eq_some_iff.mp h3).1
  refine ⟨by rw [e, List.length_mapIdx]; exact hl, RL_set hR ?_ (fun i hi hn => gs_cell_congr (fun j => ?_) (fun j => rfl) rfl rfl (fun _ => rfl) (gs_no2' hi))⟩
  · unfold gs_cell
    rw [h2]
    simp only
    congr 2
    apply List.ext_getElem?
    intro j
    rw [e, List.getElem?_mapIdx, List.getElem?_set]
    by_cases q : k = j
    · subst q
      rw [if_pos rfl, if_pos (by rw [List.length_mapIdx]; exact hl), h3]
      show some (Value.int (gs_u2 (gsV s) r k x r k)) = _
      simp [gs_u2]
    · rw [if_neg q, List.getElem?_mapIdx]
      cases hk : ks[j]? with
      | none => rfl
      | some z =>
        show some (gs_val (gs_V s r k x) r j z) = some (gs_val s r j z)
        congr 1
        match z with
        | 0 =>
          show Value.int (gs_u2 (gsV s) r k x r j) = .int (gsV s r j)
          simp [gs_u2, Ne.symm q]
        | 1 => rfl
        | 2 => rfl
        | n + 3 => rfl
  · show gs_u2 (gsV s) r k x i j = gsV s i j
    simp [gs_u2, hn]
theorem RL_pJ {h : gm_H} {s : gs} (hR : RL h s) {r ci k : Nat} {fs : List Value} {x : Int64} (hc : gs_fk r ci k 1 = true) (hg : gm_get h r = some (.inr (ci, fs))) : k < fs.length ∧ RL (gm_put h r (.inr (ci, fs.set k (.long x)))) (gs_E s r k x) := by
  obtain ⟨h1, ks, h2, h3⟩ := gs_fk_of hc
  have e : fs = ks.mapIdx (fun k q => gs_val s r k q) := by
    rw [RL_get hR h1] at hg
    unfold gs_cell at hg
    rw [h2] at hg
    cases hg
    rfl
  have hl : k < ks.length := (List.getElem?_eq_some_iff.mp h3).1
  refine ⟨by rw [e, List.length_mapIdx]; exact hl, RL_set hR ?_ (fun i hi hn => gs_cell_congr (fun j => rfl) (fun j => ?_) rfl rfl (fun _ => rfl) (gs_no2' hi))⟩
  · unfold gs_cell
    rw [h2]
    simp only
    congr 2
    apply List.ext_getElem?
    intro j
    rw [e, List.getElem?_mapIdx, List.getElem?_set]
    by_cases q : k = j
    · subst q
      rw [if_pos rfl, if_pos (by rw [List.length_mapIdx]; exact hl), h3]
      show some (Value.long (gs_u2 (gsE s) r k x r k)) = _
      simp [gs_u2]
    · rw [if_neg q, List.getElem?_mapIdx]
      cases hk : ks[j]? with
      | none => rfl
      | some z =>
        show some (gs_val (gs_E s r k x) r j z) = some (gs_val s r j z)
        congr 1
        match z with
        | 0 => rfl
        | 1 =>
          show Value.long (gs_u2 (gsE s) r k x r j) = .long (gsE s r j)
          simp [gs_u2, Ne.symm q]
        | 2 => rfl
        | n + 3 => rfl
  · show gs_u2 (gsE s) r k x i j = gsE s i j
    simp [gs_u2, hn]
theorem RL_pP {h : gm_H} {s : gs} (hR : RL h s) {r : Nat} {fs : List Value} (h0 : ¬ r = 0) (hg : gm_get h 48 = some (.inr (10, fs))) : 14 < fs.length ∧ RL (gm_put h 48 (.inr (10, fs.set 14 (.ref r)))) (gs_P s r) := by
  obtain ⟨h1, ks, h2, h3⟩ := gs_fk_of (r := 48) (ci := 10) (k := 14) (q := 2) (by decide)
  have e : fs = ks.mapIdx (fun k q => gs_val s 48 k q) := by
    rw [RL_get hR h1] at hg
    unfold gs_cell at hg
    rw [h2] at hg
    cases hg
    rfl
  have hl : 14 < ks.length := (List.getElem?_eq_some_iff.mp h3).1
  refine ⟨by rw [e, List.length_mapIdx]; exact hl, RL_set hR ?_ (fun i hi hn => gs_cell_congr (fun j => rfl) (fun j => rfl) rfl rfl (fun z => absurd z hn) (gs_no2' hi))⟩
  unfold gs_cell
  rw [h2]
  simp only
  congr 2
  apply List.ext_getElem?
  intro j
  rw [e, List.getElem?_mapIdx, List.getElem?_set]
  by_cases q : 14 = j
  · subst q
    rw [if_pos rfl, if_pos (by rw [List.length_mapIdx]; exact hl), h3]
    show some (if r = 0 then Value.null else .ref r) = _
    rw [if_neg h0]
  · rw [if_neg q, List.getElem?_mapIdx]
    cases hk : ks[j]? with
    | none => rfl
    | some z =>
      show some (gs_val (gs_P s r) 48 j z) = some (gs_val s 48 j z)
      congr 1
      match z, hk with
      | 0, _ => rfl
      | 1, _ => rfl
      | 2, hk =>
        have hj : j < ks.length := (List.getElem?_eq_some_iff.mp hk).1
        have hks : ks.length = 40 := by
          have : gs_sh 48 = gs_sh 48 := rfl
          have e9 : (match gs_sh 48 with
            | .inr (_, ks) => ks
            | .inl _ => []).length = 40 := by decide +kernel
          rw [h2] at e9
          exact e9
        have := gs_only2 j (by omega) (by rw [h2]; exact hk)
        exact absurd this.symm q
      | n + 3, _ => rfl
/-- writing into arrays -/
theorem RL_pA {h : gm_H} {s : gs} (hR : RL h s) {a t n k : Nat} {x : Int32} (hc : gs_isA a t n = true) (ht : ¬ t = 2 ∧ ¬ t = 5) : RL (gm_put h a (.inl (t, n, .inl (upd (gsA s a) k x)))) (gs_A s a k x) := by
  obtain ⟨h1, h2⟩ := gs_isA_of hc
  refine RL_set hR ?_ (fun i hi hn => gs_cell_congr (fun j => rfl) (fun j => rfl) ?_ rfl (fun _ => rfl) (gs_no2' hi))
  · unfold gs_cell
    rw [h2]
    show (if t = 2 then _ else if t = 5 then _ else _) = _
    rw [if_neg ht.1, if_neg ht.2]
    congr 4
    funext j
    show gs_u2 (gsA s) a k x a j = upd (gsA s a) k x j
    by_cases q : j = k <;> simp [gs_u2, upd, q]
  · funext j
    show gs_u2 (gsA s) a k x i j = gsA s i j
    simp [gs_u2, hn]
theorem RL_pR {h : gm_H} {s : gs} (hR : RL h s) {a n k : Nat} {x : Int64} (hc : gs_isA a 2 n = true) : RL (gm_put h a (.inl (2, n, .inr (.inl (vp_updL (gsR s a) k x))))) (gs_R s a k x) := by
  obtain ⟨h1, h2⟩ := gs_isA_of hc
  refine RL_set hR ?_ (fun i hi hn => gs_cell_congr (fun j => rfl) (fun j => rfl) rfl ?_ (fun _ => rfl) (gs_no2' hi))
  · unfold gs_cell
    rw [h2]
    show Sum.inl _ = _
    congr 5
    funext j
    show gs_u2 (gsR s) a k x a j = vp_updL (gsR s a) k x j
    by_cases q : j = k <;> simp [gs_u2, vp_updL, q]
  · funext j
    show gs_u2 (gsR s) a k x i j = gsR s i j
    simp [gs_u2, hn]
/-- in every cell of the class the field is of that kind -/
def gs_ck (ci k q : Nat) : Bool := (List.range 74).all fun r => !gs_isC r ci || gs_fk r ci k q
theorem gs_ck_of {r ci k q : Nat} (h : gs_isC r ci = true) (hk : gs_ck ci k q = true) : gs_fk r ci k q = true := by
  have := List.all_eq_true.mp hk r (List.mem_range.mpr (gs_isC_of h).1)
  rw [h] at this
  exact this
/-- .. or it is the cell behind it -/
def gs_cn (ci k : Nat) : Bool := (List.range 74).all fun r => !gs_isC r ci || gs_fk r ci k (r + 1 + 3)
theorem gs_cn_of {r ci k : Nat} (h : gs_isC r ci = true) (hk : gs_cn ci k = true) : gs_fk r ci k (r + 1 + 3) = true := by
  have := List.all_eq_true.mp hk r (List.mem_range.mpr (gs_isC_of h).1)
  rw [h] at this
  exact this
/-- calls and ways, over states -/
def tE (c : gx) (d j : Nat) (As : List Value) (s : gs) (Post : Option Value → gs → Prop) : Prop := ∀ h, RL h s → gE c d j As h (fun v h' => ∃ s', RL h' s' ∧ Post v s')
def tV (c : gx) (d j pc : Nat) (L : gm_L) (S : List Value) (s : gs) (Post : Option Value → gs → Prop) : Prop := ∀ h, RL h s → gV c d j (pc, L, S, h) (fun v h' => ∃ s', RL h' s' ∧ Post v s')
theorem gs_ck_6_0 : gs_ck 6 0 0 = true := by decide +kernel
theorem gs_ck_6_1 : gs_ck 6 1 0 = true := by decide +kernel
theorem gs_ck_6_2 : gs_ck 6 2 0 = true := by decide +kernel
theorem gs_ck_6_3 : gs_ck 6 3 0 = true := by decide +kernel
theorem gs_ck_6_4 : gs_ck 6 4 0 = true := by decide +kernel
theorem gs_ck_6_5 : gs_ck 6 5 0 = true := by decide +kernel
theorem gs_ck_6_6 : gs_ck 6 6 1 = true := by decide +kernel
theorem gs_ck_6_7 : gs_ck 6 7 1 = true := by decide +kernel
theorem gs_ck_6_8 : gs_ck 6 8 0 = true := by decide +kernel
theorem gs_ck_6_9 : gs_ck 6 9 0 = true := by decide +kernel
theorem gs_ck_2_0 : gs_ck 2 0 0 = true := by decide +kernel
theorem gs_ck_2_1 : gs_ck 2 1 0 = true := by decide +kernel
theorem gs_cn_2_2 : gs_cn 2 2 = true := by decide +kernel
theorem gs_ck_2_3 : gs_ck 2 3 0 = true := by decide +kernel
theorem gs_ck_2_4 : gs_ck 2 4 0 = true := by decide +kernel
