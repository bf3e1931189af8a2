/-! How the small machine's heap, values and locals lie in the real one: cell i at the address b + i. -/
def gm_tv (b : Nat) (aK : Nat → Nat) : Value → Value
  | .ref i => .ref (b + i)
  | .float k => .ref (aK k.toNat)
  | v => v
def gm_tc (b : Nat) (aK : Nat → Nat) (dA : Nat → ClassId) : gm_C → va_E
  | .inl (t, n, .inr (.inr (.inr (.inr f)))) => .inl (dA t, n, .inr (.inr (.inr (.inr fun k => (f k).map (fun q => b + q)))))
  | .inl (t, a) => .inl (dA t, a)
  | .inr (ci, fs) => .inr (ci, fs.map (gm_tv b aK))
def gm_w (b : Nat) (aK : Nat → Nat) (dA : Nat → ClassId) (h : gm_H) : va_W := (List.range h.1).map fun i => (b + i, gm_tc b aK dA (h.2 i))
def gm_tyl : List FieldType := [.int, .char, .long, .byte, .boolean, .object "CommandByTurns$Standing"]
def gm_tys (dA : Nat → ClassId) : List (ClassId × FieldType) := (List.range 6).map fun t => (dA t, gm_tyl.getD t .int)
def gm_A (b : Nat) : Nat → Prop := fun q => b ≤ q
def gm_hp (b : Nat) (aK : Nat → Nat) (D : va_G) (cl : List vw_C) (dA : Nat → ClassId) (al : Bool) (h : gm_H) (H : Heap) : Prop :=
  b + h.1 ≤ H.size ∧ (al = true → H.size = b + h.1) ∧ va_P D cl (gm_w b aK dA h) H
theorem gm_tv_cat (b : Nat) (aK : Nat → Nat) (v : Value) : (gm_tv b aK v).category = v.category := by cases v <;> rfl
theorem gm_get_lt {h : gm_H} {a : Nat} {c : gm_C} (hg : gm_get h a = some c) : a < h.1 ∧ h.2 a = c := by
  unfold gm_get at hg
  by_cases q : a < h.1
  · rw [if_pos q] at hg; exact ⟨q, Option.some.inj hg⟩
  · rw [if_neg q] at hg; cases hg
theorem gm_get_of {h : gm_H} {a : Nat} (q : a < h.1) : gm_get h a = some (h.2 a) := by unfold gm_get; rw [if_pos q]
theorem gm_get_put {h : gm_H} {a : Nat} {c c' : gm_C} (hg : gm_get h a = some c) : gm_get (gm_put h a c') a = some c' := by
  unfold gm_get gm_put va_up
  rw [if_pos (gm_get_lt hg).1]
  simp
theorem gm_get_put_ne {h : gm_H} {a q : Nat} {c' : gm_C} (hn : q ≠ a) : gm_get (gm_put h a c') q = gm_get h q := by
  unfold gm_get gm_put va_up
  simp [hn]
theorem gm_w_get {b : Nat} {aK : Nat → Nat} {dA : Nat → ClassId} {h : gm_H} {a : Nat} {c : gm_C} (hg : gm_get h a = some c) : (gm_w b aK dA h)[a]? = some (b + a, gm_tc b aK dA c) := by
  obtain ⟨h1, h2⟩ := gm_get_lt hg
  unfold gm_w
  rw [List.getElem?_map, List.getElem?_range h1]
  show some (b + a, gm_tc b aK dA (h.2 a)) = some _
  rw [h2]
theorem gm_w_at {b : Nat} {aK : Nat → Nat} {dA : Nat → ClassId} {h : gm_H} {k : Nat} {q : Nat × va_E} (hk : (gm_w b aK dA h)[k]? = some q) : k < h.1 ∧ q = (b + k, gm_tc b aK dA (h.2 k)) := by
  unfold gm_w at hk
  rw [List.getElem?_map] at hk
  by_cases hl : k < h.1
  · rw [List.getElem?_range hl] at hk
    exact ⟨hl, (Option.some.inj hk).symm⟩
  · rw [List.getElem?_eq_none (by rw [List.length_range]; omega)] at hk
    cases hk
theorem gm_w_D {b : Nat} {aK : Nat → Nat} {dA : Nat → ClassId} {h : gm_H} : va_D (gm_A b) (gm_w b aK dA h) := by
  refine ⟨fun i j p q hi hj e => ?_, fun k q hk => ?_⟩
  · obtain ⟨-, rfl⟩ := gm_w_at hi
    obtain ⟨-, rfl⟩ := gm_w_at hj
    have e' : b + i = b + j := e
    omega
  · obtain ⟨-, rfl⟩ := gm_w_at hk
    exact Nat.le_add_right b k
theorem gm_hp_set {b : Nat} {aK : Nat → Nat} {D : va_G} {cl : List vw_C} {dA : Nat → ClassId} {al : Bool} {h : gm_H} {H H1 : Heap} {a : Nat} {c0 c : gm_C} (hh : gm_hp b aK D cl dA al h H) (hg : gm_get h a = some c0)
    (he : va_at D cl (b + a, gm_tc b aK dA c) H1) (hz : H1.size = H.size) (oq : ∀ q : Nat, q ≠ b + a → H1[q]? = H[q]?) : gm_hp b aK D cl dA al (gm_put h a c) H1 := by
  obtain ⟨h1, h2, hP⟩ := hh
  refine ⟨by rw [hz]; exact h1, fun z => by rw [hz]; exact h2 z, fun k q hk => ?_⟩
  obtain ⟨hl, rfl⟩ := gm_w_at hk
  by_cases e : k = a
  · subst e
    have : (gm_put h k c).2 k = c := by simp [gm_put, va_up]
    rw [this]
    exact he
  · have e2 : (gm_put h a c).2 k = h.2 k := by simp [gm_put, va_up, e]
    rw [e2]
    have hl' : k < h.1 := hl
    have := hP k _ (gm_w_get (b := b) (aK := aK) (dA := dA) (gm_get_of hl'))
    exact this.kept (oq _ (fun z => e (by have : b + k = b + a := z; omega)))
theorem gm_hp_app {b : Nat} {aK : Nat → Nat} {D : va_G} {cl : List vw_C} {dA : Nat → ClassId} {h : gm_H} {H H1 : Heap} {c : gm_C} (hh : gm_hp b aK D cl dA true h H)
    (he : va_at D cl (b + h.1, gm_tc b aK dA c) H1) (hz : H1.size = H.size + 1) (oq : ∀ q : Nat, q < H.size → H1[q]? = H[q]?) : gm_hp b aK D cl dA true (gm_app h c) H1 := by
  obtain ⟨h1, h2, hP⟩ := hh
  have h3 := h2 rfl
  have e0 : (gm_app h c).1 = h.1 + 1 := rfl
  refine ⟨by rw [hz, h3, e0]; omega, fun _ => by rw [hz, h3, e0]; omega, fun k q hk => ?_⟩
  obtain ⟨hl, rfl⟩ := gm_w_at hk
  rw [e0] at hl
  by_cases e : k = h.1
  · subst e
    have : (gm_app h c).2 h.1 = c := by simp [gm_app, va_up]
    rw [this]
    exact he
  · have e2 : (gm_app h c).2 k = h.2 k := by simp [gm_app, va_up, e]
    rw [e2]
    have hl' : k < h.1 := by omega
    have := hP k _ (gm_w_get (b := b) (aK := aK) (dA := dA) (gm_get_of hl'))
    exact this.kept (oq _ this.lt)
theorem gm_hp_P {b : Nat} {aK : Nat → Nat} {D : va_G} {cl : List vw_C} {dA : Nat → ClassId} {al : Bool} {h : gm_H} {H : Heap} {a : Nat} {c : gm_C} (hh : gm_hp b aK D cl dA al h H) (hg : gm_get h a = some c) : va_at D cl (b + a, gm_tc b aK dA c) H := hh.2.2 a _ (gm_w_get hg)
/-! the locals -/
def gm_lh (b : Nat) (aK : Nat → Nat) (ls : Array Slot) (nL : Nat) (L : gm_L) : Prop := ls.size = nL ∧ lv_wf ls ∧ L.length = nL ∧ ∀ (k : Nat) (v : Value), L[k]? = some (some v) → ls[k]? = some (.val (gm_tv b aK v))
def gm_lv (b : Nat) (aK : Nat → Nat) (L : gm_L) : List (Nat × Value) := (List.range L.length).filterMap fun k => match L[k]? with
  | some (some v) => some (k, gm_tv b aK v)
  | _ => none
theorem gm_lv_of {b : Nat} {aK : Nat → Nat} {L : gm_L} {k : Nat} {v : Value} (h : L[k]? = some (some v)) : (k, gm_tv b aK v) ∈ gm_lv b aK L := by
  refine List.mem_filterMap.mpr ⟨k, List.mem_range.mpr (List.getElem?_eq_some_iff.mp h).1, ?_⟩
  rw [h]
theorem gm_lv_to {b : Nat} {aK : Nat → Nat} {L : gm_L} {q : Nat × Value} (h : q ∈ gm_lv b aK L) : ∃ v, L[q.1]? = some (some v) ∧ q.2 = gm_tv b aK v := by
  obtain ⟨k, -, hk⟩ := List.mem_filterMap.mp h
  cases hL : L[k]? with
  | none => rw [hL] at hk; cases hk
  | some o =>
    cases o with
    | none => rw [hL] at hk; cases hk
    | some v =>
      rw [hL] at hk
      cases hk
      exact ⟨v, hL, rfl⟩
theorem gm_lh.has {b : Nat} {aK : Nat → Nat} {ls : Array Slot} {nL : Nat} {L : gm_L} (h : gm_lh b aK ls nL L) : lv_has ls nL (gm_lv b aK L) := by
  refine ⟨h.1, h.2.1, fun q hq => ?_⟩
  obtain ⟨v, h1, h2⟩ := gm_lv_to hq
  rw [h2]
  exact h.2.2.2 _ _ h1
theorem gm_clr_len (L : gm_L) (i : Nat) : (gm_clr L i).length = L.length := by
  cases i with
  | zero => rfl
  | succ k =>
    show (match L[k]? with
      | some (some w) => if w.category = 2 then L.set k none else L
      | _ => L).length = L.length
    split
    · split
      · exact List.length_set
      · rfl
    · rfl
/-- what is left behind a store -/
theorem gm_clr_at {L : gm_L} {i k : Nat} {v : Value} (h : (gm_clr L i)[k]? = some (some v)) : L[k]? = some (some v) ∧ ¬ (k + 1 = i ∧ v.category = 2) := by
  cases i with
  | zero => exact ⟨h, fun q => by omega⟩
  | succ n =>
    have h' : (match L[n]? with
      | some (some w) => if w.category = 2 then L.set n none else L
      | _ => L)[k]? = some (some v) := h
    cases hL : L[n]? with
    | none =>
      rw [hL] at h'
      refine ⟨h', fun q => ?_⟩
      have : k = n := by omega
      subst this
      have h'' : L[k]? = some (some v) := h'
      rw [hL] at h''
      cases h''
    | some o =>
      cases o with
      | none =>
        rw [hL] at h'
        refine ⟨h', fun q => ?_⟩
        have : k = n := by omega
        subst this
        have h'' : L[k]? = some (some v) := h'
        rw [hL] at h''
        cases h''
      | some w =>
        rw [hL] at h'
        by_cases hw : w.category = 2
        · have h2 : (L.set n none)[k]? = some (some v) := by simpa [hw] using h'
          by_cases e : n = k
          · subst e
            rw [List.getElem?_set_self (List.getElem?_eq_some_iff.mp hL).1] at h2
            cases h2
          · rw [List.getElem?_set_ne e] at h2
            exact ⟨h2, fun q => by omega⟩
        · have h2 : L[k]? = some (some v) := by simpa [hw] using h'
          refine ⟨h2, fun q => ?_⟩
          have : k = n := by omega
          subst this
          rw [hL] at h2
          cases h2
          exact hw q.2
theorem gm_lh_st1 {b : Nat} {aK : Nat → Nat} {ls' : Array Slot} {nL : Nat} {L : gm_L} {i : Nat} {v : Value} (hn : L.length = nL) (hi : i < nL) (h : lv_has ls' nL ((i, gm_tv b aK v) :: (gm_lv b aK L).filter (fun q => !(q.1 == i) && !(q.1 + 1 == i && q.2.category == 2)))) : gm_lh b aK ls' nL (gm_set1 L i v) := by
  refine ⟨h.1, h.2.1, ?_, fun k w hk => ?_⟩
  · show ((gm_clr L i).set i (some v)).length = nL
    rw [List.length_set, gm_clr_len, hn]
  · have hk' : ((gm_clr L i).set i (some v))[k]? = some (some w) := hk
    by_cases e : i = k
    · subst e
      rw [List.getElem?_set_self (by rw [gm_clr_len, hn]; exact hi)] at hk'
      cases hk'
      exact h.2.2 (i, _) List.mem_cons_self
    · rw [List.getElem?_set_ne e] at hk'
      obtain ⟨h1, h2⟩ := gm_clr_at hk'
      refine h.2.2 (k, gm_tv b aK w) (List.mem_cons_of_mem _ (List.mem_filter.mpr ⟨gm_lv_of h1, ?_⟩))
      have hc := gm_tv_cat b aK w
      have e1 : ¬ k = i := fun z => e z.symm
      simp only [Bool.and_eq_true, Bool.not_eq_true', beq_eq_false_iff_ne, ne_eq, e1, not_false_eq_true, true_and, Bool.and_eq_false_iff, hc]
      by_cases z : k + 1 = i
      · exact Or.inr (fun q => h2 ⟨z, q⟩)
      · exact Or.inl z
theorem gm_lh_st2 {b : Nat} {aK : Nat → Nat} {ls' : Array Slot} {nL : Nat} {L : gm_L} {i : Nat} {v : Value} (hn : L.length = nL) (hi : i + 1 < nL) (h : lv_has ls' nL ((i, gm_tv b aK v) :: (gm_lv b aK L).filter (fun q => !(q.1 == i) && (!(q.1 == i + 1) && !(q.1 + 1 == i && q.2.category == 2))))) : gm_lh b aK ls' nL (gm_set2 L i v) := by
  refine ⟨h.1, h.2.1, ?_, fun k w hk => ?_⟩
  · show (((gm_clr L i).set i (some v)).set (i + 1) none).length = nL
    rw [List.length_set, List.length_set, gm_clr_len, hn]
  · have hk' : (((gm_clr L i).set i (some v)).set (i + 1) none)[k]? = some (some w) := hk
    by_cases e2 : i + 1 = k
    · subst e2
      rw [List.getElem?_set_self (by rw [List.length_set, gm_clr_len, hn]; exact hi)] at hk'
      cases hk'
    rw [List.getElem?_set_ne e2] at hk'
    by_cases e : i = k
    · subst e
      rw [List.getElem?_set_self (by rw [gm_clr_len, hn]; omega)] at hk'
      cases hk'
      exact h.2.2 (i, _) List.mem_cons_self
    · rw [List.getElem?_set_ne e] at hk'
      obtain ⟨h1, h2⟩ := gm_clr_at hk'
      refine h.2.2 (k, gm_tv b aK w) (List.mem_cons_of_mem _ (List.mem_filter.mpr ⟨gm_lv_of h1, ?_⟩))
      have hc := gm_tv_cat b aK w
      have e1 : ¬ k = i := fun z => e z.symm
      have e3 : ¬ k = i + 1 := fun z => e2 z.symm
      simp only [Bool.and_eq_true, Bool.not_eq_true', beq_eq_false_iff_ne, ne_eq, e1, e3, not_false_eq_true, true_and, Bool.and_eq_false_iff, hc]
      by_cases z : k + 1 = i
      · exact Or.inr (fun q => h2 ⟨z, q⟩)
      · exact Or.inl z
/-- the entry -/
theorem gm_ent1_args {b : Nat} {aK : Nat → Nat} : ∀ (vs : List Value) (n k : Nat) (v : Value), (gm_ent1 vs)[k]? = some (some v) → (n + k, gm_tv b aK v) ∈ lv_args n (vs.map (gm_tv b aK))
  | [], n, k, v, h => by simp [gm_ent1] at h
  | w :: vs, n, k, v, h => by
    show _ ∈ (n, gm_tv b aK w) :: lv_args (if (gm_tv b aK w).category = 2 then n + 2 else n + 1) (vs.map (gm_tv b aK))
    rw [gm_tv_cat]
    by_cases hc : w.category = 2
    · have h' : (some w :: none :: gm_ent1 vs)[k]? = some (some v) := by simpa [gm_ent1, hc] using h
      rw [if_pos hc]
      match k, h' with
      | 0, h' =>
        cases h'
        exact List.mem_cons_self
      | 1, h' => cases h'
      | k + 2, h' =>
        have := gm_ent1_args (b := b) (aK := aK) vs (n + 2) k v h'
        rw [show n + (k + 2) = n + 2 + k by omega]
        exact List.mem_cons_of_mem _ this
    · have h' : (some w :: gm_ent1 vs)[k]? = some (some v) := by simpa [gm_ent1, hc] using h
      rw [if_neg hc]
      match k, h' with
      | 0, h' =>
        cases h'
        exact List.mem_cons_self
      | k + 1, h' =>
        have := gm_ent1_args (b := b) (aK := aK) vs (n + 1) k v h'
        rw [show n + (k + 1) = n + 1 + k by omega]
        exact List.mem_cons_of_mem _ this
theorem gm_ent1_len {b : Nat} {aK : Nat → Nat} : ∀ vs : List Value, (lg_sl (vs.map (gm_tv b aK))).length = (gm_ent1 vs).length
  | [] => rfl
  | w :: vs => by
    have ih := gm_ent1_len (b := b) (aK := aK) vs
    have hc := gm_tv_cat b aK w
    unfold lg_sl at ih ⊢
    rw [List.map_cons, List.flatMap_cons, List.length_append, ih]
    by_cases h2 : w.category = 2
    · rw [h2] at hc
      simp [gm_ent1, h2, hc]
      omega
    · have hc1 : w.category = 1 := by rcases lv_cat w with q | q <;> omega
      rw [hc1] at hc
      simp [gm_ent1, hc1, hc]
      omega
