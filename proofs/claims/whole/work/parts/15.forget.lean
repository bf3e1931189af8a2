/-! Fewer locals known: the same run. -/
def gm_le (L' L : gm_L) : Prop := L'.length = L.length ∧ ∀ (k : Nat) (v : Value), L'[k]? = some (some v) → L[k]? = some (some v)
def gm_re (L : gm_L) : Option gm_O → Option gm_O
  | some (.inl ((p, _, S, h), dc, ds)) => some (.inl ((p, L, S, h), dc, ds))
  | o => o
theorem gm_cal_re {T : gm_T} {call : Nat → List Value → gm_H → Option gm_R} {j pc : Nat} (L L0 : gm_L) (S : List Value) (h : gm_H) : gm_cal T call j pc L S h = gm_re L (gm_cal T call j pc L0 S h) := by
  unfold gm_cal
  by_cases q1 : S.length < (gm_dat T j).2.2.1
  · rw [if_pos q1, if_pos q1]; rfl
  rw [if_neg q1, if_neg q1]
  by_cases q2 : 8 < gm_cat (S.drop (gm_dat T j).2.2.1)
  · rw [if_pos q2, if_pos q2]; rfl
  rw [if_neg q2, if_neg q2]
  by_cases q3 : gm_rcv T j h (S.take (gm_dat T j).2.2.1).reverse = true
  · rw [if_pos q3, if_pos q3]
    cases call j (S.take (gm_dat T j).2.2.1).reverse h with
    | none => rfl
    | some r => rfl
  · rw [if_neg q3, if_neg q3]; rfl
theorem gm_mx_re {pc : Nat} (L L0 : gm_L) (S : List Value) (h : gm_H) : gm_mx pc L S h = gm_re L (gm_mx pc L0 S h) := by
  unfold gm_mx gm_nx
  (repeat' split) <;> first | rfl | simp_all [gm_re]
theorem gm_mn_re {pc : Nat} (L L0 : gm_L) (S : List Value) (h : gm_H) : gm_mn pc L S h = gm_re L (gm_mn pc L0 S h) := by
  unfold gm_mn gm_nx
  (repeat' split) <;> first | rfl | simp_all [gm_re]
theorem gm_ab_re {pc : Nat} (L L0 : gm_L) (S : List Value) (h : gm_H) : gm_ab pc L S h = gm_re L (gm_ab pc L0 S h) := by
  unfold gm_ab gm_nx
  (repeat' split) <;> first | rfl | simp_all [gm_re]
theorem gm_mxl_re {pc : Nat} (L L0 : gm_L) (S : List Value) (h : gm_H) : gm_mxl pc L S h = gm_re L (gm_mxl pc L0 S h) := by
  unfold gm_mxl gm_nx
  (repeat' split) <;> first | rfl | simp_all [gm_re]
def gm_isL0 : Instr → Bool
  | .iload _ => true
  | .iload_n _ => true
  | .lload _ => true
  | .lload_n _ => true
  | .aload _ => true
  | .aload_n _ => true
  | .istore _ => true
  | .istore_n _ => true
  | .astore _ => true
  | .astore_n _ => true
  | .lstore _ => true
  | .lstore_n _ => true
  | .iinc _ _ => true
  | _ => false
set_option maxHeartbeats 4000000 in
theorem gm_stp_re {T : gm_T} {call : Nat → List Value → gm_H → Option gm_R} {j pc ia ib : Nat} {ig : Instr} (L L0 : gm_L) (S : List Value) (h : gm_H) (hi : gm_isL0 ig = false) : gm_stp T call j (ig, ia, ib) pc L S h = gm_re L (gm_stp T call j (ig, ia, ib) pc L0 S h) := by
  cases ig <;> first
    | rfl
    | (cases hi; done)
    | (simp only [gm_stp]; rw [gm_cal_re L L0, gm_mx_re L L0, gm_mn_re L L0, gm_ab_re L L0, gm_mxl_re L L0]; (repeat' split) <;> first | rfl | simp_all [gm_re])
    | (simp only [gm_stp]; rw [gm_cal_re L L0]; (repeat' split) <;> first | rfl | simp_all [gm_re])
    | (simp only [gm_stp, gm_nx, gm_ii, gm_i1, gm_ll, gm_lI, gm_br1, gm_br2, gm_ald, gm_lald, gm_aald, gm_ast, gm_last, gm_aast, gm_gf, gm_pf, gm_sw, gm_mx, gm_mn, gm_ab, gm_mxl]; (repeat' split) <;> first | rfl | simp_all [gm_re])
theorem gm_le_clr {L' L : gm_L} (h : gm_le L' L) (i : Nat) : gm_le (gm_clr L' i) (gm_clr L i) := by
  refine ⟨by rw [gm_clr_len, gm_clr_len]; exact h.1, fun k v hk => ?_⟩
  obtain ⟨h1, h2⟩ := gm_clr_at hk
  have h3 := h.2 k v h1
  cases i with
  | zero => exact h3
  | succ n =>
    show (match L[n]? with
      | some (some w) => if w.category = 2 then L.set n none else L
      | _ => L)[k]? = some (some v)
    split
    · rename_i w hw
      split
      · rename_i hc
        by_cases e : n = k
        · subst e
          rw [h3] at hw
          cases hw
          exact absurd ⟨rfl, hc⟩ h2
        · rw [List.getElem?_set_ne e]
          exact h3
      · exact h3
    · exact h3
theorem gm_le_set {L' L : gm_L} (h : gm_le L' L) (i : Nat) (o : Option Value) : gm_le (L'.set i o) (L.set i o) := by
  refine ⟨by rw [List.length_set, List.length_set]; exact h.1, fun k v hk => ?_⟩
  by_cases e : i = k
  · subst e
    by_cases hl : i < L'.length
    · rw [List.getElem?_set_self hl] at hk
      rw [List.getElem?_set_self (by rw [← h.1]; exact hl)]
      exact hk
    · rw [List.getElem?_eq_none (by rw [List.length_set]; omega)] at hk
      cases hk
  · rw [List.getElem?_set_ne e] at hk ⊢
    exact h.2 k v hk
theorem gm_le_rf (L : gm_L) : gm_le L L := ⟨rfl, fun _ _ h => h⟩
theorem gm_ld_le {q : Value → Bool} {pc k : Nat} {L' L : gm_L} {S : List Value} {h : gm_H} {s' : gm_S} {dc ds : Nat} (hle : gm_le L' L) (hs : gm_ld q pc k L' S h = some (.inl (s', dc, ds))) : s'.2.1 = L' ∧ gm_ld q pc k L S h = some (.inl ((s'.1, L, s'.2.2), dc, ds)) := by
  unfold gm_ld at hs ⊢
  cases hv : L'[k]? with
  | none => rw [hv] at hs; cases hs
  | some o =>
    rcases o with _ | v
    · rw [hv] at hs; cases hs
    · rw [hv] at hs
      rw [hle.2 k v hv]
      have hs' : (if q v = true then gm_nx pc L' (v :: S) h else none) = some (.inl (s', dc, ds)) := hs
      show _ ∧ (if q v = true then gm_nx pc L (v :: S) h else none) = _
      by_cases hq : q v = true
      · rw [if_pos hq] at hs' ⊢
        obtain ⟨rfl, rfl, rfl⟩ := gm_nx_inj hs'
        exact ⟨rfl, rfl⟩
      · rw [if_neg hq] at hs'; cases hs'
theorem gm_st1_le {q : Value → Bool} {pc i : Nat} {L' L : gm_L} {S : List Value} {h : gm_H} {s' : gm_S} {dc ds : Nat} (hle : gm_le L' L) (hs : gm_st1 q pc i L' S h = some (.inl (s', dc, ds))) : ∃ L1, gm_le s'.2.1 L1 ∧ gm_st1 q pc i L S h = some (.inl ((s'.1, L1, s'.2.2), dc, ds)) := by
  rcases S with _ | ⟨v, r⟩
  · cases hs
  have hs' : (if q v = true then (if i < L'.length then gm_nx pc (gm_set1 L' i v) r h else none) else none) = some (.inl (s', dc, ds)) := hs
  show ∃ L1, _ ∧ (if q v = true then (if i < L.length then gm_nx pc (gm_set1 L i v) r h else none) else none) = _
  by_cases hq : q v = true
  · rw [if_pos hq] at hs' ⊢
    by_cases hi : i < L'.length
    · rw [if_pos hi] at hs'
      rw [if_pos (by rw [← hle.1]; exact hi)]
      obtain ⟨rfl, rfl, rfl⟩ := gm_nx_inj hs'
      exact ⟨_, gm_le_set (gm_le_clr hle i) i _, rfl⟩
    · rw [if_neg hi] at hs'; cases hs'
  · rw [if_neg hq] at hs'; cases hs'
theorem gm_st2_le {pc i : Nat} {L' L : gm_L} {S : List Value} {h : gm_H} {s' : gm_S} {dc ds : Nat} (hle : gm_le L' L) (hs : gm_st2 pc i L' S h = some (.inl (s', dc, ds))) : ∃ L1, gm_le s'.2.1 L1 ∧ gm_st2 pc i L S h = some (.inl ((s'.1, L1, s'.2.2), dc, ds)) := by
  rcases S with _ | ⟨v, r⟩
  · cases hs
  cases v with
  | long x =>
    have hs' : (if i + 1 < L'.length then gm_nx pc (gm_set2 L' i (.long x)) r h else none) = some (.inl (s', dc, ds)) := hs
    show ∃ L1, _ ∧ (if i + 1 < L.length then gm_nx pc (gm_set2 L i (.long x)) r h else none) = _
    by_cases hi : i + 1 < L'.length
    · rw [if_pos hi] at hs'
      rw [if_pos (by rw [← hle.1]; exact hi)]
      obtain ⟨rfl, rfl, rfl⟩ := gm_nx_inj hs'
      exact ⟨_, gm_le_set (gm_le_set (gm_le_clr hle i) i _) (i + 1) none, rfl⟩
    · rw [if_neg hi] at hs'; cases hs'
  | _ => cases hs
theorem gm_stp_le {T : gm_T} {call : Nat → List Value → gm_H → Option gm_R} {j pc : Nat} {i : gm_I} {L' L : gm_L} {S : List Value} {h : gm_H} {s' : gm_S} {dc ds : Nat} (hle : gm_le L' L) (hs : gm_stp T call j i pc L' S h = some (.inl (s', dc, ds))) : ∃ L1, gm_le s'.2.1 L1 ∧ gm_stp T call j i pc L S h = some (.inl ((s'.1, L1, s'.2.2), dc, ds)) := by
  obtain ⟨ig, ia, ib⟩ := i
  by_cases hi : gm_isL0 ig = false
  · have e1 := gm_stp_re (T := T) (call := call) (j := j) (pc := pc) (ia := ia) (ib := ib) L' L' S h hi
    have e2 := gm_stp_re (T := T) (call := call) (j := j) (pc := pc) (ia := ia) (ib := ib) L L' S h hi
    rw [hs] at e1 e2
    obtain ⟨p1, L1, S1, h1⟩ := s'
    have e3 : L1 = L' := by
      have : (some (Sum.inl ((p1, L1, S1, h1), dc, ds)) : Option gm_O) = some (.inl ((p1, L', S1, h1), dc, ds)) := e1
      cases this
      rfl
    subst e3
    exact ⟨L, hle, e2⟩
  · cases ig <;> first
      | exact absurd rfl hi
      | (obtain ⟨q1, q2⟩ := gm_ld_le hle hs; exact ⟨L, by rw [q1]; exact hle, q2⟩)
      | exact gm_st1_le hle hs
      | exact gm_st2_le hle hs
      | skip
    rename_i k n
    have hs' : (match L'[k]? with
      | some (some (.int x)) => gm_nx (pc + 3) (gm_set1 L' k (.int (x + Int32.ofInt n))) S h
      | _ => none) = some (.inl (s', dc, ds)) := hs
    show ∃ L1, _ ∧ (match L[k]? with
      | some (some (.int x)) => gm_nx (pc + 3) (gm_set1 L k (.int (x + Int32.ofInt n))) S h
      | _ => none) = _
    cases hv : L'[k]? with
    | none => rw [hv] at hs'; cases hs'
    | some o =>
      rcases o with _ | v
      · rw [hv] at hs'; cases hs'
      · rw [hv] at hs'
        rw [hle.2 k v hv]
        cases v with
        | int x =>
          obtain ⟨rfl, rfl, rfl⟩ := gm_nx_inj hs'
          exact ⟨_, gm_le_set (gm_le_clr hle k) k _, rfl⟩
        | _ => cases hs'
theorem gm_stp_ler {T : gm_T} {call : Nat → List Value → gm_H → Option gm_R} {j pc : Nat} {i : gm_I} {L' L : gm_L} {S : List Value} {h : gm_H} {r : Option Value × gm_H} (hs : gm_stp T call j i pc L' S h = some (.inr r)) : gm_stp T call j i pc L S h = some (.inr r) := by
  obtain ⟨ig, ia, ib⟩ := i
  have hi : gm_isL0 ig = false := by
    rcases gm_noret hs with rfl | rfl | rfl | rfl <;> rfl
  have e2 := gm_stp_re (T := T) (call := call) (j := j) (pc := pc) (ia := ia) (ib := ib) L L' S h hi
  rw [hs] at e2
  exact e2
theorem gm_run_le {T : gm_T} {call : Nat → List Value → gm_H → Option gm_R} {j : Nat} : ∀ (n pc : Nat) (L' L : gm_L) (S : List Value) (h : gm_H) (kc ks : Nat) (r : gm_R), gm_le L' L → gm_run T call j n (pc, L', S, h) kc ks = some r → gm_run T call j n (pc, L, S, h) kc ks = some r
  | 0, _, _, _, _, _, _, _, _, _, hr => by cases hr
  | n + 1, pc, L', L, S, h, kc, ks, r, hle, hr => by
    unfold gm_run at hr ⊢
    dsimp only at hr ⊢
    cases hq : gm_code T j pc with
    | none => rw [hq] at hr; cases hr
    | some i =>
      simp only [hq] at hr ⊢
      cases hs : gm_stp T call j i pc L' S h with
      | none => simp only [hs] at hr; cases hr
      | some o =>
        simp only [hs] at hr
        rcases o with ⟨s', dc, ds⟩ | ⟨v, h'⟩
        · obtain ⟨L1, h1, h2⟩ := gm_stp_le hle hs
          simp only [h2]
          obtain ⟨p1, L2, S1, h3⟩ := s'
          exact gm_run_le n p1 L2 L1 S1 h3 _ _ r h1 hr
        · rw [gm_stp_ler (L := L) hs]
          exact hr
theorem gw_le {T : gm_T} {pm : Nat → List Value → gm_H → Option gm_R} {d j pc : Nat} {L' L : gm_L} {S : List Value} {h : gm_H} {Post : Option Value → gm_H → Prop} (hle : gm_le L' L) (k : gw T pm d j (pc, L', S, h) Post) : gw T pm d j (pc, L, S, h) Post := by
  obtain ⟨n, v, h', h1, h2⟩ := k
  exact ⟨n, v, h', gm_run_le n pc L' L S h 0 0 _ hle h1, h2⟩
theorem gm_le_nil : gm_le [] [] := gm_le_rf []
theorem gm_le_k {L' L : gm_L} (o : Option Value) (h : gm_le L' L) : gm_le (o :: L') (o :: L) := by
  refine ⟨by rw [List.length_cons, List.length_cons, h.1], fun k v hk => ?_⟩
  cases k with
  | zero => exact hk
  | succ k => exact h.2 k v hk
theorem gm_le_n {L' L : gm_L} (o : Option Value) (h : gm_le L' L) : gm_le (none :: L') (o :: L) := by
  refine ⟨by rw [List.length_cons, List.length_cons, h.1], fun k v hk => ?_⟩
  cases k with
  | zero => cases hk
  | succ k => exact h.2 k v hk
