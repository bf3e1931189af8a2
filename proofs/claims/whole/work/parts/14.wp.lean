/-! Reasoning about the small machine: gw, from this state the method comes to its end with Post; ge, the call comes to its end with Post. Nothing new is made on the way. -/
theorem gm_cal_up {T : gm_T} {call call' : Nat → List Value → gm_H → Option gm_R} (hc : ∀ j As h r, call j As h = some r → call' j As h = some r) {j pc : Nat} {L : gm_L} {S : List Value} {h : gm_H} {o : gm_O} (hs : gm_cal T call j pc L S h = some o) : gm_cal T call' j pc L S h = some o := by
  unfold gm_cal at hs ⊢
  by_cases q1 : S.length < (gm_dat T j).2.2.1
  · rw [if_pos q1] at hs; cases hs
  rw [if_neg q1] at hs ⊢
  by_cases q2 : 8 < gm_cat (S.drop (gm_dat T j).2.2.1)
  · rw [if_pos q2] at hs; cases hs
  rw [if_neg q2] at hs ⊢
  by_cases q3 : gm_rcv T j h (S.take (gm_dat T j).2.2.1).reverse = true
  · rw [if_pos q3] at hs ⊢
    cases hr : call j (S.take (gm_dat T j).2.2.1).reverse h with
    | none => rw [hr] at hs; cases hs
    | some r =>
      rw [hr] at hs
      rw [hc _ _ _ _ hr]
      exact hs
  · rw [if_neg q3] at hs; cases hs
theorem gm_stp_up {T : gm_T} {call call' : Nat → List Value → gm_H → Option gm_R} (hc : ∀ j As h r, call j As h = some r → call' j As h = some r) {j pc : Nat} {i : gm_I} {L : gm_L} {S : List Value} {h : gm_H} {o : gm_O} (hs : gm_stp T call j i pc L S h = some o) : gm_stp T call' j i pc L S h = some o := by
  obtain ⟨ig, ia, ib⟩ := i
  cases ig <;> try (exact hs)
  case invokestatic idx =>
    have hs' : (if (gm_dat T ia).2.2.2.1 = 0 then gm_cal T call ia (pc + 3) L S h else if (gm_dat T ia).2.2.2.1 = 5 then gm_mx (pc + 3) L S h else if (gm_dat T ia).2.2.2.1 = 6 then gm_mn (pc + 3) L S h else if (gm_dat T ia).2.2.2.1 = 7 then gm_ab (pc + 3) L S h else if (gm_dat T ia).2.2.2.1 = 8 then gm_mxl (pc + 3) L S h else none) = some o := hs
    show (if (gm_dat T ia).2.2.2.1 = 0 then gm_cal T call' ia (pc + 3) L S h else if (gm_dat T ia).2.2.2.1 = 5 then gm_mx (pc + 3) L S h else if (gm_dat T ia).2.2.2.1 = 6 then gm_mn (pc + 3) L S h else if (gm_dat T ia).2.2.2.1 = 7 then gm_ab (pc + 3) L S h else if (gm_dat T ia).2.2.2.1 = 8 then gm_mxl (pc + 3) L S h else none) = some o
    by_cases q : (gm_dat T ia).2.2.2.1 = 0
    · rw [if_pos q] at hs' ⊢
      exact gm_cal_up hc hs'
    · rw [if_neg q] at hs' ⊢
      exact hs'
  case invokevirtual idx =>
    have hs' : (if (gm_dat T ia).2.2.2.1 = 1 ∨ (gm_dat T ia).2.2.2.1 = 3 then gm_cal T call ia (pc + 3) L S h else none) = some o := hs
    show (if (gm_dat T ia).2.2.2.1 = 1 ∨ (gm_dat T ia).2.2.2.1 = 3 then gm_cal T call' ia (pc + 3) L S h else none) = some o
    by_cases q : (gm_dat T ia).2.2.2.1 = 1 ∨ (gm_dat T ia).2.2.2.1 = 3
    · rw [if_pos q] at hs' ⊢
      exact gm_cal_up hc hs'
    · rw [if_neg q] at hs'; cases hs'
  case invokespecial idx =>
    by_cases q : (gm_dat T ia).2.2.2.1 = 4
    · have e1 : ∀ cc : Nat → List Value → gm_H → Option gm_R, gm_stp T cc j (.invokespecial idx, ia, ib) pc L S h = (match (generalizing := false) S with
        | .ref _ :: r => if gm_cat r ≤ 8 then gm_nx (pc + 3) L r h else none
        | _ => none) := fun cc => if_pos q
      rw [e1] at hs ⊢
      exact hs
    · have e1 : ∀ cc : Nat → List Value → gm_H → Option gm_R, gm_stp T cc j (.invokespecial idx, ia, ib) pc L S h = (if (gm_dat T ia).2.2.2.1 = 2 then gm_cal T cc ia (pc + 3) L S h else none) := fun cc => if_neg q
      rw [e1] at hs ⊢
      by_cases q2 : (gm_dat T ia).2.2.2.1 = 2
      · rw [if_pos q2] at hs ⊢
        exact gm_cal_up hc hs
      · rw [if_neg q2] at hs; cases hs
theorem gm_run_up {T : gm_T} {call call' : Nat → List Value → gm_H → Option gm_R} (hc : ∀ j As h r, call j As h = some r → call' j As h = some r) {j : Nat} : ∀ (n m : Nat) (st : gm_S) (kc ks : Nat) (r : gm_R), gm_run T call j n st kc ks = some r → gm_run T call' j (n + m) st kc ks = some r
  | 0, _, _, _, _, _, h => by cases h
  | n + 1, m, st, kc, ks, r, h => by
    rw [show n + 1 + m = (n + m) + 1 by omega]
    unfold gm_run at h ⊢
    cases hq : gm_code T j st.1 with
    | none => rw [hq] at h; cases h
    | some i =>
      rw [hq] at h
      cases hs : gm_stp T call j i st.1 st.2.1 st.2.2.1 st.2.2.2 with
      | none => simp only [hs] at h; cases h
      | some o =>
        simp only [hs] at h
        have hs2 := gm_stp_up hc hs
        simp only [hs2]
        rcases o with ⟨st', dc, ds⟩ | ⟨v, h'⟩
        · exact gm_run_up hc n m st' _ _ r h
        · exact h
theorem gm_ev_up {T : gm_T} {pm : Nat → List Value → gm_H → Option gm_R} (n m : Nat) : ∀ (d j : Nat) (As : List Value) (h : gm_H) (r : gm_R), gm_ev T pm n d j As h = some r → gm_ev T pm (n + m) d j As h = some r
  | 0, _, _, _, _, h => by cases h
  | d + 1, j, As, h, r, he => by
    have he' : (if j < 1000 then (if (gm_ent1 As).length ≤ (gm_dat T j).1 then gm_run T (gm_ev T pm n d) j n (0, gm_ent (gm_dat T j).1 As, [], h) 0 0 else none) else if 16 ≤ d then pm j As h else none) = some r := he
    show (if j < 1000 then (if (gm_ent1 As).length ≤ (gm_dat T j).1 then gm_run T (gm_ev T pm (n + m) d) j (n + m) (0, gm_ent (gm_dat T j).1 As, [], h) 0 0 else none) else if 16 ≤ d then pm j As h else none) = some r
    by_cases hj : j < 1000
    · rw [if_pos hj] at he' ⊢
      by_cases hl : (gm_ent1 As).length ≤ (gm_dat T j).1
      · rw [if_pos hl] at he' ⊢
        exact gm_run_up (fun j As h r => gm_ev_up n m d j As h r) n m _ _ _ _ he'
      · rw [if_neg hl] at he'; cases he'
    · rw [if_neg hj] at he' ⊢
      exact he'
def gw (T : gm_T) (pm : Nat → List Value → gm_H → Option gm_R) (d j : Nat) (st : gm_S) (Post : Option Value → gm_H → Prop) : Prop := ∃ n v h, gm_run T (gm_ev T pm n d) j n st 0 0 = some (v, h, 0, 0) ∧ Post v h
def ge (T : gm_T) (pm : Nat → List Value → gm_H → Option gm_R) (d j : Nat) (As : List Value) (h : gm_H) (Post : Option Value → gm_H → Prop) : Prop := ∃ n v h', gm_ev T pm n d j As h = some (v, h', 0, 0) ∧ Post v h'
def gm_fld (h : gm_H) (a ci k : Nat) : Option Value := match gm_get h a with
  | some (.inr (ci', fs)) => if ci' = ci then fs[k]? else none
  | _ => none
section GW
variable {T : gm_T} {pm : Nat → List Value → gm_H → Option gm_R} {d j pc : Nat} {L : gm_L} {S r : List Value} {h : gm_H} {Post : Option Value → gm_H → Prop}
theorem ge_imp {Post' : Option Value → gm_H → Prop} {As : List Value} (k : ge T pm d j As h Post) (hp : ∀ v h', Post v h' → Post' v h') : ge T pm d j As h Post' := by
  obtain ⟨n, v, h', h1, h2⟩ := k
  exact ⟨n, v, h', h1, hp _ _ h2⟩
theorem ge_of {As : List Value} (hj : j < 1000) (hl : (gm_ent1 As).length ≤ (gm_dat T j).1) (k : gw T pm d j (0, gm_ent (gm_dat T j).1 As, [], h) Post) : ge T pm (d + 1) j As h Post := by
  obtain ⟨n, v, h', h1, h2⟩ := k
  refine ⟨n, v, h', ?_, h2⟩
  show (if j < 1000 then (if (gm_ent1 As).length ≤ (gm_dat T j).1 then gm_run T (gm_ev T pm n d) j n (0, gm_ent (gm_dat T j).1 As, [], h) 0 0 else none) else if 16 ≤ d then pm j As h else none) = _
  rw [if_pos hj, if_pos hl]
  exact h1
theorem gw_step {i : gm_I} {st' : gm_S} (hf : gm_code T j pc = some i) (hs : gm_stp T (fun _ _ _ => none) j i pc L S h = some (.inl (st', 0, 0))) (k : gw T pm d j st' Post) : gw T pm d j (pc, L, S, h) Post := by
  obtain ⟨n, v, h', h1, h2⟩ := k
  refine ⟨n + 1, v, h', ?_, h2⟩
  have hs2 : gm_stp T (gm_ev T pm (n + 1) d) j i pc L S h = some (.inl (st', 0, 0)) := gm_stp_up (fun _ _ _ _ q => by cases q) hs
  have h3 : gm_run T (gm_ev T pm (n + 1) d) j (n + 0) st' 0 0 = some (v, h', 0, 0) := gm_run_up (fun j As h r q => gm_ev_up n 1 d j As h r q) n 0 st' 0 0 _ h1
  unfold gm_run
  simp only [hf, hs2]
  exact h3
theorem gw_ret {i : gm_I} {v : Option Value} {h' : gm_H} (hf : gm_code T j pc = some i) (hs : gm_stp T (fun _ _ _ => none) j i pc L S h = some (.inr (v, h'))) (k : Post v h') : gw T pm d j (pc, L, S, h) Post := by
  refine ⟨1, v, h', ?_, k⟩
  have hs2 : gm_stp T (gm_ev T pm 1 d) j i pc L S h = some (.inr (v, h')) := gm_stp_up (fun _ _ _ _ q => by cases q) hs
  unfold gm_run
  simp only [hf, hs2]
/-- several steps that touch no heap -/
def gm_pst (T : gm_T) (k : gm_Kt) (j : Nat) : Nat → gm_S → Option gm_S
  | 0, s => some s
  | n + 1, s => match gm_find k s.1 with
    | some i => match gm_stp T (fun _ _ _ => none) j i s.1 s.2.1 s.2.2.1 s.2.2.2 with
      | some (.inl (s', 0, 0)) => gm_pst T k j n s'
      | _ => none
    | none => none
theorem gw_pst {k : gm_Kt} (hk : ∀ pc i, gm_find k pc = some i → gm_code T j pc = some i) : ∀ (n : Nat) {st st' : gm_S}, gm_pst T k j n st = some st' → gw T pm d j st' Post → gw T pm d j st Post
  | 0, st, st', h, w => by cases h; exact w
  | n + 1, st, st', h, w => by
    unfold gm_pst at h
    cases hf : gm_find k st.1 with
    | none => rw [hf] at h; cases h
    | some i =>
      rw [hf] at h
      cases hs : gm_stp T (fun _ _ _ => none) j i st.1 st.2.1 st.2.2.1 st.2.2.2 with
      | none => simp only [hs] at h; cases h
      | some o =>
        simp only [hs] at h
        rcases o with ⟨s', dc, ds⟩ | q
        · rcases dc with _ | dc
          · rcases ds with _ | ds
            · exact gw_step (hk _ _ hf) hs (gw_pst hk n h w)
            · cases h
          · cases h
        · cases h
/-- a call -/
theorem gw_call {jj : Nat} {As rest : List Value} {i : gm_I} (hf : gm_code T j pc = some i) (hi : ∀ call, gm_stp T call j i pc L S h = gm_cal T call jj (pc + 3) L S h) (hS : S = As.reverse ++ rest) (hl : (gm_dat T jj).2.2.1 = As.length) (hc : gm_cat rest ≤ 8) (hr : gm_rcv T jj h As = true)
    (k : ge T pm d jj As h (fun v h' => gw T pm d j (pc + 3, L, v.toList ++ rest, h') Post)) : gw T pm d j (pc, L, S, h) Post := by
  obtain ⟨n1, v, h1, he, n2, v2, h2, hrun, hp⟩ := k
  refine ⟨n1 + n2 + 1, v2, h2, ?_, hp⟩
  have he2 : gm_ev T pm (n1 + n2 + 1) d jj As h = some (v, h1, 0, 0) := by
    have := gm_ev_up (T := T) (pm := pm) n1 (n2 + 1) d jj As h _ he
    rw [show n1 + (n2 + 1) = n1 + n2 + 1 by omega] at this
    exact this
  have hs2 : gm_stp T (gm_ev T pm (n1 + n2 + 1) d) j i pc L S h = some (.inl ((pc + 3, L, v.toList ++ rest, h1), 0, 0)) := by
    rw [hi]
    unfold gm_cal
    have e1 : (S.take (gm_dat T jj).2.2.1).reverse = As := by
      rw [hS, hl, ← List.length_reverse, List.take_left, List.reverse_reverse]
    have e2 : S.drop (gm_dat T jj).2.2.1 = rest := by
      rw [hS, hl, ← List.length_reverse, List.drop_left]
    have e3 : ¬ S.length < (gm_dat T jj).2.2.1 := by
      rw [hS, hl, List.length_append, List.length_reverse]
      omega
    rw [if_neg e3, e2, if_neg (by omega), e1, if_pos hr, he2]
  have h3 : gm_run T (gm_ev T pm (n1 + n2 + 1) d) j (n1 + n2) (pc + 3, L, v.toList ++ rest, h1) 0 0 = some (v2, h2, 0, 0) := by
    have := gm_run_up (fun j As h r q => gm_ev_up n2 (n1 + 1) d j As h r q) n2 n1 _ _ _ _ hrun
    rw [show n2 + (n1 + 1) = n1 + n2 + 1 by omega, show n2 + n1 = n1 + n2 by omega] at this
    exact this
  unfold gm_run
  simp only [hf, hs2]
  exact h3
theorem gm_fld_of {a ci k : Nat} {v : Value} (hg : gm_fld h a ci k = some v) : ∃ fs, gm_get h a = some (.inr (ci, fs)) ∧ fs[k]? = some v := by
  unfold gm_fld at hg
  split at hg
  · rename_i ci' fs hq
    split at hg
    · rename_i e; subst e; exact ⟨fs, hq, hg⟩
    · cases hg
  · cases hg
theorem gw_gf {idx ci k a : Nat} {v : Value} (hf : gm_code T j pc = some (.getfield idx, ci, k)) (hg : gm_fld h a ci k = some v) (kk : gw T pm d j (pc + 3, L, v :: r, h) Post) : gw T pm d j (pc, L, .ref a :: r, h) Post := by
  obtain ⟨fs, h1, h2⟩ := gm_fld_of hg
  refine gw_step hf ?_ kk
  show gm_gf (pc + 3) ci k L (.ref a :: r) h = _
  unfold gm_gf
  simp only [h1, if_pos, h2]
  rfl
theorem gw_pf {idx ci k a : Nat} {v : Value} {fs : List Value} (hf : gm_code T j pc = some (.putfield idx, ci, k)) (hg : gm_get h a = some (.inr (ci, fs))) (hl : k < fs.length) (hv : gm_fok (gm_fty T ci k) v = true) (kk : gw T pm d j (pc + 3, L, r, gm_put h a (.inr (ci, fs.set k v))) Post) : gw T pm d j (pc, L, v :: .ref a :: r, h) Post := by
  refine gw_step hf ?_ kk
  show gm_pf T (pc + 3) ci k L (v :: .ref a :: r) h = _
  unfold gm_pf
  simp only [hg]
  rw [if_pos ⟨trivial, hl, hv⟩]
  rfl
theorem gw_ald {t ia ib a n : Nat} {f : Nat → Int32} {x : Int32} {ig : Instr} (hf : gm_code T j pc = some (ig, ia, ib)) (ht : (ig = .iaload ∧ t = 0) ∨ (ig = .caload ∧ t = 1) ∨ (ig = .baload ∧ ia = t ∧ (t = 3 ∨ t = 4))) (hg : gm_get h a = some (.inl (t, n, .inl f))) (hx : vp_in x n) (kk : gw T pm d j (pc + 1, L, .int (f x.toNatClampNeg) :: r, h) Post) : gw T pm d j (pc, L, .int x :: .ref a :: r, h) Post := by
  refine gw_step hf ?_ kk
  have e : gm_ald T t (pc + 1) L (.int x :: .ref a :: r) h = some (.inl ((pc + 1, L, .int (f x.toNatClampNeg) :: r, h), 0, 0)) := by
    unfold gm_ald
    simp only [hg, if_pos]
    rw [if_neg hx]
    rfl
  rcases ht with ⟨rfl, rfl⟩ | ⟨rfl, rfl⟩ | ⟨rfl, rfl, z⟩
  · exact e
  · exact e
  · show (if ia = 3 ∨ ia = 4 then gm_ald T ia (pc + 1) L (.int x :: .ref a :: r) h else none) = _
    rw [if_pos z]
    exact e
theorem gw_lald {ia ib a n : Nat} {f : Nat → Int64} {x : Int32} (hf : gm_code T j pc = some (.laload, ia, ib)) (hg : gm_get h a = some (.inl (2, n, .inr (.inl f)))) (hx : vp_in x n) (kk : gw T pm d j (pc + 1, L, .long (f x.toNatClampNeg) :: r, h) Post) : gw T pm d j (pc, L, .int x :: .ref a :: r, h) Post := by
  refine gw_step hf ?_ kk
  show gm_lald (pc + 1) L (.int x :: .ref a :: r) h = _
  unfold gm_lald
  simp only [hg, if_pos]
  rw [if_neg hx]
  rfl
theorem gw_aald {ia ib a n v : Nat} {f : Nat → Option Nat} {x : Int32} (hf : gm_code T j pc = some (.aaload, ia, ib)) (hg : gm_get h a = some (.inl (5, n, .inr (.inr (.inr (.inr f)))))) (hx : vp_in x n) (hv : f x.toNatClampNeg = some v) (kk : gw T pm d j (pc + 1, L, .ref v :: r, h) Post) : gw T pm d j (pc, L, .int x :: .ref a :: r, h) Post := by
  refine gw_step hf ?_ kk
  show gm_aald (pc + 1) L (.int x :: .ref a :: r) h = _
  unfold gm_aald
  simp only [hg, if_pos]
  rw [if_neg hx, hv]
  rfl
theorem gw_ast {t ia ib a n : Nat} {f : Nat → Int32} {x y : Int32} {ig : Instr} {ty : FieldType} (hf : gm_code T j pc = some (ig, ia, ib)) (ht : (ig = .iastore ∧ t = 0 ∧ ty = .int) ∨ (ig = .castore ∧ t = 1 ∧ ty = .char) ∨ (ig = .bastore ∧ ia = 3 ∧ t = 3 ∧ ty = .byte) ∨ (ig = .bastore ∧ ia = 4 ∧ t = 4 ∧ ty = .boolean)) (hg : gm_get h a = some (.inl (t, n, .inl f))) (hx : vp_in x n) (kk : gw T pm d j (pc + 1, L, r, gm_put h a (.inl (t, n, .inl (upd f x.toNatClampNeg (vp_nar ty y))))) Post) : gw T pm d j (pc, L, .int y :: .int x :: .ref a :: r, h) Post := by
  refine gw_step hf ?_ kk
  have e : gm_ast t ty (pc + 1) L (.int y :: .int x :: .ref a :: r) h = some (.inl ((pc + 1, L, r, gm_put h a (.inl (t, n, .inl (upd f x.toNatClampNeg (vp_nar ty y))))), 0, 0)) := by
    unfold gm_ast
    simp only [hg, if_pos]
    rw [if_neg hx]
    rfl
  rcases ht with ⟨rfl, rfl, rfl⟩ | ⟨rfl, rfl, rfl⟩ | ⟨rfl, rfl, rfl, rfl⟩ | ⟨rfl, rfl, rfl, rfl⟩ <;> exact e
theorem gw_last {ia ib a n : Nat} {f : Nat → Int64} {x : Int32} {y : Int64} (hf : gm_code T j pc = some (.lastore, ia, ib)) (hg : gm_get h a = some (.inl (2, n, .inr (.inl f)))) (hx : vp_in x n) (kk : gw T pm d j (pc + 1, L, r, gm_put h a (.inl (2, n, .inr (.inl (vp_updL f x.toNatClampNeg y))))) Post) : gw T pm d j (pc, L, .long y :: .int x :: .ref a :: r, h) Post := by
  refine gw_step hf ?_ kk
  show gm_last (pc + 1) L (.long y :: .int x :: .ref a :: r) h = _
  unfold gm_last
  simp only [hg, if_pos]
  rw [if_neg hx]
  rfl
theorem gw_alen {ia ib a n t : Nat} {z : (Nat → Int32) ⊕ (Nat → Int64) ⊕ (Nat → UInt32) ⊕ (Nat → UInt64) ⊕ (Nat → Option Nat)} (hf : gm_code T j pc = some (.arraylength, ia, ib)) (hg : gm_get h a = some (.inl (t, n, z))) (ht : t < 6) (kk : gw T pm d j (pc + 1, L, .int (Int32.ofNat n) :: r, h) Post) : gw T pm d j (pc, L, .ref a :: r, h) Post := by
  refine gw_step hf ?_ kk
  show (match gm_get h a with
    | some (.inl (t, n, _)) => if t < 6 then gm_nx (pc + 1) L (.int (Int32.ofNat n) :: r) h else none
    | _ => none) = _
  rw [hg]
  show (if t < 6 then gm_nx (pc + 1) L (.int (Int32.ofNat n) :: r) h else none) = _
  rw [if_pos ht]
  rfl
theorem gw_idiv {ia ib : Nat} {x y : Int32} {ig : Instr} (hf : gm_code T j pc = some (ig, ia, ib)) (hq : ¬ y = 0) (kk : gw T pm d j (pc + 1, L, .int (x / y) :: r, h) Post) (hi : ig = .idiv) : gw T pm d j (pc, L, .int y :: .int x :: r, h) Post := by
  subst hi
  refine gw_step hf ?_ kk
  show (if y = 0 then none else gm_nx (pc + 1) L (.int (x / y) :: r) h) = _
  rw [if_neg hq]
  rfl
theorem gw_irem {ia ib : Nat} {x y : Int32} {ig : Instr} (hf : gm_code T j pc = some (ig, ia, ib)) (hq : ¬ y = 0) (kk : gw T pm d j (pc + 1, L, .int (x - x / y * y) :: r, h) Post) (hi : ig = .irem) : gw T pm d j (pc, L, .int y :: .int x :: r, h) Post := by
  subst hi
  refine gw_step hf ?_ kk
  show (if y = 0 then none else gm_nx (pc + 1) L (.int (x - x / y * y) :: r) h) = _
  rw [if_neg hq]
  rfl
theorem gw_ldiv {ia ib : Nat} {x y : Int64} {ig : Instr} (hf : gm_code T j pc = some (ig, ia, ib)) (hq : ¬ y = 0) (kk : gw T pm d j (pc + 1, L, .long (x / y) :: r, h) Post) (hi : ig = .ldiv) : gw T pm d j (pc, L, .long y :: .long x :: r, h) Post := by
  subst hi
  refine gw_step hf ?_ kk
  show (if y = 0 then none else gm_nx (pc + 1) L (.long (x / y) :: r) h) = _
  rw [if_neg hq]
  rfl
theorem gw_lrem {ia ib : Nat} {x y : Int64} {ig : Instr} (hf : gm_code T j pc = some (ig, ia, ib)) (hq : ¬ y = 0) (kk : gw T pm d j (pc + 1, L, .long (x - x / y * y) :: r, h) Post) (hi : ig = .lrem) : gw T pm d j (pc, L, .long y :: .long x :: r, h) Post := by
  subst hi
  refine gw_step hf ?_ kk
  show (if y = 0 then none else gm_nx (pc + 1) L (.long (x - x / y * y) :: r) h) = _
  rw [if_neg hq]
  rfl
/-- branches -/
theorem gw_br {c : Prop} [Decidable c] {i : gm_I} {a b : gm_S} (hf : gm_code T j pc = some i) (hs : gm_stp T (fun _ _ _ => none) j i pc L S h = if c then some (.inl (a, 0, 0)) else some (.inl (b, 0, 0))) (kk : (c → gw T pm d j a Post) ∧ (¬ c → gw T pm d j b Post)) : gw T pm d j (pc, L, S, h) Post := by
  by_cases q : c
  · rw [if_pos q] at hs
    exact gw_step hf hs (kk.1 q)
  · rw [if_neg q] at hs
    exact gw_step hf hs (kk.2 q)
end GW
theorem gm_rcv_v {T : gm_T} {jj a ci : Nat} {h : gm_H} {fs As : List Value} (hk : (gm_dat T jj).2.2.2.1 = 1) (hg : gm_get h a = some (.inr (ci, fs))) (hc : (gm_dat T jj).2.2.2.2 = ci) : gm_rcv T jj h (.ref a :: As) = true := by
  unfold gm_rcv
  rw [hk]
  show (match gm_get h a with
    | some (.inr (ci, _)) => Nat.beq ci (gm_dat T jj).2.2.2.2
    | _ => false) = true
  rw [hg, hc]
  exact Nat.beq_refl ci
section GX
variable {T : gm_T} {pm : Nat → List Value → gm_H → Option gm_R} {d j pc : Nat} {L : gm_L} {S r : List Value} {h : gm_H} {Post : Option Value → gm_H → Prop}
theorem gw_retZ {ia ib : Nat} {x : Int32} (hf : gm_code T j pc = some (.ireturn, ia, ib)) (hr : (gm_dat T j).2.1 = some .boolean) (hx : x = 0 ∨ x = 1) (k : Post (some (.int x)) h) : gw T pm d j (pc, L, [.int x], h) Post := by
  refine gw_ret hf ?_ k
  show (if gm_rok (gm_dat T j).2.1 x = true then some (.inr (some (.int x), h)) else none : Option gm_O) = _
  rw [hr, if_pos]
  rcases hx with rfl | rfl <;> rfl
theorem gw_retC {ia ib : Nat} {x : Int32} (hf : gm_code T j pc = some (.ireturn, ia, ib)) (hr : (gm_dat T j).2.1 = some .char) (hx : vp_nar .char x = x) (k : Post (some (.int x)) h) : gw T pm d j (pc, L, [.int x], h) Post := by
  refine gw_ret hf ?_ k
  show (if gm_rok (gm_dat T j).2.1 x = true then some (.inr (some (.int x), h)) else none : Option gm_O) = _
  rw [hr, if_pos]
  exact decide_eq_true hx
theorem gw_swk {i : gm_I} {x k : Int32} {st' : gm_S} (hf : gm_code T j pc = some i) (q : x = k) (hs : gm_stp T (fun _ _ _ => none) j i pc L (.int k :: r) h = some (.inl (st', 0, 0))) (kk : gw T pm d j st' Post) : gw T pm d j (pc, L, .int x :: r, h) Post := by
  subst q
  exact gw_step hf hs kk
theorem gw_tsd {dd lo hi : Int} {offs : Array Int} {ia ib : Nat} {x : Int32} {st' : gm_S} (hf : gm_code T j pc = some (.tableswitch dd lo hi offs, ia, ib)) (q : x.toInt < lo ∨ hi < x.toInt) (hs : gm_sw pc dd L r h = some (.inl (st', 0, 0))) (kk : gw T pm d j st' Post) : gw T pm d j (pc, L, .int x :: r, h) Post := by
  refine gw_step hf ?_ kk
  show (if x.toInt < lo ∨ hi < x.toInt then gm_sw pc dd L r h else match offs[(x.toInt - lo).toNat]? with
      | some o => gm_sw pc o L r h
      | none => none) = _
  rw [if_pos q]
  exact hs
theorem gw_lsd {dd : Int} {ps : Array (Int × Int)} {ia ib : Nat} {x : Int32} {st' : gm_S} (hf : gm_code T j pc = some (.lookupswitch dd ps, ia, ib)) (q : Op.lookupswitch.offset ps.toList dd x.toInt = dd) (hs : gm_sw pc dd L r h = some (.inl (st', 0, 0))) (kk : gw T pm d j st' Post) : gw T pm d j (pc, L, .int x :: r, h) Post := by
  refine gw_step hf ?_ kk
  show gm_sw pc (Op.lookupswitch.offset ps.toList dd x.toInt) L r h = _
  rw [q]
  exact hs
end GX
/-- may cells be made, the script, what isn't run -/
abbrev gx : Type := Bool × Nat × (Nat → Int32) × (Nat → List Value → gm_H → Option gm_R)
def gE (c : gx) (d j : Nat) (As : List Value) (h : gm_H) (Post : Option Value → gm_H → Prop) : Prop := ge (gt_T c.1 c.2.1 c.2.2.1) c.2.2.2 d j As h Post
def gV (c : gx) (d j : Nat) (st : gm_S) (Post : Option Value → gm_H → Prop) : Prop := gw (gt_T c.1 c.2.1 c.2.2.1) c.2.2.2 d j st Post
