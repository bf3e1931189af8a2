/-! The law's own body, segment by segment, over the real machine. -/
theorem gm_ald_up {al : Bool} {sl : Nat} {sx : Nat → Int32} {t pc : Nat} {L : gm_L} {S : List Value} {h : gm_H} {o : gm_O} (hs : gm_ald (gt_T al 0 (fun _ => 0)) t pc L S h = some o) : gm_ald (gt_T al sl sx) t pc L S h = some o := by
  rcases S with _ | ⟨v, S⟩
  · cases hs
  cases v <;> try (cases hs; done)
  rename_i k
  rcases S with _ | ⟨w, S⟩
  · cases hs
  cases w <;> try (cases hs; done)
  · rename_i u
    have hs' : (if u = 99 ∧ t = 0 then (if k < 0 ∨ 0 ≤ k.toNatClampNeg then none else gm_nx pc L (.int 0 :: S) h) else none) = some o := hs
    split at hs'
    · rw [if_pos (Or.inr (Nat.zero_le _))] at hs'; cases hs'
    · cases hs'
  · exact hs
theorem gm_stpN_up {al : Bool} {sl : Nat} {sx : Nat → Int32} {call call' : Nat → List Value → gm_H → Option gm_R} (hc : ∀ j As h r, call j As h = some r → call' j As h = some r) {j pc : Nat} {i : gm_I} {L : gm_L} {S : List Value} {h : gm_H} {o : gm_O} (hs : gm_stpN (gt_T al 0 (fun _ => 0)) call j i pc L S h = some o) : gm_stp (gt_T al sl sx) call' j i pc L S h = some o := by
  obtain ⟨ig, ia, ib⟩ := i
  cases ig
  case arraylength =>
    rcases S with _ | ⟨v, S⟩
    · exact hs
    cases v
    all_goals first
      | exact hs
      | (cases hs; done)
  case iaload => exact gm_ald_up (t := 0) (pc := pc + 1) hs
  case caload => exact gm_ald_up (t := 1) (pc := pc + 1) hs
  case baload =>
    have hs' : (if ia = 3 ∨ ia = 4 then gm_ald (gt_T al 0 (fun _ => 0)) ia (pc + 1) L S h else none) = some o := hs
    show (if ia = 3 ∨ ia = 4 then gm_ald (gt_T al sl sx) ia (pc + 1) L S h else none) = some o
    by_cases q : ia = 3 ∨ ia = 4
    · rw [if_pos q] at hs' ⊢
      exact gm_ald_up hs'
    · rw [if_neg q] at hs'; cases hs'
  all_goals exact gm_stp_up (T := gt_T al sl sx) hc hs
theorem gm_runN_up {al : Bool} {sl : Nat} {sx : Nat → Int32} {call call' : Nat → List Value → gm_H → Option gm_R} (hc : ∀ j As h r, call j As h = some r → call' j As h = some r) {j : Nat} : ∀ (n : Nat) (st : gm_S) (kc ks : Nat) (r : gm_R), gm_runN (gt_T al 0 (fun _ => 0)) call j n st kc ks = some r → gm_run (gt_T al sl sx) call' j n st kc ks = some r
  | 0, _, _, _, _, h => by cases h
  | n + 1, st, kc, ks, r, h => by
    unfold gm_runN at h
    unfold gm_run
    cases hq : gm_code (gt_T al 0 (fun _ => 0)) j st.1 with
    | none => rw [hq] at h; cases h
    | some i =>
      rw [hq] at h
      have hq' : gm_code (gt_T al sl sx) j st.1 = some i := hq
      cases hs : gm_stpN (gt_T al 0 (fun _ => 0)) call j i st.1 st.2.1 st.2.2.1 st.2.2.2 with
      | none => simp only [hs] at h; cases h
      | some o =>
        simp only [hs] at h
        have hs2 := gm_stpN_up (sl := sl) (sx := sx) hc hs
        simp only [hq', hs2]
        rcases o with ⟨st', dc, ds⟩ | ⟨v, h'⟩
        · exact gm_runN_up hc n st' _ _ r h
        · exact h
theorem gm_evN_up {al : Bool} {sl : Nat} {sx : Nat → Int32} {pm : Nat → List Value → gm_H → Option gm_R} (n : Nat) : ∀ (d j : Nat) (As : List Value) (h : gm_H) (r : gm_R), gm_evN (gt_T al 0 (fun _ => 0)) pm n d j As h = some r → gm_ev (gt_T al sl sx) pm n d j As h = some r
  | 0, _, _, _, _, h => by cases h
  | d + 1, j, As, h, r, he => by
    have he' : (if j < 1000 then (if (gm_ent1 As).length ≤ (gm_dat (gt_T al 0 (fun _ => 0)) j).1 then gm_runN (gt_T al 0 (fun _ => 0)) (gm_evN (gt_T al 0 (fun _ => 0)) pm n d) j n (0, gm_ent (gm_dat (gt_T al 0 (fun _ => 0)) j).1 As, [], h) 0 0 else none) else if 16 ≤ d then pm j As h else none) = some r := he
    show (if j < 1000 then (if (gm_ent1 As).length ≤ (gm_dat (gt_T al sl sx) j).1 then gm_run (gt_T al sl sx) (gm_ev (gt_T al sl sx) pm n d) j n (0, gm_ent (gm_dat (gt_T al sl sx) j).1 As, [], h) 0 0 else none) else if 16 ≤ d then pm j As h else none) = some r
    by_cases hj : j < 1000
    · rw [if_pos hj] at he' ⊢
      by_cases hl : (gm_ent1 As).length ≤ (gm_dat (gt_T al 0 (fun _ => 0)) j).1
      · rw [if_pos hl] at he'
        rw [if_pos (show (gm_ent1 As).length ≤ (gm_dat (gt_T al sl sx) j).1 from hl)]
        exact gm_runN_up (fun j As h r => gm_evN_up n d j As h r) n _ _ _ _ he'
      · rw [if_neg hl] at he'; cases he'
    · rw [if_neg hj] at he' ⊢
      exact he'
section LAW
variable {p : Program} {l : Launch} {e : Env} {s : State} {m : MethodId} {args : Array Value} {below : List Frame} {meth : Method} {c : Code} {Q : State → Prop}
variable {b : Nat} {aK : Nat → Nat} {D : va_G} {dA : Nat → ClassId} {XP : State → Prop} {al : Bool} {sl : Nat} {sx : Nat → Int32} {pc kc ks : Nat} {L : gm_L} {S : List Value} {h : gm_H} {st st' : gm_S}
abbrev lwK (p : Program) (l : Launch) (e : Env) (s : State) (m : MethodId) (args : Array Value) (below : List Frame) (meth : Method) (c : Code) (Q : State → Prop) (b : Nat) (aK : Nat → Nat) (D : va_G) (dA : Nat → ClassId) (al : Bool) (sl : Nat) (sx : Nat → Int32) (st : gm_S) (kc ks : Nat) : Prop := gm_K p l e room_1 s m args below meth c Q b aK D gt_cl dA (gt_T al sl sx) 8 st kc ks
abbrev lwC (p : Program) (s : State) (m : MethodId) (args : Array Value) (meth : Method) (c : Code) (b : Nat) (aK : Nat → Nat) (D : va_G) (dA : Nat → ClassId) (XP : State → Prop) (al : Bool) (sl : Nat) (sx : Nat → Int32) : Prop := gm_Cx p s m args meth c b aK D gt_cl dA (gt_T al sl sx) gG gNW gSR XP (gt_y 900).cls (decide ((gt_y 900).name = "<init>")) (gt_b 900) 8
/-- what stands for the Strings' own methods -/
abbrev lwP (l : Launch) (b : Nat) (aK : Nat → Nat) (D : va_G) (dA : Nat → ClassId) (XP : State → Prop) (al : Bool) (sl : Nat) (sx : Nat → Int32) : Prop := ∀ (d j : Nat) (As : List Value) (h : gm_H) (r : gm_R), 16 ≤ d → 1000 ≤ j → gp_prim j As h = some r → gm_Met l b aK D gt_cl dA (gt_T al sl sx) gG gt_y gt_b (gm_E b aK D gt_cl dA gNW gSR (gt_T al sl sx) XP) (d + 1) j As h r
theorem lwP_sound (hX : gm_ok b XP) (hP : lwP l b aK D dA XP al sl sx) {n d j : Nat} {As : List Value} {h : gm_H} {r : gm_R} (he : gm_ev (gt_T al sl sx) gp_prim n d j As h = some r) : gm_Met l b aK D gt_cl dA (gt_T al sl sx) gG gt_y gt_b (gm_E b aK D gt_cl dA gNW gSR (gt_T al sl sx) XP) d j As h r :=
  gm_sound gG_good hX gt_mok hP d j As h r he
theorem lk_next {i : gm_I} {dc ds d : Nat} (hd : d ≤ 1200) {call : Nat → List Value → gm_H → Option gm_R} (C : lwC p s m args meth c b aK D dA XP al sl sx) (hf : gm_find gk_900 pc = some i) (hst : gm_stp (gt_T al sl sx) call 900 i pc L S h = some (.inl (st', dc, ds)))
    (hcall : ∀ j As r, call j As h = some r → gm_Met l b aK D gt_cl dA (gt_T al sl sx) gG gt_y gt_b (gm_E b aK D gt_cl dA gNW gSR (gt_T al sl sx) XP) d j As h r) (hk : kc + dc ≤ 601024) (hs : ks + ds ≤ 7293034)
    (k : lwK p l e s m args below meth c Q b aK D dA al sl sx st' (kc + dc) (ks + ds)) : lwK p l e s m args below meth c Q b aK D dA al sl sx (pc, L, S, h) kc ks :=
  fun ls H locs hl hh hS => gm_next (d := d) C ((gt_law_mok (al := al) (sl := sl) (sx := sx)).2 pc i hf).1 ((gt_law_mok (al := al) (sl := sl) (sx := sx)).2 pc i hf).2 hst hl hh hS hk hs (show d + 1 ≤ 2048 by omega) (show (d + 1) * 64 ≤ 84000 by omega) hcall k
theorem lk_step {i : gm_I} (C : lwC p s m args meth c b aK D dA XP al sl sx) (hf : gm_find gk_900 pc = some i) (hst : gm_stp (gt_T al sl sx) (fun _ _ _ => none) 900 i pc L S h = some (.inl (st', 0, 0))) (hk : kc ≤ 601024) (hs : ks ≤ 7293034)
    (k : lwK p l e s m args below meth c Q b aK D dA al sl sx st' kc ks) : lwK p l e s m args below meth c Q b aK D dA al sl sx (pc, L, S, h) kc ks :=
  lk_next (d := 0) (by decide) C hf hst (fun _ _ _ z => by cases z) hk hs k
theorem lk_call {i : gm_I} {jj : Nat} {As rest : List Value} (C : lwC p s m args meth c b aK D dA XP al sl sx) (hP : lwP l b aK D dA XP al sl sx) (hf : gm_find gk_900 pc = some i) (hi : ∀ call, gm_stp (gt_T al sl sx) call 900 i pc L S h = gm_cal (gt_T al sl sx) call jj (pc + 3) L S h) (hS : S = As.reverse ++ rest) (hl : (gt_d jj).2.2.1 = As.length) (hc : gm_cat rest ≤ 8) (hr : gm_rcv (gt_T al sl sx) jj h As = true) (hk : kc ≤ 601024) (hs : ks ≤ 7293034)
    (k : ge (gt_T al sl sx) gp_prim 1200 jj As h (fun v h' => lwK p l e s m args below meth c Q b aK D dA al sl sx (pc + 3, L, v.toList ++ rest, h') kc ks)) : lwK p l e s m args below meth c Q b aK D dA al sl sx (pc, L, S, h) kc ks := by
  obtain ⟨n, v, h1, he, hp⟩ := k
  have hst : gm_stp (gt_T al sl sx) (gm_ev (gt_T al sl sx) gp_prim n 1200) 900 i pc L S h = some (.inl ((pc + 3, L, v.toList ++ rest, h1), 0, 0)) := by
    rw [hi]
    unfold gm_cal
    have hl' : (gm_dat (gt_T al sl sx) jj).2.2.1 = As.length := hl
    have e1 : (S.take (gm_dat (gt_T al sl sx) jj).2.2.1).reverse = As := by
      rw [hS, hl', ← List.length_reverse, List.take_left, List.reverse_reverse]
    have e2 : S.drop (gm_dat (gt_T al sl sx) jj).2.2.1 = rest := by
      rw [hS, hl', ← List.length_reverse, List.drop_left]
    have e3 : ¬ S.length < (gm_dat (gt_T al sl sx) jj).2.2.1 := by
      rw [hS, hl', List.length_append, List.length_reverse]
      omega
    rw [if_neg e3, e2, if_neg (by omega), e1, if_pos hr, he]
  exact lk_next (dc := 0) (ds := 0) (d := 1200) (Nat.le_refl _) C hf hst (fun j As r hr => lwP_sound C.2.2.2.2.2.2.1 hP hr) hk hs hp
theorem lk_stsN (C : lwC p s m args meth c b aK D dA XP al sl sx) (hP : lwP l b aK D dA XP al sl sx) {n0 d0 : Nat} (hd0 : d0 ≤ 1200) : ∀ (n : Nat) (st st' : gm_S) (kc ks kc' ks' : Nat), gm_stsN (gt_T al 0 (fun _ => 0)) (gm_evN (gt_T al 0 (fun _ => 0)) gp_prim n0 d0) 900 n st kc ks = some (st', kc', ks') → kc' ≤ 601024 → ks' ≤ 7293034 → lwK p l e s m args below meth c Q b aK D dA al sl sx st' kc' ks' → lwK p l e s m args below meth c Q b aK D dA al sl sx st kc ks ∧ kc ≤ kc' ∧ ks ≤ ks'
  | 0, st, st', kc, ks, kc', ks', h, _, _, k => by
    cases h
    exact ⟨k, Nat.le_refl _, Nat.le_refl _⟩
  | n + 1, st, st', kc, ks, kc', ks', h, hk, hs, k => by
    unfold gm_stsN at h
    cases hq : gm_code (gt_T al 0 (fun _ => 0)) 900 st.1 with
    | none => rw [hq] at h; cases h
    | some i =>
      rw [hq] at h
      cases hsx : gm_stpN (gt_T al 0 (fun _ => 0)) (gm_evN (gt_T al 0 (fun _ => 0)) gp_prim n0 d0) 900 i st.1 st.2.1 st.2.2.1 st.2.2.2 with
      | none => simp only [hsx] at h; cases h
      | some o =>
        simp only [hsx] at h
        rcases o with ⟨st1, dc, ds⟩ | q
        · obtain ⟨k1, k2, k3⟩ := lk_stsN C hP hd0 n st1 st' (kc + dc) (ks + ds) kc' ks' h hk hs k
          have hs2 := gm_stpN_up (sl := sl) (sx := sx) (fun j As h r q => gm_evN_up (sl := sl) (sx := sx) n0 d0 j As h r q) hsx
          refine ⟨lk_next (d := d0) hd0 (pc := st.1) (L := st.2.1) (S := st.2.2.1) (h := st.2.2.2) C hq hs2 (fun j As r hr => lwP_sound C.2.2.2.2.2.2.1 hP hr) (by omega) (by omega) k1, by omega, by omega⟩
        · cases h
theorem lk_forget {L' : gm_L} (hl : L'.length = L.length) (hL : ∀ (k : Nat) (v : Value), L'[k]? = some (some v) → L[k]? = some (some v)) (k : lwK p l e s m args below meth c Q b aK D dA al sl sx (pc, L', S, h) kc ks) : lwK p l e s m args below meth c Q b aK D dA al sl sx (pc, L, S, h) kc ks :=
  fun ls H locs hl1 hh hS => k ls H locs ⟨hl1.1, hl1.2.1, hl.trans hl1.2.2.1, fun q v hq => hl1.2.2.2 q v (hL q v hq)⟩ hh hS
end LAW
