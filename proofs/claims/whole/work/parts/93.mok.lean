/-! All methods are as the tables have them. -/
theorem gt_emp : ∀ j, j < 1000 → 271 ≤ j → j ≠ 900 → (gt_k j).isEmpty = true := by decide +kernel
theorem gt_pln : ∀ j, j < 271 → ¬ (gt_d j).2.2.2.1 < 5 → (gt_k j).isEmpty = true := by decide +kernel
section MOK
variable {al : Bool} {sl : Nat} {sx : Nat → Int32}
theorem gm_chk_ok {own : Nat} {isI : Bool} {bs : ByteArray} {k : gm_Kt} (h : gm_chk own isI bs k = true) {pc : Nat} {i : gm_I} (hf : gm_find k pc = some i) : gm_dc bs pc i.1 ∧ gm_lk gt_cl gG gNW gSR (gt_T al sl sx) gt_y gt_b (gt_own.getD own "") isI pc i := by
  obtain ⟨q, h1, h2⟩ := gm_find_in _ _ _ hf
  have h3 := List.all_eq_true.mp (List.all_eq_true.mp h q h1) _ h2
  rw [Bool.and_eq_true] at h3
  exact ⟨gm_dcb_ok h3.1, gm_lkb_ok h3.2⟩
theorem gt_law_mok : gm_mok gt_cl gG gNW gSR (gt_T al sl sx) gt_y gt_b 900 := by
  refine ⟨by decide +kernel, fun pc i hf => ?_⟩
  have hf' : gm_find gk_900 pc = some i := hf
  have h := gm_chk_ok (al := al) (sl := sl) (sx := sx) gk_law hf'
  have e1 : gt_own.getD 11 "" = (gt_y 900).cls := by decide +kernel
  have e2 : decide ((gt_y 900).name = "<init>") = false := by decide +kernel
  have e3 : gt_b 900 = code := if_pos rfl
  rw [e1] at h
  rw [e2, e3]
  exact h
theorem gt_mok (j : Nat) (hj : j < 1000) (hc : gm_code (gt_T al sl sx) j 0 ≠ none) : gm_mok gt_cl gG gNW gSR (gt_T al sl sx) gt_y gt_b j := by
  by_cases q : j = 900
  · subst q; exact gt_law_mok
  have hne : ¬ gt_k j = [] := fun e => hc (by show gm_find (gt_k j) 0 = none; rw [e]; rfl)
  by_cases q2 : j < 271
  · have hck : gm_chkj j = true := (gk_ok j q2).resolve_right hne
    obtain ⟨x, hx, hxj⟩ := gX_all j q2
    unfold gm_chkj at hck
    rw [hx] at hck
    have hck' : (Nat.blt x.2.1 14 && gm_chk x.2.1 (gm_isI0 j) (gt_b j) (gt_k j)) = true := hck
    rw [Bool.and_eq_true] at hck'
    have h14 : x.2.1 < 14 := Nat.blt_eq.mp hck'.1
    have hcl := (gX_ini x (List.mem_of_getElem? hx)).1 h14
    rw [hxj] at hcl
    have hk5 : (gt_d j).2.2.2.1 < 5 := by
      by_cases z : (gt_d j).2.2.2.1 < 5
      · exact z
      · exact absurd (List.isEmpty_iff.mp (gt_pln j q2 z)) hne
    have hpl := (gX_mth x (List.mem_of_getElem? hx) (by rw [hxj]; exact hk5)).2.2
    rw [hxj] at hpl
    refine ⟨hpl, fun pc i hf => ?_⟩
    have h := gm_chk_ok (al := al) (sl := sl) (sx := sx) hck'.2 (pc := pc) (i := i) hf
    rw [← hcl] at h
    exact h
  · have := gt_emp j hj (by omega) q
    exact absurd (List.isEmpty_iff.mp this) hne
end MOK
/-! Closed runs: nothing of the script is read. -/
def gm_stpN (T : gm_T) (call : Nat → List Value → gm_H → Option gm_R) (j : Nat) (i : gm_I) (pc : Nat) (L : gm_L) (S : List Value) (h : gm_H) : Option gm_O := match i.1, S with
  | .arraylength, .float _ :: _ => none
  | _, _ => gm_stp T call j i pc L S h
def gm_runN (T : gm_T) (call : Nat → List Value → gm_H → Option gm_R) (j : Nat) : Nat → gm_S → Nat → Nat → Option gm_R
  | 0, _, _, _ => none
  | n + 1, s, kc, ks => match gm_code T j s.1 with
    | none => none
    | some i => match gm_stpN T call j i s.1 s.2.1 s.2.2.1 s.2.2.2 with
      | none => none
      | some (.inr (v, h)) => some (v, h, kc, ks)
      | some (.inl (s', dc, ds)) => gm_runN T call j n s' (kc + dc) (ks + ds)
def gm_evN (T : gm_T) (prim : Nat → List Value → gm_H → Option gm_R) (n : Nat) : Nat → Nat → List Value → gm_H → Option gm_R
  | 0, _, _, _ => none
  | d + 1, j, As, h => if j < 1000 then (if (gm_ent1 As).length ≤ (gm_dat T j).1 then gm_runN T (gm_evN T prim n d) j n (0, gm_ent (gm_dat T j).1 As, [], h) 0 0 else none) else if 16 ≤ d then prim j As h else none
def gm_stsN (T : gm_T) (call : Nat → List Value → gm_H → Option gm_R) (j : Nat) : Nat → gm_S → Nat → Nat → Option (gm_S × Nat × Nat)
  | 0, s, kc, ks => some (s, kc, ks)
  | n + 1, s, kc, ks => match gm_code T j s.1 with
    | none => none
    | some i => match gm_stpN T call j i s.1 s.2.1 s.2.2.1 s.2.2.2 with
      | some (.inl (s', dc, ds)) => gm_stsN T call j n s' (kc + dc) (ks + ds)
      | _ => none
abbrev gT0 : gm_T := gt_T true 0 (fun _ => 0)
def gH0 : gm_H := (0, fun _ => .inl (0, 0, .inl fun _ => 0))
def gL0 : gm_L := [some (.float 99), none, none, none, none, none, none, none]
def gSt : Option (gm_S × Nat × Nat) := gm_stsN gT0 (gm_evN gT0 gp_prim 600 60) 900 13 (0, gL0, [], gH0) 0 0
def gStOk : Bool := match gSt with
  | some ((pc, _, _, h), kc, ks) => Nat.beq pc 23 && Nat.beq h.1 74
  | none => false
theorem gStOk_t : gStOk = true := by decide +kernel
