/-! The rule, as the class looks through it and reads it. -/
/-- Strings' length, charAt, indexOf, at the two constants LETTERS (0) and NO_RULE (1) -/
def norL : List Nat := [40, 98, 43, 49, 41, 42, 51, 43, 104, 42, 52, 43, 40, 109, 45, 101, 41, 47, 50]
def nor (i : Nat) : Nat := norL.getD i 0
def lxI (x : Nat) : Int32 := match lix x with
  | some k => nI k
  | none => -1
def gp_prim (j : Nat) (As : List Value) (h : gm_H) : Option gm_R := match As with
  | [.float u] => if j = 1000 ∧ u = 0 then some (some (.int 8), h, 0, 0) else if j = 1000 ∧ u = 1 then some (some (.int 19), h, 0, 0) else none
  | [.float u, .int x] => if j = 1001 ∧ u = 1 ∧ 0 ≤ x ∧ x < 19 then some (some (.int (nI (nor x.toNatClampNeg))), h, 0, 0) else if j = 1002 ∧ u = 0 ∧ 0 ≤ x ∧ x < 256 then some (some (.int (lxI x.toNatClampNeg)), h, 0, 0) else none
  | _ => none
theorem nor_lt : ∀ i, i < 19 → nor i < 256 := by decide
def CS (s : gs) (C : List Int32) : Prop := C.length ≤ 40 ∧ gsV s 5 1 = nI C.length ∧ ∀ i, i < C.length → gsA s 6 i = C.getD i 0
def frC (s s' : gs) : Prop := (∀ b k, ¬ (b = 5 ∧ k = 1) → gsV s' b k = gsV s b k) ∧ gsE s' = gsE s ∧ (∀ b, b ≠ 6 → gsA s' b = gsA s b) ∧ gsR s' = gsR s
def frF (s s' : gs) : Prop := (∀ b k, ¬ (b = 5 ∧ (k = 1 ∨ k = 3)) → gsV s' b k = gsV s b k) ∧ gsE s' = gsE s ∧ (∀ b, b ≠ 6 → b ≠ 7 → gsA s' b = gsA s b) ∧ gsR s' = gsR s
theorem frF_rf (s : gs) : frF s s := ⟨fun _ _ _ => rfl, rfl, fun _ _ _ => rfl, rfl⟩
theorem frF_tr {s s' s'' : gs} (h : frF s s') (h' : frF s' s'') : frF s s'' := ⟨fun b k hb => (h'.1 b k hb).trans (h.1 b k hb), h'.2.1.trans h.2.1, fun b h6 h7 => (h'.2.2.1 b h6 h7).trans (h.2.2.1 b h6 h7), h'.2.2.2.trans h.2.2.2⟩
theorem frF_C {s s' : gs} (h : frC s s') : frF s s' := ⟨fun b k hb => h.1 b k (fun z => hb ⟨z.1, Or.inl z.2⟩), h.2.1, fun b h6 _ => h.2.2.1 b h6, h.2.2.2⟩
theorem frF_W {s s' : gs} (h : frW s s') : frF s s' := ⟨fun b k hb => h.1 b k (fun z => hb ⟨z.1, Or.inr z.2⟩), h.2.1, fun b _ h7 => h.2.2.1 b h7, h.2.2.2⟩
theorem CS_W {s s' : gs} {C : List Int32} (h : CS s C) (f : frW s s') : CS s' C := by
  obtain ⟨h1, h2, h3⟩ := h
  refine ⟨h1, by rw [f.1 5 1 (by decide)]; exact h2, fun i hi => ?_⟩
  rw [f.2.2.1 6 (by decide)]
  exact h3 i hi
theorem WS_C {s s' : gs} {W : List Int32} (h : WS s W) (f : frC s s') : WS s' W := by
  obtain ⟨h1, h2, h3⟩ := h
  refine ⟨h1, by rw [f.1 5 3 (by decide)]; exact h2, ?_⟩
  rw [f.2.2.1 7 (by decide)]
  exact h3
theorem XT_F {s s' : gs} {D : DD} (h : XT s D) (f : frF s s') : XT s' D := by
  unfold XT at *
  rw [f.1 1 1 (by decide), f.2.2.1 2 (by decide) (by decide)]
  exact h
theorem wrC_len (C : List Int32) (x : Int32) (h : C.length ≤ 40) : (wrC C x).length ≤ 40 := by
  unfold wrC
  split
  · rw [List.length_append, List.length_singleton]; omega
  · exact h
theorem getD_app_l {C : List Int32} {x : Int32} {i : Nat} (h : i < C.length) : (C ++ [x]).getD i 0 = C.getD i 0 := by
  simp [List.getD, List.getElem?_append_left h]
theorem getD_app_r {C : List Int32} {x : Int32} : (C ++ [x]).getD C.length 0 = x := by simp [List.getD]
theorem getD_set {C : List Int32} {x : Int32} {k i : Nat} (hk : k < C.length) : (C.set k x).getD i 0 = if i = k then x else C.getD i 0 := by
  by_cases e : i = k
  · subst e
    simp [List.getD, hk]
  · rw [if_neg e]
    simp [List.getD, List.getElem?_set, Ne.symm e]
theorem rkN_3 (x : Nat) : rkN x ≤ 3 := by
  unfold rkN
  split
  · exact Nat.le_refl _
  · split
    · decide
    · split
      · decide
      · decide
section FM
variable {c : gx} {d : Nat} {Post : Option Value → gs → Prop} {s0 s : gs} {D : DD}
theorem sPr (hd : 17 ≤ d) (hp : c.2.2.2 = gp_prim) {j : Nat} {As : List Value} {v : Option Value} (hj : ¬ j < 1000) (he : ∀ h, gp_prim j As h = some (v, h, 0, 0)) (k : Post v s) : tE c d j As s Post := by
  obtain ⟨d, rfl⟩ := d_1 (show 1 ≤ d by omega)
  intro h hR
  refine ⟨1, v, h, ?_, s, hR, k⟩
  show (if j < 1000 then (if (gm_ent1 As).length ≤ (gm_dat (gt_T c.1 c.2.1 c.2.2.1) j).1 then gm_run (gt_T c.1 c.2.1 c.2.2.1) (gm_ev (gt_T c.1 c.2.1 c.2.2.1) c.2.2.2 1 d) j 1 (0, gm_ent (gm_dat (gt_T c.1 c.2.1 c.2.2.1) j).1 As, [], h) 0 0 else none) else if 16 ≤ d then c.2.2.2 j As h else none) = _
  rw [if_neg hj, if_pos (by omega), hp]
  exact he h
theorem s1002 (hd : 17 ≤ d) (hp : c.2.2.2 = gp_prim) {x : Nat} (hx : x < 256) (k : Post (some (.int (lxI x))) s) : tE c d 1002 [.float 0, .int (nI x)] s Post := by
  refine sPr hd hp (by decide) (fun h => ?_) k
  show (if (1002 : Nat) = 1001 ∧ (0 : UInt32) = 1 ∧ 0 ≤ nI x ∧ nI x < 19 then some (some (Value.int (nI (nor (nI x).toNatClampNeg))), h, 0, 0) else if (1002 : Nat) = 1002 ∧ (0 : UInt32) = 0 ∧ 0 ≤ nI x ∧ nI x < 256 then some (some (Value.int (lxI (nI x).toNatClampNeg)), h, 0, 0) else none) = _
  rw [if_neg (fun z => absurd z.1 (by decide)), if_pos ⟨rfl, rfl, i_nlt.mp (nI_pos (by omega)), (nI_lt' (b := 256) (by omega) (by decide)).mpr hx⟩, nI_clamp (by omega)]
theorem s1001 (hd : 17 ≤ d) (hp : c.2.2.2 = gp_prim) {i : Nat} (hi : i < 19) (k : Post (some (.int (nI (nor i)))) s) : tE c d 1001 [.float 1, .int (nI i)] s Post := by
  refine sPr hd hp (by decide) (fun h => ?_) k
  show (if (1001 : Nat) = 1001 ∧ (1 : UInt32) = 1 ∧ 0 ≤ nI i ∧ nI i < 19 then some (some (Value.int (nI (nor (nI i).toNatClampNeg))), h, 0, 0) else _) = _
  rw [if_pos ⟨rfl, rfl, i_nlt.mp (nI_pos (by omega)), (nI_lt' (b := 19) (by omega) (by decide)).mpr hi⟩, nI_clamp (by omega)]
theorem lxI_n {x : Nat} (h : lix x = none) : lxI x = -1 := by unfold lxI; rw [h]
theorem lxI_s {x k : Nat} (h : lix x = some k) : lxI x = nI k := by unfold lxI; rw [h]
theorem dg_i {x : Nat} (hx : x < 256) : ((48 : Int32) ≤ nI x ∧ nI x ≤ 57) ↔ dgt x := and_congr (nI_le' (a := 48) (by decide) (by omega)) (nI_le' (b := 57) (by omega) (by decide))
theorem s3 (hd : 1 ≤ d) (x : Int32) (k : Post (some (.int (nI (rkI x)))) s) : tE c d 3 [.int x] s Post := by
  obtain ⟨d, rfl⟩ := d_1 hd
  refine okm3 c d Post x s ?_
  unfold wm3 w3_76 w3_78 w3_80
  refine ⟨fun z => ?_, fun z => ?_, fun z => ?_, fun z => ?_, fun z => ?_, fun z => ?_, fun z => ?_, fun z => ?_, fun z => ?_⟩
  · subst z; exact k
  · subst z; exact k
  · subst z; exact k
  · subst z; exact k
  · subst z; exact k
  · subst z; exact k
  · subst z; exact k
  · subst z; exact k
  · obtain ⟨z1, z2, z3, z4, z5, z6, z7, z8⟩ := z
    have e : rkI x = 0 := by
      unfold rkI
      rw [if_neg (fun w => w.elim z1 z4), if_neg (fun w => w.elim z2 z3), if_neg (fun w => w.elim z5 (fun w => w.elim z6 z7)), if_neg z8]
    rw [e] at k
    exact k
theorem s2 (hd : 18 ≤ d) (hp : c.2.2.2 = gp_prim) {x : Nat} (hx : x < 256) (k : Post (some (.int (if dgt x ∨ (lix x).isSome = true then 1 else 0))) s) : tE c d 2 [.int (nI x)] s Post := by
  obtain ⟨d, rfl⟩ := d_1 (show 1 ≤ d by omega)
  refine okm2 c d Post _ s (s60 (by omega) _ ⟨_, rfl, fun z => s1002 (by omega) hp hx ⟨_, rfl, fun y => ?_, fun y => ?_⟩, fun z => ?_⟩)
  · rw [bI_0, dg_i hx] at z
    have e : ¬ (lix x).isSome = true := by
      intro w
      obtain ⟨kk, hk⟩ := Option.isSome_iff_exists.mp w
      rw [lxI_s hk] at y
      exact absurd y (nI_pos (by have := (lix_8 hk).1; omega))
    rw [if_neg (fun w => w.elim z e)] at k
    exact ⟨Or.inl rfl, k⟩
  · have e : (lix x).isSome = true := by
      cases hl : lix x with
      | some kk => rfl
      | none => rw [lxI_n hl] at y; exact absurd (by decide) y
    rw [if_pos (Or.inr e)] at k
    exact ⟨Or.inr rfl, k⟩
  · rw [bI_0, dg_i hx, Classical.not_not] at z
    rw [if_pos (Or.inl z)] at k
    exact ⟨Or.inr rfl, k⟩
theorem s8 (hd : 1 ≤ d) {C : List Int32} (h : CS s C) (x : Int32) (k : ∀ s', frC s s' → CS s' (wrC C x) → Post none s') : tE c d 8 [.ref 5, .int x] s Post := by
  obtain ⟨d, rfl⟩ := d_1 hd
  obtain ⟨h1, h2, h3⟩ := h
  have e40 : (40 : Int32) ≤ nI C.length ↔ 40 ≤ C.length := nI_le' (a := 40) (by decide) (by omega)
  refine okm8 c d Post _ s ?_
  unfold wm8 w8_39
  rw [h2, e40]
  refine ⟨fun z => absurd z (nI_pos (by omega)), fun _ => ⟨fun z => ?_, fun z => ⟨vp_in_nI (by omega) (by decide), ?_⟩⟩⟩
  · refine k s ⟨fun _ _ _ => rfl, rfl, fun _ _ => rfl, rfl⟩ ?_
    unfold wrC
    rw [if_neg (by omega)]
    exact ⟨h1, h2, h3⟩
  · rintro s1 rfl s2 rfl
    rw [nI_clamp (by omega), V_A, h2, nI_1]
    refine k _ ⟨fun b j hb => ?_, rfl, fun b hb => ?_, rfl⟩ ?_
    · rw [V_V]
      by_cases q : b = 5
      · rw [if_pos q, if_neg (fun z => hb ⟨q, z⟩), V_A]
      · rw [if_neg q, V_A]
    · rw [A_V]
      funext j
      rw [A_A, if_neg hb]
    · unfold wrC
      rw [if_pos (by omega)]
      have hl : (C ++ [x]).length = C.length + 1 := by rw [List.length_append, List.length_singleton]
      unfold CS
      rw [hl]
      refine ⟨by omega, rfl, fun i hi => ?_⟩
      rw [A_V, gsA_A]
      by_cases q : i = C.length
      · rw [q, upd_eq, getD_app_r]; rfl
      · rw [upd_ne q, getD_app_l (by omega)]
        exact h3 i (by omega)
theorem s7 (hd : 2 ≤ d) {C W : List Int32} (h : CS s C) (hw : WS s W) {r : Nat} (hr : r ≤ 4) (k : ∀ s', frF s s' → CS s' (fls r W C).2 → WS s' (fls r W C).1 → Post none s') : tE c d 7 [.ref 5, .int (nI r)] s Post := by
  obtain ⟨d, rfl⟩ := d_1 (show 1 ≤ d by omega)
  have loop : ∀ (W C : List Int32) (s' : gs), frF s s' → CS s' C → WS s' W → (∀ s', frF s s' → CS s' (fls r W C).2 → WS s' (fls r W C).1 → Post none s') → wl7_5 c d Post (W.length + 1) (nI r) (nI W.length) s' := by
    intro W
    induction W with
    | nil =>
      intro C s' hf hc hw k
      unfold wl7_5 wb7_5
      exact ⟨fun _ => k s' hf hc hw, fun z => absurd (Int32.le_refl _) z⟩
    | cons x W ih =>
      intro C s' hf hc hw k
      have hl : W.length + 1 ≤ 40 := hw.1
      have hx : gsA s' 7 W.length = x := hw.2.2.1
      have e1 : nI (x :: W).length - 1 = nI W.length := nI_pred W.length
      have e2 : nI (x :: W).length + -1 = nI W.length := (show nI (x :: W).length + -1 = nI (x :: W).length - 1 by grind).trans e1
      have hrk := rkI_4 x
      unfold wl7_5 wb7_5
      rw [e1, e2, nI_clamp (by omega), hx]
      refine ⟨fun z => absurd z (nI_nle (by rw [List.length_cons]; omega) (by rw [List.length_cons]; omega)), fun _ => ⟨vp_in_nI (by omega) (by decide), s3 (by omega) _ ⟨_, rfl, ?_⟩⟩⟩
      rw [nI_lt' (by omega) (by omega)]
      have e3 : fls r (x :: W) C = if rkI x < r then (x :: W, C) else fls r W (wrC C (2000 + x)) := rfl
      rw [e3] at k
      refine ⟨fun z => ?_, fun z => s10 (by omega) hw (fun s2 f2 w2 => ⟨_, rfl, s8 (by omega) (CS_W hc f2) _ (fun s3 f3 c3 => ⟨rfl, ?_⟩)⟩)⟩
      · rw [if_pos z] at k
        exact k s' hf hc hw
      · rw [if_neg z] at k
        exact ih (wrC C (2000 + x)) s3 (frF_tr hf (frF_tr (frF_W f2) (frF_C f3))) c3 (WS_C w2 f3) k
  refine okm7 c d Post _ s ?_
  unfold wm7
  rw [hw.2.1]
  exact ⟨W.length + 1, loop W C s (frF_rf s) h hw k⟩
theorem s6 (hd : 2 ≤ d) {C : List Int32} (h : CS s C) (x : Int32) (due : Bool) (k : ∀ s', frC s s' → CS s' (if due = true then wrC C x else mulL C x) → Post none s') : tE c d 6 [.ref 5, .int x, .int (bB due)] s Post := by
  obtain ⟨d, rfl⟩ := d_1 (show 1 ≤ d by omega)
  refine okm6 c d Post _ _ s ⟨fun z => ?_, fun z => ?_⟩
  · have hdue : ¬ due = true := fun e => by rw [e] at z; exact absurd z (by decide)
    rw [if_neg hdue] at k
    obtain ⟨h1, h2, h3⟩ := h
    unfold w6_58
    rw [h2]
    by_cases q : C.length = 0
    · have e : mulL C x = C := by
        have : C = [] := List.length_eq_zero_iff.mp q
        rw [this]
        rfl
      rw [e] at k
      have kk := k s ⟨fun _ _ _ => rfl, rfl, fun _ _ => rfl, rfl⟩ ⟨h1, h2, h3⟩
      rw [q]
      exact ⟨fun _ => kk, fun z => absurd (Int32.le_refl _) z⟩
    · rw [show nI C.length - 1 = nI (C.length - 1) from pk_sub (a := C.length) (b := 1) (by omega), nI_clamp (by omega), h3 (C.length - 1) (by omega)]
      refine ⟨fun z => absurd z (nI_nle (by omega) (by omega)), fun _ => ⟨fun z => absurd z (nI_nlt (a := 40) (by omega) (by decide)), fun _ => ⟨vp_in_nI (by omega) (by decide), vp_in_nI (by omega) (by decide), ?_⟩⟩⟩
      rintro s13 rfl
      refine k _ ⟨fun _ _ _ => rfl, rfl, fun b hb => ?_, rfl⟩ ?_
      · funext j
        rw [A_A, if_neg hb]
      · unfold mulL CS
        rw [List.length_set]
        refine ⟨h1, h2, fun i hi => ?_⟩
        rw [gsA_A, getD_set (by omega)]
        by_cases e : i = C.length - 1
        · rw [if_pos e, e, upd_eq]; rfl
        · rw [if_neg e, upd_ne e]; exact h3 i hi
  · have hdue : due = true := by
      cases due
      · exact absurd rfl z
      · rfl
    rw [if_pos hdue] at k
    exact s8 (by omega) h _ (fun s' f' c' => ⟨rfl, k s' f' c'⟩)
theorem s5 (hd : 20 ≤ d) (hp : c.2.2.2 = gp_prim) {C W : List Int32} (h : CS s C) (hw : WS s W) {x : Nat} (hx : x < 256) (due : Bool) (k : ∀ s', frF s s' → CS s' (rsS x due C W).2.1 → WS s' (rsS x due C W).2.2 → Post (some (.int (bB (rsS x due C W).1))) s') : tE c d 5 [.ref 5, .int (nI x), .int (bB due)] s Post := by
  obtain ⟨d, rfl⟩ := d_1 (show 1 ≤ d by omega)
  have ec : ∀ b, b < 256 → (nI x = nI b ↔ x = b) := fun b hb => nI_eq' (by omega) (by omega)
  refine okm5 c d Post _ _ s (s60 (by omega) _ ⟨_, rfl, fun z => ?_, fun z => ?_⟩)
  · rw [bI_0, dg_i hx] at z
    refine s1002 (by omega) hp hx ⟨_, rfl, ?_⟩
    cases hl : lix x with
    | some kk =>
      have hk8 := (lix_8 hl).1
      rw [lxI_s hl]
      have e : rsS x due C W = (false, wrC C (nI (1000 + kk)), W) := by unfold rsS; rw [if_neg z, hl]
      rw [e] at k
      refine ⟨fun y => absurd y (nI_pos (by omega)), fun _ => s1002 (by omega) hp hx ⟨_, rfl, ?_⟩⟩
      rw [lxI_s hl, show (1000 : Int32) + nI kk = nI (1000 + kk) from nI_add 1000 kk]
      exact s8 (by omega) h _ (fun s' f' c' => ⟨rfl, k s' (frF_C f') c' (WS_C hw f')⟩)
    | none =>
      rw [lxI_n hl]
      refine ⟨fun _ => ?_, fun y => absurd (by decide) y⟩
      have e : rsS x due C W = (if x = 41 then (false, (fls 1 W C).2, (fls 1 W C).1.tail) else if x = 40 then (true, C, psh W 40) else if due = true then (true, C, psh W 256) else (true, (fls (rkN x) W C).2, psh (fls (rkN x) W C).1 (nI x))) := by unfold rsS; rw [if_neg z, hl]
      rw [e] at k
      rw [show (41 : Int32) = nI 41 from rfl, show (40 : Int32) = nI 40 from rfl, ec 41 (by decide), ec 40 (by decide)]
      refine ⟨fun y => ?_, fun y => ⟨fun w => ?_, fun w => ⟨fun v => ?_, fun v => ?_⟩⟩⟩
      · rw [if_pos y] at k
        exact s7 (r := 1) (by omega) h hw (by decide) (fun s2 f2 c2 w2 => ⟨rfl, s10 (by omega) w2 (fun s3 f3 w3 => ⟨_, rfl, k s3 (frF_tr f2 (frF_W f3)) (CS_W c2 f3) w3⟩)⟩)
      · rw [if_neg y, if_pos w] at k
        rw [w]
        exact s9 (by omega) hw _ (fun s2 f2 w2 => ⟨rfl, k s2 (frF_W f2) (CS_W h f2) w2⟩)
      · have hdue : ¬ due = true := fun e => by rw [e] at v; exact absurd v (by decide)
        rw [if_neg y, if_neg w, if_neg hdue] at k
        refine s3 (by omega) _ ⟨_, rfl, ?_⟩
        rw [rkI_N x hx]
        have hrk : rkN x ≤ 4 := by rw [← rkI_N x hx]; have := rkI_4 (nI x); omega
        exact s7 (by omega) h hw hrk (fun s2 f2 c2 w2 => ⟨rfl, s9 (by omega) w2 _ (fun s3 f3 w3 => ⟨rfl, k s3 (frF_tr f2 (frF_W f3)) (CS_W c2 f3) w3⟩)⟩)
      · have hdue : due = true := by
          cases due
          · exact absurd rfl v
          · rfl
        rw [if_neg y, if_neg w, if_pos hdue] at k
        exact s9 (by omega) hw _ (fun s2 f2 w2 => ⟨rfl, k s2 (frF_W f2) (CS_W h f2) w2⟩)
  · rw [bI_0, dg_i hx, Classical.not_not] at z
    have e : rsS x due C W = (false, if due = true then wrC C (nI (x - 48)) else mulL C (nI (x - 48)), W) := by unfold rsS; rw [if_pos z]
    rw [e] at k
    rw [show nI x - (48 : Int32) = nI (x - 48) from pk_sub (a := x) (b := 48) z.1]
    exact s6 (by omega) h _ due (fun s' f' c' => ⟨rfl, k s' (frF_C f') c' (WS_C hw f')⟩)
def rdT (D : DD) : List Int32 := if dT D = 0 then rd nor 19 0 true [] [] else rd (dt D) (dT D) 0 true [] []
theorem s4 (hd : 22 ≤ d) (hp : c.2.2.2 = gp_prim) (hT : XT s D) (k : ∀ s', frF s s' → CS s' (rdT D) → Post none s') : tE c d 4 [.ref 5, .ref 1] s Post := by
  obtain ⟨d, rfl⟩ := d_1 (show 1 ≤ d by omega)
  have h80 := hT.1
  have fin : ∀ (s' : gs) (C W : List Int32), frF s s' → CS s' C → WS s' W → (fls 1 W C).2 = rdT D → tE c d 7 [.ref 5, .int 1] s' (fun v2 s_2 => v2 = none ∧ Post none s_2) := by
    intro s' C W hf hc hw e
    exact s7 (r := 1) (by omega) hc hw (by decide) (fun s2 f2 c2 w2 => ⟨rfl, k s2 (frF_tr hf f2) (by rw [← e]; exact c2)⟩)
  have f0 : frF s (gs_V (gs_V s 5 1 0) 5 3 0) := ⟨fun b j hb => by
    rw [V_V]
    by_cases q : b = 5
    · rw [if_pos q, if_neg (fun z => hb ⟨q, Or.inr z⟩), V_V, if_pos q, if_neg (fun z => hb ⟨q, Or.inl z⟩)]
    · rw [if_neg q, V_V, if_neg q], rfl, fun _ _ _ => rfl, rfl⟩
  have c0 : CS (gs_V (gs_V s 5 1 0) 5 3 0) [] := ⟨by decide, rfl, fun i hi => absurd hi (Nat.not_lt_zero _)⟩
  have w0 : WS (gs_V (gs_V s 5 1 0) 5 3 0) [] := ⟨by decide, rfl, trivial⟩
  have e0 : nI (dT D) = 0 ↔ dT D = 0 := nI_eq' (b := 0) (by omega) (by decide)
  refine okm4 c d Post s ?_
  unfold wm4
  rw [hT.2.1, e0]
  refine ⟨fun z => ⟨fun y => absurd y (by decide), fun _ => ?_⟩, fun z => ⟨fun _ => ?_, fun y => absurd rfl y⟩⟩
  · have er : rdT D = rd nor 19 0 true [] [] := by unfold rdT; rw [if_pos z]
    refine sPr (v := some (.int 19)) (by omega) hp (by decide) (fun h => rfl) ⟨_, rfl, ?_⟩
    unfold w4_29
    rintro s1 rfl s2 rfl
    have loop : ∀ (m i : Nat) (due : Bool) (C W : List Int32) (s' : gs), i + m = 19 → frF s s' → CS s' C → WS s' W → rd nor m i due C W = rdT D → wl4_46 c d Post (m + 1) 1 19 (bB due) (nI i) s' := by
      intro m
      induction m with
      | zero =>
        intro i due C W s' hi hf hc hw hr
        unfold wl4_46 wb4_46
        exact ⟨fun _ => fin s' C W hf hc hw hr, fun z => absurd (le_t (a := 19) (by decide) (by omega) (by omega)) z⟩
      | succ m ih =>
        intro i due C W s' hi hf hc hw hr
        unfold wl4_46 wb4_46 w4_73
        refine ⟨fun z => absurd z (le_f (a := 19) (by decide) (by omega) (by omega)), fun _ => ⟨fun y => absurd y (by decide), fun _ => s1001 (by omega) hp (by omega) ⟨_, rfl, s5 (by omega) hp hc hw (nor_lt i (by omega)) due (fun s2 f2 c2 w2 => ⟨_, rfl, ?_⟩)⟩⟩⟩
        rw [nI_1]
        exact ih (i + 1) _ _ _ s2 (by omega) (frF_tr hf f2) c2 w2 hr
    exact ⟨20, loop 19 0 true [] [] _ (by decide) f0 c0 w0 er.symm⟩
  · have er : rdT D = rd (dt D) (dT D) 0 true [] [] := by unfold rdT; rw [if_neg z]
    unfold w4_29
    rintro s1 rfl s2 rfl
    have loop : ∀ (m i : Nat) (due : Bool) (C W : List Int32) (s' : gs), i + m = dT D → frF s s' → CS s' C → WS s' W → rd (dt D) m i due C W = rdT D → wl4_46 c d Post (m + 1) 0 (nI (dT D)) (bB due) (nI i) s' := by
      intro m
      induction m with
      | zero =>
        intro i due C W s' hi hf hc hw hr
        unfold wl4_46 wb4_46
        exact ⟨fun _ => fin s' C W hf hc hw hr, fun z => absurd (le_t (by omega) (by omega) (by omega)) z⟩
      | succ m ih =>
        intro i due C W s' hi hf hc hw hr
        have hat : atT D i = dt D i := if_pos (by omega)
        have hti := (hT.2.2 i (by omega)).1
        unfold wl4_46 wb4_46 w4_73
        refine ⟨fun z => absurd z (le_f (by omega) (by omega) (by omega)), fun _ => ⟨fun _ => s61 (by omega) (XT_F hT hf) (by omega) ⟨_, rfl, ?_⟩, fun y => absurd rfl y⟩⟩
        rw [hat]
        refine s5 (by omega) hp hc hw hti due (fun s2 f2 c2 w2 => ⟨_, rfl, ?_⟩)
        rw [nI_1]
        exact ih (i + 1) _ _ _ s2 (by omega) (frF_tr hf f2) c2 w2 hr
    rw [hT.2.1]
    exact ⟨dT D + 1, loop (dT D) 0 true [] [] _ (by omega) f0 c0 w0 er.symm⟩
theorem s1 (hd : 22 ≤ d) (hp : c.2.2.2 = gp_prim) (hT : XT s D) (k : Post (some (.int (match mr (dt D) (dT D) (min (dT D) 40) 0 true 0 0 (fun _ => false) with | some j => nI j | none => -1))) s) : tE c d 1 [.ref 1] s Post := by
  obtain ⟨d, rfl⟩ := d_1 (show 1 ≤ d by omega)
  have h80 := hT.1
  have loop : ∀ (m i : Nat) (due : Bool) (g q : Nat) (X : Nat → Bool) (x : Int32), i + m = min (dT D) 40 → g ≤ 3 → q ≤ 4 → (∀ j, j < 32 → gb x j = X j) → mr (dt D) (dT D) m i due g q X = mr (dt D) (dT D) (min (dT D) 40) 0 true 0 0 (fun _ => false) → wl1_12 c d Post (m + 1) (bB due) (nI g) (nI q) x (nI i) s := by
    intro m
    induction m with
    | zero =>
      intro i due g q X x hi hg hq hX hr
      have e6 : nI (dT D) ≤ 40 ↔ dT D ≤ 40 := nI_le' (b := 40) (by omega) (by decide)
      rw [mr_0] at hr
      have fin : w1_205 c d Post (bB due) (nI q) s := by
        unfold w1_205 w1_225 w1_233
        rw [hT.2.1, e6]
        refine ⟨fun z => ⟨fun y => ⟨fun w => ?_, fun w => ?_⟩, fun y => ?_⟩, fun z => ?_⟩
        · have hdue : ¬ due = true := fun e => by rw [e] at y; exact absurd y (by decide)
          have q0 : ¬ 0 < q := fun e => absurd w (nI_nle (by omega) (by omega))
          rw [if_neg (by omega), if_neg (fun z => z.elim hdue q0)] at hr
          rw [← hr] at k; exact k
        · have q0 : 0 < q := by
            by_cases q0 : 0 < q
            · exact q0
            · rw [show q = 0 by omega] at w; exact absurd (Int32.le_refl _) w
          rw [if_neg (by omega), if_pos (Or.inr q0)] at hr
          rw [← hr] at k; exact k
        · have hdue : due = true := by
            cases due
            · exact absurd rfl y
            · rfl
          rw [if_neg (by omega), if_pos (Or.inl hdue)] at hr
          rw [← hr] at k; exact k
        · rw [if_pos (by omega)] at hr
          rw [← hr] at k; exact k
      unfold wl1_12 wb1_12
      rw [hT.2.1]
      exact ⟨fun _ => fin, fun z => ⟨fun _ => fin, fun y => by
        by_cases w : dT D ≤ i
        · exact absurd (le_t (by omega) (by omega) w) z
        · exact absurd (le_t (a := 40) (by decide) (by omega) (by omega)) y⟩⟩
    | succ m ih =>
      intro i due g q X x hi hg hq hX hr
      have hti := (hT.2.2 i (by omega)).1
      have hat : atT D i = dt D i := if_pos (by omega)
      have ec : ∀ b, b < 256 → (nI (dt D i) = nI b ↔ dt D i = b) := fun b hb => nI_eq' (by omega) (by omega)
      have nx : ∀ (due' : Bool) (g' q' : Nat) (X' : Nat → Bool) (x' : Int32), g' ≤ 3 → q' ≤ 4 → (∀ j, j < 32 → gb x' j = X' j) → mr (dt D) (dT D) m (i + 1) due' g' q' X' = mr (dt D) (dT D) (min (dT D) 40) 0 true 0 0 (fun _ => false) → w1_199 c d Post (wl1_12 c d Post (m + 1)) (bB due') (nI g') (nI q') x' (nI i) s := by
        intro due' g' q' X' x' hg' hq' hX' hr'
        unfold w1_199
        rw [nI_1]
        exact ih (i + 1) due' g' q' X' x' (by omega) hg' hq' hX' hr'
      have stop : mr (dt D) (dT D) (min (dT D) 40) 0 true 0 0 (fun _ => false) = some i → Post (some (.int (nI i))) s := by
        intro h'
        rw [h'] at k
        exact k
      have hr2 : mr (dt D) (dT D) (m + 1) i due g q X = (if due = true then (if dt D i = 40 ∧ q < 4 then mr (dt D) (dT D) m (i + 1) true g (q + 1) (s2n X (q + 1) false) else if dgt (dt D i) then mr (dt D) (dT D) m (i + 1) false 1 q X else if (lix (dt D i)).isSome = true then mr (dt D) (dT D) m (i + 1) false 3 q X else if dt D i = 45 then mr (dt D) (dT D) m (i + 1) true g q X else some i)
        else (if dgt (dt D i) ∧ g < 3 then mr (dt D) (dT D) m (i + 1) false (g + 1) q X else if dt D i = 41 ∧ 0 < q then mr (dt D) (dT D) m (i + 1) false 3 (q - 1) X else if 1 < rkN (dt D i) then mr (dt D) (dT D) m (i + 1) true g q X else if rkN (dt D i) = 1 ∧ X q = false then mr (dt D) (dT D) m (i + 1) true g q (s2n X q true) else some i)) := rfl
      rw [hr2] at hr
      unfold wl1_12 wb1_12
      rw [hT.2.1]
      refine ⟨fun z => absurd z (le_f (by omega) (by omega) (by omega)), fun _ => ⟨fun z => absurd z (le_f (a := 40) (by decide) (by omega) (by omega)), fun _ => s61 (by omega) hT (by omega) ⟨_, rfl, ?_⟩⟩⟩
      rw [hat, show (40 : Int32) = nI 40 from rfl, ec 40 (by decide)]
      refine ⟨fun z => ?_, fun z => ?_⟩
      · -- not due
        have hdue : ¬ due = true := fun e => by rw [e] at z; exact absurd z (by decide)
        have edue : due = false := by
          cases due
          · rfl
          · exact absurd rfl hdue
        subst edue
        rw [if_neg hdue] at hr
        have tail : ¬ (dgt (dt D i) ∧ g < 3) → w1_124 c d Post (wl1_12 c d Post (m + 1)) 0 (nI g) (nI q) x (nI i) (nI (dt D i)) s := by
          intro hq1
          rw [if_neg hq1] at hr
          have t143 : ¬ (dt D i = 41 ∧ 0 < q) → w1_143 c d Post (wl1_12 c d Post (m + 1)) (nI g) (nI q) x (nI i) (nI (dt D i)) s := by
            intro hq2
            rw [if_neg hq2] at hr
            have e170 : ∀ X' x', (∀ j, j < 32 → gb x' j = X' j) → (rkN (dt D i) = 1 → x' = x ||| sh1 q) → (¬ rkN (dt D i) = 1 → x' = x) → mr (dt D) (dT D) m (i + 1) true g q X' = mr (dt D) (dT D) (min (dT D) 40) 0 true 0 0 (fun _ => false) → w1_170 c d Post (wl1_12 c d Post (m + 1)) (nI g) (nI q) x (nI i) (nI (dt D i)) s := by
              intro X' x' hX' h1 h2 hr'
              refine s3 (by omega) _ ⟨_, rfl, ?_⟩
              rw [rkI_N _ hti, show (1 : Int32) = nI 1 from rfl, nI_eq' (by have := rkN_3 (dt D i); omega) (by decide)]
              refine ⟨fun w => ?_, fun w => ?_⟩
              · have := nx true g q X' x' hg hq hX' hr'
                rw [h1 w] at this
                exact this
              · have := nx true g q X' x' hg hq hX' hr'
                rw [h2 w] at this
                unfold w1_188
                rw [Int32.or_zero]
                exact this
            have hrkb : rkN (dt D i) < 2 ^ 31 := by have := rkN_3 (dt D i); omega
            refine s3 (by omega) _ ⟨_, rfl, ?_⟩
            rw [rkI_N _ hti]
            have e1 : (1 : Int32) < nI (rkN (dt D i)) ↔ 1 < rkN (dt D i) := nI_lt' (a := 1) (by decide) hrkb
            have e2 : nI (rkN (dt D i)) = 1 ↔ rkN (dt D i) = 1 := nI_eq' (b := 1) hrkb (by decide)
            rw [e1]
            refine ⟨fun w => ?_, fun w => s3 (by omega) _ ⟨_, rfl, ?_⟩⟩
            · rw [if_pos w] at hr
              exact e170 X x hX (fun e => absurd w (by omega)) (fun _ => rfl) hr
            · rw [if_neg w] at hr
              rw [rkI_N _ hti, e2]
              have eb : ((x >>> (nI q &&& 31)) &&& 1 = 0) ↔ X q = false := by
                rw [shr_1 x q (by omega), ← hX q (by omega)]
                show (if gb x q = true then (1 : Int32) else 0) = 0 ↔ _
                cases gb x q
                · exact ⟨fun _ => rfl, fun _ => rfl⟩
                · exact ⟨fun z => absurd z (by decide), fun z => by cases z⟩
              rw [eb]
              refine ⟨fun v => ⟨fun u => ?_, fun u => ?_⟩, fun v => ?_⟩
              · rw [if_pos ⟨v, u⟩] at hr
                exact e170 (s2n X q true) (x ||| sh1 q) (or_sh1 hX (by omega)) (fun _ => rfl) (fun e => absurd v e) hr
              · rw [if_neg (fun w => u w.2)] at hr
                exact stop hr.symm
              · rw [if_neg (fun w => v w.1)] at hr
                exact stop hr.symm
          unfold w1_124
          rw [show (41 : Int32) = nI 41 from rfl, ec 41 (by decide)]
          refine ⟨fun w => ⟨fun v => ?_, fun v => ?_⟩, fun w => t143 (fun e => w e.1)⟩
          · refine t143 (fun e => ?_)
            exact absurd v (nI_nle e.2 (by omega))
          · have q0 : 0 < q := by
              by_cases q0 : 0 < q
              · exact q0
              · rw [show q = 0 by omega] at v; exact absurd (Int32.le_refl _) v
            rw [if_pos ⟨w, q0⟩] at hr
            have := nx false 3 (q - 1) X x (by decide) (by omega) hX hr
            rw [show nI q + -1 = nI (q - 1) from (show nI q + -1 = nI q - 1 by grind).trans (pk_sub (a := q) (b := 1) q0)]
            exact this
        refine s60 (by omega) _ ⟨_, rfl, fun y => ?_, fun y => ⟨fun w => ?_, fun w => ?_⟩⟩
        · rw [bI_0, dg_i hti] at y
          exact tail (fun e => y e.1)
        · refine tail (fun e => ?_)
          exact absurd w (le_f (a := 3) (by decide) (by omega) e.2)
        · rw [bI_0, dg_i hti, Classical.not_not] at y
          have g3 : g < 3 := by
            by_cases g3 : g < 3
            · exact g3
            · exact absurd (le_t (a := 3) (by decide) (by omega) (by omega)) w
          rw [if_pos ⟨y, g3⟩] at hr
          have := nx false (g + 1) q X x (by omega) hq hX hr
          rw [nI_1]
          exact this
      · -- due
        have hdue : due = true := by
          cases due
          · exact absurd rfl z
          · rfl
        subst hdue
        rw [if_pos rfl] at hr
        have t68 : ¬ (dt D i = 40 ∧ q < 4) → w1_68 c d Post (wl1_12 c d Post (m + 1)) (bB true) (nI g) (nI q) x (nI i) (nI (dt D i)) s := by
          intro hq1
          rw [if_neg hq1] at hr
          refine s2 (by omega) hp hti ⟨_, rfl, fun y => ?_, fun y => s60 (by omega) _ ⟨_, rfl, fun w => ?_, fun w => ?_⟩⟩
          · have y' : ¬ (dgt (dt D i) ∨ (lix (dt D i)).isSome = true) := fun w => by rw [if_pos w] at y; exact absurd y (by decide)
            rw [if_neg (fun w => y' (Or.inl w)), if_neg (fun w => y' (Or.inr w))] at hr
            rw [show (45 : Int32) = nI 45 from rfl, ec 45 (by decide)]
            refine ⟨fun w => ?_, fun w => ?_⟩
            · rw [if_pos w] at hr
              exact nx true g q X x hg hq hX hr
            · rw [if_neg w] at hr
              exact stop hr.symm
          · have y' : dgt (dt D i) ∨ (lix (dt D i)).isSome = true := by
              by_cases w : dgt (dt D i) ∨ (lix (dt D i)).isSome = true
              · exact w
              · rw [if_neg w] at y; exact absurd rfl y
            rw [bI_0, dg_i hti] at w
            rw [if_neg w, if_pos (y'.resolve_left w)] at hr
            exact nx false 3 q X x (by decide) hq hX hr
          · rw [bI_0, dg_i hti, Classical.not_not] at w
            rw [if_pos w] at hr
            exact nx false 1 q X x (by decide) hq hX hr
        refine ⟨fun w => ⟨fun v => ?_, fun v => ?_⟩, fun w => t68 (fun e => w e.1)⟩
        · refine t68 (fun e => ?_)
          exact absurd v (le_f (a := 4) (by decide) (by omega) e.2)
        · have q4 : q < 4 := by
            by_cases q4 : q < 4
            · exact q4
            · exact absurd (le_t (a := 4) (by decide) (by omega) (by omega)) v
          rw [if_pos ⟨w, q4⟩] at hr
          have hX2 : ∀ j, j < 32 → gb (x &&& (sh1 (q + 1) ^^^ (-1))) j = s2n X (q + 1) false j := by
            intro j hj
            rw [gb_and, gb_not hj, gb_sh1 (by omega) hj, hX j hj]
            show _ = if j = q + 1 then false else X j
            by_cases e : j = q + 1
            · rw [if_pos e, decide_eq_true e]; exact Bool.and_false _
            · rw [if_neg e, decide_eq_false e]; exact Bool.and_true _
          have := nx true g (q + 1) _ _ hg (by omega) hX2 hr
          rw [nI_1]
          exact this
  exact okm1 c d Post s ⟨min (dT D) 40 + 1, loop _ 0 true 0 0 (fun _ => false) 0 (by omega) (by decide) (by decide) (fun j _ => gb_0 j) rfl⟩
end FM
