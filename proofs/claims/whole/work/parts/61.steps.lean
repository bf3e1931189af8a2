/-! Steps that keep XS, MS: the standing, what is to be undone, the row. -/
def puN (n : Nat) : Nat := if n < 12 then n + 1 else 12
def puU (n : Nat) (U : Nat → Nat → Int32) (g : Nat → Int32) : Nat → Nat → Int32 := if n < 12 then (fun i => if i = n then g else U i) else (fun i => if i = 11 then g else U (i + 1))
def uP (D : DD) (g : Nat → Int32) : DD := uU D (puN (du D)) (puU (du D) (dU D) g)
/-- the class's cells that QX speaks of: only the standing r has changed -/
theorem QX_frV {s s' : gs} {D D' : DD} {r : Nat} (h : QX s D) (f : frV s s' r) (hr : 14 ≤ r ∧ r < 34 ∧ r ≠ 17) (e1 : D'.1 = D.1) (e2 : D'.2.1 = D.2.1) (e3 : D'.2.2.1 = D.2.2.1) (e4 : D'.2.2.2.1 = D.2.2.2.1) (e5 : D'.2.2.2.2.1 = D.2.2.2.2.1) (e9 : D'.2.2.2.2.2.2.2.2 = D.2.2.2.2.2.2.2.2) (h6 : XG s' D') (h7 : XU s' D') (h8 : XK s' D') : QX s' D' := by
  obtain ⟨f1, f2, f3, f4, f5⟩ := f
  obtain ⟨k1, k2, k3, k4, k5, k6, k7, k8, k9, k10⟩ := h
  refine ⟨?_, ?_, ?_, ?_, ?_, h6, h7, h8, ?_, ?_⟩
  · unfold XT dT dt at *; rw [f1 1 (by omega), f3, e1]; exact k1
  · unfold XL okF dF dh dr at *; rw [f1 3 (by omega), f3, e2]; exact k2
  · unfold XR dV at *; rw [f1 5 (by omega), f3, e3]; exact k3
  · unfold XD db dl at *; rw [f1 10 (by omega), f1 12 (by omega), e4]; exact k4
  · intro i hi
    have := k5 i hi
    unfold dn dd dw at *; rw [f1 (10 + 2 * i) (by omega), f3, e5]; exact this
  · unfold XW dm dR at *; rw [f1 34 (by omega), f4, e9]; exact k9
  · unfold XO ds dS at *; rw [f1 41 (by omega), f3, e9]; exact k10
theorem XU_frV {s s' : gs} {D D' : DD} {r : Nat} (h : XU s D) (f : frV s s' r) (hr : r ≠ 17 ∧ (r < 19 ∨ 31 ≤ r)) (e : D'.2.2.2.2.2.2.1 = D.2.2.2.2.2.2.1) : XU s' D' := by
  obtain ⟨f1, f2, f3, f4, f5⟩ := f
  unfold XU du dU at *
  rw [f1 17 (by omega), e]
  obtain ⟨a1, a2, p, a3, a4, a5⟩ := h
  refine ⟨a1, a2, p, a3, a4, fun i hi => ?_⟩
  rw [xg_cg (f1 _ (by omega)) (f2 _ (by omega))]
  exact a5 i hi
theorem XK_frV {s s' : gs} {D D' : DD} {r : Nat} (h : XK s D) (f : frV s s' r) (hr : r ≠ 0 ∧ (r < 32 ∨ 34 ≤ r)) (e : D'.2.2.2.2.2.2.2.1 = D.2.2.2.2.2.2.2.1) : XK s' D' := by
  obtain ⟨f1, f2, f3, f4, f5⟩ := f
  intro i hi
  have := h i hi
  unfold dk dK at *
  rw [f1 0 (by omega), e, xg_cg (f1 _ (by omega)) (f2 _ (by omega))]
  exact this
theorem XG_frV {s s' : gs} {D D' : DD} {r : Nat} (h : XG s D) (f : frV s s' r) (hr : r ≠ 14) (e : dg D' = dg D) : XG s' D' := by
  obtain ⟨f1, f2, f3, f4, f5⟩ := f
  unfold XG at *
  rw [xg_cg (f1 14 (by omega)) (f2 14 (by omega)), e]
  exact h
theorem frX_frV {s0 s s' : gs} {r : Nat} (h : frX s0 s) (f : frV s s' r) (hr : r < 48) : frX s0 s' := by
  intro b hb
  obtain ⟨f1, f2, f3, f4, f5⟩ := f
  rw [f1 b (by omega), f2 b (by omega), f3, f4]
  exact h b hb
/-- before, trial -/
theorem XS_scr {s0 s s' : gs} {D : DD} {r : Nat} (h : XS s0 s D) (f : frV s s' r) (hr : r = 15 ∨ r = 16) : XS s0 s' D :=
  ⟨QX_frV h.1 f (by omega) rfl rfl rfl rfl rfl rfl (XG_frV h.1.2.2.2.2.2.1 f (by omega) rfl) (XU_frV h.1.2.2.2.2.2.2.1 f (by omega) rfl) (XK_frV h.1.2.2.2.2.2.2.2.1 f (by omega) rfl), frX_frV h.2 f (by omega)⟩
/-- now -/
theorem XS_now {s0 s s' : gs} {D : DD} {g : Nat → Int32} (h : XS s0 s D) (f : frV s s' 14) (hg : xg s' 14 = g) : XS s0 s' (uG D g) :=
  ⟨QX_frV h.1 f (by omega) rfl rfl rfl rfl rfl rfl hg (XU_frV h.1.2.2.2.2.2.2.1 f (by omega) rfl) (XK_frV h.1.2.2.2.2.2.2.2.1 f (by omega) rfl), frX_frV h.2 f (by omega)⟩
theorem frX_V {s0 s : gs} (h : frX s0 s) {r : Nat} (hr : r < 48) (k : Nat) (x : Int32) : frX s0 (gs_V s r k x) := by
  intro b hb
  have := h b hb
  refine ⟨?_, this.2.1, this.2.2.1, this.2.2.2⟩
  rw [← this.1]
  funext j
  rw [V_V, if_neg (by omega)]
theorem frX_A {s0 s : gs} (h : frX s0 s) {r : Nat} (hr : r < 48) (k : Nat) (x : Int32) : frX s0 (gs_A s r k x) := by
  intro b hb
  have := h b hb
  refine ⟨this.1, this.2.1, ?_, this.2.2.2⟩
  rw [← this.2.2.1]
  funext j
  rw [A_A, if_neg (by omega)]
theorem frX_R {s0 s : gs} (h : frX s0 s) {r : Nat} (hr : r < 48) (k : Nat) (x : Int64) : frX s0 (gs_R s r k x) := by
  intro b hb
  have := h b hb
  refine ⟨this.1, this.2.1, this.2.2.1, ?_⟩
  rw [← this.2.2.2]
  funext j
  rw [R_R, if_neg (by omega)]
theorem frM_V {s0 s : gs} (h : frM s0 s) {r : Nat} (hr : 48 ≤ r) (k : Nat) (x : Int32) : frM s0 (gs_V s r k x) := by
  intro b hb
  have := h b hb
  refine ⟨?_, this.2.1, this.2.2.1, this.2.2.2⟩
  rw [← this.1]
  funext j
  rw [V_V, if_neg (by omega)]
theorem frM_A {s0 s : gs} (h : frM s0 s) {r : Nat} (hr : 48 ≤ r) (k : Nat) (x : Int32) : frM s0 (gs_A s r k x) := by
  intro b hb
  have := h b hb
  refine ⟨this.1, this.2.1, ?_, this.2.2.2⟩
  rw [← this.2.2.1]
  funext j
  rw [A_A, if_neg (by omega)]
theorem frM_R {s0 s : gs} (h : frM s0 s) {r : Nat} (hr : 48 ≤ r) (k : Nat) (x : Int64) : frM s0 (gs_R s r k x) := by
  intro b hb
  have := h b hb
  refine ⟨this.1, this.2.1, this.2.2.1, ?_⟩
  rw [← this.2.2.2]
  funext j
  rw [R_R, if_neg (by omega)]
theorem frM_frA {s0 s s' : gs} {r : Nat} (h : frM s0 s) (f : frA s s' r) (hr : 48 ≤ r) : frM s0 s' := by
  intro b hb
  obtain ⟨f1, f2, f3, f4, f5⟩ := f
  rw [f1, f2, f3 b (by omega), f4]
  exact h b hb
/-- the row -/
def r1 (a : Int64) : Nat → Int64 := fun _ => a
def r2 (a b : Int64) : Nat → Int64 := fun i => if i = 0 then a else b
theorem XS_row0 {s0 s : gs} {D : DD} (h : XS s0 s D) (R : Nat → Int64) : XS s0 (gs_V s 34 1 0) (uW D 0 R) := by
  obtain ⟨⟨h1, h2, h3, h4, h5, h6, h7, h8, h9, h10⟩, hf⟩ := h
  refine ⟨⟨h1, h2, h3, h4, ?_, h6, ?_, ?_, ⟨Nat.zero_le _, rfl, fun i hi => absurd hi (Nat.not_lt_zero _)⟩, h10⟩, frX_V hf (by decide) _ _⟩
  · intro i hi
    have := h5 i hi
    rw [show gsV (gs_V s 34 1 0) (10 + 2 * i) = gsV s (10 + 2 * i) from by funext j; rw [V_V, if_neg (by omega)]]
    exact this
  · obtain ⟨a1, a2, p, a3, a4, a5⟩ := h7
    refine ⟨a1, a2, p, a3, a4, fun i hi => ?_⟩
    rw [xg_cg (s' := gs_V s 34 1 0) (s := s) (by funext j; rw [V_V, if_neg (by omega)]) rfl]
    exact a5 i hi
  · intro i hi
    have := h8 i hi
    rw [xg_cg (s' := gs_V s 34 1 0) (s := s) (by funext j; rw [V_V, if_neg (by omega)]) rfl]
    exact this
theorem XS_add {s0 s : gs} {D : DD} (h : XS s0 s D) (hn : dm D < 32) (x : Int64) : XS s0 (gs_V (gs_R s 35 (dm D) x) 34 1 (nI (dm D + 1))) (uW D (dm D + 1) (fun i => if i = dm D then x else dR D i)) := by
  obtain ⟨⟨h1, h2, h3, h4, h5, h6, h7, h8, h9, h10⟩, hf⟩ := h
  refine ⟨⟨h1, h2, h3, h4, ?_, h6, ?_, ?_, ⟨by show dm D + 1 ≤ 32; omega, rfl, fun i hi => ?_⟩, h10⟩, frX_V (frX_R hf (by decide) _ _) (by decide) _ _⟩
  · intro i hi
    have := h5 i hi
    rw [show gsV (gs_V (gs_R s 35 (dm D) x) 34 1 (nI (dm D + 1))) (10 + 2 * i) = gsV s (10 + 2 * i) from by funext j; rw [V_V, if_neg (by omega), V_R]]
    exact this
  · obtain ⟨a1, a2, p, a3, a4, a5⟩ := h7
    refine ⟨a1, a2, p, a3, a4, fun i hi => ?_⟩
    rw [xg_cg (s' := gs_V (gs_R s 35 (dm D) x) 34 1 (nI (dm D + 1))) (s := s) (by funext j; rw [V_V, if_neg (by omega), V_R]) rfl]
    exact a5 i hi
  · intro i hi
    have := h8 i hi
    rw [xg_cg (s' := gs_V (gs_R s 35 (dm D) x) 34 1 (nI (dm D + 1))) (s := s) (by funext j; rw [V_V, if_neg (by omega), V_R]) rfl]
    exact this
  · show (if i = dm D then x else gsR s 35 i) = if i = dm D then x else dR D i
    by_cases e : i = dm D
    · rw [if_pos e, if_pos e]
    · rw [if_neg e, if_neg e]
      have hi' : i < dm D + 1 := hi
      exact h9.2.2 i (by omega)
theorem XW_R {s0 s : gs} {D : DD} {n : Nat} {R R' : Nat → Int64} (h : XS s0 s (uW D n R)) (e : ∀ i, i < n → R i = R' i) : XS s0 s (uW D n R') := by
  obtain ⟨⟨h1, h2, h3, h4, h5, h6, h7, h8, h9, h10⟩, hf⟩ := h
  refine ⟨⟨h1, h2, h3, h4, h5, h6, h7, h8, ⟨h9.1, h9.2.1, fun i hi => ?_⟩, h10⟩, hf⟩
  rw [show dR (uW D n R') i = R' i from rfl, ← e i hi]
  exact h9.2.2 i hi
theorem MW_R {s0 s : gs} {D : DD} {n : Nat} {R R' : Nat → Int64} (h : MS s0 s (uW D n R)) (e : ∀ i, i < n → R i = R' i) : MS s0 s (uW D n R') := by
  obtain ⟨⟨h1, h2, h3, h4, h5, h6, h7, h8, h9, h10⟩, hf⟩ := h
  refine ⟨⟨h1, h2, h3, h4, h5, h6, h7, h8, ⟨h9.1, h9.2.1, fun i hi => ?_⟩, h10⟩, hf⟩
  rw [show dR (uW D n R') i = R' i from rfl, ← e i hi]
  exact h9.2.2 i hi
theorem MS_row0 {s0 s : gs} {D : DD} (h : MS s0 s D) (R : Nat → Int64) : MS s0 (gs_V s 48 12 0) (uW D 0 R) := by
  obtain ⟨⟨h1, h2, h3, h4, h5, h6, h7, h8, h9, h10⟩, hf⟩ := h
  exact ⟨⟨h1, h2, h3, h4, h5, h6, h7, h8, ⟨Nat.zero_le _, rfl, fun i hi => absurd hi (Nat.not_lt_zero _)⟩, h10⟩, frM_V hf (by decide) _ _⟩
theorem MS_thr {s0 s : gs} {D : DD} (h : MS s0 s D) (x : Int32) : MS s0 (gs_V s 48 13 x) D := by
  obtain ⟨⟨h1, h2, h3, h4, h5, h6, h7, h8, h9, h10⟩, hf⟩ := h
  exact ⟨⟨h1, h2, h3, h4, h5, h6, h7, h8, h9, h10⟩, frM_V hf (by decide) _ _⟩
theorem MS_add {s0 s : gs} {D : DD} (h : MS s0 s D) (hn : dm D < 32) (x : Int64) : MS s0 (gs_V (gs_R s 58 (dm D) x) 48 12 (nI (dm D + 1))) (uW D (dm D + 1) (fun i => if i = dm D then x else dR D i)) := by
  obtain ⟨⟨h1, h2, h3, h4, h5, h6, h7, h8, h9, h10⟩, hf⟩ := h
  refine ⟨⟨h1, h2, h3, h4, h5, h6, h7, h8, ⟨by show dm D + 1 ≤ 32; omega, rfl, fun i hi => ?_⟩, h10⟩, frM_V (frM_R hf (by decide) _ _) (by decide) _ _⟩
  show (if i = dm D then x else gsR s 58 i) = if i = dm D then x else dR D i
  by_cases e : i = dm D
  · rw [if_pos e, if_pos e]
  · rw [if_neg e, if_neg e]
    have hi' : i < dm D + 1 := hi
    exact h9.2.2 i (by omega)
/-- now, on the reference's side -/
theorem MS_now {s0 s s' : gs} {D : DD} {g : Nat → Int32} (h : MS s0 s D) (f : frA s s' 49) (hg : gsA s' 49 = g) : MS s0 s' (uG D g) := by
  obtain ⟨⟨h1, h2, h3, h4, h5, h6, h7, h8, h9, h10, h11⟩, hf⟩ := h
  have hf' := frM_frA hf f (by decide)
  obtain ⟨f1, f2, f3, f4, f5⟩ := f
  refine ⟨?_, hf'⟩
  unfold QM MT ML MR MD MN MG MU MK MW MO MZ at *
  rw [f1, f4, f3 57 (by decide), f3 50 (by decide), f3 51 (by decide), f3 61 (by decide), f3 52 (by decide), f3 53 (by decide), f3 54 (by decide), f3 55 (by decide), f3 56 (by decide), f3 63 (by decide), f3 71 (by decide), f3 72 (by decide), f3 69 (by decide), f3 65 (by decide)]
  exact ⟨h1, h2, h3, h4, h5, hg, h7, h8, h9, h10, h11⟩
/-- arrays that QM does not speak of -/
theorem MS_scr {s0 s s' : gs} {D : DD} {r : Nat} (h : MS s0 s D) (f : frA s s' r) (hr : r = 59 ∨ r = 60 ∨ r = 64 ∨ r = 66 ∨ r = 67 ∨ r = 68 ∨ r = 70) : MS s0 s' D := by
  obtain ⟨hq, hf⟩ := h
  have hf' := frM_frA hf f (by omega)
  obtain ⟨f1, f2, f3, f4, f5⟩ := f
  refine ⟨?_, hf'⟩
  unfold QM MT ML MR MD MN MG MU MK MW MO MZ at *
  rw [f1, f4, f3 57 (by omega), f3 50 (by omega), f3 51 (by omega), f3 61 (by omega), f3 52 (by omega), f3 53 (by omega), f3 54 (by omega), f3 55 (by omega), f3 56 (by omega), f3 63 (by omega), f3 71 (by omega), f3 72 (by omega), f3 69 (by omega), f3 65 (by omega), f3 49 (by omega)]
  exact hq
/-- 'then' -/
theorem MS_then {s0 s s' : gs} {D : DD} (h : MS s0 s D) (f : frA s s' 65) (hz : ∀ i, 108 ≤ i → gsA s' 65 i = 0) : MS s0 s' D := by
  obtain ⟨⟨h1, h2, h3, h4, h5, h6, h7, h8, h9, h10, h11⟩, hf⟩ := h
  have hf' := frM_frA hf f (by omega)
  obtain ⟨f1, f2, f3, f4, f5⟩ := f
  refine ⟨?_, hf'⟩
  unfold QM MT ML MR MD MN MG MU MK MW MO MZ at *
  rw [f1, f4, f3 57 (by omega), f3 50 (by omega), f3 51 (by omega), f3 61 (by omega), f3 52 (by omega), f3 53 (by omega), f3 54 (by omega), f3 55 (by omega), f3 56 (by omega), f3 63 (by omega), f3 71 (by omega), f3 72 (by omega), f3 69 (by omega), f3 49 (by omega)]
  exact ⟨h1, h2, h3, h4, h5, h6, h7, h8, h9, h10, hz⟩

section T1
variable {c : gx} {d : Nat} {Post : Option Value → gs → Prop} {s0 s : gs} {D : DD}
theorem frV_s1 {s : gs} {r k : Nat} {x : Int32} : frV s (gs_V s r k x) r := frV_V (frV_rf s r) k x
theorem slot_c {q : Nat} (h : q < 12) : gs_isC (18 + 1 + q) 6 = true := by
  have : ∀ q, q < 12 → gs_isC (18 + 1 + q) 6 = true := by decide
  exact this q h
theorem s41 (hd : 2 ≤ d) (h : XS s0 s D) {g : Nat → Int32} (hg : xg s 15 = g) (k : ∀ s', XS s0 s' (uP D g) → xg s' 15 = g → Post none s') : tE c d 41 [.ref 17, .ref 15] s Post := by
  obtain ⟨d, rfl⟩ := d_1 (Nat.le_trans (by decide) hd)
  obtain ⟨a1, a2, p, a3, a4, a5⟩ := h.1.2.2.2.2.2.2.1
  refine okm41 c d Post _ s ?_
  unfold wm41
  rw [a4]
  have hp12 : nI p < 12 := (nI_lt' (b := 12) (by omega) (by decide)).mpr a3
  refine ⟨fun z => absurd z (nI_pos (by omega)), fun _ => ⟨fun _ => ?_, fun z => absurd hp12 z⟩⟩
  unfold w41_21
  rw [a4, nI_clamp (by omega)]
  refine ⟨vp_in_nI a3 (by decide), slot_c a3, s48 (by omega) (slot_c a3) rfl (by omega) (fun s1 f1 e1 => ⟨rfl, ?_⟩)⟩
  have v17 : gsV s1 17 = gsV s 17 := f1.1 17 (by omega)
  rw [v17, a4, nI_1]
  -- the state behind both writes
  have fin : ∀ p' : Nat, p' = (p + 1) % 12 → w41_56 c d Post (nI p') s1 := by
    intro p' hp'
    unfold w41_56
    rintro s2 rfl s3 rfl
    have e2 : gsV (gs_V s1 17 1 (nI p')) 17 2 = nI (du D) := by
      rw [V_V, if_pos rfl, if_neg (by decide), v17, a1]
    rw [e2, nI_1]
    have e3 : (if nI (du D + 1) < 12 then nI (du D + 1) else 12) = nI (puN (du D)) := by
      show (if nI (du D + 1) < nI 12 then nI (du D + 1) else nI 12) = _
      unfold puN
      by_cases q : du D < 12
      · rw [if_pos q]
        by_cases q2 : du D + 1 < 12
        · rw [if_pos ((nI_lt' (b := 12) (by omega) (by decide)).mpr q2)]
        · rw [if_neg (fun z => q2 ((nI_lt' (b := 12) (by omega) (by decide)).mp z)), show du D + 1 = 12 by omega]
      · rw [if_neg q, if_neg (fun z => absurd ((nI_lt' (a := du D + 1) (b := 12) (by omega) (by decide)).mp z) (by omega))]
    rw [e3]
    have xe : ∀ b, b ≠ 17 → xg (gs_V (gs_V s1 17 1 (nI p')) 17 2 (nI (puN (du D)))) b = xg s1 b := by
      intro b hb
      exact xg_cg (by funext j; rw [V_V, if_neg hb, V_V, if_neg hb]) rfl
    have x1 : ∀ b, b ≠ 18 + 1 + p → xg s1 b = xg s b := fun b hb => xg_cg (f1.1 b hb) (f1.2.1 b hb)
    have ve : ∀ b, b ≠ 17 → b ≠ 18 + 1 + p → gsV (gs_V (gs_V s1 17 1 (nI p')) 17 2 (nI (puN (du D)))) b = gsV s b := by
      intro b hb hc
      rw [← f1.1 b hc]
      funext j
      rw [V_V, if_neg hb, V_V, if_neg hb]
    refine k _ ⟨⟨?_, ?_, ?_, ?_, ?_, ?_, ?_, ?_, ?_, ?_⟩, ?_⟩ ?_
    · have := h.1.1
      unfold XT at *
      rw [ve 1 (by omega) (by omega), A_V, A_V, f1.2.2.1]
      exact this
    · have := h.1.2.1
      unfold XL at *
      rw [ve 3 (by omega) (by omega), A_V, A_V, f1.2.2.1]
      exact this
    · have := h.1.2.2.1
      unfold XR at *
      rw [ve 5 (by omega) (by omega), A_V, A_V, f1.2.2.1]
      exact this
    · have := h.1.2.2.2.1
      unfold XD at *
      rw [ve 10 (by omega) (by omega), ve 12 (by omega) (by omega)]
      exact this
    · intro i hi
      have := h.1.2.2.2.2.1 i hi
      rw [ve (10 + 2 * i) (by omega) (by omega), A_V, A_V, f1.2.2.1]
      exact this
    · show xg _ 14 = dg D
      rw [xe 14 (by decide), x1 14 (by omega)]
      exact h.1.2.2.2.2.2.1
    · refine ⟨rfl, ?_, p', by omega, rfl, fun i hi => ?_⟩
      · show puN (du D) ≤ 12
        unfold puN
        split <;> omega
      · have hi' : i < puN (du D) := hi
        rw [xe _ (by omega)]
        show xg s1 (19 + (p' + 12 - puN (du D) + i) % 12) = puU (du D) (dU D) g i
        unfold puN at hi' ⊢
        unfold puU
        by_cases q : du D < 12
        · rw [if_pos q] at hi' ⊢
          rw [if_pos q]
          by_cases e : i = du D
          · rw [show 19 + (p' + 12 - (du D + 1) + i) % 12 = 18 + 1 + p by omega, e1, hg, if_pos e]
          · rw [show 19 + (p' + 12 - (du D + 1) + i) % 12 = 19 + (p + 12 - du D + i) % 12 by omega, x1 _ (by omega), if_neg e]
            exact a5 i (by omega)
        · rw [if_neg q] at hi' ⊢
          rw [if_neg q]
          by_cases e : i = 11
          · rw [show 19 + (p' + 12 - 12 + i) % 12 = 18 + 1 + p by omega, e1, hg, if_pos e]
          · rw [show 19 + (p' + 12 - 12 + i) % 12 = 19 + (p + 12 - du D + (i + 1)) % 12 by omega, x1 _ (by omega), if_neg e]
            exact a5 (i + 1) (by omega)
    · intro i hi
      have := h.1.2.2.2.2.2.2.2.1 i hi
      rw [ve 0 (by omega) (by omega), xe _ (by omega), x1 _ (by omega)]
      exact this
    · have := h.1.2.2.2.2.2.2.2.2.1
      unfold XW at *
      rw [ve 34 (by omega) (by omega), R_V, R_V, f1.2.2.2.1]
      exact this
    · have := h.1.2.2.2.2.2.2.2.2.2
      unfold XO at *
      rw [ve 41 (by omega) (by omega), A_V, A_V, f1.2.2.1]
      exact this
    · exact frX_V (frX_V (frX_frV h.2 f1 (by omega)) (by decide) _ _) (by decide) _ _
    · rw [xe 15 (by decide), x1 15 (by omega)]
      exact hg
  refine ⟨fun z => ?_, fun z => ?_⟩
  · have : nI (p + 1) = nI 12 := z
    rw [nI_eq' (by omega) (by decide)] at this
    exact fin 0 (by omega)
  · have : ¬ nI (p + 1) = nI 12 := z
    rw [nI_eq' (by omega) (by decide)] at this
    exact fin (p + 1) (by omega)
theorem s42 (hd : 2 ≤ d) (h : XS s0 s D) (k0 : du D = 0 → Post (some (.int 0)) s) (k : 0 < du D → ∀ s', XS s0 s' (uU (uG D (dU D (du D - 1))) (du D - 1) (dU D)) → Post (some (.int 1)) s') : tE c d 42 [.ref 17, .ref 14] s Post := by
  obtain ⟨d, rfl⟩ := d_1 (Nat.le_trans (by decide) hd)
  obtain ⟨a1, a2, p, a3, a4, a5⟩ := h.1.2.2.2.2.2.2.1
  refine okm42 c d Post _ s ?_
  unfold wm42
  rw [a4, a1]
  have e0 : nI (du D) = 0 ↔ du D = 0 := nI_eq' (b := 0) (by omega) (by decide)
  rw [e0]
  refine ⟨k0, fun z => ?_⟩
  have fin : ∀ p' : Nat, p' < 12 → p = (p' + 1) % 12 → w42_37 c d Post 14 (nI p') s := by
    intro p' hp' hpp
    unfold w42_37
    rintro s1 rfl
    rw [V_V, if_pos rfl, if_pos rfl, nI_clamp (by omega)]
    refine ⟨vp_in_nI hp' (by decide), rfl, s48 (by omega) rfl (slot_c hp') (by omega) (fun s2 f2 e2 => ⟨rfl, ?_⟩)⟩
    rintro s3 rfl
    have v17 : gsV s2 17 = gsV (gs_V s 17 1 (nI p')) 17 := f2.1 17 (by decide)
    have e3 : gsV s2 17 2 - 1 = nI (du D - 1) := by
      rw [v17, V_V, if_pos rfl, if_neg (by decide), a1]
      exact pk_sub (a := du D) (b := 1) (by omega)
    rw [e3]
    have xe : ∀ b, b ≠ 17 → xg (gs_V s2 17 2 (nI (du D - 1))) b = xg s2 b := by
      intro b hb
      exact xg_cg (by funext j; rw [V_V, if_neg hb]) rfl
    have x0 : ∀ b, b ≠ 17 → xg (gs_V s 17 1 (nI p')) b = xg s b := by
      intro b hb
      exact xg_cg (by funext j; rw [V_V, if_neg hb]) rfl
    have x1 : ∀ b, b ≠ 14 → b ≠ 17 → xg s2 b = xg s b := fun b hb hc => (xg_cg (f2.1 b hb) (f2.2.1 b hb)).trans (x0 b hc)
    have ve : ∀ b, b ≠ 17 → b ≠ 14 → gsV (gs_V s2 17 2 (nI (du D - 1))) b = gsV s b := by
      intro b hb hc
      have h1 := f2.1 b hc
      have : gsV (gs_V s 17 1 (nI p')) b = gsV s b := by funext j; rw [V_V, if_neg hb]
      rw [← this, ← h1]
      funext j
      rw [V_V, if_neg hb]
    refine k (by omega) _ ⟨⟨?_, ?_, ?_, ?_, ?_, ?_, ?_, ?_, ?_, ?_⟩, ?_⟩
    · have := h.1.1
      unfold XT at *
      rw [ve 1 (by omega) (by omega), A_V, f2.2.2.1, A_V]
      exact this
    · have := h.1.2.1
      unfold XL at *
      rw [ve 3 (by omega) (by omega), A_V, f2.2.2.1, A_V]
      exact this
    · have := h.1.2.2.1
      unfold XR at *
      rw [ve 5 (by omega) (by omega), A_V, f2.2.2.1, A_V]
      exact this
    · have := h.1.2.2.2.1
      unfold XD at *
      rw [ve 10 (by omega) (by omega), ve 12 (by omega) (by omega)]
      exact this
    · intro i hi
      have := h.1.2.2.2.2.1 i hi
      rw [ve (10 + 2 * i) (by omega) (by omega), A_V, f2.2.2.1, A_V]
      exact this
    · show xg _ 14 = dU D (du D - 1)
      rw [xe 14 (by decide), e2, x0 _ (by omega), ← a5 (du D - 1) (by omega)]
      congr 1
      omega
    · have hv1 : gsV s2 17 1 = nI p' := by rw [v17, V_V, if_pos rfl, if_pos rfl]
      refine ⟨rfl, ?_, p', by omega, ?_, fun i hi => ?_⟩
      · show du D - 1 ≤ 12
        omega
      · rw [V_V, if_pos rfl, if_neg (by decide)]
        exact hv1
      · have hi' : i < du D - 1 := hi
        show xg (gs_V s2 17 2 (nI (du D - 1))) (19 + (p' + 12 - (du D - 1) + i) % 12) = dU D i
        rw [xe _ (by omega), x1 _ (by omega) (by omega), ← a5 i (by omega)]
        congr 1
        omega
    · intro i hi
      have := h.1.2.2.2.2.2.2.2.1 i hi
      rw [ve 0 (by omega) (by omega), xe _ (by omega), x1 _ (by omega) (by omega)]
      exact this
    · have := h.1.2.2.2.2.2.2.2.2.1
      unfold XW at *
      rw [ve 34 (by omega) (by omega), R_V, f2.2.2.2.1, R_V]
      exact this
    · have := h.1.2.2.2.2.2.2.2.2.2
      unfold XO at *
      rw [ve 41 (by omega) (by omega), A_V, f2.2.2.1, A_V]
      exact this
    · exact frX_V (frX_frV (frX_V h.2 (by decide) _ _) f2 (by decide)) (by decide) _ _
  have l0 : nI p ≤ 0 ↔ p ≤ 0 := nI_le' (b := 0) (by omega) (by decide)
  have l12 : nI p < 12 ↔ p < 12 := nI_lt' (b := 12) (by omega) (by decide)
  rw [l0, l12]
  refine ⟨fun y => fin 11 (by decide) (by omega), fun y => ⟨fun _ => ?_, fun w => absurd a3 w⟩⟩
  rw [show nI p - 1 = nI (p - 1) from pk_sub (a := p) (b := 1) (by omega)]
  exact fin (p - 1) (by omega) (by omega)
theorem s94 (hd : 3 ≤ d) (h : XS s0 s D) {g : Nat → Int32} (hg : xg s 15 = g) (x : Int32) (k0 : x < 0 → Post (some (.int x)) s) (k : ¬ x < 0 → ∀ s', XS s0 s' (uP D g) → Post (some (.int x)) s') : tE c d 94 [.ref 0, .int x] s Post := by
  obtain ⟨d, rfl⟩ := d_1 (Nat.le_trans (by decide) hd)
  exact okm94 c d Post x s ⟨k0, fun z => s41 (by omega) h hg (fun s' h' _ => ⟨rfl, k z s' h'⟩)⟩
end T1
