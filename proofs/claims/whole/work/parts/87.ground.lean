/-! Calls: ground. -/
/-- what the class's look through the text says: .inl the wrong place, .inr how many fields -/
def gmf (t : Nat → Nat) : Nat → Nat → Nat → Bool → Nat ⊕ Nat
  | 0, i, F, due => if F < 2 ∨ due = true then .inl i else .inr F
  | m + 1, i, F, due => if (48 ≤ t i ∧ t i ≤ 57) ∧ F < 12 then gmf t m (i + 1) (F + 1) false else if t i = 126 ∧ due = false then gmf t m (i + 1) F true else .inl i
theorem gmf_0 (t : Nat → Nat) (i F : Nat) (due : Bool) : gmf t 0 i F due = if F < 2 ∨ due = true then .inl i else .inr F := rfl
theorem gmf_1 (t : Nat → Nat) (m i F : Nat) (due : Bool) : gmf t (m + 1) i F due = if (48 ≤ t i ∧ t i ≤ 57) ∧ F < 12 then gmf t m (i + 1) (F + 1) false else if t i = 126 ∧ due = false then gmf t m (i + 1) F true else .inl i := rfl
/-- fields, heights, rivers as they are read -/
def gtS (t : Nat → Nat) (i : Nat) (a : Nat × (Nat → Int32) × (Nat → Bool)) : Nat × (Nat → Int32) × (Nat → Bool) := if t i = 126 then (a.1, a.2.1, s2n a.2.2 (a.1 - 1) true) else (a.1 + 1, upd a.2.1 a.1 (nI (t i - 48)), a.2.2)
def gtR (t : Nat → Nat) (i : Nat) : Nat × (Nat → Int32) × (Nat → Bool) := fl (gtS t) 0 i (0, fun _ => 0, fun _ => false)
theorem gtR_s (t : Nat → Nat) (i : Nat) : gtR t (i + 1) = gtS t i (gtR t i) := by
  unfold gtR
  rw [fl_sn, Nat.zero_add]
def GI (t : Nat → Nat) (i F : Nat) (due : Bool) : Prop := (gtR t i).1 = F ∧ (∀ k, F ≤ k → (gtR t i).2.2 k = false) ∧ F ≤ 12 ∧ (due = false → 1 ≤ F ∧ (gtR t i).2.2 (F - 1) = false)
theorem GI_0 (t : Nat → Nat) : GI t 0 0 true := ⟨rfl, fun _ _ => rfl, by decide, fun h => by cases h⟩
theorem GI_d {t : Nat → Nat} {i F : Nat} {due : Bool} (h : GI t i F due) (hd : 48 ≤ t i ∧ t i ≤ 57) (hF : F < 12) : GI t (i + 1) (F + 1) false ∧ (gtR t (i + 1)).2.1 = upd (gtR t i).2.1 F (nI (t i - 48)) ∧ (gtR t (i + 1)).2.2 = (gtR t i).2.2 := by
  obtain ⟨h1, h2, h3, h4⟩ := h
  have e : gtR t (i + 1) = (F + 1, upd (gtR t i).2.1 F (nI (t i - 48)), (gtR t i).2.2) := by
    rw [gtR_s]
    unfold gtS
    rw [if_neg (by omega), h1]
  unfold GI
  rw [e]
  exact ⟨⟨rfl, fun k hk => h2 k (by omega), by omega, fun _ => ⟨by omega, h2 F (Nat.le_refl _)⟩⟩, rfl, rfl⟩
theorem GI_r {t : Nat → Nat} {i F : Nat} (h : GI t i F false) (hd : t i = 126) : GI t (i + 1) F true ∧ (gtR t (i + 1)).2.1 = (gtR t i).2.1 ∧ (gtR t (i + 1)).2.2 = s2n (gtR t i).2.2 (F - 1) true := by
  obtain ⟨h1, h2, h3, h4⟩ := h
  have h5 := h4 rfl
  have e : gtR t (i + 1) = (F, (gtR t i).2.1, s2n (gtR t i).2.2 (F - 1) true) := by
    rw [gtR_s]
    unfold gtS
    rw [if_pos hd, h1]
  unfold GI
  rw [e]
  refine ⟨⟨rfl, fun k hk => ?_, h3, fun z => by cases z⟩, rfl, rfl⟩
  show (if k = F - 1 then true else (gtR t i).2.2 k) = false
  rw [if_neg (by omega)]
  exact h2 k hk
theorem gmf_le {t : Nat → Nat} : ∀ (m i F : Nat) (due : Bool), (∀ j, gmf t m i F due = .inl j → j ≤ i + m) ∧ (∀ G, F ≤ 12 → gmf t m i F due = .inr G → 2 ≤ G ∧ G ≤ 12)
  | 0, i, F, due => by
    rw [gmf_0]
    by_cases q : F < 2 ∨ due = true
    · rw [if_pos q]
      exact ⟨fun j h => by cases h; omega, fun G _ h => by cases h⟩
    · rw [if_neg q]
      exact ⟨fun j h => (by cases h), fun G hF h => (by cases h; exact ⟨by omega, hF⟩)⟩
  | m + 1, i, F, due => by
    rw [gmf_1]
    by_cases q : (48 ≤ t i ∧ t i ≤ 57) ∧ F < 12
    · rw [if_pos q]
      have := gmf_le (t := t) m (i + 1) (F + 1) false
      exact ⟨fun j h => by have := this.1 j h; omega, fun G hF h => this.2 G (by omega) h⟩
    · rw [if_neg q]
      by_cases q2 : t i = 126 ∧ due = false
      · rw [if_pos q2]
        have := gmf_le (t := t) m (i + 1) F true
        exact ⟨fun j h => by have := this.1 j h; omega, fun G hF h => this.2 G hF h⟩
      · rw [if_neg q2]
        exact ⟨fun j h => by cases h; omega, fun G _ h => by cases h⟩
def bB (b : Bool) : Int32 := if b = true then 1 else 0
def grD (D : DD) (F : Nat) (H : Nat → Int32) (R : Nat → Bool) : DD := uT (uK (uU (uG (uL D F H R) (upd (upd (dg D) 1 0) 2 (nI (F - 1)))) 0 (dU D)) (fun _ => false) (dK D)) 0 (dt D)
theorem VD_gr {B : Nat} {D : DD} (h : VD B D) {F : Nat} (hF : 2 ≤ F ∧ F ≤ 12) (H : Nat → Int32) (R : Nat → Bool) : VD B (grD D F H R) := by
  obtain ⟨h1, ⟨g0, g1, g2, g3, g4, g5, g6⟩, h3, h4, h5⟩ := h
  refine ⟨hF, ⟨g0, ⟨0, by show 0 < F; omega, rfl⟩, ⟨F - 1, by show F - 1 < F; omega, rfl⟩, g3, g4, g5, fun i hi => ?_⟩, fun i hi => absurd hi (Nat.not_lt_zero _), fun i hi hk => (by cases hk), h5⟩
  show upd (upd (dg D) 1 0) 2 (nI (F - 1)) i = 0
  rw [upd_ne (by omega), upd_ne (by omega)]
  exact g6 i hi
def frL (s s' : gs) : Prop := (∀ b, b ≠ 3 → gsV s' b = gsV s b) ∧ gsE s' = gsE s ∧ (∀ b, b ≠ 4 → gsA s' b = gsA s b) ∧ gsR s' = gsR s
theorem frL_V {s s' : gs} (h : frL s s') (k : Nat) (x : Int32) : frL s (gs_V s' 3 k x) := ⟨fun b hb => by
  rw [← h.1 b hb]
  funext j
  rw [V_V, if_neg hb], h.2.1, h.2.2.1, h.2.2.2⟩
theorem frL_A {s s' : gs} (h : frL s s') (k : Nat) (x : Int32) : frL s (gs_A s' 4 k x) := ⟨h.1, h.2.1, fun b hb => by
  rw [← h.2.2.1 b hb]
  funext j
  rw [A_A, if_neg hb], h.2.2.2⟩
theorem XS_gr {s0 s s6 : gs} {D : DD} {F : Nat} {H : Nat → Int32} {R : Nat → Bool} (h : XS s0 s D) (f : frL s s6) (v : gsV s6 3 2 = nI F) (hF : 2 ≤ F ∧ F ≤ 12) (hH : ∀ i, i < F → gsA s6 4 i = H i) (hR : ∀ i, i < 12 → gb (gsV s6 3 1) i = (decide (i + 1 < F) && R i)) : XS s0 (gs_V (gs_V (gs_V (gs_V (gs_V s6 14 1 0) 14 2 (nI (F - 1))) 17 2 0) 0 10 0) 1 1 0) (grD D F H R) := by
  obtain ⟨⟨h1, h2, h3, h4, h5, h6, h7, h8, h9, h10⟩, hf⟩ := h
  obtain ⟨f1, f2, f3, f4⟩ := f
  have fx : ∀ b, b ≠ 3 → xg s6 b = xg s b := fun b hb => xg_cg (f1 b hb) (by rw [f2])
  have hf6 : frX s0 s6 := fun b hb => by
    have := hf b hb
    rw [f1 b (by omega), f2, f3 b (by omega), f4]
    exact this
  have n6 : XN s6 D := fun i hi => by
    have := h5 i hi
    rw [f1 (10 + 2 * i) (by omega), f3 (11 + 2 * i) (by omega)]
    exact this
  obtain ⟨a1, a2, p, a3, a4, a5⟩ := h7
  refine ⟨⟨⟨Nat.zero_le _, rfl, fun i hi => absurd hi (Nat.not_lt_zero _)⟩, ⟨hF, v, hH, hR⟩, ?_, ?_, XN_V (XN_V (XN_V (XN_V (XN_V n6 (by decide) _ _) (by decide) _ _) (by decide) _ _) (by decide) _ _) (by decide) _ _, ?_, ⟨rfl, Nat.zero_le _, p, a3, ?_, fun i hi => absurd hi (Nat.not_lt_zero _)⟩, ?_, ?_, ?_⟩, frX_V (frX_V (frX_V (frX_V (frX_V hf6 (by decide) _ _) (by decide) _ _) (by decide) _ _) (by decide) _ _) (by decide) _ _⟩
  · have e : XR s6 D := by
      unfold XR at *
      rw [f1 5 (by decide), f3 6 (by decide)]
      exact h3
    exact e
  · have e : XD s6 D := by
      unfold XD at *
      rw [f1 10 (by decide), f1 12 (by decide)]
      exact h4
    exact e
  · show xg _ 14 = upd (upd (dg D) 1 0) 2 (nI (F - 1))
    rw [xg_Vn (by decide), xg_Vn (by decide), xg_Vn (by decide), xg_V _ _ _ _ (by decide), xg_V _ _ _ _ (by decide), fx 14 (by decide), show xg s 14 = dg D from h6]
  · show gsV s6 17 1 = nI p
    rw [f1 17 (by decide)]
    exact a4
  · intro i hi
    exact ⟨gb_0 i, fun z => by cases z⟩
  · have e : XW s6 D := by
      unfold XW at *
      rw [f1 34 (by decide), f4]
      exact h9
    exact e
  · have e : XO s6 D := by
      unfold XO at *
      rw [f1 41 (by decide), f3 42 (by decide)]
      exact h10
    exact e
theorem pz_V (s : gs) (a : Nat) (w : Int32) {k : Nat} (h1 : k ≠ 17) (h2 : k ≠ 18) (x : Int32) : gs_V (pz s a w) 48 k x = pz (gs_V s 48 k x) a w := by
  unfold pz
  rw [V_comm _ _ _ (Ne.symm h2), V_comm _ _ _ (Ne.symm h1)]
section G1
variable {c : gx} {d B : Nat} {Post : Option Value → gs → Prop} {s0 s : gs} {D : DD}
theorem s163 (hd : 2 ≤ d) (h : MS s0 s D) {p : Nat} (hp : p ≤ 80) (k : ∀ sb, MS s0 sb (uT D 0 (dt D)) → PB sb (dt D) (dT D) p 57 → Post none (pz sb 0 (-1))) : tE c d 163 [.ref 48, .int (nI p)] s Post := by
  obtain ⟨d, rfl⟩ := d_1 (show 1 ≤ d by omega)
  have hT := h.1.1
  have h80 := hT.1
  refine okm163 c d Post _ s (s162 (by omega) (by decide) _ _ ⟨rfl, ?_⟩)
  rintro s4 rfl
  rw [pz_V _ _ _ (by decide) (by decide), hT.2.1]
  refine k _ ?_ ⟨rfl, by decide, ⟨80, rfl, by omega, Nat.le_refl _⟩, h80, hp, rfl, rfl, fun i hi _ => hT.2.2 i hi⟩
  have hJ : frJ s (gs_V (gs_V (gs_P s 57) 48 15 (nI (dT D))) 48 16 (nI p)) := frJ_V (frJ_V (frJ_P (frJ_rf s) 57) (by decide) _) (by decide) _
  exact MS_T (n := 0) (MS_frJ h hJ) (Nat.zero_le _)
theorem PB_A {t : Nat → Nat} {L p r : Nat} (h : PB s t L p r) {b : Nat} (hb : b ≠ r) (k : Nat) (x : Int32) : PB (gs_A s b k x) t L p r := by
  obtain ⟨h1, h2, h3, h4, h5, h6, h7, h8⟩ := h
  refine ⟨h1, h2, h3, h4, h5, h6, h7, fun i hi hp => ?_⟩
  rw [A_A, if_neg (Ne.symm hb)]
  exact h8 i hi hp
theorem s23 (hd : 2 ≤ d) (hT : XT s D) (k : Post (some (.int (match gmf (dt D) (dT D) 0 0 true with | .inl j => nI j | .inr _ => -1))) s) : tE c d 23 [.ref 1] s Post := by
  obtain ⟨d, rfl⟩ := d_1 (show 1 ≤ d by omega)
  have h80 := hT.1
  have loop : ∀ (m i F : Nat) (due : Bool), i + m = dT D → F ≤ 12 → gmf (dt D) m i F due = gmf (dt D) (dT D) 0 0 true → wl23_6 c d Post (m + 1) (nI F) (bB due) (nI i) s := by
    intro m
    induction m with
    | zero =>
      intro i F due hi hF hr
      rw [gmf_0] at hr
      unfold wl23_6 wb23_6 w23_76 w23_84
      rw [hT.2.1, show (2 : Int32) = nI 2 from rfl, nI_lt' (by omega) (by omega)]
      refine ⟨fun _ => ⟨fun z => ?_, fun z => ⟨fun y => ?_, fun y => ?_⟩⟩, fun z => absurd (le_t (by omega) (by omega) (by omega)) z⟩
      · rw [if_pos (Or.inl z)] at hr
        rw [← hr, show i = dT D by omega] at k
        exact k
      · have hdue : ¬ due = true := fun e => by rw [e] at y; exact absurd y (by decide)
        rw [if_neg (fun w => w.elim z hdue)] at hr
        rw [← hr] at k
        exact k
      · have hdue : due = true := by
          cases due
          · exact absurd rfl y
          · rfl
        rw [if_pos (Or.inr hdue)] at hr
        rw [← hr, show i = dT D by omega] at k
        exact k
    | succ m ih =>
      intro i F due hi hF hr
      have hti := hT.2.2 i (by omega)
      have hat : atT D i = dt D i := if_pos (by omega)
      rw [gmf_1] at hr
      have tail : ¬ ((48 ≤ dt D i ∧ dt D i ≤ 57) ∧ F < 12) → w23_43 c d Post (wl23_6 c d Post (m + 1)) (nI F) (bB due) (nI i) (nI (dt D i)) s := by
        intro hq
        rw [if_neg hq] at hr
        have stop : ¬ (dt D i = 126 ∧ due = false) → w23_59 c d Post (nI i) s := by
          intro hq2
          rw [if_neg hq2] at hr
          rw [← hr] at k
          exact k
        unfold w23_43
        rw [show (126 : Int32) = nI 126 from rfl, nI_eq' (by omega) (by omega)]
        refine ⟨fun z => ⟨fun y => ?_, fun y => stop (fun w => ?_)⟩, fun z => stop (fun w => z w.1)⟩
        · have hdue : due = false := by
            cases due
            · rfl
            · exact absurd y (by decide)
          rw [if_pos ⟨z, hdue⟩] at hr
          unfold w23_61
          rw [nI_1]
          exact ih (i + 1) F true (by omega) hF hr
        · rw [w.2] at y
          exact absurd rfl y
      unfold wl23_6 wb23_6
      rw [hT.2.1]
      refine ⟨fun z => absurd z (le_f (by omega) (by omega) (by omega)), fun _ => s61 (by omega) hT (by omega) ⟨_, rfl, s60 (by omega) _ ⟨_, rfl, fun y => ?_, fun y => ⟨fun x => ?_, fun x => ?_⟩⟩⟩⟩
      · rw [hat] at y ⊢
        refine tail (fun w => ?_)
        rw [bI_0] at y
        exact y ⟨le_t (a := 48) (by decide) (by omega) w.1.1, le_t (b := 57) (by omega) (by decide) w.1.2⟩
      · rw [hat]
        refine tail (fun w => ?_)
        exact absurd x (le_f (a := 12) (by decide) (by omega) w.2)
      · rw [hat, bI_0, Classical.not_not] at y
        have y1 := (nI_le' (a := 48) (by decide) (by omega)).mp y.1
        have y2 := (nI_le' (b := 57) (by omega) (by decide)).mp y.2
        have x1 : F < 12 := by
          by_cases x1 : F < 12
          · exact x1
          · exact absurd (le_t (a := 12) (by decide) (by omega) (by omega)) x
        rw [if_pos ⟨⟨y1, y2⟩, x1⟩] at hr
        unfold w23_61
        rw [nI_1, nI_1]
        exact ih (i + 1) (F + 1) false (by omega) (by omega) hr
  exact okm23 c d Post s ⟨dT D + 1, loop (dT D) 0 0 true (by omega) (by decide) rfl⟩
theorem or_sh1 {x : Int32} {R : Nat → Bool} (hx : ∀ j, j < 32 → gb x j = R j) {f : Nat} (hf : f < 32) (j : Nat) (hj : j < 32) : gb (x ||| sh1 f) j = s2n R f true j := by
  rw [gb_ors hf hj, hx j hj]
  show _ = if j = f then true else R j
  by_cases e : j = f
  · rw [if_pos e, decide_eq_true e, Bool.or_true]
  · rw [if_neg e, decide_eq_false e, Bool.or_false]
theorem s24 (hd : 2 ≤ d) (hT : XT s D) {G : Nat} (hG : gmf (dt D) (dT D) 0 0 true = .inr G) (k : ∀ s6, frL s s6 → gsV s6 3 2 = nI G → (∀ i, i < G → gsA s6 4 i = (gtR (dt D) (dT D)).2.1 i) → (∀ i, i < 12 → gb (gsV s6 3 1) i = (decide (i + 1 < G) && (gtR (dt D) (dT D)).2.2 i)) → Post none s6) : tE c d 24 [.ref 3, .ref 1] s Post := by
  obtain ⟨d, rfl⟩ := d_1 (show 1 ≤ d by omega)
  have h80 := hT.1
  have loop : ∀ (m i F : Nat) (due : Bool) (s' : gs), i + m = dT D → GI (dt D) i F due → gmf (dt D) m i F due = .inr G → frL s s' → gsV s' 3 2 = nI F → (∀ j, j < 32 → gb (gsV s' 3 1) j = (gtR (dt D) i).2.2 j) → (∀ j, j < F → gsA s' 4 j = (gtR (dt D) i).2.1 j) → wl24_12 c d Post (m + 1) (nI i) s' := by
    intro m
    induction m with
    | zero =>
      intro i F due s' hi hg hr hf hv hR hH
      have hT' : XT s' D := by
        unfold XT at *
        rw [hf.1 1 (by decide), hf.2.2.1 2 (by decide)]
        exact hT
      rw [gmf_0] at hr
      unfold wl24_12 wb24_12
      rw [hT'.2.1]
      refine ⟨fun _ => ?_, fun z => absurd (le_t (by omega) (by omega) (by omega)) z⟩
      by_cases q : F < 2 ∨ due = true
      · rw [if_pos q] at hr; cases hr
      rw [if_neg q] at hr
      cases hr
      have e : i = dT D := by omega
      subst e
      have hdue : due = false := by
        cases due
        · rfl
        · exact absurd (Or.inr rfl) q
      have h5 := hg.2.2.2 hdue
      refine k s' hf hv hH (fun j hj => ?_)
      rw [hR j (by omega)]
      by_cases e1 : j + 1 < G
      · rw [decide_eq_true e1, Bool.true_and]
      · rw [decide_eq_false e1, Bool.false_and]
        by_cases e2 : j = G - 1
        · rw [e2]; exact h5.2
        · exact hg.2.1 j (by omega)
    | succ m ih =>
      intro i F due s' hi hg hr hf hv hR hH
      have hT' : XT s' D := by
        unfold XT at *
        rw [hf.1 1 (by decide), hf.2.2.1 2 (by decide)]
        exact hT
      have hti := hT.2.2 i (by omega)
      have hat : atT D i = dt D i := if_pos (by omega)
      have hF12 := hg.2.2.1
      rw [gmf_1] at hr
      unfold wl24_12 wb24_12 w24_87
      rw [hT'.2.1]
      refine ⟨fun z => absurd z (le_f (by omega) (by omega) (by omega)), fun _ => s61 (by omega) hT' (by omega) ⟨_, rfl, ?_⟩⟩
      rw [hat, hv, show (126 : Int32) = nI 126 from rfl, nI_eq' (by omega) (by omega), nI_1]
      by_cases q : (48 ≤ dt D i ∧ dt D i ≤ 57) ∧ F < 12
      · rw [if_pos q] at hr
        obtain ⟨g1, g2, g3⟩ := GI_d hg q.1 q.2
        refine ⟨fun z => absurd z (by omega), fun _ => ⟨fun z => absurd z (le_f (a := 12) (by decide) (by omega) q.2), fun _ => ⟨vp_in_nI q.2 (by decide), ?_⟩⟩⟩
        rintro s14 rfl s16 rfl
        have e48 : nI (dt D i) - 48 = nI (dt D i - 48) := pk_sub (a := dt D i) (b := 48) q.1.1
        rw [nI_clamp (by omega), V_A, hv, nI_1, e48]
        refine ih (i + 1) (F + 1) false _ (by omega) g1 hr (frL_V (frL_A hf _ _) _ _) rfl (fun j hj => ?_) (fun j hj => ?_)
        · rw [g3]; exact hR j hj
        · rw [g2, A_V, gsA_A]
          by_cases e : j = F
          · rw [e, upd_eq, upd_eq]; rfl
          · rw [upd_ne e, upd_ne e]; exact hH j (by omega)
      · rw [if_neg q] at hr
        by_cases q2 : dt D i = 126 ∧ due = false
        · rw [if_pos q2] at hr
          obtain ⟨q3, q4⟩ := q2
          subst q4
          obtain ⟨g1, g2, g3⟩ := GI_r hg q3
          have hF1 := (hg.2.2.2 rfl).1
          refine ⟨fun _ => ?_, fun z => absurd q3 z⟩
          rintro s7 rfl
          rw [show nI F - 1 = nI (F - 1) from pk_sub (a := F) (b := 1) hF1]
          refine ih (i + 1) F true _ (by omega) g1 hr (frL_V hf _ _) hv (fun j hj => ?_) (fun j hj => ?_)
          · rw [g3]
            exact or_sh1 hR (by omega) j hj
          · rw [g2]; exact hH j hj
        · rw [if_neg q2] at hr; cases hr
  refine okm24 c d Post s ?_
  rintro s1 rfl s2 rfl
  exact ⟨dT D + 1, loop (dT D) 0 0 true _ (by omega) (GI_0 _) hG (frL_V (frL_V ⟨fun _ _ => rfl, rfl, fun _ _ => rfl, rfl⟩ _ _) _ _) rfl (fun j hj => gb_0 j) (fun j hj => absurd hj (Nat.not_lt_zero _))⟩
theorem nar_b (b : Bool) : vp_nar .boolean (bB b) = bB b := by
  cases b <;> rfl
/-- the reference's last part -/
theorem s172e (hd : 2 ≤ d) {s4 : gs} (h : MS s0 s4 (uT D 0 (dt D))) {F : Nat} (hF : 2 ≤ F ∧ F ≤ 12) {H : Nat → Int32} {R : Nat → Bool} (h59 : ∀ j, j < F → gsA s4 59 j = H j) (h60 : ∀ j, j < F → gsA s4 60 j = bB (R j)) (k : ∀ s', MS s0 s' (grD D F H R) → Post (some (.int (nI F))) s') : ∃ n, wl172_126 c d Post n (nI F) 0 (gs_V s4 48 1 (nI F)) := by
  have loop : ∀ (m i : Nat) (s' : gs), i + m = F → (∀ b j, ¬ (b = 48 ∧ j = 1) → gsV s' b j = gsV s4 b j) → gsV s' 48 1 = nI F → gsE s' = gsE s4 → (∀ b, b ≠ 50 → b ≠ 51 → gsA s' b = gsA s4 b) → gsR s' = gsR s4 → (∀ j, j < i → gsA s' 50 j = H j ∧ gsA s' 51 j = bB (R j)) → wl172_126 c d Post (m + 1) (nI F) (nI i) s' := by
    intro m
    induction m with
    | zero =>
      intro i s' hi v1 v2 e1 a1 r1 hh
      refine ⟨fun _ => ⟨vpd rfl, ?_⟩, fun z => absurd (le_t (by omega) (by omega) (by omega)) z⟩
      rintro s3 rfl
      refine ⟨vpd rfl, ?_⟩
      rintro s5 rfl s6 rfl
      refine ⟨vpd rfl, ?_⟩
      rintro s8 rfl
      refine ⟨vpd rfl, ?_⟩
      rintro s10 rfl
      refine k _ ?_
      obtain ⟨⟨m1, m2, m3, m4, m5, m6, m7, m8, m9, m10, m11⟩, mf⟩ := h
      have mf' : frM s0 s' := fun b hb => by
        have := mf b hb
        have ev : gsV s' b = gsV s4 b := by funext j; exact v1 b j (by omega)
        rw [ev, e1, a1 b (by omega) (by omega), r1]
        exact this
      have hv : ∀ j, j ≠ 1 → gsV s' 48 j = gsV s4 48 j := fun j hj => v1 48 j (fun z => hj z.2)
      refine ⟨⟨⟨Nat.zero_le _, ?_, fun i hi => absurd hi (Nat.not_lt_zero _)⟩, ⟨hF, v2, fun j hj => (hh j (by have : j < F := hj; omega)).1, fun j hj => (hh j (by have : j + 1 < F := hj; omega)).2⟩, ?_, ?_, ?_, ?_, ⟨rfl, Nat.zero_le _, fun i hi => absurd hi (Nat.not_lt_zero _)⟩, ?_, ?_, ?_, ?_⟩, frM_A (frM_A (frM_V (frM_A (frM_A mf' (by decide) _ _) (by decide) _ _) (by decide) _ _) (by decide) _ _) (by decide) _ _⟩
      · show gsV s' 48 10 = nI 0
        rw [hv 10 (by decide)]
        exact m1.2.1
      · have e : MR s' D := by
          unfold MR at *
          rw [hv 22 (by decide), a1 61 (by decide) (by decide)]
          exact m3
        exact e
      · have e : MD s' D := by
          unfold MD at *
          rw [a1 52 (by decide) (by decide), a1 53 (by decide) (by decide)]
          exact m4
        exact e
      · have e : MN s' D := by
          unfold MN at *
          rw [a1 54 (by decide) (by decide), a1 55 (by decide) (by decide), a1 56 (by decide) (by decide)]
          exact m5
        exact e
      · show gsA (gs_A (gs_A s' 49 1 0) 49 2 (nI F - 1)) 49 = upd (upd (dg D) 1 0) 2 (nI (F - 1))
        rw [gsA_A, gsA_A, a1 49 (by decide) (by decide), show gsA s4 49 = dg D from m6, show nI F - 1 = nI (F - 1) from pk_sub (a := F) (b := 1) (by omega)]
      · intro i hi
        refine ⟨?_, fun z => by cases z⟩
        rcases (show i = 0 ∨ i = 1 by omega) with rfl | rfl <;> rfl
      · have e : MW s' D := by
          unfold MW at *
          rw [hv 12 (by decide), r1]
          exact m9
        exact e
      · have e : MO s' D := by
          unfold MO at *
          rw [hv 34 (by decide), a1 69 (by decide) (by decide)]
          exact m10
        exact e
      · have e : MZ s' := by
          unfold MZ at *
          rw [a1 65 (by decide) (by decide)]
          exact m11
        exact e
    | succ m ih =>
      intro i s' hi v1 v2 e1 a1 r1 hh
      refine ⟨fun z => absurd z (le_f (by omega) (by omega) (by omega)), fun _ => ⟨vp_in_nI (by omega) (by decide), vp_in_nI (by omega) (by decide), ?_⟩⟩
      rintro s14 rfl
      refine ⟨vp_in_nI (by omega) (by decide), vp_in_nI (by omega) (by decide), ?_⟩
      rintro s18 rfl
      rw [nI_clamp (by omega), nI_1]
      refine ih (i + 1) _ (by omega) v1 v2 e1 (fun b b0 b1 => ?_) r1 (fun j hj => ?_)
      · rw [← a1 b b0 b1]
        funext j
        rw [A_A, if_neg b1, A_A, if_neg b0]
      · have e59 : gsA s' 59 i = H i := by rw [a1 59 (by decide) (by decide)]; exact h59 i (by omega)
        have e60 : gsA (gs_A s' 50 i (vp_nar .int (gsA s' 59 i))) 60 i = bB (R i) := by
          rw [A_A, if_neg (by decide), a1 60 (by decide) (by decide)]
          exact h60 i (by omega)
        rw [e60, nar_b, nar_i, e59]
        simp only [A_A, show ¬ (50 = 51) by decide, if_false, if_true]
        by_cases e : j = i
        · rw [e, if_pos rfl, if_pos rfl]; exact ⟨rfl, rfl⟩
        · rw [if_neg e, if_neg e]; exact hh j (by omega)
  refine ⟨F + 1, loop F 0 _ (by omega) (fun b j hb => ?_) rfl rfl (fun _ _ _ => rfl) rfl (fun j hj => absurd hj (Nat.not_lt_zero _))⟩
  rw [V_V]
  by_cases e : b = 48
  · rw [if_pos e, if_neg (fun z => hb ⟨e, z⟩)]
  · rw [if_neg e]
theorem MS_pz {sb : gs} (h : MS s0 sb D) (a : Nat) (w : Int32) : MS s0 (pz sb a w) D := MS_frJ h (frJ_z (frJ_rf sb) a w)
theorem s172l (hd : 6 ≤ d) {T : Nat} {t : Nat → Nat} (hT80 : T ≤ 80) {D0 : DD} (k1 : ∀ j b sb, gmf t T 0 0 true = .inl j → MS s0 sb D0 → Post (some (.int (-1 - nI j))) (pz sb b (nI j))) (k2 : ∀ G sb, gmf t T 0 0 true = .inr G → MS s0 sb D0 → (∀ j, j < G → gsA sb 59 j = (gtR t T).2.1 j) → (∀ j, j < G → gsA sb 60 j = bB ((gtR t T).2.2 j)) → ∃ n, wl172_126 c d Post n (nI G) 0 (gs_V (pz sb T (-1)) 48 1 (nI G))) :
    ∀ (m i F : Nat) (due : Bool) (sb : gs) (f : Nat), i + m = T → m + 2 ≤ f → MS s0 sb D0 → PB sb t T 80 57 → GI t i F due → (due = true ∨ (1 ≤ F ∧ ¬ hrT t T 80 i = 126 ∧ (F = 1 ∨ i < T))) → (∀ j, j < F → gsA sb 59 j = (gtR t i).2.1 j) → (∀ j, j < F → gsA sb 60 j = bB ((gtR t i).2.2 j)) → gmf t m i F due = gmf t T 0 0 true → wl172_15 c d Post f (nI F) 1 (pz sb i (-1)) := by
  -- an error: whatever the loop's condition says
  have bad : ∀ (f F i b : Nat) (x : Int32) (sb : gs), 1 ≤ f → i ≤ 80 → b ≤ 80 → gmf t T 0 0 true = .inl i → MS s0 sb D0 → PB sb t T 80 57 → (x = 0 ∨ x = 1) → wl172_15 c d Post f (nI F) x (pz sb b (nI i)) := by
    intro f F i b x sb hf hi hb he hm hp hx
    obtain ⟨f, rfl⟩ := d_1 hf
    have hn : ¬ nI i = -1 := ni_1 (by omega)
    have e : w172_105 c d Post (nI F) (pz sb b (nI i)) := by
      refine s171 (by omega) hp (by omega) ?_
      rw [if_neg hn]
      exact ⟨_, rfl, fun _ => k1 i b sb he hm, fun z => absurd rfl z⟩
    refine ⟨fun _ => e, fun _ => s165 (by omega) ⟨_, rfl, fun _ => e, fun z => ?_⟩⟩
    rw [bI_f hn] at z
    exact absurd rfl z
  intro m
  induction m using Nat.strongRecOn with
  | _ m ih =>
  intro i F due sb f hi hf hm hp hg hna h59 h60 hr
  obtain ⟨f, rfl⟩ := d_1 (show 1 ≤ f by omega)
  have hF12 := hg.2.2.1
  have stop : ¬ ((i < T ∧ (48 ≤ t i ∧ t i ≤ 57)) ∧ F < 12) → gmf t T 0 0 true = .inl i := by
    intro hq
    rw [← hr]
    cases m with
    | zero =>
      rw [gmf_0, if_pos]
      rcases hna with z | ⟨z1, z2, z3⟩
      · exact Or.inr z
      · exact Or.inl (by omega)
    | succ m =>
      rw [gmf_1, if_neg (fun z => hq ⟨⟨by omega, z.1⟩, z.2⟩), if_neg]
      rintro ⟨z1, z2⟩
      rcases hna with z | ⟨_, z3, _⟩
      · rw [z] at z2; cases z2
      · refine z3 ?_
        unfold hrT
        rw [if_pos ⟨by omega, by omega⟩]
        exact z1
  unfold wl172_15 wb172_15
  refine ⟨fun z => absurd z (by decide), fun _ => s165 (by omega) ⟨_, rfl, fun z => ?_, fun _ => ?_⟩⟩
  · rw [bI_t rfl] at z; exact absurd z (by decide)
  rw [show (12 : Int32) = nI 12 from rfl, nI_eq' (by omega) (by omega)]
  refine ⟨fun z => s166 (by omega) _ ⟨rfl, ?_⟩, fun z => ?_⟩
  · rw [if_pos rfl]
    exact bad f F i i 1 sb (by omega) (by omega) (by omega) (stop (by omega)) hm hp (Or.inr rfl)
  refine s169 (lo := 48) (m := 10) (by omega) hp (by omega) (by decide) (by decide) ?_
  rw [if_pos rfl]
  by_cases q : 48 ≤ hrT t T 80 i ∧ hrT t T 80 i ≤ 48 + 10 - 1
  · rw [if_pos q]
    have hti := hrT_in (t := t) (L := T) (p := 80) (a := i) (by omega)
    have hdig : 48 ≤ t i ∧ t i ≤ 57 := by rw [← hti.2.2]; omega
    have hF : F < 12 := by omega
    obtain ⟨m', rfl⟩ := d_1 (show 1 ≤ m by omega)
    rw [gmf_1, if_pos ⟨hdig, hF⟩] at hr
    obtain ⟨g1, g2, g3⟩ := GI_d hg hdig hF
    refine ⟨_, rfl, vp_in_nI hF (by decide), ?_⟩
    rintro s9 rfl
    rw [nI_clamp (by omega), nar_i]
    have hm9 : MS s0 (gs_A sb 59 F (nI (t i - 48))) D0 := MS_scr hm (frA_A (frA_rf sb 59) _ _) (by decide)
    have hp9 := PB_A hp (show 59 ≠ 57 by decide) F (nI (t i - 48))
    have a59 : ∀ j, j < F + 1 → gsA (gs_A sb 59 F (nI (t i - 48))) 59 j = (gtR t (i + 1)).2.1 j := by
      intro j hj
      rw [g2, gsA_A]
      by_cases e : j = F
      · rw [e, upd_eq, upd_eq]
      · rw [upd_ne e, upd_ne e]; exact h59 j (by omega)
    have a60 : ∀ j, j < F → gsA (gs_A sb 59 F (nI (t i - 48))) 60 j = bB ((gtR t (i + 1)).2.2 j) := by
      intro j hj
      rw [g3]
      exact h60 j hj
    have rF : (gtR t (i + 1)).2.2 F = false := (g1.2.2.2 rfl).2
    revert hm9 hp9 a59 a60
    show MS s0 (gs_A sb 59 F (nI (t i - 48))) D0 → _ → _ → _ → tE c d 167 [.ref 48, .int 126] (pz (gs_A sb 59 F (nI (t i - 48))) (i + 1) (-1)) _
    generalize gs_A sb 59 F (nI (t i - 48)) = s9
    intro hm9 hp9 a59 a60
    refine s167 (ch := 126) (by omega) hp9 (by omega) (by decide) ?_
    have wr : ∀ (b : Bool) (a : Nat), MS s0 (gs_A s9 60 F (bB b)) D0 ∧ PB (gs_A s9 60 F (bB b)) t T 80 57 ∧ (∀ j, j < F + 1 → gsA (gs_A s9 60 F (bB b)) 59 j = (gtR t (i + 1)).2.1 j) ∧ (∀ j, j < F + 1 → gsA (gs_A s9 60 F (bB b)) 60 j = bB (if j = F then b else (gtR t (i + 1)).2.2 j)) := by
      intro b a
      refine ⟨MS_scr hm9 (frA_A (frA_rf s9 60) _ _) (by decide), PB_A hp9 (by decide) _ _, fun j hj => a59 j hj, fun j hj => ?_⟩
      rw [gsA_A]
      by_cases e : j = F
      · rw [e, upd_eq, if_pos rfl]
      · rw [upd_ne e, if_neg e]; exact a60 j (by omega)
    by_cases q2 : hrT t T 80 (i + 1) = 126
    · rw [if_pos ⟨rfl, q2⟩]
      refine ⟨_, rfl, vp_in_nI hF (by decide), ?_⟩
      rintro s12 rfl
      have ht1 := hrT_in (t := t) (L := T) (p := 80) (a := i + 1) (by omega)
      have e1 : t (i + 1) = 126 := by rw [← ht1.2.2]; exact q2
      obtain ⟨m'', rfl⟩ := d_1 (show 1 ≤ m' by omega)
      rw [gmf_1, if_neg (by omega), if_pos ⟨e1, rfl⟩] at hr
      obtain ⟨g4, g5, g6⟩ := GI_r g1 e1
      obtain ⟨w1, w2, w3, w4⟩ := wr true 0
      refine ⟨vp_in_nI hF (by decide), fun y => ?_, fun _ => ?_⟩
      · have : gsA (gs_A (pz s9 (i + 1 + 1) (-1)) 60 F (vp_nar .boolean 1)) 60 F = 1 := by
          rw [gsA_A, upd_eq]; rfl
        rw [this] at y
        exact absurd y (by decide)
      · unfold w172_93 w172_98
        rw [nI_1]
        show wl172_15 c d Post f (nI (F + 1)) 1 (pz (gs_A s9 60 F (bB true)) (i + 1 + 1) (-1))
        refine ih m'' (by omega) (i + 1 + 1) (F + 1) true _ f (by omega) (by omega) w1 w2 g4 (Or.inl rfl) (fun j hj => ?_) (fun j hj => ?_) hr
        · rw [g5]; exact w3 j hj
        · rw [g6, w4 j hj]; rfl
    · rw [if_neg (fun z => q2 z.2)]
      refine ⟨_, rfl, vp_in_nI hF (by decide), ?_⟩
      rintro s12 rfl
      obtain ⟨w1, w2, w3, w4⟩ := wr false 0
      have w4' : ∀ j, j < F + 1 → gsA (gs_A s9 60 F (bB false)) 60 j = bB ((gtR t (i + 1)).2.2 j) := by
        intro j hj
        rw [w4 j hj]
        by_cases e : j = F
        · rw [if_pos e, e, rF]
        · rw [if_neg e]
      have more : (F + 1 = 1 ∨ i + 1 < T) → wl172_15 c d Post f (nI (F + 1)) 1 (pz (gs_A s9 60 F (bB false)) (i + 1) (-1)) := fun hq =>
        ih m' (by omega) (i + 1) (F + 1) false _ f (by omega) (by omega) w1 w2 g1 (Or.inr ⟨by omega, q2, hq⟩) w3 w4' hr
      refine ⟨vp_in_nI hF (by decide), fun _ => ?_, fun y => ?_⟩
      · unfold w172_93 w172_98
        rw [nI_1, show gsV (gs_A (pz s9 (i + 1) (-1)) 60 F (vp_nar .boolean 0)) 48 15 = nI T from hp9.2.2.2.2.2.1, show gsV (gs_A (pz s9 (i + 1) (-1)) 60 F (vp_nar .boolean 0)) 48 17 = nI (i + 1) from rfl, nI_le' (by omega) (by omega), show (0 : Int32) = nI 0 from rfl, nI_eq' (by omega) (by omega)]
        refine ⟨fun y => more (Or.inl (by omega)), fun y => ⟨fun x => ?_, fun x => more (Or.inr (by omega))⟩⟩
        have e0 : m' = 0 := by omega
        subst e0
        have eT : i + 1 = T := by omega
        rw [gmf_0, if_neg (fun z => z.elim (fun z => by omega) (fun z => by cases z))] at hr
        obtain ⟨f', rfl⟩ := d_1 (show 1 ≤ f by omega)
        rw [eT] at w3 w4' ⊢
        show wl172_15 c d Post (f' + 1) (nI (F + 1)) (nI 0) (pz (gs_A s9 60 F (bB false)) T (-1))
        refine ⟨fun _ => s171 (by omega) w2 (by omega) ?_, fun z => absurd rfl z⟩
        rw [if_pos rfl, if_neg (Nat.lt_irrefl T)]
        refine ⟨_, rfl, fun z => absurd z (by decide), fun _ => ?_⟩
        rintro s4 rfl
        exact k2 (F + 1) _ hr.symm w1 w3 w4'
      · have : gsA (gs_A (pz s9 (i + 1) (-1)) 60 F (vp_nar .boolean 0)) 60 F = 0 := by
          rw [gsA_A, upd_eq]; rfl
        exact absurd this y
  · rw [if_neg q]
    have he := stop (fun z => q (by
      unfold hrT
      rw [if_pos ⟨z.1.1, by omega⟩]
      omega))
    have hF : F < 12 := by omega
    refine ⟨_, rfl, vp_in_nI hF (by decide), ?_⟩
    rintro s9 rfl
    rw [nI_clamp (by omega)]
    have hm9 : MS s0 (gs_A sb 59 F (vp_nar .int 0)) D0 := MS_scr hm (frA_A (frA_rf sb 59) _ _) (by decide)
    have hp9 := PB_A hp (show 59 ≠ 57 by decide) F (vp_nar .int 0)
    show tE c d 167 [.ref 48, .int 126] (pz (gs_A sb 59 F (vp_nar .int 0)) i (nI i)) _
    revert hm9 hp9
    generalize gs_A sb 59 F (vp_nar .int 0) = s9
    intro hm9 hp9
    refine s167 (ch := 126) (by omega) hp9 (by omega) (by decide) ?_
    rw [if_neg (fun w => ni_1 (by omega) w.1)]
    refine ⟨_, rfl, vp_in_nI hF (by decide), ?_⟩
    rintro s12 rfl
    have hm2 : MS s0 (gs_A s9 60 F (vp_nar .boolean 0)) D0 := MS_scr hm9 (frA_A (frA_rf s9 60) _ _) (by decide)
    have hp2 := PB_A hp9 (show 60 ≠ 57 by decide) F (vp_nar .boolean 0)
    have fin : ∀ x : Int32, (x = 0 ∨ x = 1) → wl172_15 c d Post f (nI F + 1) x (pz (gs_A s9 60 F (vp_nar .boolean 0)) i (nI i)) := by
      intro x hx
      rw [nI_1]
      exact bad f (F + 1) i i x _ (by omega) (by omega) (by omega) he hm2 hp2 hx
    exact ⟨vp_in_nI hF (by decide), fun _ => ⟨fun _ => fin 1 (Or.inr rfl), fun _ => ⟨fun _ => fin 0 (Or.inl rfl), fun _ => fin 1 (Or.inr rfl)⟩⟩, fun _ => fin 1 (Or.inr rfl)⟩
theorem cl_ground (h : HY d s B D) : CL c d 77 172 [] s B := by
  have hd := h.1
  have hv := VD_mono h.2.2.2.1 (Nat.le_add_right B 60)
  have hT := h.2.1.1
  have h80 := hT.1
  have hS := XS_rf h.2.1
  have hle := gmf_le (t := dt D) (dT D) 0 0 true
  -- the reference
  have ref : ∀ (s1 : gs) (Post : Option Value → gs → Prop), MS s1 s1 D → (∀ j b sb, gmf (dt D) (dT D) 0 0 true = .inl j → MS s1 sb (uT D 0 (dt D)) → Post (some (.int (-1 - nI j))) (pz sb b (nI j))) → (∀ G s', gmf (dt D) (dT D) 0 0 true = .inr G → MS s1 s' (grD D G (gtR (dt D) (dT D)).2.1 (gtR (dt D) (dT D)).2.2) → Post (some (.int (nI G))) s') → tE c d 172 [.ref 48] s1 Post := by
    intro s1 Post hm k1 k2
    obtain ⟨d, rfl⟩ := d_1 (show 1 ≤ d by omega)
    refine okm172 c d Post s1 ?_
    rintro s2 rfl
    refine s163 (p := 80) (by omega) (MS_thr hm 0) (by decide) (fun sb hb hp => ⟨rfl, dT D + 2, ?_⟩)
    refine s172l (by omega) h80 k1 (fun G sb hG hm2 a59 a60 => ?_) (dT D) 0 0 true sb (dT D + 2) (by omega) (Nat.le_refl _) hb hp (GI_0 _) (Or.inl rfl) (fun j hj => absurd hj (Nat.not_lt_zero _)) (fun j hj => absurd hj (Nat.not_lt_zero _)) rfl
    exact s172e (by omega) (MS_pz hm2 _ _) (hle.2 G (by decide) hG) a59 a60 (fun s' hs' => k2 G s' hG hs')
  cases hw : gmf (dt D) (dT D) 0 0 true with
  | inl j =>
    have hj := hle.1 j hw
    refine glu1 h (D' := uT D 0 (dt D)) (x := -1 - nI j) hv (fun Post k => ?_) (fun s1 Post hm k => ?_)
    · obtain ⟨d, rfl⟩ := d_1 (show 1 ≤ d by omega)
      refine okm77 c d Post s (s23 (by omega) hT ⟨_, rfl, ?_⟩)
      rw [hw]
      refine ⟨fun z => absurd z (ni_1 (by omega)), fun _ => ?_⟩
      unfold w77_61
      rintro s2 rfl
      exact ⟨fun z => absurd z (ni_1 (by omega)), fun _ => k _ (XS_T hS (Nat.zero_le _))⟩
    · refine ref s1 Post hm (fun j' b sb hj' hm2 => ?_) (fun G s' hG => ?_)
      · rw [hw] at hj'; cases hj'
        exact k _ (MS_pz hm2 _ _)
      · rw [hw] at hG; cases hG
  | inr G =>
    have hG := hle.2 G (by decide) hw
    refine glu1 h (D' := grD D G (gtR (dt D) (dT D)).2.1 (gtR (dt D) (dT D)).2.2) (x := nI G) (VD_gr hv hG _ _) (fun Post k => ?_) (fun s1 Post hm k => ?_)
    · obtain ⟨d, rfl⟩ := d_1 (show 1 ≤ d by omega)
      refine okm77 c d Post s (s23 (by omega) hT ⟨_, rfl, ?_⟩)
      rw [hw]
      refine ⟨fun _ => s24 (by omega) hT hw (fun s6 f6 v6 a6 r6 => ⟨rfl, ?_⟩), fun z => absurd rfl z⟩
      rintro s8 rfl s12 rfl s14 rfl s15 rfl
      unfold w77_61
      rintro s16 rfl
      rw [show gsV (gs_V s6 14 1 0) 3 2 = nI G from v6, show nI G - 1 = nI (G - 1) from pk_sub (a := G) (b := 1) (by omega)]
      refine ⟨fun _ => ?_, fun z => absurd rfl z⟩
      have := k _ (XS_gr hS f6 v6 hG a6 r6)
      unfold w77_87
      rw [show gsV (gs_V (gs_V (gs_V (gs_V (gs_V s6 14 1 0) 14 2 (nI (G - 1))) 17 2 0) 0 10 0) 1 1 0) 3 2 = nI G from v6]
      exact this
    · refine ref s1 Post hm (fun j' b sb hj' hm2 => ?_) (fun G' s' hG' hs' => ?_)
      · rw [hw] at hj'; cases hj'
      · rw [hw] at hG'; cases hG'
        exact k _ hs'
end G1
