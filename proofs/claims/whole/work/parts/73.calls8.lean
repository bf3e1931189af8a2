/-! Calls: command, halves. -/
/-- arrays of the class that QX does not speak of -/
theorem XS_scA {s0 s s' : gs} {D : DD} {r : Nat} (h : XS s0 s D) (f : frA s s' r) (hr : 37 ≤ r ∧ r < 48 ∧ r ≠ 42) : XS s0 s' D := by
  obtain ⟨⟨h1, h2, h3, h4, h5, h6, h7, h8, h9, h10⟩, hf⟩ := h
  obtain ⟨f1, f2, f3, f4, f5⟩ := f
  have fx : ∀ b, xg s' b = xg s b := fun b => xg_cg (by rw [f1]) (by rw [f2])
  refine ⟨⟨?_, ?_, ?_, ?_, ?_, ?_, ?_, ?_, ?_, ?_⟩, fun b hb => ?_⟩
  · unfold XT at *; rw [f1, f3 2 (by omega)]; exact h1
  · unfold XL at *; rw [f1, f3 4 (by omega)]; exact h2
  · unfold XR at *; rw [f1, f3 6 (by omega)]; exact h3
  · unfold XD at *; rw [f1]; exact h4
  · intro i hi
    have := h5 i hi
    rw [f1, f3 (11 + 2 * i) (by omega)]; exact this
  · unfold XG at *; rw [fx]; exact h6
  · unfold XU at *
    rw [f1]
    obtain ⟨a1, a2, p, a3, a4, a5⟩ := h7
    exact ⟨a1, a2, p, a3, a4, fun i hi => by rw [fx]; exact a5 i hi⟩
  · intro i hi
    have := h8 i hi
    rw [f1, fx]; exact this
  · unfold XW at *; rw [f1, f4]; exact h9
  · unfold XO at *; rw [f1, f3 42 (by omega)]; exact h10
  · have := hf b hb
    rw [f1, f2, f3 b (by omega), f4]; exact this
theorem XS_sA {s0 s : gs} {D : DD} {r : Nat} (h : XS s0 s D) (hr : 37 ≤ r ∧ r < 48 ∧ r ≠ 42) (k : Nat) (x : Int32) : XS s0 (gs_A s r k x) D := XS_scA h (frA_A (frA_rf s r) k x) hr
/-- the issue of a day with this consul, here -/
def isD (D : DD) (n k : Nat) : Int32 := isf D (dg D) n (gn (dg D) 1) (dg D 0 + nI k)
def cmC (days : Nat) (bits : Int32) (k : Nat) : Nat := if gb bits (k % days) = true then 1 else 0
def cmT (D : DD) (N days : Nat) (bits : Int32) : Int32 := sm (fun k => isD D (cmC days bits k) k) N
def cmB (D : DD) (N days b : Nat) (a : Int32 × Int32 × Int32) : Int32 × Int32 × Int32 := if a.1 = -1 ∨ ¬ cmT D N days (nI b) ≤ a.2.2 then (nI days, nI b, cmT D N days (nI b)) else a
theorem sh1_p : ∀ k, k < 5 → sh1 k = nI (2 ^ k) := by decide
section C9
variable {c : gx} {d B : Nat} {Post : Option Value → gs → Prop} {s0 s : gs} {D : DD}
theorem s125 (hd : 1 ≤ d) {N days : Nat} (hN : N ≤ 30) (hdy : 2 ≤ days ∧ days ≤ 4) (bits : Int32) (h0 : ∀ k, k < N → gsA s 46 k = isD D 0 k) (h1 : ∀ k, k < N → gsA s 47 k = isD D 1 k) (k : Post (some (.int (cmT D N days bits))) s) : tE c d 125 [.ref 0, .int (nI N), .int (nI days), .int bits] s Post := by
  obtain ⟨d, rfl⟩ := d_1 hd
  have loop : ∀ (m i : Nat), i + m = N → wl125_9 c d Post (m + 1) (nI N) (nI days) bits (sm (fun k => isD D (cmC days bits k) k) i) (nI (i % days)) (nI i) s := by
    intro m
    induction m with
    | zero =>
      intro i hi
      refine ⟨fun _ => ?_, fun z => absurd (le_t (by omega) (by omega) (by omega)) z⟩
      rw [show i = N by omega]
      exact k
    | succ m ih =>
      intro i hi
      have hm : i % days < days := Nat.mod_lt _ (by omega)
      have h2 := ih (i + 1) (by omega)
      have nxt : ∀ v : Int32, v = isD D (cmC days bits i) i → w125_44 c d Post (wl125_9 c d Post (m + 1)) (nI N) (nI days) bits (nI (i % days)) (nI i) (sm (fun k => isD D (cmC days bits k) k) i) v s := by
        intro v hv
        have e : sm (fun k => isD D (cmC days bits k) k) (i + 1) = sm (fun k => isD D (cmC days bits k) k) i + v := by rw [hv]; rfl
        rw [e] at h2
        unfold w125_44 w125_63
        rw [nI_1, nI_1, nI_eq' (by omega) (by omega)]
        refine ⟨fun z => ?_, fun z => ?_⟩
        · have e2 : (i + 1) % days = 0 := by
            rcases (show days = 2 ∨ days = 3 ∨ days = 4 by omega) with rfl | rfl | rfl <;> omega
          rw [e2] at h2
          exact h2
        · have e2 : (i + 1) % days = i % days + 1 := by
            rcases (show days = 2 ∨ days = 3 ∨ days = 4 by omega) with rfl | rfl | rfl <;> omega
          rw [e2] at h2
          exact h2
      refine ⟨fun z => absurd z (le_f (by omega) (by omega) (by omega)), fun _ => ?_⟩
      rw [gb_shr (show i % days < 32 by omega), nI_clamp (show i < 2 ^ 31 by omega), h0 i (by omega), h1 i (by omega)]
      refine ⟨fun z => ⟨vp_in_nI (by omega) (by decide), nxt _ ?_⟩, fun z => ⟨vp_in_nI (by omega) (by decide), nxt _ ?_⟩⟩
      · unfold cmC; rw [if_pos z]
      · unfold cmC; rw [if_neg z]
  refine okm125 c d Post _ _ _ s ⟨N + 1, ?_⟩
  have := loop N 0 (by omega)
  rw [Nat.zero_mod] at this
  exact this
theorem s237 (hd : 1030 ≤ d) (h : MS s0 s D) (hN' : okN (dF D) B (dg D)) {N days : Nat} (hN : N ≤ 30) (hdy : 2 ≤ days ∧ days ≤ 4) (bits : Int32) (k : ∀ s', MS s0 s' D → Post (some (.int (cmT D N days bits))) s') : tE c d 237 [.ref 48, .int (nI days), .int bits, .int (nI N)] s Post := by
  obtain ⟨d, rfl⟩ := d_1 (show 1 ≤ d by omega)
  obtain ⟨⟨a0, b0⟩, ⟨a1, b1⟩, ⟨a2, b2⟩, _⟩ := hN'
  have loop : ∀ (m i : Nat) (s' : gs), i + m = N → MS s0 s' D → wl237_6 c d Post (m + 1) (nI days) bits (nI N) (sm (fun k => isD D (cmC days bits k) k) i) (nI i) s' := by
    intro m
    induction m with
    | zero =>
      intro i s' hi hS
      refine ⟨fun _ => ?_, fun z => absurd (le_t (by omega) (by omega) (by omega)) z⟩
      rw [show i = N by omega]
      exact k s' hS
    | succ m ih =>
      intro i s' hi hS
      have hm : i % days < days := Nat.mod_lt _ (by omega)
      have hc : cmC days bits i < 2 := by unfold cmC; split <;> omega
      refine ⟨fun z => absurd z (le_f (by omega) (by omega) (by omega)), fun _ => ⟨fun z => ?_, vpd rfl, vpd rfl, ?_⟩⟩
      · exact absurd ((nI_eq' (b := 0) (by omega) (by decide)).mp z) (by omega)
      rw [pk_rem (show i < 2 ^ 31 by omega) (show 0 < days by omega) (by omega), shr_1 _ _ (show i % days < 32 by omega), show (if bits.toBitVec.getLsbD (i % days) = true then 1 else 0 : Int32) = nI (cmC days bits i) from by unfold cmC gb; split <;> rfl, MS_G hS, show dg D (1 : Int32).toNatClampNeg = nI (gn (dg D) 1) from a1]
      refine s182 (by omega) hS.1.2.1 hS.1.2.2.1 hS.1.2.2.2.1 rfl hc b1 (by rw [MS_G hS]; exact a2) b2 _ (fun s2 f2 => ⟨_, rfl, ?_⟩)
      rw [nI_1, MS_G hS]
      exact ih (i + 1) s2 (by omega) (MS_frJ hS f2)
  exact okm237 c d Post _ _ _ s ⟨N + 1, loop N 0 s (by omega) h⟩
theorem cl_command (h : HY d s B D) (x : Int32) : CL c d 124 238 [.int x] s B := by
  have hd := h.1
  have hB := h.2.2.2.2
  have hv := h.2.2.2.1
  have hF := hv.1.2
  have hNN := HY_n h
  obtain ⟨⟨a0, b0⟩, ⟨a1, b1⟩, ⟨a2, b2⟩, _⟩ := HY_n h
  by_cases q : 1 ≤ x ∧ x ≤ 30
  · obtain ⟨N, hN1, hN, rfl⟩ := i_rng (a := 1) (b := 30) (by decide) q (by decide)
    by_cases qn : near (gn (dg D) 1) (gn (dg D) 2)
    · generalize hR : fl (fun days a => fl (cmB D N days) 0 (2 ^ days) a) 2 3 (-1, 0, 0) = R
      refine glu1 h (D' := uW D 2 (r2 R.2.1.toInt64 R.2.2.toInt64)) (x := R.1) (VD_W (VD_mono hv (Nat.le_add_right B 60)) _ _) (fun Post k => ?_) (fun s1 Post hm k => ?_)
      · obtain ⟨d, rfl⟩ := d_1 (show 1 ≤ d by omega)
        have fin : ∀ s', XS s s' D → (∀ k, k < N → gsA s' 46 k = isD D 0 k) → (∀ k, k < N → gsA s' 47 k = isD D 1 k) → wl124_121 c d Post 4 (nI N) (-1) 0 0 2 s' := by
          intro s' hS h46 h47
          have inner : ∀ (days : Nat), 2 ≤ days ∧ days ≤ 4 → ∀ (K : Int32 → Int32 → Int32 → Int32 → Int32 → gs → Prop) (m b : Nat) (a A : Int32 × Int32 × Int32), b + m = 2 ^ days → fl (cmB D N days) b m a = A → K (nI N) A.1 A.2.1 A.2.2 (nI (days + 1)) s' → wl124_130 c d Post K (m + 1) (nI N) a.1 a.2.1 a.2.2 (nI days) (nI b) s' := by
            intro days hdy K m
            have h16 : 2 ^ days ≤ 16 := by
              rcases (show days = 2 ∨ days = 3 ∨ days = 4 by omega) with rfl | rfl | rfl <;> decide
            have esh : (1 : Int32) <<< (nI days &&& 31) = nI (2 ^ days) := sh1_p days (by omega)
            induction m with
            | zero =>
              intro b a A hb hr hK
              have hr' : a = A := hr
              subst hr'
              unfold wl124_130 wb124_130
              rw [esh]
              refine ⟨fun _ => ?_, fun z => absurd (le_t (by omega) (by omega) (by omega)) z⟩
              rw [nI_1]
              exact hK
            | succ m ih =>
              intro b a A hb hr hK
              have hr' : fl (cmB D N days) (b + 1) m (cmB D N days b a) = A := hr
              unfold cmB at hr'
              unfold wl124_130 wb124_130
              rw [esh]
              refine ⟨fun z => absurd z (le_f (by omega) (by omega) (by omega)), fun _ => s125 (by omega) hN hdy _ h46 h47 ⟨_, rfl, fun z => ?_, fun z => ⟨fun y => ?_, fun y => ?_⟩⟩⟩
              · rw [if_pos (Or.inl z)] at hr'
                unfold w124_162 w124_172
                rw [nI_1]
                exact ih (b + 1) (_, _, _) A (by omega) hr' hK
              · rw [if_neg (fun u => u.elim z (fun v => v y))] at hr'
                unfold w124_172
                rw [nI_1]
                exact ih (b + 1) a A (by omega) hr' hK
              · rw [if_pos (Or.inr y)] at hr'
                unfold w124_162 w124_172
                rw [nI_1]
                exact ih (b + 1) (_, _, _) A (by omega) hr' hK
          have outer : ∀ (m days : Nat) (a : Int32 × Int32 × Int32), days + m = 5 → 2 ≤ days → fl (fun days a => fl (cmB D N days) 0 (2 ^ days) a) days m a = R → wl124_121 c d Post (m + 1) (nI N) a.1 a.2.1 a.2.2 (nI days) s' := by
            intro m
            induction m with
            | zero =>
              intro days a hi h2 hr
              have hr' : a = R := hr
              subst hr'
              exact ⟨fun _ => s46' (by omega) hS _ _ (fun s2 h2 f2 => ⟨rfl, k s2 h2⟩), fun z => absurd ((nI_lt' (a := 4) (by decide) (by omega)).mpr (by omega)) z⟩
            | succ m ih =>
              intro days a hi h2 hr
              refine ⟨fun z => absurd ((nI_lt' (a := 4) (by decide) (by omega)).mp z) (by omega), fun _ => ⟨2 ^ days + 1, ?_⟩⟩
              exact inner days (by omega) _ (2 ^ days) 0 a _ (by omega) rfl (ih (days + 1) _ (by omega) (by omega) hr)
          exact outer 3 2 (-1, 0, 0) rfl (by omega) hR
        have loop : ∀ (m i : Nat) (s' : gs), i + m = N → XS s s' D → (∀ k, k < i → gsA s' 46 k = isD D 0 k) → (∀ k, k < i → gsA s' 47 k = isD D 1 k) → wl124_38 c d Post (m + 1) (nI N) (nI i) s' := by
          intro m
          induction m with
          | zero =>
            intro i s' hi hS h46 h47
            refine ⟨fun _ => ⟨4, ?_⟩, fun z => absurd (le_t (by omega) (by omega) (by omega)) z⟩
            have hi' : i = N := by omega
            subst hi'
            exact fin s' hS h46 h47
          | succ m ih =>
            intro i s' hi hS h46 h47
            refine ⟨fun z => absurd z (le_f (by omega) (by omega) (by omega)), fun _ => ?_⟩
            rw [XS_g hS (i := 1) (by decide), XS_g hS (i := 0) (by decide), a1]
            refine s150 (n := 0) (by omega) hS.1.2.1 hS.1.2.2.1 hS.1.2.2.2.1 rfl (by decide) b1 (by rw [XS_G hS]; exact a2) b2 _ (fun s2 f2 => ⟨_, rfl, vp_in_nI (by omega) (by decide), ?_⟩)
            rw [XS_G hS]
            rintro s3 rfl
            have h2 := XS_frI hS f2
            have h3 := XS_sA h2 (r := 46) (by decide) (nI i).toNatClampNeg (vp_nar .int (isf D (dg D) 0 (gn (dg D) 1) (dg D 0 + nI i)))
            rw [XS_g h3 (i := 1) (by decide), XS_g h3 (i := 0) (by decide), a1]
            refine s150 (n := 1) (by omega) h3.1.2.1 h3.1.2.2.1 h3.1.2.2.2.1 rfl (by decide) b1 (by rw [XS_G h3]; exact a2) b2 _ (fun s4 f4 => ⟨_, rfl, vp_in_nI (by omega) (by decide), ?_⟩)
            rw [XS_G h3]
            rintro s5 rfl
            have h4 := XS_frI h3 f4
            have h5 := XS_sA h4 (r := 47) (by decide) (nI i).toNatClampNeg (vp_nar .int (isf D (dg D) 1 (gn (dg D) 1) (dg D 0 + nI i)))
            rw [nI_1]
            refine ih (i + 1) _ (by omega) h5 (fun k hk => ?_) (fun k hk => ?_)
            · rw [A_A, if_neg (by decide), f4.2.2.1 46 (by decide) (by decide), A_A, if_pos rfl, nI_clamp (by omega)]
              by_cases e : k = i
              · rw [if_pos e, e]; rfl
              · rw [if_neg e, f2.2.2.1 46 (by decide) (by decide)]
                exact h46 k (by omega)
            · rw [A_A, if_pos rfl, nI_clamp (by omega)]
              by_cases e : k = i
              · rw [if_pos e, e]; rfl
              · rw [if_neg e, f4.2.2.1 47 (by decide) (by decide), A_A, if_neg (by decide), f2.2.2.1 47 (by decide) (by decide)]
                exact h47 k (by omega)
        have hS := XS_rf h.2.1
        refine okm124 c d Post _ s ⟨fun z => absurd z (i_nlt.mpr q.1), fun _ => ⟨fun _ => ?_, fun z => absurd q.2 z⟩⟩
        rw [XS_g hS (i := 1) (by decide), XS_g hS (i := 2) (by decide), a1, a2]
        refine s16 (by omega) (by omega) (by omega) ⟨_, rfl, fun z => ?_, fun _ => ⟨N + 1, loop N 0 s (by omega) hS (fun k hk => absurd hk (Nat.not_lt_zero _)) (fun k hk => absurd hk (Nat.not_lt_zero _))⟩⟩
        rw [bI_0] at z; exact absurd qn z
      · obtain ⟨d, rfl⟩ := d_1 (show 1 ≤ d by omega)
        refine okm238 c d Post _ s1 ?_
        rintro s2 rfl
        have hm1 := MS_thr hm 0
        have inner : ∀ (days : Nat), 2 ≤ days ∧ days ≤ 4 → ∀ (K : Int32 → Int32 → Int32 → Int32 → Int32 → gs → Prop) (m b : Nat) (a A : Int32 × Int32 × Int32) (s' : gs), b + m = 2 ^ days → MS s1 s' D → fl (cmB D N days) b m a = A → (∀ s'', MS s1 s'' D → K (nI N) A.1 A.2.1 A.2.2 (nI (days + 1)) s'') → wl238_57 c d Post K (m + 1) (nI N) a.1 a.2.1 a.2.2 (nI days) (nI b) s' := by
          intro days hdy K m
          have h16 : 2 ^ days ≤ 16 := by
            rcases (show days = 2 ∨ days = 3 ∨ days = 4 by omega) with rfl | rfl | rfl <;> decide
          have esh : (1 : Int32) <<< (nI days &&& 31) = nI (2 ^ days) := sh1_p days (by omega)
          induction m with
          | zero =>
            intro b a A s' hb hS hr hK
            have hr' : a = A := hr
            subst hr'
            unfold wl238_57 wb238_57
            rw [esh]
            refine ⟨fun _ => ?_, fun z => absurd (le_t (by omega) (by omega) (by omega)) z⟩
            rw [nI_1]
            exact hK s' hS
          | succ m ih =>
            intro b a A s' hb hS hr hK
            have hr' : fl (cmB D N days) (b + 1) m (cmB D N days b a) = A := hr
            unfold cmB at hr'
            unfold wl238_57 wb238_57
            rw [esh]
            refine ⟨fun z => absurd z (le_f (by omega) (by omega) (by omega)), fun _ => s237 (by omega) hS hNN hN hdy _ (fun s2 h2 => ⟨_, rfl, fun z => ?_, fun z => ⟨fun y => ?_, fun y => ?_⟩⟩)⟩
            · rw [if_pos (Or.inl z)] at hr'
              unfold w238_92 w238_102
              rw [nI_1]
              exact ih (b + 1) (_, _, _) A s2 (by omega) h2 hr' hK
            · rw [if_pos (Or.inr (i_nle.mpr y))] at hr'
              unfold w238_92 w238_102
              rw [nI_1]
              exact ih (b + 1) (_, _, _) A s2 (by omega) h2 hr' hK
            · rw [if_neg (fun u => u.elim z (fun v => v (i_nlt.mp y)))] at hr'
              unfold w238_102
              rw [nI_1]
              exact ih (b + 1) a A s2 (by omega) h2 hr' hK
        have outer : ∀ (m days : Nat) (a : Int32 × Int32 × Int32) (s' : gs), days + m = 5 → 2 ≤ days → MS s1 s' D → fl (fun days a => fl (cmB D N days) 0 (2 ^ days) a) days m a = R → wl238_48 c d Post (m + 1) (nI N) a.1 a.2.1 a.2.2 (nI days) s' := by
          intro m
          induction m with
          | zero =>
            intro days a s' hi h2 hS hr
            have hr' : a = R := hr
            subst hr'
            refine ⟨fun _ => ?_, fun z => absurd ((nI_lt' (a := 4) (by decide) (by omega)).mpr (by omega)) z⟩
            rintro s3 rfl
            exact s157r (by omega) (MS_row0 hS (r2 a.2.1.toInt64 a.2.2.toInt64)) (by decide) rfl (fun s4 h4 e4 => ⟨rfl, s157r (by omega) h4 (by decide) rfl (fun s5 h5 e5 => ⟨rfl, k s5 h5⟩)⟩)
          | succ m ih =>
            intro days a s' hi h2 hS hr
            refine ⟨fun z => absurd ((nI_lt' (a := 4) (by decide) (by omega)).mp z) (by omega), fun _ => ⟨2 ^ days + 1, ?_⟩⟩
            exact inner days (by omega) _ (2 ^ days) 0 a _ s' (by omega) hS rfl (fun s'' hS' => ih (days + 1) _ s'' (by omega) (by omega) hS' hr)
        refine s154 (by omega) _ _ _ ⟨_, rfl, fun z => ?_, fun _ => ⟨vpd rfl, vpd rfl, ?_⟩⟩
        · rw [bI_0] at z; exact absurd q z
        rw [MS_G hm1, show dg D (1 : Int32).toNatClampNeg = nI (gn (dg D) 1) from a1, show dg D (2 : Int32).toNatClampNeg = nI (gn (dg D) 2) from a2]
        refine s185 (by omega) (by omega) (by omega) ⟨_, rfl, fun z => ?_, fun _ => ⟨4, outer 3 2 (-1, 0, 0) _ rfl (by omega) hm1 hR⟩⟩
        rw [bI_0] at z; exact absurd qn z
    · refine glu0 h (x := -2) (fun Post k => ?_) (fun s1 Post hm k => ?_)
      · obtain ⟨d, rfl⟩ := d_1 (show 1 ≤ d by omega)
        have hS := XS_rf h.2.1
        refine okm124 c d Post _ s ⟨fun z => absurd z (i_nlt.mpr q.1), fun _ => ⟨fun _ => ?_, fun z => absurd q.2 z⟩⟩
        rw [XS_g hS (i := 1) (by decide), XS_g hS (i := 2) (by decide), a1, a2]
        refine s16 (by omega) (by omega) (by omega) ⟨_, rfl, fun z => k s hS, fun z => ?_⟩
        rw [bI_0, Classical.not_not] at z; exact absurd z qn
      · obtain ⟨d, rfl⟩ := d_1 (show 1 ≤ d by omega)
        refine okm238 c d Post _ s1 ?_
        rintro s2 rfl
        have hm1 := MS_thr hm 0
        refine s154 (by omega) _ _ _ ⟨_, rfl, fun z => ?_, fun _ => ⟨vpd rfl, vpd rfl, ?_⟩⟩
        · rw [bI_0] at z; exact absurd q z
        rw [MS_G hm1, show dg D (1 : Int32).toNatClampNeg = nI (gn (dg D) 1) from a1, show dg D (2 : Int32).toNatClampNeg = nI (gn (dg D) 2) from a2]
        refine s185 (by omega) (by omega) (by omega) ⟨_, rfl, fun z => k _ hm1, fun z => ?_⟩
        rw [bI_0, Classical.not_not] at z; exact absurd z qn
  · refine glu0 h (x := -1) (fun Post k => ?_) (fun s1 Post hm k => ?_)
    · obtain ⟨d, rfl⟩ := d_1 (show 1 ≤ d by omega)
      have k' := k s (XS_rf h.2.1)
      exact okm124 c d Post _ s ⟨fun z => k', fun z1 => ⟨fun z2 => absurd ⟨i_nlt.mp z1, z2⟩ q, fun z => k'⟩⟩
    · obtain ⟨d, rfl⟩ := d_1 (show 1 ≤ d by omega)
      refine okm238 c d Post _ s1 ?_
      rintro s2 rfl
      refine s154 (by omega) _ _ _ ⟨_, rfl, fun z => k _ (MS_thr hm 0), fun z => ?_⟩
      rw [bI_0, Classical.not_not] at z
      exact absurd z q
/-- an army in halves -/
def hv0 (D : DD) (x : Int32) : Int32 := isv D 0 (dh D (gn (dg D) 1) - dh D (gn (dg D) 2)) (100 * x) (dg D 4 / 2) (dg D 5) (dg D 0) 0
def hv1 (D : DD) (x : Int32) : Int32 := isv D 1 (dh D (gn (dg D) 1) - dh D (gn (dg D) 2)) (dg D 3 - 100 * x) (dg D 4 / 2) (dg D 5) (dg D 0) 0
def hvF (D : DD) (i : Nat) (a : Int32 × Int32 × Int32) : Int32 × Int32 × Int32 := if a.1 = -1 ∨ ¬ hv0 D (nI i) + hv1 D (nI i) ≤ a.2.1 then (nI i, hv0 D (nI i) + hv1 D (nI i), hv0 D (nI i)) else a
def hvI (D : DD) (i : Nat) (a : Int32 × Int32 × Int32) (b y : Int32) : Prop := if i = 0 then (a.1 = -1 ∧ b = 0 ∧ y = -1000000) else (¬ a.1 = -1 ∧ b = a.1 ∧ y = a.2.1 ∧ a.2.2 = hv0 D a.1)
theorem clp_2 (x y : Int32) : -1000000 < clp x + clp y := by
  obtain ⟨n, hn, hc⟩ := clp_b x
  obtain ⟨m, hm, hc'⟩ := clp_b y
  have h5 : nI n ≤ nI 500 := (nI_le' (by omega) (by decide)).mpr hn
  have h6 : nI m ≤ nI 500 := (nI_le' (by omega) (by decide)).mpr hm
  have e5 : nI 500 = 500 := rfl
  have h0 : 0 ≤ nI n := i_nlt.mp (nI_pos (by omega))
  have h1 : 0 ≤ nI m := i_nlt.mp (nI_pos (by omega))
  rw [e5] at h5 h6
  rcases hc with hc | hc <;> rcases hc' with hc' | hc' <;> rw [hc, hc'] <;> grind
theorem s239 (hd : 1020 ≤ d) (h : MS s0 s D) (hN' : okN (dF D) B (dg D)) (hF : dF D ≤ 12) {n : Nat} (hn : n < 2) (x : Int32) (k : ∀ s', MS s0 s' D → Post (some (.int (isv D n (dh D (gn (dg D) 1) - dh D (gn (dg D) 2)) x (dg D 4 / 2) (dg D 5) (dg D 0) 0))) s') : tE c d 239 [.ref 48, .int (nI n), .int x] s Post := by
  obtain ⟨d, rfl⟩ := d_1 (show 1 ≤ d by omega)
  obtain ⟨⟨a0, b0⟩, ⟨a1, b1⟩, ⟨a2, b2⟩, _⟩ := hN'
  have hL := h.1.2.1
  refine okm239 c d Post _ _ s ?_
  unfold wm239
  rw [MS_G h, show dg D (1 : Int32).toNatClampNeg = nI (gn (dg D) 1) from a1, show dg D (2 : Int32).toNatClampNeg = nI (gn (dg D) 2) from a2, nI_clamp (show gn (dg D) 1 < 2 ^ 31 by omega), nI_clamp (show gn (dg D) 2 < 2 ^ 31 by omega), hL.2.2.1 _ b1, hL.2.2.1 _ b2]
  exact ⟨vpd rfl, vp_in_nI (by omega) (by decide), vpd rfl, vp_in_nI (by omega) (by decide), vpd rfl, vpd rfl, vpd rfl, s181 (by omega) h.1.2.2.1 h.1.2.2.2.1 hn _ _ _ _ _ _ (fun s2 f2 => ⟨_, rfl, k s2 (MS_frJ h f2)⟩)⟩
theorem cl_halves (h : HY d s B D) : CL c d 126 240 [] s B := by
  have hd := h.1
  have hB := h.2.2.2.2
  have hv := h.2.2.2.1
  have hF := hv.1.2
  have hNN := HY_n h
  obtain ⟨⟨a0, b0⟩, ⟨a1, b1⟩, ⟨a2, b2⟩, ⟨a3, b3⟩, _⟩ := HY_n h
  have e3 : dg D 3 / 100 = nI (gn (dg D) 3 / 100) := by
    rw [a3]
    exact pk_div (a := gn (dg D) 3) (d := 100) (by omega) (by decide) (by decide)
  have hM : gn (dg D) 3 / 100 ≤ 99 := by omega
  generalize gn (dg D) 3 / 100 = M at e3 hM
  generalize hR : fl (hvF D) 0 (M + 1) (-1, 0, 0) = R
  refine glu1 h (D' := uW D 2 (r2 R.2.1.toInt64 R.2.2.toInt64)) (x := R.1) (VD_W (VD_mono hv (Nat.le_add_right B 60)) _ _) (fun Post k => ?_) (fun s1 Post hm k => ?_)
  · obtain ⟨d, rfl⟩ := d_1 (show 1 ≤ d by omega)
    have loop : ∀ (m i : Nat) (a : Int32 × Int32 × Int32) (s' : gs), i + m = M + 1 → XS s s' D → fl (hvF D) i m a = R → wl126_40 c d Post (m + 1) a.1 a.2.1 a.2.2 (dh D (gn (dg D) 1) - dh D (gn (dg D) 2)) (dg D 4 / 2) (nI i) s' := by
      intro m
      induction m with
      | zero =>
        intro i a s' hi hS hr
        have hr' : a = R := hr
        subst hr'
        unfold wl126_40 wb126_40
        rw [XS_g hS (i := 3) (by decide), e3, nI_lt' (by omega) (by omega)]
        exact ⟨fun _ => s46' (by omega) hS _ _ (fun s2 h2 f2 => ⟨rfl, k s2 h2⟩), fun z => absurd (by omega) z⟩
      | succ m ih =>
        intro i a s' hi hS hr
        have hr' : fl (hvF D) (i + 1) m (hvF D i a) = R := hr
        unfold hvF at hr'
        unfold wl126_40 wb126_40
        rw [XS_g hS (i := 3) (by decide), e3, nI_lt' (by omega) (by omega), XS_g hS (i := 5) (by decide), XS_g hS (i := 0) (by decide)]
        refine ⟨fun z => absurd z (by omega), fun _ => s151 (n := 0) (by omega) hS.1.2.2.1 hS.1.2.2.2.1 (by decide) _ _ _ _ _ _ (fun s2 f2 => ⟨_, rfl, ?_⟩)⟩
        have h2 := XS_frI hS f2
        rw [XS_g h2 (i := 3) (by decide), XS_g h2 (i := 5) (by decide), XS_g h2 (i := 0) (by decide)]
        refine s151 (n := 1) (by omega) h2.1.2.2.1 h2.1.2.2.2.1 (by decide) _ _ _ _ _ _ (fun s3 f3 => ⟨_, rfl, ?_⟩)
        have h3 := XS_frI h2 f3
        refine ⟨fun z => ?_, fun z => ⟨fun y => ?_, fun y => ?_⟩⟩
        · rw [if_pos (Or.inl z)] at hr'
          unfold w126_145 w126_157
          rw [nI_1]
          exact ih (i + 1) (_, _, _) s3 (by omega) h3 hr'
        · rw [if_neg (fun u => u.elim z (fun v => v y))] at hr'
          unfold w126_157
          rw [nI_1]
          exact ih (i + 1) a s3 (by omega) h3 hr'
        · rw [if_pos (Or.inr (show ¬ hv0 D (nI i) + hv1 D (nI i) ≤ a.2.1 from y))] at hr'
          unfold w126_145 w126_157
          rw [nI_1]
          exact ih (i + 1) (_, _, _) s3 (by omega) h3 hr'
    have hS := XS_rf h.2.1
    refine okm126 c d Post s ?_
    unfold wm126
    rw [XS_g hS (i := 1) (by decide), XS_g hS (i := 2) (by decide), a1, a2]
    refine s149 (by omega) hS.1.2.1 b1 b2 ⟨_, rfl, M + 2, ?_⟩
    rw [XS_g hS (i := 4) (by decide)]
    exact loop (M + 1) 0 (-1, 0, 0) s (by omega) hS hR
  · obtain ⟨d, rfl⟩ := d_1 (show 1 ≤ d by omega)
    refine okm240 c d Post s1 ?_
    rintro s2 rfl
    have hm1 := MS_thr hm 0
    have loop : ∀ (m i : Nat) (a : Int32 × Int32 × Int32) (b y : Int32) (s' : gs), i + m = M + 1 → MS s1 s' D → hvI D i a b y → fl (hvF D) i m a = R → wl240_13 c d Post (m + 1) b y (nI i) s' := by
      intro m
      induction m with
      | zero =>
        intro i a b y s' hi hS hI hr
        have hr' : a = R := hr
        subst hr'
        unfold hvI at hI
        rw [if_neg (by omega)] at hI
        obtain ⟨-, q2, q3, q4⟩ := hI
        subst q2 q3
        unfold wl240_13 wb240_13
        rw [MS_G hS, show dg D (3 : Int32).toNatClampNeg / 100 = nI M from e3, nI_lt' (by omega) (by omega)]
        refine ⟨vpd rfl, fun _ => ?_, fun z => absurd (by omega) z⟩
        rintro s3 rfl
        refine s157r (by omega) (MS_row0 hS (r2 a.2.1.toInt64 a.2.2.toInt64)) (by decide) rfl (fun s4 h4 e4 => ⟨rfl, ?_⟩)
        refine s239 (n := 0) (by omega) h4 hNN hF (by decide) _ (fun s5 h5 => ⟨_, rfl, ?_⟩)
        refine s157r (by omega) h5 (by decide) ?_ (fun s6 h6 e6 => ⟨rfl, k s6 h6⟩)
        show a.2.2.toInt64 = _
        rw [q4]
        rfl
      | succ m ih =>
        intro i a b y s' hi hS hI hr
        have hr' : fl (hvF D) (i + 1) m (hvF D i a) = R := hr
        unfold hvF at hr'
        unfold wl240_13 wb240_13
        have eG := MS_G hS
        rw [eG, show dg D (3 : Int32).toNatClampNeg / 100 = nI M from e3, nI_lt' (by omega) (by omega)]
        refine ⟨vpd rfl, fun z => absurd z (by omega), fun _ => s239 (n := 0) (by omega) hS hNN hF (by decide) _ (fun s2 h2 => ⟨_, rfl, vpd rfl, ?_⟩)⟩
        rw [MS_G h2]
        refine s239 (n := 1) (by omega) h2 hNN hF (by decide) _ (fun s3 h3 => ⟨_, rfl, ?_⟩)
        have ev : isv D 0 (dh D (gn (dg D) 1) - dh D (gn (dg D) 2)) (100 * nI i) (dg D 4 / 2) (dg D 5) (dg D 0) 0 + isv D 1 (dh D (gn (dg D) 1) - dh D (gn (dg D) 2)) (dg D (3 : Int32).toNatClampNeg - 100 * nI i) (dg D 4 / 2) (dg D 5) (dg D 0) 0 = hv0 D (nI i) + hv1 D (nI i) := rfl
        rw [ev]
        have hlt : y < hv0 D (nI i) + hv1 D (nI i) ↔ (a.1 = -1 ∨ ¬ hv0 D (nI i) + hv1 D (nI i) ≤ a.2.1) := by
          unfold hvI at hI
          by_cases e0 : i = 0
          · rw [if_pos e0] at hI
            rw [hI.2.2]
            exact ⟨fun _ => Or.inl hI.1, fun _ => clp_2 _ _⟩
          · rw [if_neg e0] at hI
            rw [hI.2.2.1, i_nle]
            exact ⟨Or.inr, fun u => u.elim (fun v => absurd v hI.1) id⟩
        rw [hlt]
        refine ⟨fun z => ?_, fun z => ?_⟩
        · rw [if_pos z] at hr'
          unfold w240_68
          rw [nI_1]
          refine ih (i + 1) (nI i, hv0 D (nI i) + hv1 D (nI i), hv0 D (nI i)) _ _ s3 (by omega) h3 ?_ hr'
          unfold hvI
          rw [if_neg (by omega)]
          exact ⟨ni_1 (by omega), rfl, rfl, rfl⟩
        · rw [if_neg z] at hr'
          unfold w240_68
          rw [nI_1]
          refine ih (i + 1) a b y s3 (by omega) h3 ?_ hr'
          unfold hvI at hI ⊢
          rw [if_neg (show ¬ i + 1 = 0 by omega)]
          by_cases e0 : i = 0
          · rw [if_pos e0] at hI
            exact absurd (Or.inl hI.1) z
          · rw [if_neg e0] at hI
            exact hI
    refine ⟨M + 2, loop (M + 1) 0 (-1, 0, 0) 0 (-1000000) _ (by omega) hm1 ?_ hR⟩
    unfold hvI
    rw [if_pos rfl]
    exact ⟨rfl, rfl, rfl⟩
end C9
