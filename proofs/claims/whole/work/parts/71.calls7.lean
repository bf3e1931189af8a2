/-! Calls: offers, bargain. -/
section C7
variable {c : gx} {d B : Nat} {Post : Option Value → gs → Prop} {s0 s : gs} {D : DD}
theorem wsh_b {n : Nat} (hv : VD B D) (hN : dn D n ≤ 20) (hn : n < 2) (x : Int32) : ∃ m, m ≤ 9 ∧ wsh D n x = nI m := by
  unfold wsh
  by_cases q : 0 ≤ x - nI (dd D n) ∧ x - nI (dd D n) < nI (dn D n)
  · rw [if_pos q]
    obtain ⟨k, hk, e⟩ := i_nat q.1
    have q2 := q.2
    rw [e, nI_lt' hk (by omega)] at q2
    rw [e, nI_clamp hk]
    exact (hv.2.2.2.2 n hn).2.2 k q2
  · rw [if_neg q]
    exact ⟨0, by decide, rfl⟩
def ofV (D : DD) (i : Nat) : Int32 := isv D (whn (dg D) (gn (dg D) 0 + i)) (dh D (gn (dg D) 1) - dh D (gn (dg D) 2)) (dg D 3) (dg D 4) (dg D 5) (dg D 0 + nI i) 0
def ofF (D : DD) (i : Nat) (a : Int32 × Int32) : Int32 × Int32 := if who (dg D) (gn (dg D) 0 + i) = -1 then a else if a.1 = -1 ∨ ofV D i < a.2 then (nI i, ofV D i) else a
theorem clp_lt (x : Int32) : clp x < 1000000 := by
  obtain ⟨n, hn, hc⟩ := clp_b x
  have h5 : nI n ≤ nI 500 := (nI_le' (by omega) (by decide)).mpr hn
  have e5 : nI 500 = 500 := rfl
  have h0 : 0 ≤ nI n := i_nlt.mp (nI_pos (by omega))
  grind
theorem cl_offers (h : HY d s B D) (x : Int32) : CL c d 117 233 [.int x] s B := by
  have hd := h.1
  have hB := h.2.2.2.2
  have hv := h.2.2.2.1
  have hF := hv.1.2
  obtain ⟨⟨a0, b0⟩, ⟨a1, b1⟩, ⟨a2, b2⟩, _⟩ := HY_n h
  by_cases q : 1 ≤ x ∧ x ≤ 30
  · obtain ⟨N, hN1, hN, rfl⟩ := i_rng (a := 1) (b := 30) (by decide) q (by decide)
    generalize hR : fl (ofF D) 0 N (-1, 0) = R
    refine glu1 h (D' := if R.1 = -1 then D else uW D 1 (r1 (501 + R.2).toInt64)) (x := if R.1 = -1 then -2 else R.1) ?_ (fun Post k => ?_) (fun s1 Post hm k => ?_)
    · have hv' := VD_mono hv (Nat.le_add_right B 60)
      split
      · exact hv'
      · exact VD_W hv' _ _
    · obtain ⟨d, rfl⟩ := d_1 (show 1 ≤ d by omega)
      have loop : ∀ (m i : Nat) (a : Int32 × Int32) (s' : gs), i + m = N → XS s s' D → fl (ofF D) i m a = R → wl117_20 c d Post (m + 1) (nI N) a.1 a.2 (nI i) s' := by
        intro m
        induction m with
        | zero =>
          intro i a s' hi hS hr
          have hr' : a = R := hr
          subst hr'
          refine ⟨fun _ => ⟨fun z => ?_, fun z => ?_⟩, fun z => absurd (le_t (by omega) (by omega) (by omega)) z⟩
          · rw [if_pos z, if_pos z] at k
            exact k s' hS
          · rw [if_neg z, if_neg z] at k
            exact s45' (by omega) hS _ (fun s2 h2 f2 => ⟨rfl, k s2 h2⟩)
        | succ m ih =>
          intro i a s' hi hS hr
          have hr' : fl (ofF D) (i + 1) m (ofF D i a) = R := hr
          unfold ofF at hr'
          have g0 := XS_g hS (i := 0) (by decide)
          refine ⟨fun z => absurd z (le_f (by omega) (by omega) (by omega)), fun _ => s51n (by omega) hS a0 (by omega) ⟨_, rfl, fun z => ?_, fun z => ?_⟩⟩
          · rw [if_pos z] at hr'
            unfold w117_126
            rw [nI_1]
            exact ih (i + 1) a s' (by omega) hS hr'
          · rw [if_neg z] at hr'
            have hw := whn_lt (dg D) (gn (dg D) 0 + i)
            rw [whn_e z]
            refine s148' (by omega) hw ⟨_, rfl, ?_⟩
            rw [XS_g hS (i := 1) (by decide), XS_g hS (i := 2) (by decide), a1, a2]
            refine s149 (by omega) hS.1.2.1 b1 b2 ⟨_, rfl, ?_⟩
            rw [XS_g hS (i := 3) (by decide), XS_g hS (i := 4) (by decide), XS_g hS (i := 5) (by decide), g0]
            refine s151 (by omega) hS.1.2.2.1 hS.1.2.2.2.1 hw _ _ _ _ _ _ (fun s2 f2 => ⟨_, rfl, ?_⟩)
            have h2 := XS_frI hS f2
            have ev : isv D (whn (dg D) (gn (dg D) 0 + i)) (dh D (gn (dg D) 1) - dh D (gn (dg D) 2)) (dg D 3) (dg D 4) (dg D 5) (dg D 0 + nI i) 0 = ofV D i := rfl
            rw [ev]
            refine ⟨fun y => ?_, fun y => ⟨fun w => ?_, fun w => ?_⟩⟩
            · rw [if_pos (Or.inl y)] at hr'
              unfold w117_120 w117_126
              rw [nI_1]
              exact ih (i + 1) (_, _) s2 (by omega) h2 hr'
            · rw [if_neg (fun u => u.elim y (fun v => absurd w (i_nle.mpr v)))] at hr'
              unfold w117_126
              rw [nI_1]
              exact ih (i + 1) a s2 (by omega) h2 hr'
            · rw [if_pos (Or.inr (i_nle.mp w))] at hr'
              unfold w117_120 w117_126
              rw [nI_1]
              exact ih (i + 1) (_, _) s2 (by omega) h2 hr'
      exact okm117 c d Post _ s ⟨fun z => absurd z (i_nlt.mpr q.1), fun _ => ⟨fun _ => ⟨N + 1, loop N 0 (-1, 0) s (by omega) (XS_rf h.2.1) hR⟩, fun z => absurd q.2 z⟩⟩
    · obtain ⟨d, rfl⟩ := d_1 (show 1 ≤ d by omega)
      refine okm233 c d Post _ s1 ?_
      rintro s2 rfl
      have hm1 := MS_thr hm 0
      have loop : ∀ (m i : Nat) (a : Int32 × Int32) (y : Int32) (s' : gs), i + m = N → MS s1 s' D → (y = if a.1 = -1 then 1000000 else a.2) → fl (ofF D) i m a = R → wl233_26 c d Post (m + 1) (nI N) a.1 y (nI i) s' := by
        intro m
        induction m with
        | zero =>
          intro i a y s' hi hS hy hr
          have hr' : a = R := hr
          subst hr'
          refine ⟨fun _ => ⟨fun z => ?_, fun z => ?_⟩, fun z => absurd (le_t (by omega) (by omega) (by omega)) z⟩
          · rw [if_pos z, if_pos z] at k
            exact k s' hS
          · rw [if_neg z, if_neg z] at k
            rw [if_neg z] at hy
            subst hy
            rintro s3 rfl
            exact s157r (by omega) (MS_row0 hS (r1 (501 + a.2).toInt64)) (by decide) rfl (fun s2 h2 f2 => ⟨rfl, k s2 h2⟩)
        | succ m ih =>
          intro i a y s' hi hS hy hr
          have hr' : fl (ofF D) (i + 1) m (ofF D i a) = R := hr
          unfold ofF at hr'
          refine ⟨fun z => absurd z (le_f (by omega) (by omega) (by omega)), fun _ => ⟨vpd rfl, s184n (by omega) hS a0 (by omega) ⟨_, rfl, fun z => ?_, fun z => ?_⟩⟩⟩
          · rw [if_pos z] at hr'
            unfold w233_130
            rw [nI_1]
            exact ih (i + 1) a y s' (by omega) hS hy hr'
          · rw [if_neg z] at hr'
            have hw := whn_lt (dg D) (gn (dg D) 0 + i)
            have hL := hS.1.2.1
            rw [whn_e z, MS_G hS, show dg D (1 : Int32).toNatClampNeg = nI (gn (dg D) 1) from a1, show dg D (2 : Int32).toNatClampNeg = nI (gn (dg D) 2) from a2, nI_clamp (show gn (dg D) 1 < 2 ^ 31 by omega), nI_clamp (show gn (dg D) 2 < 2 ^ 31 by omega), hL.2.2.1 _ b1, hL.2.2.1 _ b2]
            refine ⟨vpd rfl, vp_in_nI (by omega) (by decide), vpd rfl, vp_in_nI (by omega) (by decide), vpd rfl, vpd rfl, vpd rfl, s181 (by omega) hS.1.2.2.1 hS.1.2.2.2.1 hw _ _ _ _ _ _ (fun s2 f2 => ⟨_, rfl, ?_⟩)⟩
            have h2 := MS_frJ hS f2
            have ev : isv D (whn (dg D) (gn (dg D) 0 + i)) (dh D (gn (dg D) 1) - dh D (gn (dg D) 2)) (dg D (3 : Int32).toNatClampNeg) (dg D (4 : Int32).toNatClampNeg) (dg D (5 : Int32).toNatClampNeg) (dg D (0 : Int32).toNatClampNeg + nI i) 0 = ofV D i := rfl
            rw [ev]
            have hlt : ofV D i < y ↔ (a.1 = -1 ∨ ofV D i < a.2) := by
              rw [hy]
              by_cases u : a.1 = -1
              · rw [if_pos u]
                exact ⟨fun _ => Or.inl u, fun _ => clp_lt _⟩
              · rw [if_neg u]
                exact ⟨Or.inr, fun v => v.elim (fun v => absurd v u) id⟩
            rw [hlt]
            refine ⟨fun w => ?_, fun w => ?_⟩
            · rw [if_pos w] at hr'
              unfold w233_130
              rw [nI_1]
              refine ih (i + 1) (nI i, ofV D i) _ s2 (by omega) h2 ?_ hr'
              show ofV D i = if nI i = -1 then 1000000 else ofV D i
              rw [if_neg (ni_1 (by omega))]
            · rw [if_neg w] at hr'
              unfold w233_130
              rw [nI_1]
              exact ih (i + 1) a y s2 (by omega) h2 hy hr'
      refine s154 (by omega) _ _ _ ⟨_, rfl, fun z => ?_, fun _ => ⟨N + 1, loop N 0 (-1, 0) 1000000 _ (by omega) hm1 rfl hR⟩⟩
      rw [bI_0] at z; exact absurd q z
  · refine glu0 h (x := -1) (fun Post k => ?_) (fun s1 Post hm k => ?_)
    · obtain ⟨d, rfl⟩ := d_1 (show 1 ≤ d by omega)
      have k' := k s (XS_rf h.2.1)
      exact okm117 c d Post _ s ⟨fun z => k', fun z1 => ⟨fun z2 => absurd ⟨i_nlt.mp z1, z2⟩ q, fun z => k'⟩⟩
    · obtain ⟨d, rfl⟩ := d_1 (show 1 ≤ d by omega)
      refine okm233 c d Post _ s1 ?_
      rintro s2 rfl
      refine s154 (by omega) _ _ _ ⟨_, rfl, fun z => k _ (MS_thr hm 0), fun z => ?_⟩
      rw [bI_0, Classical.not_not] at z
      exact absurd z q
/-- bargains: pairs, the best one's days, its gain -/
def wD (D : DD) (n i : Nat) : Int32 := wsh D n (dg D 0 + nI i)
theorem s30w (hd : 1 ≤ d) (h : XS s0 s D) {n : Nat} (hn : n < 2) (i : Nat) (k : Post (some (.int (wD D n i))) s) : tE c d 30 [.ref (10 + 2 * n), .int (gsV s 14 0 + nI i)] s Post := by
  rw [XS_g h (by decide)]
  exact s30 hd h.1.2.2.2.2.1 hn _ k
def bgF (D : DD) (i j : Nat) (a : Int32 × Int32 × Int32 × Int32) : Int32 × Int32 × Int32 × Int32 :=
  if who (dg D) (gn (dg D) 0 + i) = 0 then
    (if who (dg D) (gn (dg D) 0 + j) = 1 then
      (if wD D 0 j - wD D 0 i ≤ 0 then a else if wD D 1 i - wD D 1 j ≤ 0 then a
      else if (wD D 0 j - wD D 0 i) + (wD D 1 i - wD D 1 j) ≤ a.2.2.2 then (a.1 + 1, a.2.1, a.2.2.1, a.2.2.2)
      else (a.1 + 1, nI i, nI j, (wD D 0 j - wD D 0 i) + (wD D 1 i - wD D 1 j)))
    else a)
  else a
def r3 (a b e : Int64) : Nat → Int64 := fun i => if i = 0 then a else if i = 1 then b else e
def bgI (a : Int32 × Int32 × Int32 × Int32) (o1 o2 : Int32) : Prop := (o1 = a.2.1 ∧ o2 = a.2.2.1) ∨ (a.1 = 0 ∧ a.2.2.2 = 0)
theorem gain_p {a b e f : Nat} (ha : a ≤ 9) (hb : b ≤ 9) (he : e ≤ 9) (hf : f ≤ 9) (h1 : ¬ nI a - nI b ≤ 0) (h2 : ¬ nI e - nI f ≤ 0) : ¬ (nI a - nI b) + (nI e - nI f) ≤ 0 := by
  have q1 : b < a := by
    by_cases q : b < a
    · exact q
    · exfalso
      have h3 : nI a ≤ nI b := (nI_le' (by omega) (by omega)).mpr (by omega)
      have h4 : 0 ≤ nI a := nI_pos' (by omega)
      have h5 : nI b ≤ nI 9 := (nI_le' (by omega) (by decide)).mpr hb
      have e9 : nI 9 = 9 := rfl
      rw [e9] at h5
      grind
  have q2 : f < e := by
    by_cases q : f < e
    · exact q
    · exfalso
      have h3 : nI e ≤ nI f := (nI_le' (by omega) (by omega)).mpr (by omega)
      have h4 : 0 ≤ nI e := nI_pos' (by omega)
      have h5 : nI f ≤ nI 9 := (nI_le' (by omega) (by decide)).mpr hf
      have e9 : nI 9 = 9 := rfl
      rw [e9] at h5
      grind
  rw [nI_sub (by omega), nI_sub (by omega), nI_add]
  exact le_f (b := 0) (by omega) (by decide) (by omega)
theorem cl_bargain (h : HY d s B D) : CL c d 120 235 [] s B := by
  have hd := h.1
  have hB := h.2.2.2.2
  have hv := h.2.2.2.1
  obtain ⟨⟨a0, b0⟩, _⟩ := HY_n h
  generalize hR : fl (fun i a => fl (bgF D i) 0 20 a) 0 20 (0, -1, -1, 0) = R
  refine glu1 h (D' := if R.1 ≤ 0 then uW D 0 (r3 R.2.1.toInt64 R.2.2.1.toInt64 R.2.2.2.toInt64) else uW D 3 (r3 R.2.1.toInt64 R.2.2.1.toInt64 R.2.2.2.toInt64)) (x := R.1) ?_ (fun Post k => ?_) (fun s1 Post hm k => ?_)
  · have hv' := VD_mono hv (Nat.le_add_right B 60)
    split
    · exact VD_W hv' _ _
    · exact VD_W hv' _ _
  · obtain ⟨d, rfl⟩ := d_1 (show 1 ≤ d by omega)
    have hS := XS_rf h.2.1
    have hNn := hS.1.2.2.2.2.1
    have g0 := XS_g hS (i := 0) (by decide)
    have inner : ∀ (i : Nat), i < 20 → ∀ (K : Int32 → Int32 → Int32 → Int32 → Int32 → gs → Prop) (m j : Nat) (a A : Int32 × Int32 × Int32 × Int32), j + m = 20 → fl (bgF D i) j m a = A → K A.1 A.2.1 A.2.2.1 A.2.2.2 (nI (i + 1)) s → wl120_22 c d Post K (m + 1) a.1 a.2.1 a.2.2.1 a.2.2.2 (nI i) (nI j) s := by
      intro i hi20 K m
      induction m with
      | zero =>
        intro j a A hj hr hK
        have hr' : a = A := hr
        subst hr'
        refine ⟨fun _ => ?_, fun z => absurd (le_t (a := 20) (by decide) (by omega) (by omega)) z⟩
        rw [nI_1]
        exact hK
      | succ m ih =>
        intro j a A hj hr hK
        have hr' : fl (bgF D i) (j + 1) m (bgF D i j a) = A := hr
        unfold bgF at hr'
        have nxt : ∀ a' : Int32 × Int32 × Int32 × Int32, fl (bgF D i) (j + 1) m a' = A → w120_180 c d Post K (wl120_22 c d Post K (m + 1)) a'.1 a'.2.1 a'.2.2.1 a'.2.2.2 (nI i) (nI j) s := by
          intro a' ha'
          unfold w120_180
          rw [nI_1]
          exact ih (j + 1) a' A (by omega) ha' hK
        refine ⟨fun z => absurd z (le_f (a := 20) (by decide) (by omega) (by omega)), fun _ => s51n (by omega) hS a0 (by omega) ⟨_, rfl, fun z => s51n (by omega) hS a0 (by omega) ⟨_, rfl, fun y => ?_, fun y => ?_⟩, fun z => ?_⟩⟩
        · rw [if_pos z, if_pos y] at hr'
          refine s30w (n := 0) (by omega) hS (by decide) _ ⟨_, rfl, s30w (n := 0) (by omega) hS (by decide) _ ⟨_, rfl, s30w (n := 1) (by omega) hS (by decide) _ ⟨_, rfl, s30w (n := 1) (by omega) hS (by decide) _ ⟨_, rfl, fun w => ?_, fun w => ⟨fun v => ?_, fun v => ⟨fun u => ?_, fun u => ?_⟩⟩⟩⟩⟩⟩
          · rw [if_pos (show wD D 0 j - wD D 0 i ≤ 0 from w)] at hr'
            exact nxt a hr'
          · rw [if_neg (show ¬ wD D 0 j - wD D 0 i ≤ 0 from w), if_pos (show wD D 1 i - wD D 1 j ≤ 0 from v)] at hr'
            exact nxt a hr'
          · rw [if_neg (show ¬ wD D 0 j - wD D 0 i ≤ 0 from w), if_neg (show ¬ wD D 1 i - wD D 1 j ≤ 0 from v), if_pos (show (wD D 0 j - wD D 0 i) + (wD D 1 i - wD D 1 j) ≤ a.2.2.2 from u)] at hr'
            exact nxt _ hr'
          · rw [if_neg (show ¬ wD D 0 j - wD D 0 i ≤ 0 from w), if_neg (show ¬ wD D 1 i - wD D 1 j ≤ 0 from v), if_neg (show ¬ (wD D 0 j - wD D 0 i) + (wD D 1 i - wD D 1 j) ≤ a.2.2.2 from u)] at hr'
            exact nxt _ hr'
        · rw [if_pos z, if_neg y] at hr'
          exact nxt a hr'
        · rw [if_neg z] at hr'
          exact nxt a hr'
    have outer : ∀ (m i : Nat) (a : Int32 × Int32 × Int32 × Int32), i + m = 20 → fl (fun i a => fl (bgF D i) 0 20 a) i m a = R → wl120_12 c d Post (m + 1) a.1 a.2.1 a.2.2.1 a.2.2.2 (nI i) s := by
      intro m
      induction m with
      | zero =>
        intro i a hi hr
        have hr' : a = R := hr
        subst hr'
        refine ⟨fun _ => ?_, fun z => absurd (le_t (a := 20) (by decide) (by omega) (by omega)) z⟩
        rintro s2 rfl
        have h0 := XS_row0 hS (r3 a.2.1.toInt64 a.2.2.1.toInt64 a.2.2.2.toInt64)
        refine ⟨fun z => ?_, fun z => ?_⟩
        · rw [if_pos z] at k
          exact k _ h0
        · rw [if_neg z] at k
          exact s44r (by omega) h0 (by decide) rfl (fun s3 h3 f3 => ⟨rfl, s44r (by omega) h3 (by decide) rfl (fun s4 h4 f4 => ⟨rfl, s44r (by omega) h4 (by decide) rfl (fun s5 h5 f5 => ⟨rfl, k s5 h5⟩)⟩)⟩)
      | succ m ih =>
        intro i a hi hr
        refine ⟨fun z => absurd z (le_f (a := 20) (by decide) (by omega) (by omega)), fun _ => ⟨21, ?_⟩⟩
        exact inner i (by omega) _ 20 0 a _ rfl rfl (ih (i + 1) _ (by omega) hr)
    exact okm120 c d Post s ⟨21, outer 20 0 (0, -1, -1, 0) rfl hR⟩
  · obtain ⟨d, rfl⟩ := d_1 (show 1 ≤ d by omega)
    refine okm235 c d Post s1 ?_
    rintro s2 rfl
    have hS := MS_thr hm 0
    revert hS
    generalize gs_V s1 48 13 0 = s2
    intro hS
    have hNn := hS.1.2.2.2.2.1
    have hG := MS_G hS
    have bw : ∀ n, n < 2 → ∀ i, ∃ m, m ≤ 9 ∧ wD D n i = nI m := fun n hn i => wsh_b hv (hNn n hn).1 hn _
    have inner : ∀ (i : Nat), i < 20 → ∀ (K : Int32 → Int32 → Int32 → Int32 → Int32 → gs → Prop) (m j : Nat) (a A : Int32 × Int32 × Int32 × Int32) (o1 o2 : Int32), j + m = 20 → bgI a o1 o2 → fl (bgF D i) j m a = A → (∀ o1 o2, bgI A o1 o2 → K A.1 A.2.2.2 o1 o2 (nI (i + 1)) s2) → wl235_27 c d Post K (m + 1) a.1 a.2.2.2 o1 o2 (nI i) (nI j) s2 := by
      intro i hi20 K m
      induction m with
      | zero =>
        intro j a A o1 o2 hj hI hr hK
        have hr' : a = A := hr
        subst hr'
        refine ⟨fun _ => ?_, fun z => absurd (le_t (a := 20) (by decide) (by omega) (by omega)) z⟩
        rw [nI_1]
        exact hK o1 o2 hI
      | succ m ih =>
        intro j a A o1 o2 hj hI hr hK
        have hr' : fl (bgF D i) (j + 1) m (bgF D i j a) = A := hr
        unfold bgF at hr'
        have nxt : ∀ (a' : Int32 × Int32 × Int32 × Int32) (o1 o2 : Int32), bgI a' o1 o2 → fl (bgF D i) (j + 1) m a' = A → w235_151 c d Post K (wl235_27 c d Post K (m + 1)) a'.1 a'.2.2.2 o1 o2 (nI i) (nI j) s2 := by
          intro a' o1 o2 hI' ha'
          unfold w235_151
          rw [nI_1]
          exact ih (j + 1) a' A o1 o2 (by omega) hI' ha' hK
        refine ⟨fun z => absurd z (le_f (a := 20) (by decide) (by omega) (by omega)), fun _ => ⟨vpd rfl, s184n (by omega) hS a0 (by omega) ⟨_, rfl, fun z => ⟨vpd rfl, s184n (by omega) hS a0 (by omega) ⟨_, rfl, fun y => ?_, fun y => ?_⟩⟩, fun z => ?_⟩⟩⟩
        · rw [if_pos z, if_pos y] at hr'
          obtain ⟨w1, v1, e1⟩ := bw 0 (by decide) j
          obtain ⟨w2, v2, e2⟩ := bw 0 (by decide) i
          obtain ⟨w3, v3, e3⟩ := bw 1 (by decide) i
          obtain ⟨w4, v4, e4⟩ := bw 1 (by decide) j
          refine s234 (n := 0) (by omega) hNn hG (by decide) _ ⟨_, rfl, s234 (n := 0) (by omega) hNn hG (by decide) _ ⟨_, rfl, s234 (n := 1) (by omega) hNn hG (by decide) _ ⟨_, rfl, s234 (n := 1) (by omega) hNn hG (by decide) _ ⟨_, rfl, fun w => ?_, fun w => ⟨fun v => ⟨fun u => ?_, fun u => ?_⟩, fun v => ?_⟩⟩⟩⟩⟩
          · rw [if_pos (show wD D 0 j - wD D 0 i ≤ 0 from w)] at hr'
            exact nxt a o1 o2 hI hr'
          · have u' : ¬ (wD D 0 j - wD D 0 i) + (wD D 1 i - wD D 1 j) ≤ a.2.2.2 := i_nle.mpr u
            rw [if_neg (show ¬ wD D 0 j - wD D 0 i ≤ 0 from w), if_neg (show ¬ wD D 1 i - wD D 1 j ≤ 0 from i_nle.mpr v), if_neg u'] at hr'
            exact nxt (a.1 + 1, nI i, nI j, (wD D 0 j - wD D 0 i) + (wD D 1 i - wD D 1 j)) _ _ (Or.inl ⟨rfl, rfl⟩) hr'
          · have u' : (wD D 0 j - wD D 0 i) + (wD D 1 i - wD D 1 j) ≤ a.2.2.2 := i_nlt.mp u
            rw [if_neg (show ¬ wD D 0 j - wD D 0 i ≤ 0 from w), if_neg (show ¬ wD D 1 i - wD D 1 j ≤ 0 from i_nle.mpr v), if_pos u'] at hr'
            refine nxt (a.1 + 1, a.2.1, a.2.2.1, a.2.2.2) _ _ ?_ hr'
            rcases hI with hI | hI
            · exact Or.inl hI
            · exfalso
              rw [hI.2] at u'
              have w' : ¬ wD D 0 j - wD D 0 i ≤ 0 := w
              have v' : ¬ wD D 1 i - wD D 1 j ≤ 0 := i_nle.mpr v
              rw [e1, e2] at w'
              rw [e3, e4] at v'
              rw [e1, e2, e3, e4] at u'
              exact gain_p v1 v2 v3 v4 w' v' u'
          · rw [if_neg (show ¬ wD D 0 j - wD D 0 i ≤ 0 from w), if_pos (show wD D 1 i - wD D 1 j ≤ 0 from i_nlt.mp v)] at hr'
            exact nxt a o1 o2 hI hr'
        · rw [if_pos z, if_neg y] at hr'
          exact nxt a o1 o2 hI hr'
        · rw [if_neg z] at hr'
          exact nxt a o1 o2 hI hr'
    have outer : ∀ (m i : Nat) (a : Int32 × Int32 × Int32 × Int32) (o1 o2 : Int32), i + m = 20 → bgI a o1 o2 → fl (fun i a => fl (bgF D i) 0 20 a) i m a = R → wl235_17 c d Post (m + 1) a.1 a.2.2.2 o1 o2 (nI i) s2 := by
      intro m
      induction m with
      | zero =>
        intro i a o1 o2 hi hI hr
        have hr' : a = R := hr
        subst hr'
        refine ⟨fun _ => ?_, fun z => absurd (le_t (a := 20) (by decide) (by omega) (by omega)) z⟩
        rintro s3 rfl
        have h0 := MS_row0 hS (r3 a.2.1.toInt64 a.2.2.1.toInt64 a.2.2.2.toInt64)
        refine ⟨fun z => ?_, fun z => ?_⟩
        · rw [if_pos z] at k
          exact k _ h0
        · rw [if_neg z] at k
          rcases hI with ⟨q1, q2⟩ | hI
          · subst q1 q2
            exact s157r (by omega) h0 (by decide) rfl (fun s3 h3 f3 => ⟨rfl, s157r (by omega) h3 (by decide) rfl (fun s4 h4 f4 => ⟨rfl, s157r (by omega) h4 (by decide) rfl (fun s5 h5 f5 => ⟨rfl, k s5 h5⟩)⟩)⟩)
          · rw [hI.1] at z
            exact absurd (by decide) z
      | succ m ih =>
        intro i a o1 o2 hi hI hr
        refine ⟨fun z => absurd z (le_f (a := 20) (by decide) (by omega) (by omega)), fun _ => ⟨21, ?_⟩⟩
        exact inner i (by omega) _ 20 0 a _ o1 o2 rfl hI rfl (fun o1' o2' hI' => ih (i + 1) _ o1' o2' (by omega) hI' hr)
    exact ⟨21, outer 20 0 (0, -1, -1, 0) 0 0 rfl (Or.inr ⟨rfl, rfl⟩) hR⟩
end C7
