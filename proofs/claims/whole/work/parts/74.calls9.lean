/-! Calls: rain, stops, rests. -/
/-- chances of rain, in tenths: of how many -/
def rnF (p : Int32) (_ : Nat) (a : Int64 × Int64) : Int64 × Int64 := ((a.1 * p.toInt64) + ((a.2 - a.1) * (10 - p).toInt64), a.2 * 10)
def rnR (n : Nat) (p : Int32) : Int64 × Int64 := fl (rnF p) 0 n (1, 1)
/-- what divides both -/
def eu : Nat → Int64 → Int64 → Option Int64
  | 0, _, _ => none
  | k + 1, a, b => if b = 0 then some a else eu k b (a - a / b * b)
def rnK (n p : Nat) : Bool := match eu 100 (rnR n (nI p)).2 (rnR n (nI p)).1, eu 100 (rnR n (nI p)).1 (rnR n (nI p)).2 with
  | some g, some g' => decide (g = g') && decide (¬ lg_cmp g 0 ≤ 0) && decide (¬ g = 0)
  | _, _ => false
set_option maxRecDepth 20000 in
theorem rn_ok : ∀ n, n < 13 → ∀ p, p < 11 → rnK n p = true := by decide +kernel
theorem rn_ex {n p : Nat} (hn : n < 13) (hp : p < 11) : ∃ g, eu 100 (rnR n (nI p)).2 (rnR n (nI p)).1 = some g ∧ eu 100 (rnR n (nI p)).1 (rnR n (nI p)).2 = some g ∧ ¬ lg_cmp g 0 ≤ 0 ∧ ¬ g = 0 := by
  have h := rn_ok n hn p hp
  unfold rnK at h
  cases h1 : eu 100 (rnR n (nI p)).2 (rnR n (nI p)).1 with
  | none => rw [h1] at h; cases h
  | some g =>
    cases h2 : eu 100 (rnR n (nI p)).1 (rnR n (nI p)).2 with
    | none => rw [h1, h2] at h; cases h
    | some g' =>
      rw [h1, h2] at h
      simp only [Bool.and_eq_true, decide_eq_true_eq] at h
      obtain ⟨⟨rfl, h4⟩, h5⟩ := h
      exact ⟨g, rfl, rfl, h4, h5⟩
/-- powers -/
def pw (v : Int64) (n : Nat) : Int64 := fl (fun _ a => a * v) 0 n 1
def stF (N p k : Nat) (a : Int64 × Int64) : Int64 × Int64 := (if 3 * k < N then a.1 else a.1 + (a.2 * pw (nI p).toInt64 k) * pw (nI (10 - p)).toInt64 (N - k), (a.2 * (nI N - nI k).toInt64) / (nI k + 1).toInt64)
def stE (N : Nat) (v : Int64) : Int32 := if 6 < N then (v / pw 10 (N - 6)).toInt32 else (v * pw 10 (6 - N)).toInt32
theorem k1_0 : ∀ k, k < 17 → ¬ (nI k + 1).toInt64 = 0 := by decide
theorem pw_1 : ∀ k, k < 17 → ¬ pw 10 k < 1 ∧ ¬ pw 10 k = 0 := by decide +kernel
/-- a vote of tribunes -/
def gtI (a b : Int32) : Int32 := if 9 < a + b then (if a = b then (if 0 < ((if 0 < (9 - b) then (9 - b) else 0) - 1) then ((if 0 < (9 - b) then (9 - b) else 0) - 1) else 0) else (if 0 < (9 - b) then (9 - b) else 0)) else a
def ibI (a b : Int32) : Nat → Nat → Int32
  | _, 0 => 1
  | i, m + 1 => if gtI (nI i) b ≤ gtI a b then ibI a b (i + 1) m else 0
def rsF (i j : Nat) (a : Nat × Int64 × Int64) : Nat × Int64 × Int64 := if ibI (nI i) (nI j) 0 10 = 0 then a else if ibI (nI j) (nI i) 0 10 = 0 then a else (a.1 + 1, if a.1 = 0 then ((nI i).toInt64, (nI j).toInt64) else a.2)
def rsD (D : DD) (a : Nat × Int64 × Int64) : DD := uW D (if a.1 = 0 then 0 else 2) (r2 a.2.1 a.2.2)
section C10
variable {c : gx} {d B : Nat} {Post : Option Value → gs → Prop} {s0 s : gs} {D : DD}
theorem s135 (hd : 1 ≤ d) {a b g : Int64} (h : eu 100 b a = some g) (k : Post (some (.long g)) s) : tE c d 135 [.long a, .long b] s Post := by
  obtain ⟨d, rfl⟩ := d_1 hd
  have loop : ∀ (n i : Nat) (a b : Int64), i + n = 100 → eu n a b = some g → wl135_9 c d Post (n + 1) a b (nI i) s := by
    intro n
    induction n with
    | zero => intro i a b hi h; cases h
    | succ n ih =>
      intro i a b hi h
      unfold eu at h
      unfold wl135_9 wb135_9
      rw [lg_cmp_eq]
      refine ⟨fun z => absurd z (le_f (a := 1000) (by decide) (by omega) (by omega)), fun _ => ⟨fun z => ?_, fun z => ⟨z, ?_⟩⟩⟩
      · rw [if_pos z] at h
        cases h
        exact k
      · rw [if_neg z] at h
        rw [nI_1]
        exact ih (i + 1) b _ (by omega) h
  exact okm135 c d Post _ _ s ⟨101, loop 100 0 b a rfl h⟩
theorem s252 {g : Int64} : ∀ (n d : Nat) (a b : Int64) (Post : Option Value → gs → Prop), n ≤ d → eu n a b = some g → Post (some (.long g)) s → tE c d 252 [.long a, .long b] s Post
  | 0, _, _, _, _, _, h, _ => by cases h
  | n + 1, d, a, b, Post, hd, h, k => by
    obtain ⟨d, rfl⟩ := d_1 (show 1 ≤ d by omega)
    unfold eu at h
    refine okm252 c d Post _ _ s ?_
    unfold wm252
    rw [lg_cmp_eq]
    refine ⟨fun z => ?_, fun z => ⟨z, ?_⟩⟩
    · rw [if_pos z] at h
      cases h
      exact k
    · rw [if_neg z] at h
      exact s252 n d b _ _ (by omega) h ⟨_, rfl, k⟩
theorem cl_rain (h : HY d s B D) (x y : Int32) : CL c d 134 253 [.int x, .int y] s B := by
  have hd := h.1
  have hv := h.2.2.2.1
  by_cases q : (0 ≤ x ∧ x ≤ 12) ∧ (0 ≤ y ∧ y ≤ 10)
  · obtain ⟨q1, q2⟩ := q
    obtain ⟨N, _, hN, rfl⟩ := i_rng (a := 0) (b := 12) (by decide) q1 (by decide)
    obtain ⟨P, _, hP, rfl⟩ := i_rng (a := 0) (b := 10) (by decide) q2 (by decide)
    obtain ⟨g, g1, g2, g3, g4⟩ := rn_ex (n := N) (p := P) (by omega) (by omega)
    refine glu1 h (D' := uW D 2 (r2 ((rnR N (nI P)).1 / g) ((rnR N (nI P)).2 / g))) (x := 0) (VD_W (VD_mono hv (Nat.le_add_right B 60)) _ _) (fun Post k => ?_) (fun s1 Post hm k => ?_)
    · obtain ⟨d, rfl⟩ := d_1 (show 1 ≤ d by omega)
      have hS := XS_rf h.2.1
      have loop : ∀ (m i : Nat) (a : Int64 × Int64), i + m = N → fl (rnF (nI P)) i m a = rnR N (nI P) → wl134_30 c d Post (m + 1) (nI N) (nI P) a.1 a.2 (nI i) s := by
        intro m
        induction m with
        | zero =>
          intro i a hi hr
          have hr' : a = rnR N (nI P) := hr
          subst hr'
          exact ⟨fun _ => s135 (by omega) g1 ⟨_, rfl, fun z => absurd z g3, fun _ => ⟨g4, g4, s46' (by omega) hS _ _ (fun s2 h2 f2 => ⟨rfl, k s2 h2⟩)⟩⟩, fun z => absurd (le_t (by omega) (by omega) (by omega)) z⟩
        | succ m ih =>
          intro i a hi hr
          refine ⟨fun z => absurd z (le_f (by omega) (by omega) (by omega)), fun _ => ?_⟩
          rw [nI_1]
          exact ih (i + 1) (rnF (nI P) i a) (by omega) hr
      exact okm134 c d Post _ _ s ⟨fun z => absurd z (i_nlt.mpr q1.1), fun _ => ⟨fun z => absurd z (i_nlt.mpr q1.2), fun _ => ⟨fun z => absurd z (i_nlt.mpr q2.1), fun _ => ⟨fun _ => ⟨N + 1, loop N 0 (1, 1) (by omega) rfl⟩, fun z => absurd q2.2 z⟩⟩⟩⟩
    · obtain ⟨d, rfl⟩ := d_1 (show 1 ≤ d by omega)
      refine okm253 c d Post _ _ s1 ?_
      rintro s2 rfl
      have hS := MS_thr hm 0
      revert hS
      generalize gs_V s1 48 13 0 = s2
      intro hS
      have loop : ∀ (m i : Nat) (a : Int64 × Int64), i + m = N → fl (rnF (nI P)) i m a = rnR N (nI P) → wl253_35 c d Post (m + 1) (nI N) (nI P) a.1 a.2 (nI i) s2 := by
        intro m
        induction m with
        | zero =>
          intro i a hi hr
          have hr' : a = rnR N (nI P) := hr
          subst hr'
          refine ⟨fun _ => s252 100 d _ _ _ (by omega) g2 ⟨_, rfl, ?_⟩, fun z => absurd (le_t (by omega) (by omega) (by omega)) z⟩
          rintro s3 rfl
          exact ⟨g4, s157r (by omega) (MS_row0 hS (r2 ((rnR N (nI P)).1 / g) ((rnR N (nI P)).2 / g))) (by decide) rfl (fun s4 h4 e4 => ⟨rfl, g4, s157r (by omega) h4 (by decide) rfl (fun s5 h5 e5 => ⟨rfl, k s5 h5⟩)⟩)⟩
        | succ m ih =>
          intro i a hi hr
          refine ⟨fun z => absurd z (le_f (by omega) (by omega) (by omega)), fun _ => ?_⟩
          rw [nI_1]
          exact ih (i + 1) (rnF (nI P) i a) (by omega) hr
      refine s154 (by omega) _ _ _ ⟨_, rfl, fun z => ?_, fun _ => s154 (by omega) _ _ _ ⟨_, rfl, fun z => ?_, fun _ => ⟨N + 1, loop N 0 (1, 1) (by omega) rfl⟩⟩⟩
      · rw [bI_0] at z; exact absurd q1 z
      · rw [bI_0] at z; exact absurd q2 z
  · refine glu0 h (x := -1) (fun Post k => ?_) (fun s1 Post hm k => ?_)
    · obtain ⟨d, rfl⟩ := d_1 (show 1 ≤ d by omega)
      have k' := k s (XS_rf h.2.1)
      exact okm134 c d Post _ _ s ⟨fun z => k', fun z1 => ⟨fun z => k', fun z2 => ⟨fun z => k', fun z3 => ⟨fun z4 => absurd ⟨⟨i_nlt.mp z1, i_nlt.mp z2⟩, i_nlt.mp z3, z4⟩ q, fun z => k'⟩⟩⟩⟩
    · obtain ⟨d, rfl⟩ := d_1 (show 1 ≤ d by omega)
      refine okm253 c d Post _ _ s1 ?_
      rintro s2 rfl
      have k' := k _ (MS_thr hm 0)
      refine s154 (by omega) _ _ _ ⟨_, rfl, fun z => k', fun z1 => s154 (by omega) _ _ _ ⟨_, rfl, fun z => k', fun z2 => ?_⟩⟩
      rw [bI_0, Classical.not_not] at z1 z2
      exact absurd ⟨z1, z2⟩ q
theorem s137 (hd : 1 ≤ d) (v : Int32) {n : Nat} (hn : n < 100) (k : Post (some (.long (pw v.toInt64 n))) s) : tE c d 137 [.int v, .int (nI n)] s Post := by
  obtain ⟨d, rfl⟩ := d_1 hd
  have loop : ∀ (m i : Nat) (a : Int64), i + m = n → fl (fun _ a => a * v.toInt64) i m a = pw v.toInt64 n → wl137_5 c d Post (m + 1) v (nI n) a (nI i) s := by
    intro m
    induction m with
    | zero =>
      intro i a hi hr
      have hr' : a = pw v.toInt64 n := hr
      subst hr'
      exact ⟨fun _ => k, fun z => absurd (le_t (by omega) (by omega) (by omega)) z⟩
    | succ m ih =>
      intro i a hi hr
      refine ⟨fun z => absurd z (le_f (by omega) (by omega) (by omega)), fun _ => ?_⟩
      rw [nI_1]
      exact ih (i + 1) _ (by omega) hr
  exact okm137 c d Post _ _ s ⟨n + 1, loop n 0 1 (by omega) rfl⟩
theorem s254 (hd : 1 ≤ d) (v : Int64) {n : Nat} (hn : n < 100) (k : Post (some (.long (pw v n))) s) : tE c d 254 [.long v, .int (nI n)] s Post := by
  obtain ⟨d, rfl⟩ := d_1 hd
  have loop : ∀ (m i : Nat) (a : Int64), i + m = n → fl (fun _ a => a * v) i m a = pw v n → wl254_5 c d Post (m + 1) v (nI n) a (nI i) s := by
    intro m
    induction m with
    | zero =>
      intro i a hi hr
      have hr' : a = pw v n := hr
      subst hr'
      exact ⟨fun _ => k, fun z => absurd (le_t (by omega) (by omega) (by omega)) z⟩
    | succ m ih =>
      intro i a hi hr
      refine ⟨fun z => absurd z (le_f (by omega) (by omega) (by omega)), fun _ => ?_⟩
      rw [nI_1]
      exact ih (i + 1) _ (by omega) hr
  exact okm254 c d Post _ _ s ⟨n + 1, loop n 0 1 (by omega) rfl⟩
theorem cl_stops (h : HY d s B D) (x y : Int32) : CL c d 136 255 [.int x, .int y] s B := by
  have hd := h.1
  by_cases q : (1 ≤ x ∧ x ≤ 15) ∧ (0 ≤ y ∧ y ≤ 10)
  · obtain ⟨q1, q2⟩ := q
    obtain ⟨N, hN1, hN, rfl⟩ := i_rng (a := 1) (b := 15) (by decide) q1 (by decide)
    obtain ⟨P, _, hP, rfl⟩ := i_rng (a := 0) (b := 10) (by decide) q2 (by decide)
    generalize hR : fl (stF N P) 0 (N + 1) (0, 1) = R
    have e10 : (10 : Int32) - nI P = nI (10 - P) := nI_sub (a := 10) hP
    refine glu0 h (x := stE N R.1) (fun Post k => ?_) (fun s1 Post hm k => ?_)
    · obtain ⟨d, rfl⟩ := d_1 (show 1 ≤ d by omega)
      have hS := XS_rf h.2.1
      have k' := k s hS
      have loop : ∀ (m i : Nat) (a : Int64 × Int64), i + m = N + 1 → fl (stF N P) i m a = R → wl136_31 c d Post (m + 1) (nI N) (nI P) a.1 a.2 (nI i) s := by
        intro m
        induction m with
        | zero =>
          intro i a hi hr
          have hr' : a = R := hr
          subst hr'
          unfold stE at k'
          refine ⟨fun _ => ⟨fun z => ?_, fun z => ?_⟩, fun z => absurd ((nI_lt' (by omega) (by omega)).mpr (by omega)) z⟩
          · have z' := (nI_lt' (a := 6) (by decide) (by omega)).mp z
            have hp := pw_1 (N - 6) (by omega)
            rw [if_pos z'] at k'
            rw [show nI N - 6 = nI (N - 6) from nI_sub (b := 6) (by omega)]
            refine s137 (by omega) _ (by omega) ⟨_, rfl, ?_⟩
            rw [show (10 : Int32).toInt64 = 10 from rfl, if_neg hp.1]
            exact ⟨hp.2, k'⟩
          · have z' : ¬ 6 < N := fun w => z ((nI_lt' (a := 6) (by decide) (by omega)).mpr w)
            rw [if_neg z'] at k'
            rw [show 6 - nI N = nI (6 - N) from nI_sub (a := 6) (by omega)]
            refine s137 (by omega) _ (by omega) ⟨_, rfl, ?_⟩
            rw [show (10 : Int32).toInt64 = 10 from rfl]
            exact k'
        | succ m ih =>
          intro i a hi hr
          have hr' : fl (stF N P) (i + 1) m (stF N P i a) = R := hr
          unfold stF at hr'
          have e3 : (3 : Int32) * nI i = nI (3 * i) := pk_mul 3 i
          refine ⟨fun z => absurd ((nI_lt' (by omega) (by omega)).mp z) (by omega), fun _ => ?_⟩
          rw [e3, nI_lt' (by omega) (by omega)]
          refine ⟨fun z => ⟨k1_0 i (by omega), ?_⟩, fun z => ?_⟩
          · rw [if_pos z] at hr'
            rw [nI_1]
            have := ih (i + 1) (_, _) (by omega) hr'
            rw [← nI_1] at this ⊢
            exact this
          · rw [if_neg z] at hr'
            rw [e10, nI_sub (show i ≤ N by omega)]
            refine s137 (by omega) _ (by omega) ⟨_, rfl, s137 (by omega) _ (by omega) ⟨_, rfl, k1_0 i (by omega), ?_⟩⟩
            have := ih (i + 1) (_, _) (by omega) hr'
            rw [← nI_1] at this
            exact this
      exact okm136 c d Post _ _ s ⟨fun z => absurd z (i_nlt.mpr q1.1), fun _ => ⟨fun z => absurd z (i_nlt.mpr q1.2), fun _ => ⟨fun z => absurd z (i_nlt.mpr q2.1), fun _ => ⟨fun _ => ⟨N + 2, loop (N + 1) 0 (0, 1) (by omega) hR⟩, fun z => absurd q2.2 z⟩⟩⟩⟩
    · obtain ⟨d, rfl⟩ := d_1 (show 1 ≤ d by omega)
      refine okm255 c d Post _ _ s1 ?_
      rintro s2 rfl
      have hS := MS_thr hm 0
      have k' := k _ hS
      revert hS k'
      generalize gs_V s1 48 13 0 = s2
      intro hS k'
      have loop : ∀ (m i : Nat) (a : Int64 × Int64), i + m = N + 1 → fl (stF N P) i m a = R → wl255_35 c d Post (m + 1) (nI N) (nI P) a.1 a.2 (nI i) s2 := by
        intro m
        induction m with
        | zero =>
          intro i a hi hr
          have hr' : a = R := hr
          subst hr'
          unfold stE at k'
          refine ⟨fun _ => ⟨fun z => ?_, fun z => ?_⟩, fun z => absurd ((nI_lt' (by omega) (by omega)).mpr (by omega)) z⟩
          · have z' := (nI_lt' (b := 6) (by omega) (by decide)).mp z
            rw [if_neg (by omega)] at k'
            rw [show 6 - nI N = nI (6 - N) from nI_sub (a := 6) (by omega)]
            exact s254 (by omega) _ (by omega) ⟨_, rfl, k'⟩
          · have z' : ¬ N < 6 := fun w => z ((nI_lt' (b := 6) (by omega) (by decide)).mpr w)
            have hp := pw_1 (N - 6) (by omega)
            rw [show nI N - 6 = nI (N - 6) from nI_sub (b := 6) (by omega)]
            refine s254 (by omega) _ (by omega) ⟨_, rfl, hp.2, ?_⟩
            by_cases w : 6 < N
            · rw [if_pos w] at k'
              exact k'
            · rw [if_neg w] at k'
              have e6 : N = 6 := by omega
              subst e6
              have e1 : a.1 * pw 10 (6 - 6) = a.1 / pw 10 (6 - 6) := by
                show a.1 * 1 = a.1 / 1
                rw [Int64.mul_one, Int64.div_one]
              rw [e1] at k'
              exact k'
        | succ m ih =>
          intro i a hi hr
          have hr' : fl (stF N P) (i + 1) m (stF N P i a) = R := hr
          unfold stF at hr'
          have e3 : (3 : Int32) * nI i = nI (3 * i) := pk_mul 3 i
          refine ⟨fun z => absurd ((nI_lt' (by omega) (by omega)).mp z) (by omega), fun _ => ?_⟩
          rw [e3, nI_lt' (by omega) (by omega)]
          refine ⟨fun z => ⟨k1_0 i (by omega), ?_⟩, fun z => ?_⟩
          · rw [if_pos z] at hr'
            have := ih (i + 1) (_, _) (by omega) hr'
            rw [← nI_1] at this
            rw [Int64.add_zero]
            exact this
          · rw [if_neg z] at hr'
            rw [e10, nI_sub (show i ≤ N by omega)]
            refine s254 (by omega) _ (by omega) ⟨_, rfl, s254 (by omega) _ (by omega) ⟨_, rfl, k1_0 i (by omega), ?_⟩⟩
            have := ih (i + 1) (_, _) (by omega) hr'
            rw [← nI_1] at this
            exact this
      refine s154 (by omega) _ _ _ ⟨_, rfl, fun z => ?_, fun _ => s154 (by omega) _ _ _ ⟨_, rfl, fun z => ?_, fun _ => ⟨N + 2, loop (N + 1) 0 (0, 1) (by omega) hR⟩⟩⟩
      · rw [bI_0] at z; exact absurd q1 z
      · rw [bI_0] at z; exact absurd q2 z
  · refine glu0 h (x := -1) (fun Post k => ?_) (fun s1 Post hm k => ?_)
    · obtain ⟨d, rfl⟩ := d_1 (show 1 ≤ d by omega)
      have k' := k s (XS_rf h.2.1)
      exact okm136 c d Post _ _ s ⟨fun z => k', fun z1 => ⟨fun z => k', fun z2 => ⟨fun z => k', fun z3 => ⟨fun z4 => absurd ⟨⟨i_nlt.mp z1, i_nlt.mp z2⟩, i_nlt.mp z3, z4⟩ q, fun z => k'⟩⟩⟩⟩
    · obtain ⟨d, rfl⟩ := d_1 (show 1 ≤ d by omega)
      refine okm255 c d Post _ _ s1 ?_
      rintro s2 rfl
      have k' := k _ (MS_thr hm 0)
      refine s154 (by omega) _ _ _ ⟨_, rfl, fun z => k', fun z1 => s154 (by omega) _ _ _ ⟨_, rfl, fun z => k', fun z2 => ?_⟩⟩
      rw [bI_0, Classical.not_not] at z1 z2
      exact absurd ⟨z1, z2⟩ q
theorem s140 (hd : 1 ≤ d) (a b : Int32) (k : Post (some (.int (gtI a b))) s) : tE c d 140 [.int a, .int b] s Post := by
  obtain ⟨d, rfl⟩ := d_1 hd
  unfold gtI at k
  refine okm140 c d Post _ _ s ⟨fun z => ⟨fun y => ?_, fun y => ?_⟩, fun z => ?_⟩
  · rw [if_pos z, if_pos y] at k; exact k
  · rw [if_pos z, if_neg y] at k; exact k
  · rw [if_neg z] at k; exact k
theorem s256 (hd : 1 ≤ d) (a b : Int32) (k : Post (some (.int (gtI a b))) s) : tE c d 256 [.int a, .int b] s Post := by
  obtain ⟨d, rfl⟩ := d_1 hd
  unfold gtI at k
  refine okm256 c d Post _ _ s ⟨fun z => ⟨fun y => ?_, fun y => ?_⟩, fun z => ?_⟩
  · rw [if_pos z, if_pos y] at k; exact k
  · rw [if_pos z, if_neg y] at k; exact k
  · rw [if_neg z] at k; exact k
theorem s139 (hd : 2 ≤ d) (a b : Int32) (k : Post (some (.int (ibI a b 0 10))) s) : tE c d 139 [.int a, .int b] s Post := by
  obtain ⟨d, rfl⟩ := d_1 (show 1 ≤ d by omega)
  have loop : ∀ (m i : Nat), i + m = 10 → ibI a b i m = ibI a b 0 10 → wl139_2 c d Post (m + 1) a b (nI i) s := by
    intro m
    induction m with
    | zero =>
      intro i hi hr
      refine ⟨fun _ => ?_, fun z => absurd ((nI_lt' (a := 9) (by decide) (by omega)).mpr (by omega)) z⟩
      rw [← hr] at k
      exact k
    | succ m ih =>
      intro i hi hr
      refine ⟨fun z => absurd ((nI_lt' (a := 9) (by decide) (by omega)).mp z) (by omega), fun _ => s140 (by omega) _ _ ⟨_, rfl, s140 (by omega) _ _ ⟨_, rfl, fun z => ?_, fun z => ?_⟩⟩⟩
      · rw [nI_1]
        refine ih (i + 1) (by omega) (Eq.trans ?_ hr)
        exact (if_pos z).symm
      · rw [← hr, show ibI a b i (m + 1) = 0 from if_neg z] at k
        exact k
  exact okm139 c d Post _ _ s ⟨11, loop 10 0 rfl rfl⟩
theorem s257 (hd : 2 ≤ d) (a b : Int32) (k : Post (some (.int (ibI a b 0 10))) s) : tE c d 257 [.int a, .int b] s Post := by
  obtain ⟨d, rfl⟩ := d_1 (show 1 ≤ d by omega)
  have loop : ∀ (m i : Nat), i + m = 10 → ibI a b i m = ibI a b 0 10 → wl257_2 c d Post (m + 1) a b (nI i) s := by
    intro m
    induction m with
    | zero =>
      intro i hi hr
      refine ⟨fun _ => ?_, fun z => absurd ((nI_lt' (a := 9) (by decide) (by omega)).mpr (by omega)) z⟩
      rw [← hr] at k
      exact k
    | succ m ih =>
      intro i hi hr
      refine ⟨fun z => absurd ((nI_lt' (a := 9) (by decide) (by omega)).mp z) (by omega), fun _ => s256 (by omega) _ _ ⟨_, rfl, s256 (by omega) _ _ ⟨_, rfl, fun z => ?_, fun z => ?_⟩⟩⟩
      · rw [nI_1]
        refine ih (i + 1) (by omega) (Eq.trans ?_ hr)
        exact (if_pos z).symm
      · rw [← hr, show ibI a b i (m + 1) = 0 from if_neg z] at k
        exact k
  exact okm257 c d Post _ _ s ⟨11, loop 10 0 rfl rfl⟩
theorem cl_rests (h : HY d s B D) : CL c d 138 258 [] s B := by
  have hd := h.1
  have hv := h.2.2.2.1
  generalize hR : fl (fun i a => fl (rsF i) 0 10 a) 0 10 (0, 0, 0) = R
  refine glu1 h (D' := rsD D R) (x := nI R.1) (VD_W (VD_mono hv (Nat.le_add_right B 60)) _ _) (fun Post k => ?_) (fun s1 Post hm k => ?_)
  · obtain ⟨d, rfl⟩ := d_1 (show 1 ≤ d by omega)
    have inner : ∀ (i : Nat), i < 10 → ∀ (K : Int32 → Int32 → gs → Prop) (m j : Nat) (a A : Nat × Int64 × Int64) (s' : gs), j + m = 10 → a.1 ≤ 10 * i + j → XS s s' (rsD D a) → fl (rsF i) j m a = A → (∀ s'', A.1 ≤ 10 * (i + 1) → XS s s'' (rsD D A) → K (nI A.1) (nI (i + 1)) s'') → wl138_20 c d Post K (m + 1) (nI a.1) (nI i) (nI j) s' := by
      intro i hi K m
      induction m with
      | zero =>
        intro j a A s' hj ha hS hr hK
        have hr' : a = A := hr
        subst hr'
        refine ⟨fun _ => ?_, fun z => absurd ((nI_lt' (a := 9) (by decide) (by omega)).mpr (by omega)) z⟩
        rw [nI_1]
        exact hK s' (by omega) hS
      | succ m ih =>
        intro j a A s' hj ha hS hr hK
        have hr' : fl (rsF i) (j + 1) m (rsF i j a) = A := hr
        unfold rsF at hr'
        refine ⟨fun z => absurd ((nI_lt' (a := 9) (by decide) (by omega)).mp z) (by omega), fun _ => s139 (by omega) _ _ ⟨_, rfl, fun z => ?_, fun z => s139 (by omega) _ _ ⟨_, rfl, fun y => ?_, fun y => ⟨fun w => ?_, fun w => ?_⟩⟩⟩⟩
        · rw [if_pos z] at hr'
          unfold w138_60
          rw [nI_1]
          exact ih (j + 1) a A s' (by omega) (by omega) hS hr' hK
        · rw [if_neg z, if_pos y] at hr'
          unfold w138_60
          rw [nI_1]
          exact ih (j + 1) a A s' (by omega) (by omega) hS hr' hK
        · have w' : a.1 = 0 := (nI_eq' (b := 0) (by omega) (by decide)).mp w
          rw [if_neg z, if_neg y, if_pos w'] at hr'
          refine s46' (by omega) hS _ _ (fun s2 h2 f2 => ⟨rfl, ?_⟩)
          unfold w138_57 w138_60
          rw [nI_1, nI_1]
          refine ih (j + 1) (a.1 + 1, (nI i).toInt64, (nI j).toInt64) A s2 (by omega) (by show a.1 + 1 ≤ _; omega) ?_ hr' hK
          have : rsD D (a.1 + 1, (nI i).toInt64, (nI j).toInt64) = uW D 2 (r2 (nI i).toInt64 (nI j).toInt64) := by
            unfold rsD
            rw [if_neg (by show ¬ a.1 + 1 = 0; omega)]
          rw [this]
          exact h2
        · have w' : ¬ a.1 = 0 := fun u => w ((nI_eq' (b := 0) (by omega) (by decide)).mpr u)
          rw [if_neg z, if_neg y, if_neg w'] at hr'
          unfold w138_57 w138_60
          rw [nI_1, nI_1]
          refine ih (j + 1) (a.1 + 1, a.2) A s' (by omega) (by show a.1 + 1 ≤ _; omega) ?_ hr' hK
          have : rsD D (a.1 + 1, a.2) = rsD D a := by
            unfold rsD
            rw [if_neg (by show ¬ a.1 + 1 = 0; omega), if_neg w']
          rw [this]
          exact hS
    have outer : ∀ (m i : Nat) (a : Nat × Int64 × Int64) (s' : gs), i + m = 10 → a.1 ≤ 10 * i → XS s s' (rsD D a) → fl (fun i a => fl (rsF i) 0 10 a) i m a = R → wl138_12 c d Post (m + 1) (nI a.1) (nI i) s' := by
      intro m
      induction m with
      | zero =>
        intro i a s' hi ha hS hr
        have hr' : a = R := hr
        subst hr'
        exact ⟨fun _ => k s' hS, fun z => absurd ((nI_lt' (a := 9) (by decide) (by omega)).mpr (by omega)) z⟩
      | succ m ih =>
        intro i a s' hi ha hS hr
        refine ⟨fun z => absurd ((nI_lt' (a := 9) (by decide) (by omega)).mp z) (by omega), fun _ => ⟨11, ?_⟩⟩
        exact inner i (by omega) _ 10 0 a _ s' rfl (by omega) hS rfl (fun s'' hA hS' => ih (i + 1) _ s'' (by omega) hA hS' hr)
    refine okm138 c d Post s ?_
    rintro s2 rfl
    exact ⟨11, outer 10 0 (0, 0, 0) _ rfl (by decide) (XS_row0 (XS_rf h.2.1) _) hR⟩
  · obtain ⟨d, rfl⟩ := d_1 (show 1 ≤ d by omega)
    have inner : ∀ (i : Nat), i < 10 → ∀ (K : Int32 → Int32 → gs → Prop) (m j : Nat) (a A : Nat × Int64 × Int64) (s' : gs), j + m = 10 → a.1 ≤ 10 * i + j → MS s1 s' (rsD D a) → fl (rsF i) j m a = A → (∀ s'', A.1 ≤ 10 * (i + 1) → MS s1 s'' (rsD D A) → K (nI A.1) (nI (i + 1)) s'') → wl258_22 c d Post K (m + 1) (nI a.1) (nI i) (nI j) s' := by
      intro i hi K m
      induction m with
      | zero =>
        intro j a A s' hj ha hS hr hK
        have hr' : a = A := hr
        subst hr'
        refine ⟨fun _ => ?_, fun z => absurd ((nI_lt' (a := 9) (by decide) (by omega)).mpr (by omega)) z⟩
        rw [nI_1]
        exact hK s' (by omega) hS
      | succ m ih =>
        intro j a A s' hj ha hS hr hK
        have hr' : fl (rsF i) (j + 1) m (rsF i j a) = A := hr
        unfold rsF at hr'
        refine ⟨fun z => absurd ((nI_lt' (a := 9) (by decide) (by omega)).mp z) (by omega), fun _ => s257 (by omega) _ _ ⟨_, rfl, fun z => ?_, fun z => s257 (by omega) _ _ ⟨_, rfl, fun y => ?_, fun y => ⟨fun w => ?_, fun w => ?_⟩⟩⟩⟩
        · rw [if_pos z] at hr'
          unfold w258_66
          rw [nI_1]
          exact ih (j + 1) a A s' (by omega) (by omega) hS hr' hK
        · rw [if_neg z, if_pos y] at hr'
          unfold w258_66
          rw [nI_1]
          exact ih (j + 1) a A s' (by omega) (by omega) hS hr' hK
        · have w' : a.1 = 0 := (nI_eq' (b := 0) (by omega) (by decide)).mp w
          rw [if_neg z, if_neg y, if_pos w'] at hr'
          have hS0 : MS s1 s' (uW D 0 (r2 (nI i).toInt64 (nI j).toInt64)) := by
            unfold rsD at hS
            rw [if_pos w'] at hS
            exact MW_R hS (fun i hi => absurd hi (Nat.not_lt_zero _))
          refine s157r (by omega) hS0 (by decide) rfl (fun s3 h3 e3 => ⟨rfl, s157r (by omega) h3 (by decide) rfl (fun s2 h2 f2 => ⟨rfl, ?_⟩)⟩)
          unfold w258_63 w258_66
          rw [nI_1, nI_1]
          refine ih (j + 1) (a.1 + 1, (nI i).toInt64, (nI j).toInt64) A s2 (by omega) (by show a.1 + 1 ≤ _; omega) ?_ hr' hK
          have : rsD D (a.1 + 1, (nI i).toInt64, (nI j).toInt64) = uW D 2 (r2 (nI i).toInt64 (nI j).toInt64) := by
            unfold rsD
            rw [if_neg (by show ¬ a.1 + 1 = 0; omega)]
          rw [this]
          exact h2
        · have w' : ¬ a.1 = 0 := fun u => w ((nI_eq' (b := 0) (by omega) (by decide)).mpr u)
          rw [if_neg z, if_neg y, if_neg w'] at hr'
          unfold w258_63 w258_66
          rw [nI_1, nI_1]
          refine ih (j + 1) (a.1 + 1, a.2) A s' (by omega) (by show a.1 + 1 ≤ _; omega) ?_ hr' hK
          have : rsD D (a.1 + 1, a.2) = rsD D a := by
            unfold rsD
            rw [if_neg (by show ¬ a.1 + 1 = 0; omega), if_neg w']
          rw [this]
          exact hS
    have outer : ∀ (m i : Nat) (a : Nat × Int64 × Int64) (s' : gs), i + m = 10 → a.1 ≤ 10 * i → MS s1 s' (rsD D a) → fl (fun i a => fl (rsF i) 0 10 a) i m a = R → wl258_14 c d Post (m + 1) (nI a.1) (nI i) s' := by
      intro m
      induction m with
      | zero =>
        intro i a s' hi ha hS hr
        have hr' : a = R := hr
        subst hr'
        exact ⟨fun _ => k s' hS, fun z => absurd ((nI_lt' (a := 9) (by decide) (by omega)).mpr (by omega)) z⟩
      | succ m ih =>
        intro i a s' hi ha hS hr
        refine ⟨fun z => absurd ((nI_lt' (a := 9) (by decide) (by omega)).mp z) (by omega), fun _ => ⟨11, ?_⟩⟩
        exact inner i (by omega) _ 10 0 a _ s' rfl (by omega) hS rfl (fun s'' hA hS' => ih (i + 1) _ s'' (by omega) hA hS' hr)
    refine okm258 c d Post s1 ?_
    rintro s2 rfl s3 rfl
    exact ⟨11, outer 10 0 (0, 0, 0) _ rfl (by decide) (MS_row0 (MS_thr hm 0) _) hR⟩
end C10
