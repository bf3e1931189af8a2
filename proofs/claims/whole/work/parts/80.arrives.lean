/-! Calls: arrives. -/
theorem fl_sn {α : Type} (f : Nat → α → α) (i m : Nat) (a : α) : fl f i (m + 1) a = f (i + m) (fl f i m a) := by
  rw [fl_add]
  rfl
def fstH (P : Nat → Bool) : Nat → Nat → Option Nat
  | _, 0 => none
  | i, m + 1 => if P i = true then some i else fstH P (i + 1) m
theorem fstH_1 (P : Nat → Bool) (i m : Nat) : fstH P i (m + 1) = if P i = true then some i else fstH P (i + 1) m := rfl
theorem fstH_s {P : Nat → Bool} : ∀ (m i j : Nat), fstH P i m = some j → i ≤ j ∧ j < i + m ∧ P j = true
  | 0, i, j, h => by cases h
  | m + 1, i, j, h => by
    rw [fstH_1] at h
    by_cases q : P i = true
    · rw [if_pos q] at h
      cases h
      exact ⟨Nat.le_refl _, by omega, q⟩
    · rw [if_neg q] at h
      have := fstH_s m (i + 1) j h
      exact ⟨by omega, by omega, this.2.2⟩
theorem sgl {X : Int32} {t : Nat} (ht : t < 32) : (∃ j, j < 32 ∧ gb X j = true ∧ gb (sh1 t) j = true) ↔ gb X t = true := by
  constructor
  · rintro ⟨j, hj, h1, h2⟩
    rw [gb_sh1 ht hj] at h2
    rw [← of_decide_eq_true h2]
    exact h1
  · intro h
    exact ⟨t, ht, h, by rw [gb_sh1 ht ht]; exact decide_eq_true rfl⟩
theorem sgl' {X : Int32} {t : Nat} (ht : t < 32) : (∃ j, j < 32 ∧ gb (sh1 t) j = true ∧ gb X j = true) ↔ gb X t = true := by
  rw [← sgl ht]
  exact ⟨fun ⟨j, h1, h2, h3⟩ => ⟨j, h1, h3, h2⟩, fun ⟨j, h1, h2, h3⟩ => ⟨j, h1, h3, h2⟩⟩
/-- a way, the lowest field first -/
def ptW (R S O : Nat → Int32) (n : Nat) (G : Int32) (a : Nat) : Nat → Nat
  | 0 => a
  | i + 1 => (ntI (mvO R S (O i) (ptW R S O n G a i) &&& bwd R S O (i + 1) (n - (i + 1)) G)).toNatClampNeg
theorem pt_st {F : Nat} {R S O : Nat → Int32} (hW : okW F R S) (hF : F ≤ 12) {G : Int32} (hG : inF F G) {n i f : Nat} (hi : i < n) (hf : f < F) (h : gb (bwd R S O i (n - i) G) f = true) : ∃ r, r < F ∧ ntI (mvO R S (O i) f &&& bwd R S O (i + 1) (n - (i + 1)) G) = nI r ∧ gb (mvO R S (O i) f) r = true ∧ gb (bwd R S O (i + 1) (n - (i + 1)) G) r = true ∧ ∀ j, j < r → gb (mvO R S (O i) f) j = true → gb (bwd R S O (i + 1) (n - (i + 1)) G) j = false := by
  rw [show n - i = n - (i + 1) + 1 by omega] at h
  have h' : gb (srO R S (O i) (bwd R S O (i + 1) (n - (i + 1)) G)) f = true := h
  rw [srO_b (by omega)] at h'
  obtain ⟨-, hne⟩ := of_decide_eq_true h'
  have hin : inF 12 (mvO R S (O i) f &&& bwd R S O (i + 1) (n - (i + 1)) G) := fun j hj hq => by
    rw [gb_and, Bool.and_eq_true] at hq
    have := mv_F hW hF hf (O i) j hj hq.1
    omega
  obtain ⟨r, h1, h2, h3, h4⟩ := nt_b hin hne
  rw [gb_and, Bool.and_eq_true] at h3
  refine ⟨r, mv_F hW hF hf (O i) r (by omega) h3.1, h2, h3.1, h3.2, fun j hj hm => ?_⟩
  have := h4 j hj
  rw [gb_and, hm, Bool.true_and] at this
  exact this
theorem pt_ok {F : Nat} {R S O : Nat → Int32} (hW : okW F R S) (hF : F ≤ 12) {G : Int32} (hG : inF F G) {n a : Nat} (ha : a < F) (h : gb (bwd R S O 0 n G) a = true) : ∀ i, i ≤ n → ptW R S O n G a i < F ∧ gb (bwd R S O i (n - i) G) (ptW R S O n G a i) = true
  | 0, _ => ⟨ha, h⟩
  | i + 1, hi => by
    obtain ⟨h1, h2⟩ := pt_ok hW hF hG ha h i (by omega)
    obtain ⟨r, r1, r2, r3, r4, r5⟩ := pt_st hW hF hG (by omega) h1 h2
    have e : ptW R S O n G a (i + 1) = r := by
      show (ntI (mvO R S (O i) (ptW R S O n G a i) &&& bwd R S O (i + 1) (n - (i + 1)) G)).toNatClampNeg = r
      rw [r2, nI_clamp (by omega)]
    rw [e]
    exact ⟨r1, r4⟩
theorem pt_nt {F : Nat} {R S O : Nat → Int32} (hW : okW F R S) (hF : F ≤ 12) {G : Int32} (hG : inF F G) {n a i : Nat} (hi : i < n) (h1 : ptW R S O n G a i < F) (h2 : gb (bwd R S O i (n - i) G) (ptW R S O n G a i) = true) : ntI (mvO R S (O i) (ptW R S O n G a i) &&& bwd R S O (i + 1) (n - (i + 1)) G) = nI (ptW R S O n G a (i + 1)) := by
  obtain ⟨r, r1, r2, r3, r4, r5⟩ := pt_st hW hF hG hi h1 h2
  show _ = nI (ntI (mvO R S (O i) (ptW R S O n G a i) &&& bwd R S O (i + 1) (n - (i + 1)) G)).toNatClampNeg
  rw [r2, nI_clamp (by omega)]
section C15
variable {c : gx} {d B : Nat} {Post : Option Value → gs → Prop} {s0 s : gs} {D : DD} {R S O : Nat → Int32}
theorem s67 (hd : 3 ≤ d) (hW : WK s R S O) {a t : Nat} (ha : a < 12) (ht : t < 12) (k : Post (some (.int (oI (fstH (fun i => gb (fwd R S O 0 i (sh1 a)) t) 0 21)))) s) : tE c d 67 [.ref 36, .int (nI a), .int (nI t)] s Post := by
  obtain ⟨d, rfl⟩ := d_1 (show 1 ≤ d by omega)
  have loop : ∀ (m i : Nat), i + m = 20 → fstH (fun i => gb (fwd R S O 0 i (sh1 a)) t) i (m + 1) = fstH (fun i => gb (fwd R S O 0 i (sh1 a)) t) 0 21 → wl67_7 c d Post (m + 1) (nI t) (fwd R S O 0 i (sh1 a)) (nI i) s := by
    intro m
    induction m with
    | zero =>
      intro i hi hr
      rw [fstH_1] at hr
      unfold wl67_7 wb67_7 w67_60
      rw [gb_shr (by omega)]
      refine ⟨fun _ => ⟨fun z => ?_, fun z => ?_⟩, fun z => absurd (le_t (a := 20) (by decide) (by omega) (by omega)) z⟩
      · rw [if_pos z, show i = 20 by omega] at hr
        rw [← hr] at k
        exact k
      · rw [if_neg z] at hr
        rw [← hr] at k
        exact k
    | succ m ih =>
      intro i hi hr
      rw [fstH_1] at hr
      unfold wl67_7 wb67_7
      rw [gb_shr (by omega), nI_clamp (by omega)]
      refine ⟨fun z => absurd z (le_f (a := 20) (by decide) (by omega) (by omega)), fun _ => ⟨fun z => ?_, fun z => ⟨vp_in_nI (by omega) (by decide), ?_⟩⟩⟩
      · rw [if_pos z] at hr
        rw [← hr] at k
        exact k
      · rw [if_neg z] at hr
        rw [hW.2.2 i (by omega)]
        refine s66 (by omega) hW _ _ ⟨_, rfl, ?_⟩
        rw [nI_1]
        have := ih (i + 1) (by omega) hr
        rw [show fwd R S O 0 (i + 1) (sh1 a) = mvA R S (O (0 + i)) (fwd R S O 0 i (sh1 a)) from rfl, Nat.zero_add] at this
        exact this
  exact okm67 c d Post _ _ s ⟨21, loop 20 0 rfl rfl⟩
theorem mv_who {i f : Nat} (hf : f < dF D) (hw : ¬ who (dg D) (gn (dg D) 0 + i) = -1) : mvO (prW D 0) (prW D 1) (owD D i) f = gls (dr D) (dF D) f (gn (dg D) 2) (db D (whn (dg D) (gn (dg D) 0 + i)) / 3 + 1) := by
  unfold mvO owD prW
  rw [if_neg hw, if_pos hf, if_pos hf]
  have := whn_e hw
  have hl := whn_lt (dg D) (gn (dg D) 0 + i)
  by_cases q : who (dg D) (gn (dg D) 0 + i) = 0
  · have e : whn (dg D) (gn (dg D) 0 + i) = 0 := by
      rw [q] at this
      exact ((nI_eq' (b := 0) (by omega) (by decide)).mp this.symm)
    rw [if_pos q, e]
  · have e : whn (dg D) (gn (dg D) 0 + i) = 1 := by
      by_cases z : whn (dg D) (gn (dg D) 0 + i) = 1
      · exact z
      · have z0 : whn (dg D) (gn (dg D) 0 + i) = 0 := by omega
        rw [z0] at this
        exact absurd this q
    rw [if_neg q, e]
theorem s222 (hd : 4 ≤ d) (h : MS s0 s D) (hN : okN (dF D) B (dg D)) (hB : B < 2 ^ 19) {i f : Nat} (hi : i < 100) (hf : f < dF D) (k : Post (some (.int (mvO (prW D 0) (prW D 1) (owD D i) f))) s) : tE c d 222 [.ref 48, .int (nI i), .int (nI f)] s Post := by
  obtain ⟨d, rfl⟩ := d_1 (show 1 ≤ d by omega)
  obtain ⟨⟨a0, b0⟩, ⟨a1, b1⟩, ⟨a2, b2⟩, _⟩ := hN
  have hF := h.1.2.1.1.2
  refine okm222 c d Post _ _ s ⟨vpd rfl, s184n (by omega) h a0 (by omega) ⟨_, rfl, fun z => ?_, fun z => ⟨vpd rfl, ?_⟩⟩⟩
  · have e : mvO (prW D 0) (prW D 1) (owD D i) f = sh1 f := by
      unfold mvO owD
      rw [if_pos z]
    rw [e] at k
    exact k
  · rw [mv_who hf z] at k
    rw [whn_e z, MS_G h, show dg D (2 : Int32).toNatClampNeg = nI (gn (dg D) 2) from a2]
    exact s189 (by omega) h.1.2.1 h.1.2.2.2.1 (whn_lt _ _) hf (by omega) ⟨_, rfl, k⟩
theorem s223 (hd : 6 ≤ d) (h : MS s0 s D) (hN : okN (dF D) B (dg D)) (hB : B < 2 ^ 19) {n t : Nat} (hn : n ≤ 20) (ht : t < dF D) (k : ∀ s', MS s0 s' D → (∀ i, i ≤ n → gsA s' 67 i = bwd (prW D 0) (prW D 1) (owD D) i (n - i) (sh1 t)) → Post (some (.int (if gb (bwd (prW D 0) (prW D 1) (owD D) 0 n (sh1 t)) (gn (dg D) 1) = true then 1 else 0))) s') : tE c d 223 [.ref 48, .int (nI n), .int (nI t)] s Post := by
  obtain ⟨d, rfl⟩ := d_1 (show 1 ≤ d by omega)
  obtain ⟨⟨a0, b0⟩, ⟨a1, b1⟩, ⟨a2, b2⟩, _⟩ := hN
  have hNN : okN (dF D) B (dg D) := ⟨⟨a0, b0⟩, ⟨a1, b1⟩, ⟨a2, b2⟩, by assumption⟩
  have hF := h.1.2.1.1.2
  have hW := prW_ok (D := D) hF
  have hG : inF (dF D) (sh1 t) := inF_sh ht hF
  have outer : ∀ (i : Nat) (s' : gs), i ≤ n → MS s0 s' D → (∀ j, i ≤ j → j ≤ n → gsA s' 67 j = bwd (prW D 0) (prW D 1) (owD D) j (n - j) (sh1 t)) → wl223_13 c d Post (i + 1) (nI i - 1) s' := by
    intro i
    induction i with
    | zero =>
      intro s' hi hS hh
      refine ⟨fun _ => ⟨vpd rfl, vpd rfl, ?_⟩, fun z => absurd (by decide) z⟩
      rw [MS_G hS, show dg D (1 : Int32).toNatClampNeg = nI (gn (dg D) 1) from a1, show gsA s' 67 (0 : Int32).toNatClampNeg = bwd (prW D 0) (prW D 1) (owD D) 0 n (sh1 t) from hh 0 (Nat.le_refl _) (Nat.zero_le _)]
      refine s155 (by omega) _ _ ⟨_, rfl, ?_⟩
      rw [gb_tt (by omega)]
      refine ⟨?_, k s' hS (fun i hi => hh i (Nat.zero_le _) hi)⟩
      split
      · exact Or.inr rfl
      · exact Or.inl rfl
    | succ i ih =>
      intro s' hi hS hh
      have e1 : nI (i + 1) - 1 = nI i := pk_sub (a := i + 1) (b := 1) (by omega)
      unfold wl223_13 wb223_13
      rw [e1, nI_clamp (by omega)]
      refine ⟨fun z => absurd z (nI_pos (by omega)), fun _ => ⟨vp_in_nI (by omega) (by decide), ?_⟩⟩
      rintro s8 rfl
      have inner : ∀ (m f : Nat) (s2 : gs), f + m = dF D → frA s' s2 67 → (∀ j, j ≠ i → gsA s2 67 j = gsA s' 67 j) → gsA s2 67 i = fl (fun f a => if ¬ mvO (prW D 0) (prW D 1) (owD D i) f &&& bwd (prW D 0) (prW D 1) (owD D) (i + 1) (n - (i + 1)) (sh1 t) = 0 then a ||| sh1 f else a) 0 f 0 → wl223_27 c d Post (wl223_13 c d Post (i + 1)) (m + 1) (nI i) (nI f) s2 := by
        intro m
        induction m with
        | zero =>
          intro f s2 hf hfr ho hv
          have hf' : f = dF D := by omega
          subst hf'
          have hS2 := MS_scr hS hfr (by decide)
          unfold wl223_27 wb223_27
          rw [hS2.1.2.1.2.1, show nI i + -1 = nI i - 1 by grind]
          refine ⟨fun _ => ih s2 (by omega) hS2 (fun j h1 h2 => ?_), fun z => absurd (le_t (by omega) (by omega) (by omega)) z⟩
          by_cases e : j = i
          · subst e
            rw [hv, ← srO_f hW hF (bwd_F hW hG _ _), show n - j = n - (j + 1) + 1 by omega]
            rfl
          · rw [ho j e]
            exact hh j (by omega) h2
        | succ m ihm =>
          intro f s2 hf hfr ho hv
          have hS2 := MS_scr hS hfr (by decide)
          unfold wl223_27 wb223_27
          rw [hS2.1.2.1.2.1, nI_clamp (by omega), nI_1, nI_clamp (by omega)]
          have eG : gsA s2 67 (i + 1) = bwd (prW D 0) (prW D 1) (owD D) (i + 1) (n - (i + 1)) (sh1 t) := by
            rw [ho (i + 1) (by omega)]
            exact hh (i + 1) (Nat.le_refl _) hi
          have wr : ∀ v : Int32, gsA s2 67 i ||| v = fl (fun f a => if ¬ mvO (prW D 0) (prW D 1) (owD D i) f &&& bwd (prW D 0) (prW D 1) (owD D) (i + 1) (n - (i + 1)) (sh1 t) = 0 then a ||| sh1 f else a) 0 (f + 1) 0 → w223_70 c d Post (wl223_13 c d Post (i + 1)) (wl223_27 c d Post (wl223_13 c d Post (i + 1)) (m + 1)) (nI i) (nI f) 67 (nI i) (gsA s2 67 i) v s2 := by
            intro v hv2
            refine ⟨21, rfl, vp_in_nI (by omega) (by decide), ?_⟩
            rintro s1 rfl
            rw [nI_clamp (by omega), nI_1]
            refine ihm (f + 1) _ (by omega) (frA_A hfr _ _) (fun j hj => ?_) ?_
            · rw [gsA_A, upd_ne hj]; exact ho j hj
            · rw [gsA_A, upd_eq]; exact hv2
          refine ⟨fun z => absurd z (le_f (by omega) (by omega) (by omega)), fun _ => ⟨vp_in_nI (by omega) (by decide), s222 (by omega) hS2 hNN hB (by omega) (by omega) ⟨_, rfl, vp_in_nI (by omega) (by decide), ?_⟩⟩⟩
          rw [eG]
          refine ⟨fun z => wr 0 ?_, fun z => wr _ ?_⟩
          · rw [fl_sn, Nat.zero_add, if_neg (fun y => y z), Int32.or_zero]
            exact hv
          · rw [fl_sn, Nat.zero_add, if_pos z, hv]
            rfl
      refine ⟨dF D + 1, inner (dF D) 0 _ (by omega) (frA_A (frA_rf s' 67) _ _) (fun j hj => ?_) ?_⟩
      · rw [gsA_A, upd_ne hj]
      · rw [gsA_A, upd_eq]; rfl
  refine okm223 c d Post _ _ s ⟨vp_in_nI (by omega) (by decide), ?_⟩
  rw [nI_clamp (by omega)]
  rintro s2 rfl
  refine ⟨n + 1, outer n _ (Nat.le_refl _) (MS_scr h (frA_A (frA_rf s 67) n _) (by decide)) (fun j h1 h2 => ?_)⟩
  have e : j = n := by omega
  subst e
  rw [gsA_A, upd_eq, Nat.sub_self]
  rfl
theorem cl_arrives (h : HY d s B D) (x : Int32) : CL c d 110 224 [.int x] s B := by
  have hd := h.1
  have hB := h.2.2.2.2
  have hv := h.2.2.2.1
  have hF := hv.1.2
  have hNN := HY_n h
  obtain ⟨⟨a0, b0⟩, ⟨a1, b1⟩, ⟨a2, b2⟩, _⟩ := HY_n h
  by_cases q : fld D x
  · obtain ⟨t, ht, rfl⟩ := fld_nat hv.1 q
    have hW := prW_ok (D := D) hF
    have hG : inF (dF D) (sh1 t) := inF_sh ht hF
    have dual : ∀ n, gb (bwd (prW D 0) (prW D 1) (owD D) 0 n (sh1 t)) (gn (dg D) 1) = gb (fwd (prW D 0) (prW D 1) (owD D) 0 n (sh1 (gn (dg D) 1))) t := by
      intro n
      have := duald (R := prW D 0) (S := prW D 1) (O := owD D) (G := sh1 t) n 0 (sh1 (gn (dg D) 1))
      rw [sgl (by omega), sgl' (by omega)] at this
      cases h1 : gb (bwd (prW D 0) (prW D 1) (owD D) 0 n (sh1 t)) (gn (dg D) 1)
      · cases h2 : gb (fwd (prW D 0) (prW D 1) (owD D) 0 n (sh1 (gn (dg D) 1))) t
        · rfl
        · rw [this.mp h2] at h1; cases h1
      · rw [this.mpr h1]
    -- the reference's search
    have rl : ∀ (d : Nat) (Post : Option Value → gs → Prop) (s1 : gs), 8 ≤ d → MS s1 s1 D → (fstH (fun i => gb (fwd (prW D 0) (prW D 1) (owD D) 0 i (sh1 (gn (dg D) 1))) t) 0 21 = none → ∀ s', MS s1 s' D → Post (some (.int (-2))) s') → (∀ n, n ≤ 20 → fstH (fun i => gb (fwd (prW D 0) (prW D 1) (owD D) 0 i (sh1 (gn (dg D) 1))) t) 0 21 = some n → ∀ s', MS s1 s' D → (∀ i, i ≤ n → gsA s' 67 i = bwd (prW D 0) (prW D 1) (owD D) i (n - i) (sh1 t)) → w224_38 c d Post (nI n) s') → ∃ m, wl224_17 c d Post m (nI t) 0 (gs_V s1 48 13 0) := by
      intro d Post s1 hd2 hm kn ks
      have loop : ∀ (m i : Nat) (s' : gs), i + m = 21 → MS s1 s' D → fstH (fun i => gb (fwd (prW D 0) (prW D 1) (owD D) 0 i (sh1 (gn (dg D) 1))) t) i m = fstH (fun i => gb (fwd (prW D 0) (prW D 1) (owD D) 0 i (sh1 (gn (dg D) 1))) t) 0 21 → wl224_17 c d Post (m + 1) (nI t) (nI i) s' := by
        intro m
        induction m with
        | zero =>
          intro i s' hi hS hr
          refine ⟨fun _ => ⟨fun z => absurd ((nI_le' (b := 20) (by omega) (by decide)).mp z) (by omega), fun _ => kn hr.symm s' hS⟩, fun z => absurd ((nI_lt' (a := 20) (by decide) (by omega)).mpr (by omega)) z⟩
        | succ m ih =>
          intro i s' hi hS hr
          rw [fstH_1] at hr
          refine ⟨fun z => absurd ((nI_lt' (a := 20) (by decide) (by omega)).mp z) (by omega), fun _ => s223 (by omega) hS hNN hB (by omega) ht (fun s2 h2 g2 => ⟨_, rfl, fun z => ?_, fun z => ?_⟩)⟩
          · rw [dual] at z
            have z' : ¬ gb (fwd (prW D 0) (prW D 1) (owD D) 0 i (sh1 (gn (dg D) 1))) t = true := fun y => by rw [if_pos y] at z; cases z
            rw [if_neg z'] at hr
            rw [nI_1]
            exact ih (i + 1) s2 (by omega) h2 hr
          · rw [dual] at z
            have z' : gb (fwd (prW D 0) (prW D 1) (owD D) 0 i (sh1 (gn (dg D) 1))) t = true := by
              by_cases y : gb (fwd (prW D 0) (prW D 1) (owD D) 0 i (sh1 (gn (dg D) 1))) t = true
              · exact y
              · rw [if_neg y] at z; exact absurd rfl z
            rw [if_pos z'] at hr
            exact ks i (by omega) hr.symm s2 h2 g2
      exact ⟨22, loop 21 0 _ rfl (MS_thr hm 0) rfl⟩
    cases hT : fstH (fun i => gb (fwd (prW D 0) (prW D 1) (owD D) 0 i (sh1 (gn (dg D) 1))) t) 0 21 with
    | none =>
      refine glu0 h (x := -2) (fun Post k => ?_) (fun s1 Post hm k => ?_)
      · obtain ⟨d, rfl⟩ := d_1 (show 1 ≤ d by omega)
        have hS := XS_rf h.2.1
        refine okm110 c d Post _ s (s14 (by omega) hS.1.2.1 _ ⟨_, rfl, fun z => ?_, fun _ => s118 (by omega) hS hNN hB (fun s2 h2 w2 => ⟨rfl, ?_⟩)⟩)
        · rw [bI_0] at z; exact absurd q z
        · rw [XS_g h2 (by decide), a1]
          refine s67 (by omega) w2 (by omega) (by omega) ⟨_, rfl, ?_⟩
          rw [hT]
          exact ⟨fun _ => k s2 h2, fun z => absurd rfl z⟩
      · obtain ⟨d, rfl⟩ := d_1 (show 1 ≤ d by omega)
        refine okm224 c d Post _ s1 ?_
        rintro s2 rfl
        refine s158 (by omega) (MS_thr hm 0).1.2.1 _ ⟨_, rfl, fun z => ?_, fun _ => rl d Post s1 (by omega) hm (fun _ => k) (fun n _ hn => ?_)⟩
        · rw [bI_0] at z; exact absurd q z
        · rw [hT] at hn; cases hn
    | some n =>
      obtain ⟨-, hn21, hhit⟩ := fstH_s _ _ _ hT
      have hn : n ≤ 20 := by omega
      have hb : gb (bwd (prW D 0) (prW D 1) (owD D) 0 n (sh1 t)) (gn (dg D) 1) = true := by rw [dual]; exact hhit
      have pok := pt_ok (O := owD D) hW hF hG b1 hb
      generalize hpt : ptW (prW D 0) (prW D 1) (owD D) n (sh1 t) (gn (dg D) 1) = pt at pok
      have pnt : ∀ i, i < n → ntI (mvO (prW D 0) (prW D 1) (owD D i) (pt i) &&& bwd (prW D 0) (prW D 1) (owD D) (i + 1) (n - (i + 1)) (sh1 t)) = nI (pt (i + 1)) := by
        intro i hi
        have p := pok i (by omega)
        rw [← hpt] at p ⊢
        exact pt_nt hW hF hG hi p.1 p.2
      have p0 : pt 0 = gn (dg D) 1 := by rw [← hpt]; rfl
      refine glu1 h (D' := uW D n (ptR pt)) (x := nI n) (VD_W (VD_mono hv (Nat.le_add_right B 60)) _ _) (fun Post k => ?_) (fun s1 Post hm k => ?_)
      · obtain ⟨d, rfl⟩ := d_1 (show 1 ≤ d by omega)
        have hS := XS_rf h.2.1
        refine okm110 c d Post _ s (s14 (by omega) hS.1.2.1 _ ⟨_, rfl, fun z => ?_, fun _ => s118 (by omega) hS hNN hB (fun s2 h2 w2 => ⟨rfl, ?_⟩)⟩)
        · rw [bI_0] at z; exact absurd q z
        · rw [XS_g h2 (by decide), a1]
          refine s67 (by omega) w2 (by omega) (by omega) ⟨_, rfl, ?_⟩
          rw [hT]
          refine ⟨fun z => absurd z (ni_1 (by omega)), fun _ => s69 (by omega) h2 w2 hn _ (fun s3 h3 w3 g3 => ⟨_, rfl, ?_⟩)⟩
          refine s113 (by omega) h3 w3 hn (pt := pt) (by rw [XS_g h3 (by decide), a1, p0]) (fun i hi => ⟨by have := (pok i (by omega)).1; omega, ?_⟩) (fun s4 h4 => ⟨rfl, k s4 h4⟩)
          rw [g3 (i + 1) (by omega)]
          exact pnt i hi
      · obtain ⟨d, rfl⟩ := d_1 (show 1 ≤ d by omega)
        refine okm224 c d Post _ s1 ?_
        rintro s2 rfl
        refine s158 (by omega) (MS_thr hm 0).1.2.1 _ ⟨_, rfl, fun z => ?_, fun _ => rl d Post s1 (by omega) hm (fun z => ?_) (fun n' _ hn' s3 h3 g3 => ?_)⟩
        · rw [bI_0] at z; exact absurd q z
        · rw [hT] at z; cases z
        · rw [hT] at hn'
          cases hn'
          refine ⟨fun _ => ?_, fun z => absurd (le_t (b := 20) (by omega) (by decide) hn) z⟩
          rintro s4 rfl
          have loop : ∀ (m i : Nat) (s' : gs), i + m = n → MS s1 s' (uW D i (ptR pt)) → gsA s' = gsA s3 → wl224_62 c d Post (m + 1) (nI n) (nI (pt i)) (nI i) s' := by
            intro m
            induction m with
            | zero =>
              intro i s' hi hS ha
              have hi' : i = n := by omega
              subst hi'
              exact ⟨fun _ => k s' hS, fun z => absurd (le_t (by omega) (by omega) (by omega)) z⟩
            | succ m ih =>
              intro i s' hi hS ha
              have p1 := (pok i (by omega)).1
              unfold wl224_62 wb224_62
              rw [nI_1, nI_clamp (by omega)]
              refine ⟨fun z => absurd z (le_f (by omega) (by omega) (by omega)), fun _ => s222 (D := uW D i (ptR pt)) (by omega) hS hNN hB (by omega) p1 ⟨_, rfl, vp_in_nI (by omega) (by decide), ?_⟩⟩
              rw [ha, g3 (i + 1) (by omega)]
              refine s265 (by omega) _ ⟨_, rfl, ?_⟩
              have e : ntI (mvO (prW (uW D i (ptR pt)) 0) (prW (uW D i (ptR pt)) 1) (owD (uW D i (ptR pt)) i) (pt i) &&& bwd (prW D 0) (prW D 1) (owD D) (i + 1) (n - (i + 1)) (sh1 t)) = nI (pt (i + 1)) := pnt i (by omega)
              rw [e]
              refine s157r (by omega) hS (by omega) rfl (fun s6 h6 e6 => ⟨rfl, ih (i + 1) s6 (by omega) h6 (e6.trans ha)⟩)
          refine ⟨vpd rfl, n + 1, ?_⟩
          have e49 : gsA (gs_V s3 48 12 0) 49 (1 : Int32).toNatClampNeg = nI (pt 0) := by
            rw [A_V, MS_G h3, p0]
            exact a1
          rw [e49]
          exact loop n 0 _ (by omega) (MS_row0 h3 _) rfl
  · refine glu0 h (x := -1) (fun Post k => ?_) (fun s1 Post hm k => ?_)
    · obtain ⟨d, rfl⟩ := d_1 (show 1 ≤ d by omega)
      refine okm110 c d Post _ s (s14 (by omega) h.2.1.2.1 _ ⟨_, rfl, fun z => k s (XS_rf h.2.1), fun z => ?_⟩)
      rw [bI_0, Classical.not_not] at z; exact absurd z q
    · obtain ⟨d, rfl⟩ := d_1 (show 1 ≤ d by omega)
      refine okm224 c d Post _ s1 ?_
      rintro s2 rfl
      have hm1 := MS_thr hm 0
      refine s158 (by omega) hm1.1.2.1 _ ⟨_, rfl, fun z => k _ hm1, fun z => ?_⟩
      rw [bI_0, Classical.not_not] at z; exact absurd z q
end C15
