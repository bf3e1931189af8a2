/-! Calls: avoids, safe. -/
theorem fstH_n {P : Nat → Bool} : ∀ (m i : Nat), fstH P i m = none → ∀ j, i ≤ j → j < i + m → ¬ P j = true
  | 0, i, _, j, h1, h2 => by omega
  | m + 1, i, h, j, h1, h2 => by
    rw [fstH_1] at h
    by_cases q : P i = true
    · rw [if_pos q] at h; cases h
    · rw [if_neg q] at h
      by_cases e : j = i
      · rw [e]; exact q
      · exact fstH_n m (i + 1) h j (by omega) (by omega)
theorem fstH_l {P : Nat → Bool} : ∀ (m i k : Nat), fstH P i m = some k → ∀ j, i ≤ j → j < k → ¬ P j = true
  | 0, i, k, h, j, h1, h2 => by cases h
  | m + 1, i, k, h, j, h1, h2 => by
    rw [fstH_1] at h
    by_cases q : P i = true
    · rw [if_pos q] at h
      cases h
      omega
    · rw [if_neg q] at h
      by_cases e : j = i
      · rw [e]; exact q
      · exact fstH_l m (i + 1) k h j (by omega) h2
theorem MS_gv {s0 s : gs} {D : DD} (h : MS s0 s D) (x : Int32) : MS s0 (gs_V s 48 32 x) D := by
  obtain ⟨⟨h1, h2, h3, h4, h5, h6, h7, h8, h9, h10⟩, hf⟩ := h
  exact ⟨⟨h1, h2, h3, h4, h5, h6, h7, h8, h9, h10⟩, frM_V hf (by decide) _ _⟩
/-- days kept off -/
def dyC (X : Nat → Int32) (n : Nat) : Nat := match fstH (fun i => decide (X (i + 1) = 0)) 0 n with
  | some i => i
  | none => n
theorem gb_32 {x : Int32} {t : Nat} (h : gb x t = true) : t < 32 := by
  by_cases q : t < 32
  · exact q
  · unfold gb at h
    rw [BitVec.getLsbD_of_ge _ _ (by omega)] at h
    cases h
theorem fw_bw {B : Nat} {D : DD} (hv : VD B D) (O : Nat → Int32) {a : Nat} (ha : a < dF D) (m : Nat) : (¬ fwd (gmR D) (prW D 1) O 0 m (sh1 a) = 0) ↔ gb (bwd (gmR D) (prW D 1) O 0 m (allB (dF D))) a = true := by
  have hF := hv.1.2
  have hW := gm_ok' hv
  have d1 := duald (R := gmR D) (S := prW D 1) (O := O) (G := allB (dF D)) m 0 (sh1 a)
  rw [sgl' (by omega)] at d1
  rw [← d1, ne_0]
  constructor
  · rintro ⟨j, hj, h⟩
    refine ⟨j, hj, h, ?_⟩
    rw [all_b _ (by omega) j hj]
    exact decide_eq_true (fwd_F hW hF (inF_sh ha hF) m 0 j hj h)
  · rintro ⟨j, hj, h, _⟩
    exact ⟨j, hj, h⟩
theorem dyC_kp {B : Nat} {D : DD} (hv : VD B D) (O : Nat → Int32) {a n : Nat} (ha : a < dF D) (hn : 1 ≤ n) : dyC (fun m => fwd (gmR D) (prW D 1) O 0 m (sh1 a)) n = kp D O n 0 a := by
  have hk : ∀ j, j ≤ n → (j ≤ kp D O n 0 a ↔ ¬ fwd (gmR D) (prW D 1) O 0 j (sh1 a) = 0) := fun j hj => (kp_b hv O n 0 j a ha hj).trans (fw_bw hv O ha j).symm
  have hle := kp_le D O n 0 a
  unfold dyC
  cases hf : fstH (fun i => decide (fwd (gmR D) (prW D 1) O 0 (i + 1) (sh1 a) = 0)) 0 n with
  | none =>
    show n = _
    have := fstH_n _ _ hf (n - 1) (by omega) (by omega)
    have h2 : ¬ fwd (gmR D) (prW D 1) O 0 n (sh1 a) = 0 := by
      intro z
      refine this (decide_eq_true ?_)
      rw [show n - 1 + 1 = n by omega]
      exact z
    have := (hk n (Nat.le_refl _)).mpr h2
    omega
  | some i =>
    show i = _
    obtain ⟨-, h1, h2⟩ := fstH_s _ _ _ hf
    have h3 : fwd (gmR D) (prW D 1) O 0 (i + 1) (sh1 a) = 0 := of_decide_eq_true h2
    have h4 : ¬ i + 1 ≤ kp D O n 0 a := fun z => (hk (i + 1) (by omega)).mp z h3
    have h5 : i ≤ kp D O n 0 a := by
      cases i with
      | zero => exact Nat.zero_le _
      | succ i =>
        refine (hk (i + 1) (by omega)).mpr (fun z => ?_)
        exact fstH_l _ _ _ hf i (by omega) (by omega) (decide_eq_true z)
    omega
section C16
variable {c : gx} {d B : Nat} {Post : Option Value → gs → Prop} {s0 s : gs} {D : DD} {R S O : Nat → Int32}
theorem s68 (hd : 3 ≤ d) (hW : WK s R S O) {a n : Nat} (hn : n ≤ 20) (k : Post (some (.int (nI (dyC (fun m => fwd R S O 0 m (sh1 a)) n)))) s) : tE c d 68 [.ref 36, .int (nI a), .int (nI n)] s Post := by
  obtain ⟨d, rfl⟩ := d_1 (show 1 ≤ d by omega)
  unfold dyC at k
  have loop : ∀ (m i : Nat), i + m = n → fstH (fun i => decide (fwd R S O 0 (i + 1) (sh1 a) = 0)) i m = fstH (fun i => decide (fwd R S O 0 (i + 1) (sh1 a) = 0)) 0 n → wl68_7 c d Post (m + 1) (nI n) (fwd R S O 0 i (sh1 a)) (nI i) s := by
    intro m
    induction m with
    | zero =>
      intro i hi hr
      refine ⟨fun _ => ?_, fun z => absurd (le_t (by omega) (by omega) (by omega)) z⟩
      rw [← hr] at k
      exact k
    | succ m ih =>
      intro i hi hr
      rw [fstH_1] at hr
      refine ⟨fun z => absurd z (le_f (by omega) (by omega) (by omega)), fun _ => ⟨fun z => absurd z (le_f (a := 20) (by decide) (by omega) (by omega)), fun _ => ⟨vp_in_nI (by omega) (by decide), ?_⟩⟩⟩
      rw [nI_clamp (by omega), hW.2.2 i (by omega)]
      have e : mvA R S (O i) (fwd R S O 0 i (sh1 a)) = fwd R S O 0 (i + 1) (sh1 a) := by
        show _ = mvA R S (O (0 + i)) (fwd R S O 0 i (sh1 a))
        rw [Nat.zero_add]
      refine s66 (by omega) hW _ _ ⟨_, rfl, ?_⟩
      rw [e]
      refine ⟨fun z => ?_, fun z => ?_⟩
      · rw [if_pos (decide_eq_true z)] at hr
        rw [← hr] at k
        exact k
      · rw [if_neg (fun w => z (of_decide_eq_true w))] at hr
        rw [nI_1]
        exact ih (i + 1) (by omega) hr
  exact okm68 c d Post _ _ s ⟨n + 1, loop n 0 (by omega) rfl⟩
theorem cl_avoids (h : HY d s B D) (x : Int32) : CL c d 114 230 [.int x] s B := by
  have hd := h.1
  have hB := h.2.2.2.2
  have hv := h.2.2.2.1
  have hF := hv.1.2
  have hNN := HY_n h
  obtain ⟨⟨a0, b0⟩, ⟨a1, b1⟩, ⟨a2, b2⟩, _⟩ := HY_n h
  by_cases q : 1 ≤ x ∧ x ≤ 20
  · obtain ⟨n, hn1, hn, rfl⟩ := i_rng (a := 1) (b := 20) (by decide) q (by decide)
    have hW := gm_ok' hv
    have hG := all_F hF
    have hkb := fun m k j f (hf : f < dF D) (hj : j ≤ m) => kp_b hv (owD D) m k j f hf hj
    generalize hdy : kp D (owD D) n 0 (gn (dg D) 1) = dy
    have hdyn : dy ≤ n := by rw [← hdy]; exact kp_le _ _ _ _ _
    have hb : gb (bwd (gmR D) (prW D 1) (owD D) 0 dy (allB (dF D))) (gn (dg D) 1) = true := (hkb n 0 dy _ b1 hdyn).mp (by rw [hdy]; exact Nat.le_refl _)
    have pok := pt_ok (O := owD D) hW hF hG b1 hb
    have pst' := fun i (hi : i < dy) => pt_st (O := owD D) hW hF hG hi (pok i (by omega)).1 (pok i (by omega)).2
    have pnt0 := fun i (hi : i < dy) => pt_nt (O := owD D) hW hF hG hi (pok i (by omega)).1 (pok i (by omega)).2
    generalize hpt : ptW (gmR D) (prW D 1) (owD D) dy (allB (dF D)) (gn (dg D) 1) = pt at pok pst' pnt0
    have p0 : pt 0 = gn (dg D) 1 := by rw [← hpt]; rfl
    -- the next field of the way
    have step : ∀ i, i < dy → gb (mvO (gmR D) (prW D 1) (owD D i) (pt i)) (pt (i + 1)) = true ∧ gb (bwd (gmR D) (prW D 1) (owD D) (i + 1) (dy - (i + 1)) (allB (dF D))) (pt (i + 1)) = true ∧ ∀ j, j < pt (i + 1) → gb (mvO (gmR D) (prW D 1) (owD D i) (pt i)) j = true → gb (bwd (gmR D) (prW D 1) (owD D) (i + 1) (dy - (i + 1)) (allB (dF D))) j = false := by
      intro i hi
      obtain ⟨r, r1, r2, r3, r4, r5⟩ := pst' i hi
      have e : pt (i + 1) = r := by
        have := pnt0 i hi
        rw [r2] at this
        exact ((nI_eq' (by omega) (by have := (pok (i + 1) (by omega)).1; omega)).mp this).symm
      rw [e]
      exact ⟨r3, r4, r5⟩
    have kpe : ∀ i, i ≤ dy → kp D (owD D) (n - i) i (pt i) = dy - i := by
      intro i
      induction i with
      | zero =>
        intro _
        rw [p0]
        exact hdy
      | succ i ih =>
        intro hi
        have h1 := ih (by omega)
        obtain ⟨s1', s2', s3'⟩ := step i (by omega)
        have p1 := pok (i + 1) (by omega)
        have p2 := pok i (by omega)
        have lo := (hkb (n - (i + 1)) (i + 1) (dy - (i + 1)) _ p1.1 (by omega)).mpr p1.2
        have hl := kp_le D (owD D) (n - (i + 1)) (i + 1) (pt (i + 1))
        have up : kp D (owD D) (n - (i + 1)) (i + 1) (pt (i + 1)) + 1 ≤ kp D (owD D) (n - i) i (pt i) := by
          refine (hkb (n - i) i _ _ p2.1 (by omega)).mpr ?_
          show gb (srO (gmR D) (prW D 1) (owD D i) (bwd (gmR D) (prW D 1) (owD D) (i + 1) (kp D (owD D) (n - (i + 1)) (i + 1) (pt (i + 1))) (allB (dF D)))) (pt i) = true
          rw [srO_b (by omega)]
          exact decide_eq_true ⟨by omega, and_ne.mpr ⟨pt (i + 1), by omega, s1', (hkb (n - (i + 1)) (i + 1) _ _ p1.1 hl).mp (Nat.le_refl _)⟩⟩
        omega
    refine glu1 h (D' := uW D dy (ptR pt)) (x := nI dy) (VD_W (VD_mono hv (Nat.le_add_right B 60)) _ _) (fun Post k => ?_) (fun s1 Post hm k => ?_)
    · obtain ⟨d, rfl⟩ := d_1 (show 1 ≤ d by omega)
      have hS := XS_rf h.2.1
      refine okm114 c d Post _ s ⟨fun z => absurd z (i_nlt.mpr q.1), fun _ => ⟨fun _ => s119 (by omega) hS hv hNN hB (fun s2 h2 w2 => ⟨rfl, ?_⟩), fun z => absurd q.2 z⟩⟩
      rw [XS_g h2 (by decide), a1]
      refine s68 (by omega) w2 hn ⟨_, rfl, ?_⟩
      rw [dyC_kp hv (owD D) b1 hn1, hdy]
      refine s20 (by omega) h2.1.2.1 ⟨_, rfl, s69 (by omega) h2 w2 (by omega) _ (fun s3 h3 w3 g3 => ⟨_, rfl, ?_⟩)⟩
      refine s113 (by omega) h3 w3 (by omega) (pt := pt) (by rw [XS_g h3 (by decide), a1, p0]) (fun i hi => ⟨by have := (pok i (by omega)).1; omega, ?_⟩) (fun s4 h4 => ⟨rfl, k s4 h4⟩)
      rw [g3 (i + 1) (by omega)]
      exact pnt0 i hi
    · obtain ⟨d, rfl⟩ := d_1 (show 1 ≤ d by omega)
      refine okm230 c d Post _ s1 ?_
      rintro s2 rfl
      have hm1 := MS_thr hm 0
      refine s154 (by omega) _ _ _ ⟨_, rfl, fun z => ?_, fun _ => ?_⟩
      · rw [bI_0] at z; exact absurd q z
      rintro s4 rfl
      refine s229 (g := 0) (by omega) (MS_gv hm1 0) hv hNN hB rfl hn (fun s5 h5 f5 g5 => ⟨rfl, vpd rfl, ?_⟩)
      rw [owG_0] at g5
      rw [MS_G h5, show dg D (1 : Int32).toNatClampNeg = nI (gn (dg D) 1) from a1]
      refine s227 (by omega) 0 (gn (dg D) 1) ⟨_, rfl, vp_in_nI (by omega) (by decide), vpd rfl, ?_⟩
      rintro s13 rfl
      rw [nI_clamp (by omega), g5 0 (Nat.zero_le _) _ b1, Nat.sub_zero, hdy]
      have gv : gsV s5 48 32 = 0 := by rw [f5.1]; rfl
      have loop : ∀ (m i : Nat) (s' : gs), i + m = dy → MS s1 s' (uW D i (ptR pt)) → gsA s' = gsA s5 → gsV s' 48 32 = 0 → wl230_59 c d Post (m + 1) (nI dy) (nI (pt i)) (nI i) s' := by
        intro m
        induction m with
        | zero =>
          intro i s' hi hS ha hg
          have hi' : i = dy := by omega
          subst hi'
          exact ⟨fun _ => k s' hS, fun z => absurd (le_t (by omega) (by omega) (by omega)) z⟩
        | succ m ih =>
          intro i s' hi hS ha hg
          have hiy : i < dy := by omega
          obtain ⟨t1, t2, t3⟩ := step i hiy
          have pi := (pok i (by omega)).1
          have pi1 := (pok (i + 1) (by omega)).1
          have tell : ∀ f : Nat, f = pt (i + 1) → w230_145 c d Post (wl230_59 c d Post (m + 1)) (nI dy) (nI f) (nI i) s' := by
            intro f hf
            subst hf
            obtain ⟨v1, v2⟩ : gsV s' 48 12 = nI i ∧ True := ⟨hS.1.2.2.2.2.2.2.2.2.1.2.1, trivial⟩
            refine s157 (n := i) (by omega) v1 (by omega) _ ⟨rfl, ?_⟩
            rw [nI_1]
            refine ih (i + 1) _ (by omega) (MW_R (MS_add hS (by show i < 32; omega) _) (fun j hj => ?_)) ha ?_
            · show (if j = i then (nI (pt (i + 1))).toInt64 else ptR pt j) = ptR pt j
              by_cases e : j = i
              · rw [if_pos e, e]; rfl
              · rw [if_neg e]
            · exact hg
          refine ⟨fun z => absurd z (le_f (by omega) (by omega) (by omega)), fun _ => s225 (D := uW D i (ptR pt)) (g := 0) (by omega) hS hNN hB hg (by omega) ⟨_, rfl, ?_⟩⟩
          have eo : owG (uW D i (ptR pt)) 0 i = owD D i := by rw [owG_0]; rfl
          rw [eo]
          refine ⟨fun z => ?_, fun z => ?_⟩
          · refine s226 (D := uW D i (ptR pt)) (by omega) hS hv hNN pi ⟨_, rfl, fun w => ?_, fun _ => ?_⟩
            · rw [z] at w; exact absurd w (by decide)
            · have hns := (nst_ok hv pi).1
              refine tell (nst D (pt i)) ?_
              have t1' := t1
              unfold mvO gmR at t1'
              rw [if_neg (by rw [z]; decide), if_pos z, if_pos pi] at t1'
              by_cases qn : near (nst D (pt i)) (gn (dg D) 2)
              · rw [if_pos qn, gb_0] at t1'; cases t1'
              · rw [if_neg qn, gb_sh1 (by omega) (by omega)] at t1'
                exact (of_decide_eq_true t1').symm
          · refine ⟨fun w => ?_, fun w => tell (pt i) ?_⟩
            · have hn1' : ¬ owD D i = -1 := by rw [w]; decide
              have mS : mvO (gmR D) (prW D 1) (owD D i) (pt i) = gls (dr D) (dF D) (pt i) (gn (dg D) 2) (db D 1 / 3 + 1) := by
                unfold mvO prW
                rw [if_neg hn1', if_neg z, if_pos pi]
              rw [mS] at t1 t3
              have lp : ∀ (m' j : Nat), j + m' = pt (i + 1) → wl230_93 c d Post (wl230_59 c d Post (m + 1)) (m' + 1) (nI dy) (nI (pt i)) (nI i) (nI j) s' := by
                intro m'
                induction m' with
                | zero =>
                  intro j hj
                  have hj' : j = pt (i + 1) := by omega
                  subst hj'
                  have e49 : gsA s' 49 (2 : Int32).toNatClampNeg = nI (gn (dg D) 2) := by rw [MS_G hS]; exact a2
                  unfold wl230_93 wb230_93
                  rw [e49]
                  refine ⟨vpd rfl, s189 (D := uW D i (ptR pt)) (n := 1) (by omega) hS.1.2.1 hS.1.2.2.2.1 (by decide) pi (by omega) ⟨_, rfl, s155 (by omega) _ _ ⟨_, rfl, ?_⟩⟩⟩
                  rw [gb_tt (by omega)]
                  refine ⟨fun u => ?_, fun _ => s228 (by omega) (by omega) (by omega) ⟨_, rfl, s227 (by omega) i (pt i) ⟨_, rfl, vp_in_nI (by omega) (by decide), ?_⟩⟩⟩
                  · have u' : (if gb (gls (dr D) (dF D) (pt i) (gn (dg D) 2) (db D 1 / 3 + 1)) (pt (i + 1)) = true then (1 : Int32) else 0) = 0 := u
                    rw [if_pos t1] at u'
                    cases u'
                  · rw [nI_clamp (by omega), ha, g5 (i + 1) (by omega) _ pi1, g5 i (by omega) _ pi, kpe i (by omega), kpe (i + 1) (by omega)]
                    refine ⟨fun _ => tell _ rfl, fun u => absurd ?_ u⟩
                    rw [show (1 : Int32) + nI (dy - (i + 1)) = nI (1 + (dy - (i + 1))) from nI_add 1 _]
                    congr 1
                    omega
                | succ m' ihp =>
                  intro j hj
                  have hjF : j < dF D := by omega
                  have e49 : gsA s' 49 (2 : Int32).toNatClampNeg = nI (gn (dg D) 2) := by rw [MS_G hS]; exact a2
                  have nx := ihp (j + 1) (by omega)
                  unfold wl230_93 wb230_93 w230_136
                  rw [e49, nI_1]
                  refine ⟨vpd rfl, s189 (D := uW D i (ptR pt)) (n := 1) (by omega) hS.1.2.1 hS.1.2.2.2.1 (by decide) pi (by omega) ⟨_, rfl, s155 (by omega) _ _ ⟨_, rfl, ?_⟩⟩⟩
                  rw [gb_tt (by omega)]
                  refine ⟨fun _ => nx, fun u => s228 (by omega) (by omega) (by omega) ⟨_, rfl, s227 (by omega) i (pt i) ⟨_, rfl, vp_in_nI (by omega) (by decide), ?_⟩⟩⟩
                  rw [nI_clamp (by omega), ha, g5 (i + 1) (by omega) j hjF, g5 i (by omega) _ pi, kpe i (by omega)]
                  refine ⟨fun v => ?_, fun _ => nx⟩
                  exfalso
                  have hgj : gb (gls (dr D) (dF D) (pt i) (gn (dg D) 2) (db D 1 / 3 + 1)) j = true := by
                    by_cases y : gb (gls (dr D) (dF D) (pt i) (gn (dg D) 2) (db D 1 / 3 + 1)) j = true
                    · exact y
                    · have u' : ¬ (if gb (gls (dr D) (dF D) (pt i) (gn (dg D) 2) (db D 1 / 3 + 1)) j = true then (1 : Int32) else 0) = 0 := u
                      rw [if_neg y] at u'
                      exact absurd rfl u'
                  have hbj := t3 j (by omega) hgj
                  have hlt : ¬ dy - (i + 1) ≤ kp D (owD D) (n - (i + 1)) (i + 1) j := by
                    intro y
                    have := (hkb (n - (i + 1)) (i + 1) (dy - (i + 1)) j hjF (by omega)).mp y
                    rw [hbj] at this
                    cases this
                  have hle := kp_le D (owD D) (n - (i + 1)) (i + 1) j
                  rw [show (1 : Int32) + nI (kp D (owD D) (n - (i + 1)) (i + 1) j) = nI (1 + kp D (owD D) (n - (i + 1)) (i + 1) j) from nI_add 1 _, nI_eq' (by omega) (by omega)] at v
                  omega
              exact ⟨pt (i + 1) + 1, lp (pt (i + 1)) 0 (by omega)⟩
            · have hn1' : owD D i = -1 := by
                rcases who_c (dg D) (gn (dg D) 0 + i) with u | u | u
                · exact u
                · exact absurd u z
                · exact absurd u w
              unfold mvO at t1
              rw [if_pos hn1', gb_sh1 (by omega) (by omega)] at t1
              exact (of_decide_eq_true t1).symm
      refine ⟨dy + 1, ?_⟩
      have := loop dy 0 (gs_V s5 48 12 0) (by omega) (MS_row0 h5 _) rfl gv
      rw [p0] at this
      rw [MS_G h5, show dg D (1 : Int32).toNatClampNeg = nI (gn (dg D) 1) from a1]
      exact this
  · refine glu0 h (x := -1) (fun Post k => ?_) (fun s1 Post hm k => ?_)
    · obtain ⟨d, rfl⟩ := d_1 (show 1 ≤ d by omega)
      have k' := k s (XS_rf h.2.1)
      exact okm114 c d Post _ s ⟨fun z => k', fun z1 => ⟨fun z2 => absurd ⟨i_nlt.mp z1, z2⟩ q, fun z => k'⟩⟩
    · obtain ⟨d, rfl⟩ := d_1 (show 1 ≤ d by omega)
      refine okm230 c d Post _ s1 ?_
      rintro s2 rfl
      refine s154 (by omega) _ _ _ ⟨_, rfl, fun z => k _ (MS_thr hm 0), fun z => ?_⟩
      rw [bI_0, Classical.not_not] at z
      exact absurd z q
theorem cl_safe (h : HY d s B D) (x : Int32) : CL c d 115 231 [.int x] s B := by
  have hd := h.1
  have hB := h.2.2.2.2
  have hv := h.2.2.2.1
  have hF := hv.1.2
  have hNN := HY_n h
  by_cases q : 1 ≤ x ∧ x ≤ 20
  · obtain ⟨n, hn1, hn, rfl⟩ := i_rng (a := 1) (b := 20) (by decide) q (by decide)
    have hW := gm_ok' hv
    have hG := all_F hF
    have eb : fl (fun f a => if kp D (owD D) n 0 f = n then a ||| sh1 f else a) 0 (dF D) 0 = bwd (gmR D) (prW D 1) (owD D) 0 n (allB (dF D)) := by
      apply gb_ext
      intro j hj
      rw [fl_bits (fun f => kp D (owD D) n 0 f = n) (dF D) 0 0 j (by omega) hj, gb_0, Bool.false_or]
      by_cases qj : j < dF D
      · have hk := kp_b hv (owD D) n 0 n j qj (Nat.le_refl _)
        have hle := kp_le D (owD D) n 0 j
        cases hb : gb (bwd (gmR D) (prW D 1) (owD D) 0 n (allB (dF D))) j
        · refine decide_eq_false (fun z => ?_)
          have := hk.mp (by omega)
          rw [hb] at this
          cases this
        · exact decide_eq_true ⟨by omega, by omega, by have := hk.mpr hb; omega⟩
      · rw [decide_eq_false (by omega)]
        cases hb : gb (bwd (gmR D) (prW D 1) (owD D) 0 n (allB (dF D))) j
        · rfl
        · exact absurd (bwd_F hW hG n 0 j hj hb) qj
    generalize hR : bwd (gmR D) (prW D 1) (owD D) 0 n (allB (dF D)) = R at eb
    refine glu1 h (D' := uW D 1 (r1 (jbc R).toInt64)) (x := R) (VD_W (VD_mono hv (Nat.le_add_right B 60)) _ _) (fun Post k => ?_) (fun s1 Post hm k => ?_)
    · obtain ⟨d, rfl⟩ := d_1 (show 1 ≤ d by omega)
      have hS := XS_rf h.2.1
      refine okm115 c d Post _ s ⟨fun z => absurd z (i_nlt.mpr q.1), fun _ => ⟨fun _ => s119 (by omega) hS hv hNN hB (fun s2 h2 w2 => ⟨rfl, s20 (by omega) h2.1.2.1 ⟨_, rfl, s69 (by omega) h2 w2 hn _ (fun s3 h3 w3 g3 => ⟨_, rfl, ?_⟩)⟩⟩), fun z => absurd q.2 z⟩⟩
      rw [hR]
      exact s266 (by omega) _ ⟨_, rfl, s45' (by omega) h3 _ (fun s4 h4 f4 => ⟨rfl, k s4 h4⟩)⟩
    · obtain ⟨d, rfl⟩ := d_1 (show 1 ≤ d by omega)
      refine okm231 c d Post _ s1 ?_
      rintro s2 rfl
      have hm1 := MS_thr hm 0
      refine s154 (by omega) _ _ _ ⟨_, rfl, fun z => ?_, fun _ => ?_⟩
      · rw [bI_0] at z; exact absurd q z
      rintro s4 rfl
      refine s229 (g := 0) (by omega) (MS_gv hm1 0) hv hNN hB rfl hn (fun s5 h5 f5 g5 => ⟨rfl, dF D + 1, ?_⟩)
      rw [owG_0] at g5
      have loop : ∀ (m i : Nat) (a : Int32), i + m = dF D → fl (fun f a => if kp D (owD D) n 0 f = n then a ||| sh1 f else a) i m a = R → wl231_31 c d Post (m + 1) (nI n) a (nI i) s5 := by
        intro m
        induction m with
        | zero =>
          intro i a hi hr
          have hr' : a = R := hr
          subst hr'
          unfold wl231_31 wb231_31
          rw [h5.1.2.1.2.1]
          refine ⟨fun _ => ?_, fun z => absurd (le_t (by omega) (by omega) (by omega)) z⟩
          rintro s6 rfl
          exact s266 (by omega) _ ⟨_, rfl, s157r (by omega) (MS_row0 h5 (r1 (jbc a).toInt64)) (by decide) rfl (fun s7 h7 e7 => ⟨rfl, k s7 h7⟩)⟩
        | succ m ih =>
          intro i a hi hr
          have hr' : fl (fun f a => if kp D (owD D) n 0 f = n then a ||| sh1 f else a) (i + 1) m (if kp D (owD D) n 0 i = n then a ||| sh1 i else a) = R := hr
          have hle := kp_le D (owD D) n 0 i
          unfold wl231_31 wb231_31 w231_62
          rw [h5.1.2.1.2.1, nI_1]
          refine ⟨fun z => absurd z (le_f (by omega) (by omega) (by omega)), fun _ => s227 (by omega) 0 i ⟨_, rfl, vp_in_nI (by omega) (by decide), ?_⟩⟩
          rw [nI_clamp (by omega), g5 0 (Nat.zero_le _) i (by omega), Nat.sub_zero, nI_eq' (by omega) (by omega)]
          refine ⟨fun z => ?_, fun z => ?_⟩
          · rw [if_pos z] at hr'
            exact ih (i + 1) _ (by omega) hr'
          · rw [if_neg z] at hr'
            rw [Int32.or_zero]
            exact ih (i + 1) _ (by omega) hr'
      exact loop (dF D) 0 0 (by omega) eb
  · refine glu0 h (x := -1) (fun Post k => ?_) (fun s1 Post hm k => ?_)
    · obtain ⟨d, rfl⟩ := d_1 (show 1 ≤ d by omega)
      have k' := k s (XS_rf h.2.1)
      exact okm115 c d Post _ s ⟨fun z => k', fun z1 => ⟨fun z2 => absurd ⟨i_nlt.mp z1, z2⟩ q, fun z => k'⟩⟩
    · obtain ⟨d, rfl⟩ := d_1 (show 1 ≤ d by omega)
      refine okm231 c d Post _ s1 ?_
      rintro s2 rfl
      refine s154 (by omega) _ _ _ ⟨_, rfl, fun z => k _ (MS_thr hm 0), fun z => ?_⟩
      rw [bI_0, Classical.not_not] at z
      exact absurd z q
end C16
