/-! Calls: rule. -/
theorem nar_by : ∀ x, x < 256 → vp_nar .byte (sby x) = sby x := by decide +kernel
/-- what the class reads where no rule is told -/
theorem rd_nor : rd nor 19 0 true [] [] = [1000, 1, 2043, 3, 2042, 1002, 4, 2042, 2043, 1003, 1004, 2045, 2, 2047, 2043] := by decide +kernel
theorem rpv_nor (th : Nat → Int32) : rpv th (rd nor 19 0 true [] []) = dfl th := by
  rw [rd_nor]
  have z : ([] : List Int32).length < 40 := by decide
  have l0 : ∀ st : List Int32, st.length < 40 → rq1 th 1000 st = th 0 :: st := fun st hs => rq_lt th (k := 0) (by decide) hs
  have l2 : ∀ st : List Int32, st.length < 40 → rq1 th 1002 st = th 2 :: st := fun st hs => rq_lt th (k := 2) (by decide) hs
  have l3 : ∀ st : List Int32, st.length < 40 → rq1 th 1003 st = th 3 :: st := fun st hs => rq_lt th (k := 3) (by decide) hs
  have l4 : ∀ st : List Int32, st.length < 40 → rq1 th 1004 st = th 4 :: st := fun st hs => rq_lt th (k := 4) (by decide) hs
  have n1 : ∀ st : List Int32, st.length < 40 → rq1 th 1 st = 1 :: st := fun st hs => rq_nm th (k := 1) (by decide) hs
  have n2 : ∀ st : List Int32, st.length < 40 → rq1 th 2 st = 2 :: st := fun st hs => rq_nm th (k := 2) (by decide) hs
  have n3 : ∀ st : List Int32, st.length < 40 → rq1 th 3 st = 3 :: st := fun st hs => rq_nm th (k := 3) (by decide) hs
  have n4 : ∀ st : List Int32, st.length < 40 → rq1 th 4 st = 4 :: st := fun st hs => rq_nm th (k := 4) (by decide) hs
  have o43 : ∀ (o v : Int32) (st : List Int32), st.length < 40 → rq1 th 2043 (o :: v :: st) = (v + o) :: st := fun o v st hs => (rq_op th (x := 43) (by decide) o v hs).trans (by rw [jn_43])
  have o45 : ∀ (o v : Int32) (st : List Int32), st.length < 40 → rq1 th 2045 (o :: v :: st) = (v - o) :: st := fun o v st hs => (rq_op th (x := 45) (by decide) o v hs).trans (by rw [jn_45])
  have o42 : ∀ (o v : Int32) (st : List Int32), st.length < 40 → rq1 th 2042 (o :: v :: st) = (v * o) :: st := fun o v st hs => (rq_op th (x := 42) (by decide) o v hs).trans (by rw [jn_42])
  have o47 : ∀ (o v : Int32) (st : List Int32), st.length < 40 → rq1 th 2047 (o :: v :: st) = (if o = 0 then 0 else v / o) :: st := fun o v st hs => (rq_op th (x := 47) (by decide) o v hs).trans (by rw [jn_47])
  have step : ∀ (x : Int32) (l st : List Int32), rpn th (x :: l) st = rpn th l (rq1 th x st) := fun _ _ _ => rfl
  unfold rpv
  rw [step, l0 _ (by decide), step, n1 _ (by simp), step, o43 _ _ _ (by simp), step, n3 _ (by simp), step, o42 _ _ _ (by simp), step, l2 _ (by simp), step, n4 _ (by simp), step, o42 _ _ _ (by simp), step, o43 _ _ _ (by simp), step, l3 _ (by simp), step, l4 _ (by simp), step, o45 _ _ _ (by simp), step, n2 _ (by simp), step, o47 _ _ _ (by simp), step, o43 _ _ _ (by simp), if_neg (by decide)]
  rfl
def rlV (D : DD) (th : Nat → Int32) : Int32 := rpv th (rdT D)
theorem XS_F {s0 s s' : gs} {D : DD} {C : List Int32} (h : XS s0 s D) (f : frF s s') (hC : CS s' C) : XS s0 s' (uV D (fun th => rpv th C)) := by
  obtain ⟨⟨h1, h2, h3, h4, h5, h6, h7, h8, h9, h10⟩, hf⟩ := h
  obtain ⟨f1, f2, f3, f4⟩ := f
  have fv : ∀ b, b ≠ 5 → gsV s' b = gsV s b := fun b hb => by funext k; exact f1 b k (fun z => hb z.1)
  have fx : ∀ b, b ≠ 5 → xg s' b = xg s b := fun b hb => xg_cg (fv b hb) (by rw [f2])
  refine ⟨⟨?_, ?_, ⟨C, hC.1, hC.2.1, hC.2.2, fun _ => rfl⟩, ?_, ?_, ?_, ?_, ?_, ?_, ?_⟩, fun b hb => ?_⟩
  · have e : XT s' D := by
      unfold XT at *; rw [fv 1 (by decide), f3 2 (by decide) (by decide)]; exact h1
    exact e
  · have e : XL s' D := by
      unfold XL at *; rw [fv 3 (by decide), f3 4 (by decide) (by decide)]; exact h2
    exact e
  · have e : XD s' D := by
      unfold XD at *; rw [fv 10 (by decide), fv 12 (by decide)]; exact h4
    exact e
  · intro i hi
    have := h5 i hi
    rw [fv (10 + 2 * i) (by omega), f3 (11 + 2 * i) (by omega) (by omega)]
    exact this
  · show xg s' 14 = dg D
    rw [fx 14 (by decide)]; exact h6
  · obtain ⟨a1, a2, p, a3, a4, a5⟩ := h7
    refine ⟨?_, a2, p, a3, ?_, fun i hi => ?_⟩
    · rw [fv 17 (by decide)]; exact a1
    · rw [fv 17 (by decide)]; exact a4
    · rw [fx _ (by omega)]; exact a5 i hi
  · intro i hi
    have := h8 i hi
    rw [fv 0 (by decide), fx (32 + i) (by omega)]
    exact this
  · have e : XW s' D := by
      unfold XW at *; rw [fv 34 (by decide), f4]; exact h9
    exact e
  · have e : XO s' D := by
      unfold XO at *; rw [fv 41 (by decide), f3 42 (by decide) (by decide)]; exact h10
    exact e
  · have := hf b hb
    rw [fv b (by omega), f2, f3 b (by omega) (by omega), f4]
    exact this
section RL
variable {c : gx} {d B : Nat} {s : gs} {D : DD}
theorem cl_rule (hp : c.2.2.2 = gp_prim) (h : HY d s B D) : CL c d 79 180 [] s B := by
  have hd := h.1
  have hv := VD_mono h.2.2.2.1 (Nat.le_add_right B 60)
  have hT := h.2.1.1
  have h80 := hT.1
  have hS := XS_rf h.2.1
  have e0 : nI (dT D) = 0 ↔ dT D = 0 := nI_eq' (b := 0) (by omega) (by decide)
  -- the reference, up to its end
  have ref : ∀ (s1 : gs) (Post : Option Value → gs → Prop), MS s1 s1 D → (∀ j b sb, ¬ dT D = 0 → mr (dt D) (dT D) (min (dT D) 40) 0 true 0 0 (fun _ => false) = some j → j ≤ 80 → MS s1 sb (uT D 0 (dt D)) → Post (some (.int (-1 - nI j))) (pz sb b (nI j))) → ((dT D = 0 ∨ mr (dt D) (dT D) (min (dT D) 40) 0 true 0 0 (fun _ => false) = none) → dT D ≤ 40 → ∀ s', MS s1 s' (uT (uV D (rlV D)) 0 (dt D)) → Post (some (.int 0)) s') → tE c d 180 [.ref 48] s1 Post := by
    intro s1 Post hm k1 k2
    obtain ⟨d, rfl⟩ := d_1 (show 1 ≤ d by omega)
    refine okm180 c d Post s1 ?_
    rintro s2 rfl
    have hm1 := MS_thr hm 0
    have hn : gsV (gs_V s1 48 13 0) 48 10 = nI (dT D) := hm1.1.1.2.1
    refine s163 (p := 40) (by omega) hm1 (by decide) (fun sb hb hpb => ⟨rfl, ?_⟩)
    rintro s4 rfl
    rw [hn, pz_V _ _ _ (by decide) (by decide)]
    have hb2 : MS s1 (gs_V sb 48 23 0) (uT D 0 (dt D)) := MS_frJ hb (frJ_V (frJ_rf sb) (by decide) 0)
    have hpb2 : PB (gs_V sb 48 23 0) (dt D) (dT D) 40 57 := hpb
    have h23 : gsV (gs_V sb 48 23 0) 48 23 = 0 := rfl
    revert hb2 hpb2 h23
    generalize gs_V sb 48 23 0 = s5
    intro hb2 hpb2 h23
    -- the text is kept
    have keep : ∀ sx : gs, MS s1 sx (uT D 0 (dt D)) → PB sx (dt D) (dT D) 40 57 → dT D ≤ 40 → (dT D = 0 ∨ mr (dt D) (dT D) (min (dT D) 40) 0 true 0 0 (fun _ => false) = none) → ∃ n, wl180_47 c d Post n (nI (dT D)) 0 (pz sx (dT D) (-1)) := by
      intro sx hx hpx h40 hok
      have hx2 := MS_pz hx (dT D) (-1)
      have hbt : ∀ i, i < dT D → dt D i < 256 ∧ gsA (pz sx (dT D) (-1)) 57 i = sby (dt D i) := fun i hi => hpx.2.2.2.2.2.2.2 i hi (by omega)
      revert hx2 hbt
      generalize pz sx (dT D) (-1) = s6
      intro hx2 hbt
      have loop : ∀ (m i : Nat) (s' : gs), i + m = dT D → frA s6 s' 61 → (∀ j, j < i → gsA s' 61 j = sby (dt D j)) → wl180_47 c d Post (m + 1) (nI (dT D)) (nI i) s' := by
        intro m
        induction m with
        | zero =>
          intro i s' hi hf hh
          unfold wl180_47 wb180_47
          refine ⟨fun _ => ?_, fun z => absurd (le_t (by omega) (by omega) (by omega)) z⟩
          rintro s7 rfl
          refine k2 hok h40 _ ?_
          obtain ⟨⟨m1, m2, m3, m4, m5, m6, m7, m8, m9, m10, m11⟩, mf⟩ := hx2
          have mf' := frM_V (frM_frA mf hf (by decide)) (show 48 ≤ 48 by decide) 22 (nI (dT D))
          obtain ⟨f1, f2, f3, f4, f5⟩ := hf
          refine ⟨⟨?_, ?_, ?_, ?_, ?_, ?_, ?_, ?_, ?_, ?_, ?_⟩, mf'⟩
          · have e : MT s' (uT D 0 (dt D)) := by
              unfold MT at *; rw [f1, f3 57 (by decide)]; exact m1
            exact e
          · have e : ML s' D := by
              unfold ML at *; rw [f1, f3 50 (by decide), f3 51 (by decide)]; exact m2
            exact e
          · refine ⟨dT D, dt D, h40, rfl, fun i2 hi2 => ⟨(hbt i2 hi2).1, hh i2 (by omega)⟩, fun z th => ?_, fun z th => ?_⟩
            · show rpv th (rdT D) = dfl th
              unfold rdT
              rw [if_pos z]
              exact rpv_nor th
            · have hmr : mr (dt D) (dT D) (min (dT D) 40) 0 true 0 0 (fun _ => false) = none := hok.resolve_left (by omega)
              have hsh := shy_all (t := dt D) z th
              show pp (dt D) (dT D) th 1000 0 0 0 0 = .inr (rpv th (rdT D), dT D)
              cases hpp : pp (dt D) (dT D) th 1000 0 0 0 0 with
              | inl e =>
                rw [hpp, hmr] at hsh
                cases hsh
              | inr y =>
                rw [hpp] at hsh
                have hsh' : if y.2 < dT D then mr (dt D) (dT D) (min (dT D) 40) 0 true 0 0 (fun _ => false) = some y.2 else (mr (dt D) (dT D) (min (dT D) 40) 0 true 0 0 (fun _ => false) = none ∧ dT D ≤ 40 ∧ y.2 = dT D ∧ rpv th (rd (dt D) (dT D) 0 true [] []) = y.1) := hsh
                by_cases q : y.2 < dT D
                · rw [if_pos q, hmr] at hsh'
                  cases hsh'
                · rw [if_neg q] at hsh'
                  have er : rdT D = rd (dt D) (dT D) 0 true [] [] := by unfold rdT; rw [if_neg (by omega)]
                  rw [er, hsh'.2.2.2]
                  congr 1
                  exact Prod.ext rfl hsh'.2.2.1
          · have e : MD s' D := by
              unfold MD at *; rw [f3 52 (by decide), f3 53 (by decide)]; exact m4
            exact e
          · have e : MN s' D := by
              unfold MN at *; rw [f3 54 (by decide), f3 55 (by decide), f3 56 (by decide)]; exact m5
            exact e
          · have e : MG s' D := by
              unfold MG at *; rw [f3 49 (by decide)]; exact m6
            exact e
          · have e : MU s' D := by
              unfold MU at *; rw [f1, f3 63 (by decide)]; exact m7
            exact e
          · have e : MK s' D := by
              unfold MK at *; rw [f3 71 (by decide), f3 72 (by decide)]; exact m8
            exact e
          · have e : MW s' D := by
              unfold MW at *; rw [f1, f4]; exact m9
            exact e
          · have e : MO s' D := by
              unfold MO at *; rw [f1, f3 69 (by decide)]; exact m10
            exact e
          · have e : MZ s' := by
              unfold MZ at *; rw [f3 65 (by decide)]; exact m11
            exact e
        | succ m ih =>
          intro i s' hi hf hh
          have hti := hbt i (by omega)
          unfold wl180_47 wb180_47
          refine ⟨fun z => absurd z (le_f (by omega) (by omega) (by omega)), fun _ => ⟨vp_in_nI (by omega) (by decide), vp_in_nI (by omega) (by decide), ?_⟩⟩
          rintro s7 rfl
          rw [nI_clamp (by omega), nI_1, hf.2.2.1 57 (by decide), hti.2, nar_by _ hti.1]
          refine ih (i + 1) _ (by omega) (frA_A hf _ _) (fun j hj => ?_)
          rw [gsA_A]
          by_cases e : j = i
          · rw [e, upd_eq]
          · rw [upd_ne e]; exact hh j (by omega)
      exact ⟨dT D + 1, loop (dT D) 0 s6 (by omega) (frA_rf s6 61) (fun j hj => absurd hj (Nat.not_lt_zero _))⟩
    by_cases q0 : dT D = 0
    · rw [q0]
      refine ⟨fun _ => s171 (by omega) hpb2 (by decide) ?_, fun z => absurd (Int32.le_refl _) z⟩
      rw [if_pos rfl, if_neg (by omega)]
      refine ⟨_, rfl, fun z => absurd z (by decide), fun _ => ?_⟩
      have := keep s5 hb2 hpb2 (by omega) (Or.inl q0)
      rw [q0] at this
      exact this
    · refine ⟨fun z => absurd z (nI_nle (by omega) (by omega)), fun _ => ?_⟩
      have hsh := shy_all (t := dt D) (show 0 < dT D by omega) (fun _ => 0)
      refine (psim (th := fun _ => 0) hpb2 (fun i hi => by rw [if_pos h23]) 1000 d 0 0 0 (by omega) (by decide) (by decide) (Nat.zero_le _)).1 (by decide) _ ?_
      cases hpp : pp (dt D) (dT D) (fun _ => 0) 1000 0 0 0 0 with
      | inl e =>
        rw [hpp] at hsh
        have he : e ≤ 40 := by
          have hh := pp_b (t := dt D) (L := dT D) (th := fun _ => 0) 1000 0 0 0 0 (by decide) (Nat.zero_le _)
          rw [hpp] at hh
          exact hh.1
        intro v b hb
        refine ⟨_, rfl, ?_⟩
        refine s171 (by omega) hpb2 hb ?_
        rw [if_neg (ni_1 (by omega))]
        exact ⟨_, rfl, fun _ => k1 e b s5 q0 hsh (by omega) hb2, fun z => absurd rfl z⟩
      | inr y =>
        obtain ⟨v, b⟩ := y
        rw [hpp] at hsh
        have hb40 : b ≤ 40 ∧ b ≤ dT D := by
          have hh := pp_b (t := dt D) (L := dT D) (th := fun _ => 0) 1000 0 0 0 0 (by decide) (Nat.zero_le _)
          rw [hpp] at hh
          exact ⟨hh.2.1, hh.2.2⟩
        have hsh' : if b < dT D then mr (dt D) (dT D) (min (dT D) 40) 0 true 0 0 (fun _ => false) = some b else (mr (dt D) (dT D) (min (dT D) 40) 0 true 0 0 (fun _ => false) = none ∧ dT D ≤ 40 ∧ b = dT D ∧ rpv (fun _ => 0) (rd (dt D) (dT D) 0 true [] []) = v) := hsh
        refine ⟨_, rfl, ?_⟩
        refine s171 (by omega) hpb2 (by omega) ?_
        rw [if_pos rfl]
        by_cases q : b < dT D
        · rw [if_pos q] at hsh' ⊢
          exact ⟨_, rfl, fun _ => k1 b b s5 q0 hsh' (by omega) hb2, fun z => absurd rfl z⟩
        · rw [if_neg q] at hsh' ⊢
          refine ⟨_, rfl, fun z => absurd z (by decide), fun _ => ?_⟩
          rw [hsh'.2.2.1]
          exact keep s5 hb2 hpb2 hsh'.2.1 (Or.inr hsh'.1)
  -- a good text
  have good : (dT D = 0 ∨ mr (dt D) (dT D) (min (dT D) 40) 0 true 0 0 (fun _ => false) = none) → CL c d 79 180 [] s B := by
    intro hok
    refine glu1 h (D' := uT (uV D (rlV D)) 0 (dt D)) (x := 0) hv (fun Post k => ?_) (fun s1 Post hm k => ?_)
    · obtain ⟨d, rfl⟩ := d_1 (show 1 ≤ d by omega)
      have fin : w79_21 c d Post (-1) s := by
        refine ⟨fun _ => s4 (by omega) hp hT (fun s2 f2 c2 => ⟨rfl, ?_⟩), fun z => absurd rfl z⟩
        unfold w79_38
        rintro s3 rfl
        exact ⟨fun _ => k _ (XS_T (XS_F hS f2 c2) (Nat.zero_le _)), fun z => absurd rfl z⟩
      refine okm79 c d Post s ?_
      unfold wm79
      rw [hT.2.1, e0]
      refine ⟨fun _ => fin, fun z => s1 (by omega) hp hT ⟨_, rfl, ?_⟩⟩
      rw [hok.resolve_left z]
      exact fin
    · refine ref s1 Post hm (fun j b sb z hj hj80 hm2 => ?_) (fun _ _ s' hs' => k s' hs')
      rw [hok.resolve_left z] at hj
      cases hj
  by_cases q0 : dT D = 0
  · exact good (Or.inl q0)
  cases hw : mr (dt D) (dT D) (min (dT D) 40) 0 true 0 0 (fun _ => false) with
  | none => exact good (Or.inr hw)
  | some j =>
    have hj : j ≤ 80 := by
      have hsh := shy_all (t := dt D) (show 0 < dT D by omega) (fun _ => 0)
      have hh := pp_b (t := dt D) (L := dT D) (th := fun _ => 0) 1000 0 0 0 0 (by decide) (Nat.zero_le _)
      cases hpp : pp (dt D) (dT D) (fun _ => 0) 1000 0 0 0 0 with
      | inl e =>
        rw [hpp] at hsh hh
        rw [hw] at hsh
        cases hsh
        have : j ≤ 40 := hh.1
        omega
      | inr y =>
        rw [hpp] at hsh hh
        have hsh' : if y.2 < dT D then mr (dt D) (dT D) (min (dT D) 40) 0 true 0 0 (fun _ => false) = some y.2 else (mr (dt D) (dT D) (min (dT D) 40) 0 true 0 0 (fun _ => false) = none ∧ dT D ≤ 40 ∧ y.2 = dT D ∧ rpv (fun _ => 0) (rd (dt D) (dT D) 0 true [] []) = y.1) := hsh
        by_cases q : y.2 < dT D
        · rw [if_pos q, hw] at hsh'
          cases hsh'
          have := hh.2.1
          omega
        · rw [if_neg q, hw] at hsh'
          cases hsh'.1
    refine glu1 h (D' := uT D 0 (dt D)) (x := -1 - nI j) hv (fun Post k => ?_) (fun s1 Post hm k => ?_)
    · obtain ⟨d, rfl⟩ := d_1 (show 1 ≤ d by omega)
      refine okm79 c d Post s ?_
      unfold wm79
      rw [hT.2.1, e0]
      refine ⟨fun z => absurd z q0, fun z => s1 (by omega) hp hT ⟨_, rfl, ?_⟩⟩
      rw [hw]
      have n1 : ¬ nI j = -1 := ni_1 (by omega)
      refine ⟨fun y => absurd y n1, fun _ => ?_⟩
      unfold w79_38
      rintro s3 rfl
      exact ⟨fun y => absurd y n1, fun _ => k _ (XS_T hS (Nat.zero_le _))⟩
    · refine ref s1 Post hm (fun j' b sb z hj' _ hm2 => ?_) (fun hok => ?_)
      · rw [hw] at hj'
        cases hj'
        exact k _ (MS_pz hm2 _ _)
      · rcases hok with z | z
        · exact absurd z q0
        · rw [hw] at z; cases z
end RL
