/-! Calls: sure, ask. -/
def suF (P : Nat → Nat → Bool) (k n i : Nat) (a : Int32 × Int32) : Int32 × Int32 := if wyT (fx P i 0) k n = 0 then (a.1 ||| sh1 i, a.2 ||| sh1 i) else if wyT (fx P i 1) k n = 0 then (a.1 ||| sh1 i, a.2) else a
def suR (D : DD) (n k : Nat) : Int32 × Int32 := if wyT (ftB D) k n = 0 then (0, 0) else fl (suF (ftB D) k n) 0 n (0, 0)
def asF (P : Nat → Nat → Bool) (k n i : Nat) (a : Option (Nat × Nat)) : Option (Nat × Nat) := match a with
  | none => some (i, max (wyT (fx P i 0) k n) (wyT (fx P i 1) k n))
  | some (j, f) => if max (wyT (fx P i 0) k n) (wyT (fx P i 1) k n) < f then some (i, max (wyT (fx P i 0) k n) (wyT (fx P i 1) k n)) else some (j, f)
theorem as_ok (P : Nat → Nat → Bool) (k n : Nat) : ∀ (m i : Nat) (a : Option (Nat × Nat)), (∀ p, a = some p → p.1 < i ∧ p.2 ≤ 1048576) → (∀ j, j < n → ∀ w, wyT (fx P j w) k n ≤ 1048576) → i + m ≤ n → ∀ p, fl (asF P k n) i m a = some p → p.1 < i + m ∧ p.2 ≤ 1048576
  | 0, i, a, h, _, _, p, e => h p e
  | m + 1, i, a, h, hw, hi, p, e => by
    have e' : fl (asF P k n) (i + 1) m (asF P k n i a) = some p := e
    have := as_ok P k n m (i + 1) (asF P k n i a) (fun p' e2 => ?_) hw (by omega) p e'
    · exact ⟨by omega, this.2⟩
    · have w0 := hw i (by omega) 0
      have w1 := hw i (by omega) 1
      cases a with
      | none =>
        have e3 : some (i, max (wyT (fx P i 0) k n) (wyT (fx P i 1) k n)) = some p' := e2
        cases e3
        exact ⟨Nat.lt_succ_self _, by show max _ _ ≤ _; omega⟩
      | some jf =>
        obtain ⟨j, f⟩ := jf
        have hj := h (j, f) rfl
        have e3 : (if max (wyT (fx P i 0) k n) (wyT (fx P i 1) k n) < f then some (i, max (wyT (fx P i 0) k n) (wyT (fx P i 1) k n)) else some (j, f)) = some p' := e2
        split at e3
        · cases e3
          exact ⟨Nat.lt_succ_self _, by show max _ _ ≤ _; omega⟩
        · cases e3
          exact ⟨by have := hj.1; omega, hj.2⟩
def asX : Option (Nat × Nat) → Int32 × Int32
  | none => (-1, 0)
  | some p => (nI p.1, nI p.2)
def asM : Option (Nat × Nat) → Int32 × Int32
  | none => (-1, 2000000)
  | some p => (nI p.1, nI p.2)
theorem mx_n {a b : Nat} (ha : a < 2 ^ 31) (hb : b < 2 ^ 31) : (if nI a < nI b then nI b else nI a) = nI (max a b) := by
  by_cases q : a < b
  · rw [if_pos ((nI_lt' ha hb).mpr q), Nat.max_eq_right (by omega)]
  · rw [if_neg (fun z => q ((nI_lt' ha hb).mp z)), Nat.max_eq_left (by omega)]
section W5
variable {c : gx} {d B : Nat} {s : gs} {D : DD}
theorem cl_sure (h : HY d s B D) (x y : Int32) : CL c d 130 250 [.int x, .int y] s B := by
  have hd := h.1
  have hv := h.2.2.2.1
  by_cases q : (1 ≤ x ∧ x ≤ 20) ∧ (1 ≤ y ∧ y ≤ 3)
  · have hb := bI_t q
    obtain ⟨n, k, hn, hk, rfl, rfl⟩ := old_n q
    have hT := wyT_b (ftB D) k hn.2 hn.1
    have hw : ∀ j w, wyT (fx (ftB D) j w) k n ≤ 1048576 := fun j w => wyT_b _ k hn.2 hn.1
    refine glu1 h (D' := uW D 1 (r1 (suR D n k).2.toInt64)) (x := (suR D n k).1) (VD_W (VD_mono hv (Nat.le_add_right B 60)) _ _) (fun Post kk => ?_) (fun s1 Post hm kk => ?_)
    · obtain ⟨d, rfl⟩ := d_1 (show 1 ≤ d by omega)
      refine okm130 c d Post _ _ s (s132 (by omega) _ _ ⟨_, rfl, fun z => ?_, fun _ => s133 (by omega) (XS_rf h.2.1) hn hk (fun s2 h2 c2 t2 => ⟨_, rfl, n + 1, ?_⟩)⟩)
      · rw [hb] at z
        exact absurd z (by decide)
      have fin : ∀ (a : Int32 × Int32) (s' : gs), a = suR D n k → XS s s' D → w130_90 c d Post a.1 a.2 s' := by
        intro a s' ea hs
        subst ea
        exact s45' (by omega) hs _ (fun s3 h3 f3 => ⟨rfl, kk s3 h3⟩)
      by_cases e0 : wyT (ftB D) k n = 0
      · have ht := fin (0, 0) s2 (by unfold suR; rw [if_pos e0]) h2
        rw [e0]
        unfold wl130_26 wb130_26
        exact ⟨fun _ => ht, fun _ => ⟨fun _ => ht, fun z => absurd (Int32.le_refl _) z⟩⟩
      have loop : ∀ (m i : Nat) (a : Int32 × Int32) (s' : gs), i + m = n → XS s s' D → CB s' (ftB D) → fl (suF (ftB D) k n) i m a = fl (suF (ftB D) k n) 0 n (0, 0) → wl130_26 c d Post (m + 1) (nI n) (nI k) (nI (wyT (ftB D) k n)) a.1 a.2 (nI i) s' := by
        intro m
        induction m with
        | zero =>
          intro i a s' hi hs hc e
          unfold wl130_26 wb130_26
          refine ⟨fun _ => fin a s' ?_ hs, fun z => absurd (le_t (by omega) (by omega) (by omega)) z⟩
          unfold suR
          rw [if_neg e0]
          exact e
        | succ m ih =>
          intro i a s' hi hs hc e
          have e' : fl (suF (ftB D) k n) (i + 1) m (suF (ftB D) k n i a) = fl (suF (ftB D) k n) 0 n (0, 0) := e
          have hsum := wyT_fx (ftB D) k (n := n) (dy := i) (by omega)
          have w1 := hw i 1
          unfold wl130_26 wb130_26
          refine ⟨fun z => absurd z (le_f (by omega) (by omega) (by omega)), fun _ => ⟨fun z => absurd z (nI_nle (by omega) (by omega)), fun _ => s35 (by omega) hs hc hn hk (by omega) (fun s3 h3 c3 => ⟨_, rfl, ?_⟩)⟩⟩
          unfold w130_60 w130_69 w130_84
          rw [nI_1, nI_eq' (by omega) (by omega)]
          have n1 := ih (i + 1) (suF (ftB D) k n i a) s3 (by omega) h3 c3 e'
          unfold suF at n1
          refine ⟨fun z => ?_, fun z => ⟨fun y => ?_, fun y => ?_⟩⟩
          · have z0 : wyT (fx (ftB D) i 1) k n = 0 := (nI_eq' (b := 0) (by omega) (by decide)).mp z
            rw [if_neg (by omega), if_pos z0] at n1
            exact ⟨fun x => absurd x (by omega), fun _ => n1⟩
          · rw [if_pos (by omega)] at n1
            exact ⟨fun _ => n1, fun x => absurd y x⟩
          · have z0 : ¬ wyT (fx (ftB D) i 1) k n = 0 := fun e => z (by rw [e]; rfl)
            rw [if_neg (by omega), if_neg z0] at n1
            exact ⟨fun x => absurd x y, fun _ => n1⟩
      exact loop n 0 (0, 0) s2 (by omega) h2 c2 rfl
    · obtain ⟨d, rfl⟩ := d_1 (show 1 ≤ d by omega)
      refine okm250 c d Post _ _ s1 ?_
      rintro s2 rfl
      refine s248 (by omega) _ _ ⟨_, rfl, fun z => ?_, fun _ => ⟨n + 1, ?_⟩⟩
      · rw [hb] at z
        exact absurd z (by decide)
      have loop : ∀ (m i : Nat) (a : Int32 × Int32) (s' : gs), i + m = n → MS s1 s' D → (if wyT (ftB D) k n = 0 then a = suR D n k else fl (suF (ftB D) k n) i m a = suR D n k) → wl250_23 c d Post (m + 1) (nI n) (nI k) a.1 a.2 (nI i) s' := by
        intro m
        induction m with
        | zero =>
          intro i a s' hi hs e
          have e' : a = suR D n k := by
            split at e
            · exact e
            · exact e
          subst e'
          unfold wl250_23 wb250_23
          refine ⟨fun _ => ?_, fun z => absurd (le_t (by omega) (by omega) (by omega)) z⟩
          rintro s4 rfl
          exact s157r (by omega) (MS_row0 hs (r1 (suR D n k).2.toInt64)) (by decide) rfl (fun s7 h7 e7 => ⟨rfl, kk s7 h7⟩)
        | succ m ih =>
          intro i a s' hi hs e
          have hsum := wyT_fx (ftB D) k (n := n) (dy := i) (by omega)
          have w0 := hw i 0
          have w1 := hw i 1
          unfold wl250_23 wb250_23
          refine ⟨fun z => absurd z (le_f (by omega) (by omega) (by omega)), fun _ => s247 (P := fx (ftB D) i 0) (by omega) hs hn hk (nI i) (nI 0) (fxP (by omega) (by decide)) (fun s3 h3 p3 t3 => ⟨_, rfl, s247 (P := fx (ftB D) i 1) (by omega) h3 hn hk (nI i) (nI 1) (fxP (by omega) (by decide)) (fun s4 h4 p4 t4 => ⟨_, rfl, ?_⟩)⟩)⟩
          unfold w250_72 w250_94 w250_97
          rw [nI_1, nI_add, hsum, Int32.or_zero]
          refine ⟨fun z => ?_, fun z => ?_⟩
          · have e0 : wyT (ftB D) k n = 0 := (nI_eq' (b := 0) (by omega) (by decide)).mp z
            rw [if_pos e0] at e
            refine ih (i + 1) a s4 (by omega) h4 ?_
            rw [if_pos e0]
            exact e
          · have e0 : ¬ wyT (ftB D) k n = 0 := fun e => z (by rw [e]; rfl)
            rw [if_neg e0] at e
            have e' : fl (suF (ftB D) k n) (i + 1) m (suF (ftB D) k n i a) = suR D n k := e
            have n1 := ih (i + 1) (suF (ftB D) k n i a) s4 (by omega) h4 (by rw [if_neg e0]; exact e')
            unfold suF at n1
            have le0 : ∀ v : Nat, v ≤ 1048576 → (nI v ≤ 0 ↔ v = 0) := by
              intro v hvv
              refine ⟨fun y => ?_, fun y => by rw [y]; exact Int32.le_refl _⟩
              by_cases q : v = 0
              · exact q
              · exact absurd y (nI_nle (by omega) (by omega))
            have eq0 : ∀ v : Nat, v ≤ 1048576 → (nI v = 0 ↔ v = 0) := fun v hvv => nI_eq' (b := 0) (by omega) (by decide)
            rw [le0 _ w0, le0 _ w1, eq0 _ w0]
            refine ⟨fun y => ⟨fun _ => ?_, fun x => absurd y x⟩, fun y => ⟨fun x => ⟨fun w => absurd w y, fun _ => ?_⟩, fun x => ?_⟩⟩
            · rw [if_pos y] at n1; exact n1
            · rw [if_neg y, if_pos x] at n1; exact n1
            · rw [if_neg y, if_neg x] at n1; exact n1
      refine loop n 0 (0, 0) _ (by omega) (MS_thr hm 0) ?_
      by_cases e0 : wyT (ftB D) k n = 0
      · rw [if_pos e0]; unfold suR; rw [if_pos e0]
      · rw [if_neg e0]; unfold suR; rw [if_neg e0]
  · have hb := bI_f q
    refine glu0 h (x := -1) (fun Post k => ?_) (fun s1 Post hm k => ?_)
    · obtain ⟨d, rfl⟩ := d_1 (show 1 ≤ d by omega)
      refine okm130 c d Post _ _ s (s132 (by omega) _ _ ⟨_, rfl, fun z => k s (XS_rf h.2.1), fun z => ?_⟩)
      rw [hb] at z
      exact absurd rfl z
    · obtain ⟨d, rfl⟩ := d_1 (show 1 ≤ d by omega)
      refine okm250 c d Post _ _ s1 ?_
      rintro s2 rfl
      refine s248 (by omega) _ _ ⟨_, rfl, fun z => k _ (MS_thr hm 0), fun z => ?_⟩
      rw [hb] at z
      exact absurd rfl z
theorem cl_ask (h : HY d s B D) (x y : Int32) : CL c d 131 251 [.int x, .int y] s B := by
  have hd := h.1
  have hv := h.2.2.2.1
  by_cases q : (1 ≤ x ∧ x ≤ 20) ∧ (1 ≤ y ∧ y ≤ 3)
  · have hb := bI_t q
    obtain ⟨n, k, hn, hk, rfl, rfl⟩ := old_n q
    have hT := wyT_b (ftB D) k hn.2 hn.1
    have hw : ∀ j w, wyT (fx (ftB D) j w) k n ≤ 1048576 := fun j w => wyT_b _ k hn.2 hn.1
    by_cases e0 : wyT (ftB D) k n = 0
    · refine glu0 h (x := -2) (fun Post kk => ?_) (fun s1 Post hm kk => ?_)
      · obtain ⟨d, rfl⟩ := d_1 (show 1 ≤ d by omega)
        refine okm131 c d Post _ _ s (s132 (by omega) _ _ ⟨_, rfl, fun z => ?_, fun _ => s133 (by omega) (XS_rf h.2.1) hn hk (fun s2 h2 c2 t2 => ⟨_, rfl, fun _ => kk s2 h2, fun z => ?_⟩)⟩)
        · rw [hb] at z
          exact absurd z (by decide)
        · rw [e0] at z
          exact absurd rfl z
      · obtain ⟨d, rfl⟩ := d_1 (show 1 ≤ d by omega)
        refine okm251 c d Post _ _ s1 ?_
        rintro s2 rfl
        refine s248 (by omega) _ _ ⟨_, rfl, fun z => ?_, fun _ => ⟨1, ?_⟩⟩
        · rw [hb] at z
          exact absurd z (by decide)
        have hsum := wyT_fx (ftB D) k (n := n) (dy := 0) (by omega)
        unfold wl251_25 wb251_25
        refine ⟨fun z => absurd z (le_f (b := 0) (by omega) (by omega) (by omega)), fun _ => s247 (P := fx (ftB D) 0 0) (by omega) (MS_thr hm 0) hn hk (nI 0) (nI 0) (fxP (by omega) (by decide)) (fun s3 h3 p3 t3 => ⟨_, rfl, s247 (P := fx (ftB D) 0 1) (by omega) h3 hn hk (nI 0) (nI 1) (fxP (by omega) (by decide)) (fun s4 h4 p4 t4 => ⟨_, rfl, ?_⟩)⟩)⟩
        rw [nI_add, hsum, e0]
        exact ⟨fun _ => kk s4 h4, fun z => absurd rfl z⟩
    · have hsome : ∃ p, fl (asF (ftB D) k n) 0 n none = some p := by
        have : ∀ (m i : Nat) (a : Nat × Nat), ∃ p, fl (asF (ftB D) k n) i m (some a) = some p := by
          intro m
          induction m with
          | zero => intro i a; exact ⟨a, rfl⟩
          | succ m ih =>
            intro i a
            show ∃ p, fl (asF (ftB D) k n) (i + 1) m (asF (ftB D) k n i (some a)) = some p
            have e : ∃ b, asF (ftB D) k n i (some a) = some b := by
              show ∃ b, (if max (wyT (fx (ftB D) i 0) k n) (wyT (fx (ftB D) i 1) k n) < a.2 then some (i, max (wyT (fx (ftB D) i 0) k n) (wyT (fx (ftB D) i 1) k n)) else some (a.1, a.2)) = some b
              split
              · exact ⟨_, rfl⟩
              · exact ⟨_, rfl⟩
            obtain ⟨b, e⟩ := e
            rw [e]
            exact ih (i + 1) b
        rw [show n = (n - 1) + 1 by omega]
        exact this (n - 1) (0 + 1) _
      obtain ⟨p, hp⟩ := hsome
      refine glu1 h (D' := uW D 1 (r1 (nI p.2).toInt64)) (x := nI p.1) (VD_W (VD_mono hv (Nat.le_add_right B 60)) _ _) (fun Post kk => ?_) (fun s1 Post hm kk => ?_)
      · obtain ⟨d, rfl⟩ := d_1 (show 1 ≤ d by omega)
        refine okm131 c d Post _ _ s (s132 (by omega) _ _ ⟨_, rfl, fun z => ?_, fun _ => s133 (by omega) (XS_rf h.2.1) hn hk (fun s2 h2 c2 t2 => ⟨_, rfl, fun z => ?_, fun _ => ⟨n + 1, ?_⟩⟩)⟩)
        · rw [hb] at z
          exact absurd z (by decide)
        · exact absurd ((nI_eq' (b := 0) (by omega) (by decide)).mp z) e0
        have loop : ∀ (m i : Nat) (a : Option (Nat × Nat)) (s' : gs), i + m = n → (∀ p, a = some p → p.1 < i ∧ p.2 ≤ 1048576) → XS s s' D → CB s' (ftB D) → fl (asF (ftB D) k n) i m a = some p → wl131_33 c d Post (m + 1) (nI n) (nI k) (nI (wyT (ftB D) k n)) (asX a).1 (asX a).2 (nI i) s' := by
          intro m
          induction m with
          | zero =>
            intro i a s' hi ha hs hc e
            have e' : a = some p := e
            subst e'
            unfold wl131_33 wb131_33
            exact ⟨fun _ => s45' (by omega) hs _ (fun s3 h3 f3 => ⟨rfl, kk s3 h3⟩), fun z => absurd (le_t (by omega) (by omega) (by omega)) z⟩
          | succ m ih =>
            intro i a s' hi ha hs hc e
            have e' : fl (asF (ftB D) k n) (i + 1) m (asF (ftB D) k n i a) = some p := e
            have hsum := wyT_fx (ftB D) k (n := n) (dy := i) (by omega)
            have w0 := hw i 0
            have w1 := hw i 1
            unfold wl131_33 wb131_33
            refine ⟨fun z => absurd z (le_f (by omega) (by omega) (by omega)), fun _ => s35 (by omega) hs hc hn hk (by omega) (fun s3 h3 c3 => ⟨_, rfl, ?_⟩)⟩
            unfold w131_76 w131_84
            rw [nI_1, show nI (wyT (ftB D) k n) - nI (wyT (fx (ftB D) i 1) k n) = nI (wyT (fx (ftB D) i 0) k n) from by rw [pk_sub (by omega)]; congr 1; omega, mx_n (by omega) (by omega), Nat.max_comm]
            have hok := as_ok (ftB D) k n 1 i a ha (fun j _ w => hw j w) (by omega)
            have n1 := ih (i + 1) (asF (ftB D) k n i a) s3 (by omega) hok h3 c3 e'
            cases a with
            | none => exact ⟨fun _ => n1, fun z => absurd rfl z⟩
            | some jf =>
              obtain ⟨j, f⟩ := jf
              have hj := ha (j, f) rfl
              have e5 : asF (ftB D) k n i (some (j, f)) = if max (wyT (fx (ftB D) i 0) k n) (wyT (fx (ftB D) i 1) k n) < f then some (i, max (wyT (fx (ftB D) i 0) k n) (wyT (fx (ftB D) i 1) k n)) else some (j, f) := rfl
              rw [e5] at n1
              have hf : f ≤ 1048576 := hj.2
              have hj1 : j < i := hj.1
              show (nI j = -1 → _) ∧ (¬ nI j = -1 → (nI f ≤ nI (max (wyT (fx (ftB D) i 0) k n) (wyT (fx (ftB D) i 1) k n)) → _) ∧ (¬ nI f ≤ nI (max (wyT (fx (ftB D) i 0) k n) (wyT (fx (ftB D) i 1) k n)) → _))
              rw [nI_le' (by omega) (by omega)]
              refine ⟨fun z => absurd z (ni_1 (by omega)), fun _ => ⟨fun z => ?_, fun z => ?_⟩⟩
              · rw [if_neg (by omega)] at n1; exact n1
              · rw [if_pos (by omega)] at n1; exact n1
        exact loop n 0 none s2 (by omega) (fun p hp => by cases hp) h2 c2 hp
      · obtain ⟨d, rfl⟩ := d_1 (show 1 ≤ d by omega)
        refine okm251 c d Post _ _ s1 ?_
        rintro s2 rfl
        refine s248 (by omega) _ _ ⟨_, rfl, fun z => ?_, fun _ => ⟨n + 1, ?_⟩⟩
        · rw [hb] at z
          exact absurd z (by decide)
        have loop : ∀ (m i : Nat) (a : Option (Nat × Nat)) (s' : gs), i + m = n → (∀ p, a = some p → p.1 < i ∧ p.2 ≤ 1048576) → MS s1 s' D → fl (asF (ftB D) k n) i m a = some p → wl251_25 c d Post (m + 1) (nI n) (nI k) (asM a).1 (asM a).2 (nI i) s' := by
          intro m
          induction m with
          | zero =>
            intro i a s' hi ha hs e
            have e' : a = some p := e
            subst e'
            unfold wl251_25 wb251_25
            refine ⟨fun _ => ?_, fun z => absurd (le_t (by omega) (by omega) (by omega)) z⟩
            rintro s4 rfl
            exact s157r (by omega) (MS_row0 hs (r1 (nI p.2).toInt64)) (by decide) rfl (fun s7 h7 e7 => ⟨rfl, kk s7 h7⟩)
          | succ m ih =>
            intro i a s' hi ha hs e
            have e' : fl (asF (ftB D) k n) (i + 1) m (asF (ftB D) k n i a) = some p := e
            have hsum := wyT_fx (ftB D) k (n := n) (dy := i) (by omega)
            have w0 := hw i 0
            have w1 := hw i 1
            unfold wl251_25 wb251_25
            refine ⟨fun z => absurd z (le_f (by omega) (by omega) (by omega)), fun _ => s247 (P := fx (ftB D) i 0) (by omega) hs hn hk (nI i) (nI 0) (fxP (by omega) (by decide)) (fun s3 h3 p3 t3 => ⟨_, rfl, s247 (P := fx (ftB D) i 1) (by omega) h3 hn hk (nI i) (nI 1) (fxP (by omega) (by decide)) (fun s4 h4 p4 t4 => ⟨_, rfl, ?_⟩)⟩)⟩
            unfold w251_91
            rw [nI_1, nI_add, hsum, mx_n (by omega) (by omega)]
            have hok := as_ok (ftB D) k n 1 i a ha (fun j _ w => hw j w) (by omega)
            have n1 := ih (i + 1) (asF (ftB D) k n i a) s4 (by omega) hok h4 e'
            refine ⟨fun z => absurd ((nI_eq' (b := 0) (by omega) (by decide)).mp z) e0, fun _ => ?_⟩
            cases a with
            | none =>
              refine ⟨fun _ => n1, fun z => absurd ((nI_lt' (b := 2000000) (by omega) (by decide)).mpr (by omega)) z⟩
            | some jf =>
              obtain ⟨j, f⟩ := jf
              have hj := ha (j, f) rfl
              have e5 : asF (ftB D) k n i (some (j, f)) = if max (wyT (fx (ftB D) i 0) k n) (wyT (fx (ftB D) i 1) k n) < f then some (i, max (wyT (fx (ftB D) i 0) k n) (wyT (fx (ftB D) i 1) k n)) else some (j, f) := rfl
              rw [e5] at n1
              have hf : f ≤ 1048576 := hj.2
              have hj1 : j < i := hj.1
              show (nI (max (wyT (fx (ftB D) i 0) k n) (wyT (fx (ftB D) i 1) k n)) < nI f → _) ∧ (¬ nI (max (wyT (fx (ftB D) i 0) k n) (wyT (fx (ftB D) i 1) k n)) < nI f → _)
              rw [nI_lt' (by omega) (by omega)]
              refine ⟨fun z => ?_, fun z => ?_⟩
              · rw [if_pos z] at n1; exact n1
              · rw [if_neg z] at n1; exact n1
        exact loop n 0 none _ (by omega) (fun p hp => by cases hp) (MS_thr hm 0) hp
  · have hb := bI_f q
    refine glu0 h (x := -1) (fun Post k => ?_) (fun s1 Post hm k => ?_)
    · obtain ⟨d, rfl⟩ := d_1 (show 1 ≤ d by omega)
      refine okm131 c d Post _ _ s (s132 (by omega) _ _ ⟨_, rfl, fun z => k s (XS_rf h.2.1), fun z => ?_⟩)
      rw [hb] at z
      exact absurd rfl z
    · obtain ⟨d, rfl⟩ := d_1 (show 1 ≤ d by omega)
      refine okm251 c d Post _ _ s1 ?_
      rintro s2 rfl
      refine s248 (by omega) _ _ ⟨_, rfl, fun z => k _ (MS_thr hm 0), fun z => ?_⟩
      rw [hb] at z
      exact absurd rfl z
end W5
