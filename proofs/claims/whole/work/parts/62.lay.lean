/-! What the reference lays by and takes back. -/
theorem frA_tr {s s' s'' : gs} {a : Nat} (h : frA s s' a) (h' : frA s' s'' a) : frA s s'' a := by
  obtain ⟨h1, h2, h3, h4, h5⟩ := h
  obtain ⟨g1, g2, g3, g4, g5⟩ := h'
  exact ⟨g1.trans h1, g2.trans h2, fun b hb => (g3 b hb).trans (h3 b hb), g4.trans h4, g5.trans h5⟩
section T2
variable {c : gx} {d : Nat} {Post : Option Value → gs → Prop} {s0 s : gs} {D : DD}
theorem s194 (hd : 1 ≤ d) {r q k N : Nat} (hr : gs_isA r 0 108 = true) (hq : gs_isA q 0 N = true) (hk : k + 108 ≤ N) (hN : N ≤ 2000) (hn : r ≠ q) (kk : ∀ s', frA s s' q → (∀ i, gsA s' q i = if k ≤ i ∧ i < k + 108 then gsA s r (i - k) else gsA s q i) → Post none s') : tE c d 194 [.ref r, .ref q, .int (nI k)] s Post := by
  obtain ⟨d, rfl⟩ := d_1 hd
  have loop : ∀ (m i : Nat) (s1 : gs), i + m = 108 → frA s s1 q → (∀ j, gsA s1 q j = if k ≤ j ∧ j < k + i then gsA s r (j - k) else gsA s q j) → wl194_2 c d Post (m + 1) r q (nI k) (nI i) s1 := by
    intro m
    induction m with
    | zero =>
      intro i s1 hi f h
      refine ⟨fun _ => kk s1 f (by rw [show i = 108 by omega] at h; exact h), fun z => ?_⟩
      have : ¬ nI 108 ≤ nI i := z
      rw [nI_le' (by decide) (by omega)] at this
      omega
    | succ m ih =>
      intro i s1 hi f h
      refine ⟨fun z => ?_, fun _ => ⟨108, hr, vp_in_nI (by omega) (by decide), N, hq, ?_⟩⟩
      · have : nI 108 ≤ nI i := z
        rw [nI_le' (by decide) (by omega)] at this
        omega
      · rw [nI_add, nI_clamp (by omega), nI_clamp (by omega), nI_1]
        refine ⟨vp_in_nI (by omega) (by omega), ?_⟩
        rintro s2 rfl
        refine ih (i + 1) _ (by omega) (frA_A f _ _) (fun j => ?_)
        rw [gsA_A, f.2.2.1 r hn]
        show upd (gsA s1 q) (k + i) (gsA s r i) j = _
        by_cases e : j = k + i
        · rw [e, upd_eq, if_pos ⟨by omega, by omega⟩, show k + i - k = i by omega]
        · rw [upd_ne e, h j]
          by_cases e2 : k ≤ j ∧ j < k + i
          · rw [if_pos e2, if_pos ⟨e2.1, by omega⟩]
          · rw [if_neg e2, if_neg (by omega)]
  exact okm194 c d Post _ _ _ s ⟨109, loop 108 0 s rfl (frA_rf s q) (fun j => by rw [if_neg (by omega)])⟩
theorem s195 (hd : 2 ≤ d) (h : MS s0 s D) {r : Nat} {g : Nat → Int32} (hr : gs_isA r 0 108 = true) (hr' : r = 49 ∨ r = 64) (hg : ∀ i, i < 108 → gsA s r i = g i) (k : ∀ s', MS s0 s' (uP D g) → (∀ b, b ≠ 63 → gsA s' b = gsA s b) → Post none s') : tE c d 195 [.ref 48, .ref r] s Post := by
  obtain ⟨d, rfl⟩ := d_1 (Nat.le_trans (by decide) hd)
  obtain ⟨a1, a2, a3⟩ := h.1.2.2.2.2.2.2.1
  refine okm195 c d Post _ s ?_
  unfold wm195
  rw [a1]
  have e12 : nI (du D) = 12 ↔ du D = 12 := nI_eq' (b := 12) (by omega) (by decide)
  rw [e12]
  -- the end: n what stands before, with its first n at their place
  have fin : ∀ (n : Nat) (s1 : gs), n < 12 → n + 1 = puN (du D) → frM s s1 → (∀ j, j ≠ 26 → gsV s1 48 j = gsV s 48 j) → gsV s1 48 26 = nI n → (∀ b, b ≠ 63 → gsA s1 b = gsA s b) → gsR s1 = gsR s → (∀ i, i < n → ∀ k, k < 108 → gsA s1 63 (108 * i + k) = puU (du D) (dU D) g i k) → (∀ k, k < 108 → puU (du D) (dU D) g n k = g k) → w195_49 c d Post r s1 := by
    intro n s1 hn hn1 f1 f2 f3 f4 f5 f6 f7
    unfold w195_49
    rw [f3, show (108 : Int32) * nI n = nI (108 * n) from pk_mul 108 n]
    refine s194 (N := 1296) (by omega) hr rfl (by omega) (by decide) (by omega) (fun s2 g1 g2 => ⟨rfl, ?_⟩)
    rintro s3 rfl
    obtain ⟨q1, q2, q3, q4, q5⟩ := g1
    rw [q1, f3, nI_1]
    have av : ∀ b, b ≠ 63 → gsA (gs_V s2 48 26 (nI (n + 1))) b = gsA s b := fun b hb => by rw [A_V, q3 b hb, f4 b hb]
    have vv : ∀ j, j ≠ 26 → gsV (gs_V s2 48 26 (nI (n + 1))) 48 j = gsV s 48 j := fun j hj => by rw [V_V, if_pos rfl, if_neg hj, q1, f2 j hj]
    refine k _ ⟨?_, fun b hb => ?_⟩ av
    · obtain ⟨m1, m2, m3, m4, m5, m6, m7, m8, m9, m10, m11⟩ := h.1
      refine ⟨?_, ?_, ?_, ?_, ?_, ?_, ⟨?_, ?_, ?_⟩, ?_, ?_, ?_, ?_⟩
      · unfold MT at *; rw [vv 10 (by decide), av 57 (by decide)]; exact m1
      · unfold ML at *; rw [vv 1 (by decide), av 50 (by decide), av 51 (by decide)]; exact m2
      · unfold MR at *; rw [vv 22 (by decide), av 61 (by decide)]; exact m3
      · unfold MD at *; rw [av 52 (by decide), av 53 (by decide)]; exact m4
      · unfold MN at *; rw [av 54 (by decide), av 55 (by decide), av 56 (by decide)]; exact m5
      · unfold MG at *; rw [av 49 (by decide)]; exact m6
      · show nI (n + 1) = nI (puN (du D))
        rw [hn1]
      · show puN (du D) ≤ 12
        omega
      · intro i hi kk hk
        have hi' : i < puN (du D) := hi
        show gsA s2 63 (108 * i + kk) = puU (du D) (dU D) g i kk
        rw [g2]
        by_cases e : i = n
        · subst e
          have hrg : gsA s1 r kk = gsA s r kk := by rw [f4 r (by omega)]
          rw [if_pos ⟨by omega, by omega⟩, show 108 * i + kk - 108 * i = kk by omega, hrg, hg kk hk, f7 kk hk]
        · rw [if_neg (by omega)]
          exact f6 i (by omega) kk hk
      · unfold MK at *; rw [av 71 (by decide), av 72 (by decide)]; exact m8
      · unfold MW at *; rw [vv 12 (by decide), R_V, q4, f5]; exact m9
      · unfold MO at *; rw [vv 34 (by decide), av 69 (by decide)]; exact m10
      · unfold MZ at *; rw [av 65 (by decide)]; exact m11
    · have h1 := h.2 b hb
      have h2 := f1 b hb
      rw [show gsV (gs_V s2 48 26 (nI (n + 1))) b = gsV s1 b from by rw [← q1]; funext j; rw [V_V, if_neg (by omega)], E_V, q2, av b (by omega), R_V, q4, f5, h2.1, h2.2.1]
      exact h1
  refine ⟨fun z => ?_, fun z => ?_⟩
  · have loop : ∀ (m i : Nat) (s1 : gs), i + m = 1188 → frA s s1 63 → (∀ j, gsA s1 63 j = if j < i then gsA s 63 (j + 108) else gsA s 63 j) → wl195_11 c d Post (m + 1) r (nI i) s1 := by
      intro m
      induction m with
      | zero =>
        intro i s1 hi f hh
        refine ⟨fun _ => ?_, fun y => ?_⟩
        · rintro s2 rfl
          have ei : i = 1188 := by omega
          subst ei
          obtain ⟨q1, q2, q3, q4, q5⟩ := f
          refine fin 11 _ (by decide) (by unfold puN; rw [z]; rfl) ?_ (fun j hj => by rw [V_V, if_pos rfl, if_neg hj, q1]) ?_ (fun b hb => by rw [A_V, q3 b hb]) q4 ?_ ?_
          · intro b hb
            rw [E_V, A_V, R_V, q2, q3 b (by omega), q4]
            refine ⟨?_, rfl, rfl, rfl⟩
            rw [← q1]
            funext j
            rw [V_V, if_neg (by omega)]
          · rw [V_V, if_pos rfl, if_pos rfl, q1, a1, z]
            rfl
          · intro i hi kk hk
            rw [A_V, hh, if_pos (by omega)]
            unfold puU
            rw [if_neg (by omega), if_neg (by omega), ← a3 (i + 1) (by omega) kk hk]
            congr 1
            omega
          · intro kk hk
            unfold puU
            rw [if_neg (by omega), if_pos rfl]
        · have : ¬ nI 1188 ≤ nI i := y
          rw [nI_le' (by decide) (by omega)] at this
          omega
      | succ m ih =>
        intro i s1 hi f hh
        refine ⟨fun y => ?_, fun _ => ?_⟩
        · have : nI 1188 ≤ nI i := y
          rw [nI_le' (by decide) (by omega)] at this
          omega
        · rw [show nI i + 108 = nI (i + 108) from nI_add i 108, nI_clamp (by omega), nI_clamp (by omega), nI_1]
          refine ⟨vp_in_nI (by omega) (by decide), vp_in_nI (by omega) (by decide), ?_⟩
          rintro s2 rfl
          refine ih (i + 1) _ (by omega) (frA_A f _ _) (fun j => ?_)
          rw [gsA_A]
          show upd (gsA s1 63) i (gsA s1 63 (i + 108)) j = _
          by_cases e : j = i
          · rw [e, upd_eq, hh, if_neg (by omega), if_pos (by omega)]
          · rw [upd_ne e, hh]
            by_cases e2 : j < i
            · rw [if_pos e2, if_pos (by omega)]
            · rw [if_neg e2, if_neg (by omega)]
    exact ⟨1189, loop 1188 0 s rfl (frA_rf s 63) (fun j => by rw [if_neg (by omega)])⟩
  · refine fin (du D) s (by omega) (by unfold puN; rw [if_pos (by omega)]) (frM_rf s) (fun _ _ => rfl) a1 (fun _ _ => rfl) rfl ?_ ?_
    · intro i hi kk hk
      unfold puU
      rw [if_pos (by omega), if_neg (by omega)]
      exact a3 i hi kk hk
    · intro kk hk
      unfold puU
      rw [if_pos (by omega), if_pos rfl]
/-- a copy of 108 into now -/
theorem cpy {s : gs} {g : Nat → Int32} {a : Nat → Int32} (hg : ∀ i, 108 ≤ i → g i = 0) (ha : ∀ i, 108 ≤ i → a i = 0) (h : ∀ i, i < 108 → a i = g i) : a = g := by
  funext i
  by_cases e : i < 108
  · exact h i e
  · rw [hg i (by omega), ha i (by omega)]
theorem s214 (hd : 1 ≤ d) (h : MS s0 s D) (hz : ∀ i, 108 ≤ i → dg D i = 0) (hz' : 0 < du D → ∀ i, 108 ≤ i → dU D (du D - 1) i = 0) (k0 : du D = 0 → ∀ s', MS s0 s' D → Post (some (.int (-1))) s') (k : 0 < du D → ∀ s', MS s0 s' (uU (uG D (dU D (du D - 1))) (du D - 1) (dU D)) → Post (some (.int (nI (du D - 1)))) s') : tE c d 214 [.ref 48] s Post := by
  obtain ⟨d, rfl⟩ := d_1 hd
  have h1 := MS_thr h 0
  refine okm214 c d Post s ?_
  rintro s1 rfl
  revert h1
  generalize gs_V s 48 13 0 = s1
  intro h1
  obtain ⟨a1, a2, a3⟩ := h1.1.2.2.2.2.2.2.1
  have e0 : nI (du D) = 0 ↔ du D = 0 := nI_eq' (b := 0) (by omega) (by decide)
  rw [a1, e0]
  refine ⟨fun z => k0 z _ h1, fun z => ?_⟩
  rw [show nI (du D) - 1 = nI (du D - 1) from pk_sub (a := du D) (b := 1) (by omega)]
  rintro s2 rfl
  have h2 : MS s0 (gs_V s1 48 26 (nI (du D - 1))) (uU D (du D - 1) (dU D)) := by
    obtain ⟨⟨m1, m2, m3, m4, m5, m6, m7, m8, m9, m10⟩, hf⟩ := h1
    exact ⟨⟨m1, m2, m3, m4, m5, m6, ⟨rfl, by show du D - 1 ≤ 12; omega, fun i hi => a3 i (by have : i < du D - 1 := hi; omega)⟩, m8, m9, m10⟩, frM_V hf (by decide) _ _⟩
  have b3 : ∀ kk, kk < 108 → gsA (gs_V s1 48 26 (nI (du D - 1))) 63 (108 * (du D - 1) + kk) = dU D (du D - 1) kk := fun kk hk => a3 (du D - 1) (by omega) kk hk
  have v26 : gsV (gs_V s1 48 26 (nI (du D - 1))) 48 26 = nI (du D - 1) := rfl
  have g49 : gsA (gs_V s1 48 26 (nI (du D - 1))) 49 = dg D := h2.1.2.2.2.2.2.1
  revert h2 b3 v26 g49
  generalize gs_V s1 48 26 (nI (du D - 1)) = s2
  intro h2 b3 v26 g49
  have loop : ∀ (m i : Nat) (s3 : gs), i + m = 108 → frA s2 s3 49 → (∀ j, gsA s3 49 j = if j < i then dU D (du D - 1) j else dg D j) → wl214_26 c d Post (m + 1) (nI i) s3 := by
    intro m
    induction m with
    | zero =>
      intro i s3 hi f hh
      refine ⟨fun _ => ?_, fun y => ?_⟩
      · rw [f.1, v26]
        refine k (by omega) s3 (MS_now h2 f ?_)
        have ei : i = 108 := by omega
        subst ei
        refine cpy (s := s3) (hz' (by omega)) (fun j hj => ?_) (fun j hj => ?_)
        · rw [hh, if_neg (by omega), hz j hj]
        · rw [hh, if_pos hj]
          rfl
      · have : ¬ nI 108 ≤ nI i := y
        rw [nI_le' (by decide) (by omega)] at this
        omega
    | succ m ih =>
      intro i s3 hi f hh
      refine ⟨fun y => ?_, fun _ => ?_⟩
      · have : nI 108 ≤ nI i := y
        rw [nI_le' (by decide) (by omega)] at this
        omega
      · rw [f.1, v26, show (108 : Int32) * nI (du D - 1) = nI (108 * (du D - 1)) from pk_mul 108 _, nI_add, nI_clamp (by omega), nI_clamp (by omega), nI_1]
        refine ⟨vp_in_nI (by omega) (by decide), vp_in_nI (by omega) (by decide), ?_⟩
        rintro s4 rfl
        refine ih (i + 1) _ (by omega) (frA_A f _ _) (fun j => ?_)
        rw [gsA_A, f.2.2.1 63 (by decide), b3 i (by omega)]
        show upd (gsA s3 49) i (dU D (du D - 1) i) j = _
        by_cases e : j = i
        · rw [e, upd_eq, if_pos (by omega)]
        · rw [upd_ne e, hh]
          by_cases e2 : j < i
          · rw [if_pos e2, if_pos (by omega)]
          · rw [if_neg e2, if_neg (by omega)]
  exact ⟨109, loop 108 0 s2 rfl (frA_rf s2 49) (fun j => by rw [if_neg (by omega), g49])⟩
theorem s93 (hd : 3 ≤ d) (h : XS s0 s D) (k0 : du D = 0 → Post (some (.int (-1))) s) (k : 0 < du D → ∀ s', XS s0 s' (uU (uG D (dU D (du D - 1))) (du D - 1) (dU D)) → Post (some (.int (nI (du D - 1)))) s') : tE c d 93 [.ref 0] s Post := by
  obtain ⟨d, rfl⟩ := d_1 (Nat.le_trans (by decide) hd)
  refine okm93 c d Post s (s42 (by omega) h (fun z => ⟨_, rfl, fun _ => k0 z, fun y => absurd rfl y⟩) (fun z s' h' => ⟨_, rfl, fun y => absurd y (by decide), fun _ => ?_⟩))
  have := h'.1.2.2.2.2.2.2.1.1
  show Post (some (.int (gsV s' 17 2))) s'
  rw [this]
  exact k z s' h'
end T2
