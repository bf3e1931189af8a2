/-! The three readers that may throw: field, consul, row, over states. -/
def fdV (D : DD) (n k : Nat) : Int32 := if k = 0 then dh D n else if k = 1 then rvb D n (n + 1) else if k = 2 then (if dg D 1 = nI n then 1 else 0) else (if dg D 2 = nI n then 1 else 0)
def coV (D : DD) (n k : Nat) : Int32 := if k = 0 then db D n else if k = 1 then dl D n else if k = 2 then db D n / 3 + 1 else if k = 3 then dg D (6 + n) else wsh D n (dg D 0)
theorem sw_n {k N : Nat} (hk : k ≤ N) (hN : N < 100) : ¬ ((nI k).toInt < 0 ∨ (N : Int) < (nI k).toInt) := by
  rw [nI_toInt (by omega)]
  omega
theorem nI_ne {a b : Nat} (ha : a < 2 ^ 31) (hb : b < 2 ^ 31) (h : a ≠ b) : ¬ nI a = nI b := fun z => h (by
  have := congrArg Int32.toNatClampNeg z
  rwa [nI_clamp ha, nI_clamp hb] at this)
section RD
variable {c : gx} {d : Nat} {s s0 : gs} {D : DD} {Post : Option Value → gs → Prop}
theorem x80 (hd : 4 ≤ d) (h : QX s D) {n k : Nat} (hn : n < dF D) (hk : k ≤ 3) (K : Post (some (.int (fdV D n k))) s) : tE c d 80 [.ref 0, .int (nI n), .int (nI k)] s Post := by
  obtain ⟨d, rfl⟩ := d_1 (show 1 ≤ d by omega)
  have hL := h.2.1
  have hF := hL.1.2
  have hG : xg s 14 = dg D := h.2.2.2.2.2.1
  have g1 : gsV s 14 1 = dg D 1 := congrFun hG 1
  have g2 : gsV s 14 2 = dg D 2 := congrFun hG 2
  refine okm80 c d Post _ _ s (s14 (by omega) hL _ ⟨_, rfl, fun z => ?_, fun _ => ⟨fun q => ?_, fun q => ?_, fun q => ?_, fun q => ?_, fun q => ?_⟩⟩)
  · rw [bI_t ((fld_nI hL.1 (by omega)).mpr hn)] at z
    cases z
  · have e : k = 0 := Classical.byContradiction fun z => nI_ne (b := 0) (by omega) (by decide) z q
    subst e
    exact s15 (by omega) hL hn ⟨_, rfl, K⟩
  · have e : k = 1 := Classical.byContradiction fun z => nI_ne (b := 1) (by omega) (by decide) z q
    subst e
    rw [show nI n + 1 = nI (n + 1) from nI_add n 1]
    exact s18 (by omega) hL (by omega) (by omega) ⟨_, rfl, K⟩
  · have e : k = 2 := Classical.byContradiction fun z => nI_ne (b := 2) (by omega) (by decide) z q
    subst e
    rw [g1]
    have K' : Post (some (.int (if dg D 1 = nI n then 1 else 0))) s := K
    exact ⟨fun z => by rw [if_pos z] at K'; exact K', fun z => by rw [if_neg z] at K'; exact K'⟩
  · have e : k = 3 := Classical.byContradiction fun z => nI_ne (b := 3) (by omega) (by decide) z q
    subst e
    rw [g2]
    have K' : Post (some (.int (if dg D 2 = nI n then 1 else 0))) s := K
    exact ⟨fun z => by rw [if_pos z] at K'; exact K', fun z => by rw [if_neg z] at K'; exact K'⟩
  · exact sw_n hk (by decide) q
theorem x81 (hd : 4 ≤ d) (h : QX s D) {n k : Nat} (hn : n < 2) (hk : k ≤ 4) (K : Post (some (.int (coV D n k))) s) : tE c d 81 [.ref 0, .int (nI n), .int (nI k)] s Post := by
  obtain ⟨d, rfl⟩ := d_1 (show 1 ≤ d by omega)
  have hD := h.2.2.2.1
  have hN := h.2.2.2.2.1
  have hG : xg s 14 = dg D := h.2.2.2.2.2.1
  have g0 : gsV s 14 0 = dg D 0 := congrFun hG 0
  have hC : gs_isC (10 + 2 * n) 2 = true := by
    have : n = 0 ∨ n = 1 := by omega
    rcases this with rfl | rfl <;> rfl
  have d0 : gsV s (10 + 2 * n) 0 = db D n := by
    have : n = 0 ∨ n = 1 := by omega
    rcases this with rfl | rfl
    · exact hD.1
    · exact hD.2.1
  have d1 : gsV s (10 + 2 * n) 1 = dl D n := by
    have : n = 0 ∨ n = 1 := by omega
    rcases this with rfl | rfl
    · exact hD.2.2.1
    · exact hD.2.2.2
  refine okm81 c d Post _ _ s (s147 (by omega) _ ⟨_, rfl, fun z => ?_, fun _ => ⟨fun q => ?_, fun q => ?_, fun q => ?_, fun q => ?_, fun q => ?_, fun q => ?_⟩⟩)
  · rw [bI_t (by have : n = 0 ∨ n = 1 := by omega
                 rcases this with rfl | rfl
                 · exact Or.inl rfl
                 · exact Or.inr rfl)] at z
    cases z
  · have e : k = 0 := Classical.byContradiction fun z => nI_ne (b := 0) (by omega) (by decide) z q
    subst e
    exact s148' (by omega) hn ⟨_, rfl, hC, by rw [d0]; exact K⟩
  · have e : k = 1 := Classical.byContradiction fun z => nI_ne (b := 1) (by omega) (by decide) z q
    subst e
    exact s148' (by omega) hn ⟨_, rfl, hC, by rw [d1]; exact K⟩
  · have e : k = 2 := Classical.byContradiction fun z => nI_ne (b := 2) (by omega) (by decide) z q
    subst e
    exact s148' (by omega) hn ⟨_, rfl, hC, s31 (by omega) hD hn ⟨_, rfl, K⟩⟩
  · have e : k = 3 := Classical.byContradiction fun z => nI_ne (b := 3) (by omega) (by decide) z q
    subst e
    exact s49 (by omega) rfl hn ⟨_, rfl, by rw [hG]; exact K⟩
  · have e : k = 4 := Classical.byContradiction fun z => nI_ne (b := 4) (by omega) (by decide) z q
    subst e
    exact s148' (by omega) hn ⟨_, rfl, hC, by rw [g0]; exact s30 (by omega) hN hn _ ⟨_, rfl, K⟩⟩
  · exact sw_n hk (by decide) q
theorem x146 (hd : 1 ≤ d) (h : QX s D) {n : Nat} (hn : n < dm D) (K : Post (some (.long (dR D n))) s) : tE c d 146 [.ref 0, .int (nI n)] s Post := by
  obtain ⟨d, rfl⟩ := d_1 hd
  obtain ⟨h1, h2, h3⟩ : XW s D := h.2.2.2.2.2.2.2.2.1
  refine okm146 c d Post _ s ?_
  unfold wm146
  rw [h2]
  refine ⟨fun z => nI_pos (by omega) z, fun _ => ⟨fun z => ?_, fun _ => ⟨fun _ => ⟨vp_in_nI (by omega) (by decide), ?_⟩, fun z => z ((nI_lt' (b := 32) (by omega) (by decide)).mpr (by omega))⟩⟩⟩
  · rw [nI_le' (by omega) (by omega)] at z
    omega
  · rw [nI_clamp (by omega), h3 n hn]
    exact K
theorem m156 (hd : 1 ≤ d) (K : Post (some (.int 0)) (gs_V s 48 13 1)) : tE c d 156 [.ref 48] s Post := by
  obtain ⟨d, rfl⟩ := d_1 hd
  exact okm156 c d Post s (fun s1 e => by rw [e]; exact K)
theorem m153 (hd : 1 ≤ d) (K : Post (some (.int (gsV s 48 13))) s) : tE c d 153 [.ref 48] s Post := by
  obtain ⟨d, rfl⟩ := d_1 hd
  exact okm153 c d Post s K
theorem m190 (hd : 4 ≤ d) (h : MS s0 s D) (x y : Int32) (K : ∀ n k, n < dF D → k ≤ 3 → x = nI n → y = nI k → Post (some (.int (fdV D n k))) (gs_V s 48 13 0)) (K0 : ¬ (fld D x ∧ 0 ≤ y ∧ y ≤ 3) → Post (some (.int 0)) (gs_V (gs_V s 48 13 0) 48 13 1)) : tE c d 190 [.ref 48, .int x, .int y] s Post := by
  obtain ⟨d, rfl⟩ := d_1 (show 1 ≤ d by omega)
  refine okm190 c d Post x y s (fun s1 e => ?_)
  have h1 : MS s0 s1 D := by rw [e]; exact MS_thr h 0
  rw [← e] at K K0
  clear e
  have hL := h1.1.2.1
  have hF := hL.1.2
  have hG : gsA s1 49 = dg D := h1.1.2.2.2.2.2.1
  refine s158 (by omega) hL _ ⟨_, rfl, fun z => ?_, fun z => s154 (by omega) _ _ _ ⟨_, rfl, fun z2 => ?_, fun z2 => ?_⟩⟩
  · rw [bI_0] at z
    exact m156 (by omega) ⟨_, rfl, K0 (fun q => z q.1)⟩
  · rw [bI_0] at z2
    exact m156 (by omega) ⟨_, rfl, K0 (fun q => z2 q.2)⟩
  · rw [bI_0, Classical.not_not] at z z2
    obtain ⟨n, hn, rfl⟩ := fld_nat hL.1 z
    obtain ⟨k, hk, rfl⟩ := i_nat z2.1
    have hk3 : k ≤ 3 := (nI_le' (b := 3) hk (by decide)).mp z2.2
    have K1 := K n k hn hk3 rfl rfl
    have p1 : gsA s1 50 (nI n).toNatClampNeg = dh D n := by rw [nI_clamp (by omega)]; exact hL.2.2.1 n hn
    refine ⟨fun q => ?_, fun q => ⟨fun q1 => ?_, fun q1 => ⟨fun q2 => ?_, fun q2 => ?_⟩⟩⟩
    · have e : k = 0 := Classical.byContradiction fun z => nI_ne (b := 0) (by omega) (by decide) z q
      subst e
      refine ⟨vp_in_nI (by omega) (by decide), ?_⟩
      rw [p1]
      exact K1
    · have e : k = 1 := Classical.byContradiction fun z => nI_ne (b := 1) (by omega) (by decide) z q1
      subst e
      have K2 : Post (some (.int (rvb D n (n + 1)))) s1 := K1
      unfold rvb at K2
      rw [hL.2.1, show nI n + 1 = nI (n + 1) from nI_add n 1, nI_le' (by omega) (by omega)]
      refine ⟨fun q3 => ?_, fun q3 => ⟨vp_in_nI (by omega) (by decide), ?_⟩⟩
      · rw [if_neg (fun z => by omega)] at K2
        exact K2
      · rw [nI_clamp (by omega), hL.2.2.2 n (by omega)]
        rw [show min n (n + 1) = n by omega] at K2
        cases hr : dr D n with
        | true =>
          rw [if_pos ⟨Or.inl rfl, hn, by omega, hr⟩] at K2
          exact ⟨fun z => (by cases z), fun _ => K2⟩
        | false =>
          rw [if_neg (fun z => by rw [hr] at z; cases z.2.2.2)] at K2
          exact ⟨fun _ => K2, fun z => absurd rfl z⟩
    · have e : k = 2 := Classical.byContradiction fun z => nI_ne (b := 2) (by omega) (by decide) z q2
      subst e
      have K2 : Post (some (.int (if dg D 1 = nI n then 1 else 0))) s1 := K1
      refine ⟨108, rfl, vp_in_nI (n := 1) (by decide) (by decide), ?_⟩
      rw [hG]
      exact ⟨fun z => by rw [if_pos (show dg D 1 = nI n from z)] at K2; exact K2, fun z => by rw [if_neg (show ¬ dg D 1 = nI n from z)] at K2; exact K2⟩
    · have e : k = 3 := by
        have a0 : k ≠ 0 := fun z => q (by rw [z]; rfl)
        have a1 : k ≠ 1 := fun z => q1 (by rw [z]; rfl)
        have a2 : k ≠ 2 := fun z => q2 (by rw [z]; rfl)
        omega
      subst e
      have K2 : Post (some (.int (if dg D 2 = nI n then 1 else 0))) s1 := K1
      refine ⟨108, rfl, vp_in_nI (n := 2) (by decide) (by decide), ?_⟩
      rw [hG]
      exact ⟨fun z => by rw [if_pos (show dg D 2 = nI n from z)] at K2; exact K2, fun z => by rw [if_neg (show ¬ dg D 2 = nI n from z)] at K2; exact K2⟩
theorem m191 (hd : 4 ≤ d) (h : MS s0 s D) (x y : Int32) (K : ∀ n k, n < 2 → k ≤ 4 → x = nI n → y = nI k → Post (some (.int (coV D n k))) (gs_V s 48 13 0)) (K0 : ¬ ((x = 0 ∨ x = 1) ∧ 0 ≤ y ∧ y ≤ 4) → Post (some (.int 0)) (gs_V (gs_V s 48 13 0) 48 13 1)) : tE c d 191 [.ref 48, .int x, .int y] s Post := by
  obtain ⟨d, rfl⟩ := d_1 (show 1 ≤ d by omega)
  refine okm191 c d Post x y s (fun s1 e => ?_)
  have h1 : MS s0 s1 D := by rw [e]; exact MS_thr h 0
  rw [← e] at K K0
  clear e
  have hD := h1.1.2.2.2.1
  have hN := h1.1.2.2.2.2.1
  have hG : gsA s1 49 = dg D := h1.1.2.2.2.2.2.1
  refine s159 (by omega) _ ⟨_, rfl, fun z => ?_, fun z => s154 (by omega) _ _ _ ⟨_, rfl, fun z2 => ?_, fun z2 => ?_⟩⟩
  · rw [bI_0] at z
    exact m156 (by omega) ⟨_, rfl, K0 (fun q => z q.1)⟩
  · rw [bI_0] at z2
    exact m156 (by omega) ⟨_, rfl, K0 (fun q => z2 q.2)⟩
  · rw [bI_0, Classical.not_not] at z z2
    obtain ⟨n, hn, rfl⟩ := con_n z
    obtain ⟨k, hk, rfl⟩ := i_nat z2.1
    have hk4 : k ≤ 4 := (nI_le' (b := 4) hk (by decide)).mp z2.2
    have K1 := K n k hn hk4 rfl rfl
    refine ⟨fun q => ?_, fun q => ?_, fun q => ?_, fun q => ?_, fun q => ?_⟩
    · have e : k = 0 := Classical.byContradiction fun z => nI_ne (b := 0) (by omega) (by decide) z q
      subst e
      refine ⟨vp_in_nI hn (by decide), ?_⟩
      rw [nI_clamp (by omega), (hD n hn).1]
      exact K1
    · have e : k = 1 := Classical.byContradiction fun z => nI_ne (b := 1) (by omega) (by decide) z q
      subst e
      refine ⟨vp_in_nI hn (by decide), ?_⟩
      rw [nI_clamp (by omega), (hD n hn).2]
      exact K1
    · have e : k = 2 := Classical.byContradiction fun z => nI_ne (b := 2) (by omega) (by decide) z q
      subst e
      exact s186 (by omega) hn ⟨_, rfl, by rw [(hD n hn).1]; exact K1⟩
    · have e : k = 3 := Classical.byContradiction fun z => nI_ne (b := 3) (by omega) (by decide) z q
      subst e
      rw [show (6 : Int32) + nI n = nI (6 + n) from nI_add 6 n]
      refine ⟨vp_in_nI (by omega) (by decide), ?_⟩
      rw [nI_clamp (by omega), hG]
      exact K1
    · have e : k = 4 := by
        rw [nI_toInt (by omega)] at q
        omega
      subst e
      refine ⟨vp_in_nI (n := 0) (by decide) (by decide), s174 (by omega) hN hn _ ⟨_, rfl, ?_⟩⟩
      rw [hG]
      exact K1
theorem m263 (hd : 2 ≤ d) (h : MS s0 s D) (x : Int32) (K : ∀ n, n < dm D → x = nI n → Post (some (.long (dR D n))) (gs_V s 48 13 0)) (K0 : ¬ (0 ≤ x ∧ x < nI (dm D)) → Post (some (.long 0)) (gs_V (gs_V s 48 13 0) 48 13 1)) : tE c d 263 [.ref 48, .int x] s Post := by
  obtain ⟨d, rfl⟩ := d_1 (show 1 ≤ d by omega)
  refine okm263 c d Post x s (fun s1 e => ?_)
  have h1 : MS s0 s1 D := by rw [e]; exact MS_thr h 0
  rw [← e] at K K0
  clear e
  obtain ⟨w1, w2, w3⟩ : MW s1 D := h1.1.2.2.2.2.2.2.2.2.1
  have hle : x ≤ nI (dm D) - 1 ↔ x < nI (dm D) := by
    rw [i_le, i_lt, Int32.toInt_sub, nI_toInt (by omega)]
    have e1 : (1 : Int32).toInt = 1 := rfl
    have := Int32.le_toInt x
    rw [e1, Int.bmod_eq_of_le (by omega) (by omega)]
    omega
  rw [w2]
  refine s154 (by omega) _ _ _ ⟨_, rfl, fun z => ?_, fun z => ?_⟩
  · rw [bI_0, hle] at z
    exact m156 (by omega) ⟨_, rfl, K0 z⟩
  · rw [bI_0, Classical.not_not, hle] at z
    obtain ⟨n, hn, rfl⟩ := i_nat z.1
    have hnd : n < dm D := (nI_lt' hn (by omega)).mp z.2
    refine ⟨vp_in_nI (by omega) (by decide), ?_⟩
    rw [nI_clamp (by omega), w3 n hnd]
    exact K n hnd rfl
end RD
