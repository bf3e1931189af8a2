/-! Nights, copies, sickness, lent days, provisions, losses. -/
theorem vpd {i : Int32} {n : Nat} (h : decide (¬ (i < 0 ∨ n ≤ i.toNatClampNeg)) = true) : vp_in i n := by
  have := of_decide_eq_true h
  exact this
theorem xg_ca (i : Nat) : i < 6 ∨ i = 6 ∨ i = 7 ∨ (8 ≤ i ∧ i < 72) ∨ (72 ≤ i ∧ i < 108) ∨ 108 ≤ i := by omega
theorem xg_lo (s : gs) (a : Nat) {i : Nat} (h : i < 6) : xg s a i = gsV s a i := by
  unfold xg
  rw [if_pos h]
theorem xg_s6 (s : gs) (a : Nat) : xg s a 6 = gsV s a 8 := rfl
theorem xg_s7 (s : gs) (a : Nat) : xg s a 7 = gsV s a 9 := rfl
theorem xg_ea (s : gs) (a : Nat) {i : Nat} (h1 : 8 ≤ i) (h2 : i < 72) : xg s a i = lbit (gsE s a 6) (i - 8) := by
  unfold xg
  rw [if_neg (by omega), if_neg (by omega), if_neg (by omega), if_pos h2]
theorem xg_la (s : gs) (a : Nat) {i : Nat} (h1 : 72 ≤ i) (h2 : i < 108) : xg s a i = lbit (gsE s a 7) (i - 72) := by
  unfold xg
  rw [if_neg (by omega), if_neg (by omega), if_neg (by omega), if_neg (by omega), if_pos h2]
theorem xg_ou (s : gs) (a : Nat) {i : Nat} (h1 : 108 ≤ i) : xg s a i = 0 := by
  unfold xg
  rw [if_neg (by omega), if_neg (by omega), if_neg (by omega), if_neg (by omega), if_neg (by omega)]
def takesG (g : Nat → Int32) : Int32 := g 3 / 100 + 1
def nightG (g : Nat → Int32) : Nat → Int32 := if takesG g ≤ g 5 then upd (upd g 5 (g 5 - takesG g)) 0 (g 0 + 1) else upd (upd (upd g 5 0) 3 (g 3 - g 3 / 10)) 0 (g 0 + 1)
theorem xg_V8 (s : gs) (a : Nat) (x : Int32) : xg (gs_V s a 8 x) a = upd (xg s a) 6 x := by
  funext i
  unfold xg upd
  rw [V_V, V_V, V_V, E_V]
  simp only [if_pos]
  by_cases h6 : i < 6
  · have e6 : ¬ i = 6 := by omega
    have e8 : ¬ i = 8 := by omega
    simp [h6, e6, e8]
  · by_cases e6 : i = 6
    · simp [e6]
    · simp [h6, e6]
theorem xg_V9 (s : gs) (a : Nat) (x : Int32) : xg (gs_V s a 9 x) a = upd (xg s a) 7 x := by
  funext i
  unfold xg upd
  rw [V_V, V_V, V_V, E_V]
  simp only [if_pos]
  by_cases h6 : i < 6
  · have e6 : ¬ i = 7 := by omega
    have e8 : ¬ i = 9 := by omega
    simp [h6, e6, e8]
  · by_cases e6 : i = 6
    · simp [e6]
    · by_cases e7 : i = 7
      · simp [e7]
      · simp [h6, e6, e7]
theorem xg_0 (s : gs) (a i : Nat) (h : i < 6) : gsV s a i = xg s a i := by
  unfold xg
  rw [if_pos h]
theorem xg_bit (s : gs) (a i : Nat) (h : 8 ≤ i) : xg s a i = 0 ∨ xg s a i = 1 := by
  unfold xg lbit
  rw [if_neg (by omega), if_neg (by omega), if_neg (by omega)]
  split
  · split
    · exact Or.inr rfl
    · exact Or.inl rfl
  · split
    · split
      · exact Or.inr rfl
      · exact Or.inl rfl
    · exact Or.inl rfl
theorem upd_ne {f : Nat → Int32} {k j : Nat} {x : Int32} (h : j ≠ k) : upd f k x j = f j := pk_un h
theorem upd_eq {f : Nat → Int32} {k : Nat} {x : Int32} : upd f k x k = x := pk_us
theorem bits_x (e : Int64) (k : Nat) (hk : k < 64) (i : Nat) : (e ^^^ (1 <<< ((nI k).toInt64 &&& 63))).toBitVec.getLsbD i = (e.toBitVec.getLsbD i ^^ decide (i = k)) := by
  have h1 : ∀ k, k < 64 → ((1 : Int64) <<< ((nI k).toInt64 &&& 63)).toBitVec = BitVec.twoPow 64 k := by decide +kernel
  show (e.toBitVec ^^^ ((1 : Int64) <<< ((nI k).toInt64 &&& 63)).toBitVec).getLsbD i = _
  rw [h1 k hk, BitVec.getLsbD_xor, BitVec.getLsbD_twoPow]
  congr 1
  by_cases e1 : i = k
  · subst e1; simp [hk]
  · have : ¬ k = i := fun z => e1 z.symm
    simp [e1, this]
/-- lent days from a day on, summed -/
def lsum (g : Nat → Int32) : Nat → Nat → Int32 → Int32
  | _, 0, a => a
  | i, m + 1, a => lsum g (i + 1) m (a + g (8 + i))
def lentG (g : Nat → Int32) (D : Nat) : Int32 := lsum g D (100 - D) 0
theorem lsum_cong {g g' : Nat → Int32} : ∀ (m i : Nat) (a : Int32), (∀ k, i ≤ k → k < i + m → g (8 + k) = g' (8 + k)) → lsum g i m a = lsum g' i m a
  | 0, _, _, _ => rfl
  | m + 1, i, a, h => by
    show lsum g (i + 1) m (a + g (8 + i)) = lsum g' (i + 1) m (a + g' (8 + i))
    rw [h i (Nat.le_refl _) (by omega)]
    exact lsum_cong m (i + 1) _ (fun k h1 h2 => h k (by omega) (by omega))
section S2
variable {c : gx} {d : Nat} {Post : Option Value → gs → Prop} {s : gs}
theorem takes_max {M : Nat} (hM : M ≤ 9999) {x : Int32} (hx : x = nI M) : (if 1 < x / 100 + 1 then x / 100 + 1 else 1) = x / 100 + 1 := by
  have e : x / 100 + 1 = nI (M / 100 + 1) := by
    rw [hx]
    have : nI M / 100 = nI (M / 100) := pk_div (a := M) (d := 100) (by omega) (by decide) (by decide)
    rw [this, nI_1]
  rw [e]
  by_cases h : 1 < nI (M / 100 + 1)
  · rw [if_pos h]
  · rw [if_neg h]
    have : ¬ nI 1 < nI (M / 100 + 1) := h
    rw [nI_ltI (by decide) (by omega)] at this
    have e2 : M / 100 = 0 := by omega
    rw [e2]
    rfl
theorem s57 (hd : 1 ≤ d) {r M : Nat} (hr : gs_isC r 6 = true) (hM : M ≤ 9999) (hm : xg s r 3 = nI M) (k : Post (some (.int (takesG (xg s r)))) s) : tE c d 57 [.ref r] s Post := by
  obtain ⟨d, rfl⟩ := d_1 hd
  refine okm57 c d Post r s ⟨hr, ?_⟩
  rw [xg_0 s r 3 (by decide), takes_max hM hm]
  exact k
theorem s58 (hd : 2 ≤ d) {r M : Nat} (hr : gs_isC r 6 = true) (hM : M ≤ 9999) (hm : xg s r 3 = nI M) (k : ∀ s', frV s s' r → xg s' r = nightG (xg s r) → Post none s') : tE c d 58 [.ref r] s Post := by
  obtain ⟨d, rfl⟩ := d_1 (Nat.le_trans (by decide) hd)
  refine okm58 c d Post r s ⟨hr, s57 (by omega) hr hM hm ⟨_, rfl, hr, fun z => ?_, fun z => ?_⟩⟩
  · refine ⟨hr, hr, ?_⟩
    rintro s1 rfl
    refine ⟨hr, hr, ?_⟩
    rintro s2 rfl
    refine k _ (frV_V (frV_V (frV_rf s r) _ _) _ _) ?_
    rw [xg_V _ _ _ _ (by decide), xg_V _ _ _ _ (by decide), xg_0 _ r 0 (by decide), xg_V _ _ _ _ (by decide), upd_ne (by decide)]
    rw [xg_0 s r 5 (by decide)] at z ⊢
    unfold nightG
    rw [if_pos z]
  · refine ⟨hr, ?_⟩
    rintro s1 rfl
    refine ⟨hr, hr, hr, ?_⟩
    rintro s2 rfl
    refine ⟨hr, hr, ?_⟩
    rintro s3 rfl
    refine k _ (frV_V (frV_V (frV_V (frV_rf s r) _ _) _ _) _ _) ?_
    rw [xg_V _ _ _ _ (by decide), xg_V _ _ _ _ (by decide), xg_V _ _ _ _ (by decide), xg_0 _ r 0 (by decide), xg_V _ _ _ _ (by decide), xg_0 _ r 3 (by decide), xg_V _ _ _ _ (by decide), upd_ne (by decide), upd_ne (by decide), upd_ne (by decide)]
    rw [xg_0 s r 5 (by decide)] at z
    unfold nightG
    rw [if_neg z]
theorem s196 (hd : 1 ≤ d) {r : Nat} (hr : gs_isA r 0 108 = true) (k : Post (some (.int (takesG (gsA s r)))) s) : tE c d 196 [.ref r] s Post := by
  obtain ⟨d, rfl⟩ := d_1 hd
  exact okm196 c d Post r s ⟨108, hr, vpd rfl, k⟩
theorem s197 (hd : 2 ≤ d) {r : Nat} (hr : gs_isA r 0 108 = true) (k : ∀ s', frA s s' r → gsA s' r = nightG (gsA s r) → Post none s') : tE c d 197 [.ref r] s Post := by
  obtain ⟨d, rfl⟩ := d_1 (Nat.le_trans (by decide) hd)
  refine okm197 c d Post r s (s196 (by omega) hr ⟨_, rfl, 108, hr, vpd rfl, fun z => ?_, fun z => ?_⟩)
  · refine ⟨108, hr, vpd rfl, 108, hr, vpd rfl, ?_⟩
    rintro s1 rfl
    refine ⟨108, hr, vpd rfl, 108, hr, vpd rfl, ?_⟩
    rintro s2 rfl
    refine k _ (frA_A (frA_A (frA_rf s r) _ _) _ _) ?_
    rw [gsA_A, gsA_A]
    unfold nightG
    rw [if_pos (show takesG (gsA s r) ≤ gsA s r 5 from z)]
    rfl
  · refine ⟨108, hr, vpd rfl, ?_⟩
    rintro s1 rfl
    refine ⟨108, hr, vpd rfl, 108, hr, vpd rfl, 108, hr, vpd rfl, ?_⟩
    rintro s2 rfl
    refine ⟨108, hr, vpd rfl, 108, hr, vpd rfl, ?_⟩
    rintro s3 rfl
    refine k _ (frA_A (frA_A (frA_A (frA_rf s r) _ _) _ _) _ _) ?_
    rw [gsA_A, gsA_A, gsA_A]
    unfold nightG
    rw [if_neg (show ¬ takesG (gsA s r) ≤ gsA s r 5 from z)]
    rfl
theorem s48 (hd : 1 ≤ d) {r q : Nat} (hr : gs_isC r 6 = true) (hq : gs_isC q 6 = true) (hn : q ≠ r) (k : ∀ s', frV s s' r → xg s' r = xg s q → Post none s') : tE c d 48 [.ref r, .ref q] s Post := by
  obtain ⟨d, rfl⟩ := d_1 hd
  refine okm48 c d Post r q s ⟨hq, hr, ?_⟩
  rintro s1 rfl
  refine ⟨hq, hr, ?_⟩
  rintro s2 rfl
  refine ⟨hq, hr, ?_⟩
  rintro s3 rfl
  refine ⟨hq, hr, ?_⟩
  rintro s4 rfl
  refine ⟨hq, hr, ?_⟩
  rintro s5 rfl
  refine ⟨hq, hr, ?_⟩
  rintro s6 rfl
  refine ⟨hq, hr, ?_⟩
  rintro s7 rfl
  refine ⟨hq, hr, ?_⟩
  rintro s8 rfl
  refine ⟨hq, hr, ?_⟩
  rintro s9 rfl
  refine ⟨hq, hr, ?_⟩
  rintro s10 rfl
  refine k _ (frV_V (frV_V (frV_E (frV_E (frV_V (frV_V (frV_V (frV_V (frV_V (frV_V (frV_rf s r) _ _) _ _) _ _) _ _) _ _) _ _) _ _) _ _) _ _) _ _) ?_
  funext i
  unfold xg
  simp only [V_V, V_E, E_V, E_E, if_neg hn, if_true]
  by_cases h6 : i < 6
  · rw [if_pos h6, if_pos h6]
    rcases (show i = 0 ∨ i = 1 ∨ i = 2 ∨ i = 3 ∨ i = 4 ∨ i = 5 by omega) with rfl | rfl | rfl | rfl | rfl | rfl <;> simp
  · rw [if_neg h6, if_neg h6]
    simp
theorem s50 (hd : 1 ≤ d) {r n : Nat} (hr : gs_isC r 6 = true) (hn : n < 2) (x : Int32) (k : ∀ s', frV s s' r → xg s' r = upd (xg s r) (6 + n) (xg s r 0 + x - 1) → Post (some (.int (xg s r 0 + x - 1))) s') : tE c d 50 [.ref r, .int (nI n), .int x] s Post := by
  obtain ⟨d, rfl⟩ := d_1 hd
  refine okm50 c d Post r (nI n) x s ⟨hr, fun z => ⟨hr, ?_⟩, fun z => ⟨hr, ?_⟩⟩
  · have e : n = 1 := by
      have : nI n = nI 1 := z
      rwa [nI_eq (by omega) (by decide)] at this
    subst e
    rintro s1 rfl
    exact k _ (frV_V (frV_rf s r) _ _) (xg_V9 s r _)
  · have e : n = 0 := by
      have : ¬ nI n = nI 1 := z
      rw [nI_eq (by omega) (by decide)] at this
      omega
    subst e
    rintro s1 rfl
    exact k _ (frV_V (frV_rf s r) _ _) (xg_V8 s r _)
theorem s53 (hd : 1 ≤ d) {r D : Nat} (hr : gs_isC r 6 = true) (hD : D < 100) (k : ∀ s', frV s s' r → xg s' r = upd (xg s r) (8 + D) (1 - xg s r (8 + D)) → Post none s') : tE c d 53 [.ref r, .int (nI D)] s Post := by
  obtain ⟨d, rfl⟩ := d_1 hd
  refine okm53 c d Post r (nI D) s ⟨fun z => ⟨fun y => absurd y (nI_pos (by omega)), fun _ => ⟨hr, hr, ?_⟩⟩, fun z => ⟨hr, hr, ?_⟩⟩
  · have hz : D < 64 := by
      have : nI D < nI 64 := z
      rwa [nI_ltI (by omega) (by decide)] at this
    rintro s1 rfl
    refine k _ (frV_E (frV_rf s r) _ _) ?_
    funext i
    rcases xg_ca i with q | q | q | q | q | q
    · rw [xg_lo _ _ q, upd_ne (by omega), xg_lo _ _ q, V_E]
    · rw [q, xg_s6, upd_ne (by omega), xg_s6, V_E]
    · rw [q, xg_s7, upd_ne (by omega), xg_s7, V_E]
    · rw [xg_ea _ _ q.1 q.2, E_E, if_pos rfl, if_pos rfl]
      by_cases e : i = 8 + D
      · subst e
        rw [upd_eq, xg_ea _ _ q.1 q.2, show 8 + D - 8 = D by omega]
        unfold lbit
        rw [bits_x _ _ hz]
        by_cases hb : (gsE s r 6).toBitVec.getLsbD D = true
        · simp [hb]
        · have hb' : (gsE s r 6).toBitVec.getLsbD D = false := by simpa using hb
          simp [hb']
      · rw [upd_ne e, xg_ea _ _ q.1 q.2]
        unfold lbit
        rw [bits_x _ _ hz, decide_eq_false (show ¬ i - 8 = D by omega), Bool.xor_false]
    · rw [upd_ne (by omega), xg_la _ _ q.1 q.2, xg_la _ _ q.1 q.2, E_E, if_pos rfl, if_neg (by decide)]
    · rw [upd_ne (by omega), xg_ou _ _ q, xg_ou _ _ q]
  · have hz : 64 ≤ D := by
      have : ¬ nI D < nI 64 := z
      rw [nI_ltI (by omega) (by decide)] at this
      omega
    have e1 : nI D - 64 = nI (D - 64) := pk_sub (a := D) (b := 64) hz
    rw [e1]
    rintro s1 rfl
    refine k _ (frV_E (frV_rf s r) _ _) ?_
    funext i
    rcases xg_ca i with q | q | q | q | q | q
    · rw [xg_lo _ _ q, upd_ne (by omega), xg_lo _ _ q, V_E]
    · rw [q, xg_s6, upd_ne (by omega), xg_s6, V_E]
    · rw [q, xg_s7, upd_ne (by omega), xg_s7, V_E]
    · rw [upd_ne (by omega), xg_ea _ _ q.1 q.2, xg_ea _ _ q.1 q.2, E_E, if_pos rfl, if_neg (by decide)]
    · rw [xg_la _ _ q.1 q.2, E_E, if_pos rfl, if_pos rfl]
      by_cases e : i = 8 + D
      · subst e
        rw [upd_eq, xg_la _ _ q.1 q.2, show 8 + D - 72 = D - 64 by omega]
        unfold lbit
        rw [bits_x _ _ (by omega)]
        by_cases hb : (gsE s r 7).toBitVec.getLsbD (D - 64) = true
        · simp [hb]
        · have hb' : (gsE s r 7).toBitVec.getLsbD (D - 64) = false := by simpa using hb
          simp [hb']
      · rw [upd_ne e, xg_la _ _ q.1 q.2]
        unfold lbit
        rw [bits_x _ _ (by omega), decide_eq_false (show ¬ i - 72 = D - 64 by omega), Bool.xor_false]
    · rw [upd_ne (by omega), xg_ou _ _ q, xg_ou _ _ q]
theorem s54 (hd : 2 ≤ d) {r D : Nat} (hr : gs_isC r 6 = true) (hD : D < 2 ^ 20) (k : Post (some (.int (lentG (xg s r) D))) s) : tE c d 54 [.ref r, .int (nI D)] s Post := by
  obtain ⟨d, rfl⟩ := d_1 (Nat.le_trans (by decide) hd)
  have loop : ∀ (m i : Nat) (a : Int32), i + m = 100 → Post (some (.int (lsum (xg s r) i m a))) s → wl54_8 c d Post (m + 1) r a (nI i) s := by
    intro m
    induction m with
    | zero =>
      intro i a hi hp
      refine ⟨fun _ => hp, fun z => absurd (show nI 99 < nI i from (nI_ltI (by decide) (by omega)).mpr (by omega)) z⟩
    | succ m ih =>
      intro i a hi hp
      refine ⟨fun z => ?_, fun _ => ⟨hr, s52 (by omega) hr (by omega) ⟨_, rfl, fun z => ?_, fun z => ?_⟩⟩⟩
      · have : nI 99 < nI i := z
        rw [nI_ltI (by decide) (by omega)] at this
        omega
      · have e : xg s r (8 + i) = 0 := by
          rcases xg_bit s r (8 + i) (by omega) with q | q
          · exact q
          · rw [if_pos ⟨by omega, q⟩] at z; cases z
        have hp' : Post (some (.int (lsum (xg s r) (i + 1) m (a + xg s r (8 + i))))) s := hp
        rw [e] at hp'
        show wl54_8 c d Post (m + 1) r (a + 0) (nI i + 1) s
        rw [nI_1]
        exact ih (i + 1) _ (by omega) hp'
      · have e : xg s r (8 + i) = 1 := by
          by_cases q : i < 100 ∧ xg s r (8 + i) = 1
          · exact q.2
          · rw [if_neg q] at z; exact absurd rfl z
        have hp' : Post (some (.int (lsum (xg s r) (i + 1) m (a + xg s r (8 + i))))) s := hp
        rw [e] at hp'
        show wl54_8 c d Post (m + 1) r (a + 1) (nI i + 1) s
        rw [nI_1]
        exact ih (i + 1) _ (by omega) hp'
  refine okm54 c d Post r (nI D) s ?_
  have e : (if 0 < nI D then nI D else 0) = nI D := by
    by_cases q : 0 < nI D
    · rw [if_pos q]
    · rw [if_neg q]
      have : ¬ nI 0 < nI D := q
      rw [nI_ltI (by decide) (by omega)] at this
      rw [show D = 0 by omega]
      rfl
  unfold wm54
  rw [e]
  by_cases hD' : D ≤ 100
  · exact ⟨100 - D + 1, loop (100 - D) D 0 (by omega) k⟩
  · refine ⟨1, fun _ => ?_, fun z => absurd (show nI 99 < nI D from (nI_ltI (by decide) (by omega)).mpr (by omega)) z⟩
    unfold lentG at k
    rw [show 100 - D = 0 by omega] at k
    exact k
theorem s208 (hd : 1 ≤ d) {D : Nat} (h0 : gsA s 49 0 = nI D) (hD : D < 2 ^ 20) (k : Post (some (.int (lentG (gsA s 49) D))) s) : tE c d 208 [.ref 48] s Post := by
  obtain ⟨d, rfl⟩ := d_1 hd
  have loop : ∀ (m i : Nat) (a : Int32), i + m = 100 → Post (some (.int (lsum (gsA s 49) i m a))) s → wl208_9 c d Post (m + 1) a (nI i) s := by
    intro m
    induction m with
    | zero =>
      intro i a hi hp
      refine ⟨fun _ => hp, fun z => absurd (show nI 100 ≤ nI i from (nI_leI (by decide) (by omega)).mpr (by omega)) z⟩
    | succ m ih =>
      intro i a hi hp
      refine ⟨fun z => ?_, fun _ => ?_⟩
      · have : nI 100 ≤ nI i := z
        rw [nI_leI (by decide) (by omega)] at this
        omega
      · have e : (8 : Int32) + nI i = nI (8 + i) := nI_add 8 i
        rw [e, nI_clamp (by omega), nI_1]
        exact ⟨vp_in_nI (by omega) (by decide), ih (i + 1) _ (by omega) hp⟩
  refine okm208 c d Post s ⟨vpd rfl, ?_⟩
  have e0 : gsA s 49 (0 : Int32).toNatClampNeg = nI D := h0
  rw [e0]
  by_cases hD' : D ≤ 100
  · exact ⟨100 - D + 1, loop (100 - D) D 0 (by omega) k⟩
  · refine ⟨1, fun _ => ?_, fun z => absurd (show nI 100 ≤ nI D from (nI_leI (by decide) (by omega)).mpr (by omega)) z⟩
    unfold lentG at k
    rw [show 100 - D = 0 by omega] at k
    exact k
def prvG (w : Nat) : Nat := if w = 0 then 5 else if w = 1 then 3 else 4
def cap (x : Int32) : Int32 := if x < 9999 then x else 9999
theorem s55 (hd : 1 ≤ d) {r w : Nat} (hr : gs_isC r 6 = true) (hw : w < 3) (x : Int32) (k : ∀ s', frV s s' r → xg s' r = upd (xg s r) (prvG w) (cap (xg s r (prvG w) + x)) → Post (some (.int (cap (xg s r (prvG w) + x)))) s') : tE c d 55 [.ref r, .int (nI w), .int x] s Post := by
  obtain ⟨d, rfl⟩ := d_1 hd
  refine okm55 c d Post r (nI w) x s ⟨fun z => ⟨hr, hr, ?_⟩, fun z => ⟨hr, hr, ?_⟩, fun z => ⟨hr, hr, ?_⟩⟩
  · have e : w = 0 := by
      have : nI w = nI 0 := z
      rwa [nI_eq (by omega) (by decide)] at this
    subst e
    rintro s1 rfl
    refine ⟨hr, ?_⟩
    rw [V_V, if_pos rfl, if_pos rfl]
    exact k _ (frV_V (frV_rf s r) _ _) (xg_V s r 5 _ (by decide))
  · have e : w = 1 := by
      have : nI w = nI 1 := z
      rwa [nI_eq (by omega) (by decide)] at this
    subst e
    rintro s1 rfl
    refine ⟨hr, ?_⟩
    rw [V_V, if_pos rfl, if_pos rfl]
    exact k _ (frV_V (frV_rf s r) _ _) (xg_V s r 3 _ (by decide))
  · have e : w = 2 := by
      have h1 : ¬ nI w = nI 0 := z.1
      have h2 : ¬ nI w = nI 1 := z.2
      rw [nI_eq (by omega) (by decide)] at h1 h2
      omega
    subst e
    rintro s1 rfl
    refine ⟨hr, ?_⟩
    rw [V_V, if_pos rfl, if_pos rfl]
    exact k _ (frV_V (frV_rf s r) _ _) (xg_V s r 4 _ (by decide))
end S2
