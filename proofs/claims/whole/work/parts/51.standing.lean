/-! A standing: in the reference an array of 108 ints, in the class an object; both seen as a function. -/
def lbit (e : Int64) (k : Nat) : Int32 := if e.toBitVec.getLsbD k then 1 else 0
def xg (s : gs) (a : Nat) : Nat → Int32 := fun i => if i < 6 then gsV s a i else if i = 6 then gsV s a 8 else if i = 7 then gsV s a 9 else if i < 72 then lbit (gsE s a 6) (i - 8) else if i < 108 then lbit (gsE s a 7) (i - 72) else 0
def whoB (g : Nat → Int32) (D : Nat) : Nat := if D < 100 ∧ g (8 + D) = 1 then 1 - D % 2 else D % 2
def who (g : Nat → Int32) (D : Nat) : Int32 := if g (6 + whoB g D) < nI D then nI (whoB g D) else if g (6 + (1 - whoB g D)) < nI D then nI (1 - whoB g D) else -1
theorem whoB_lt (g : Nat → Int32) (D : Nat) : whoB g D < 2 := by
  unfold whoB
  split <;> omega
/-- only object a has changed; only array a has -/
def frV (s s' : gs) (a : Nat) : Prop := (∀ b, b ≠ a → gsV s' b = gsV s b) ∧ (∀ b, b ≠ a → gsE s' b = gsE s b) ∧ gsA s' = gsA s ∧ gsR s' = gsR s ∧ gsP s' = gsP s
def frA (s s' : gs) (a : Nat) : Prop := gsV s' = gsV s ∧ gsE s' = gsE s ∧ (∀ b, b ≠ a → gsA s' b = gsA s b) ∧ gsR s' = gsR s ∧ gsP s' = gsP s
theorem frV_rf (s : gs) (a : Nat) : frV s s a := ⟨fun _ _ => rfl, fun _ _ => rfl, rfl, rfl, rfl⟩
theorem frV_V {s s' : gs} {a : Nat} (h : frV s s' a) (k : Nat) (x : Int32) : frV s (gs_V s' a k x) a := by
  obtain ⟨h1, h2, h3, h4, h5⟩ := h
  refine ⟨fun b hb => ?_, h2, h3, h4, h5⟩
  rw [← h1 b hb]
  funext j
  rw [V_V, if_neg hb]
theorem frV_E {s s' : gs} {a : Nat} (h : frV s s' a) (k : Nat) (x : Int64) : frV s (gs_E s' a k x) a := by
  obtain ⟨h1, h2, h3, h4, h5⟩ := h
  refine ⟨h1, fun b hb => ?_, h3, h4, h5⟩
  rw [← h2 b hb]
  funext j
  rw [E_E, if_neg hb]
theorem frV_tr {s s' s'' : gs} {a : Nat} (h : frV s s' a) (h' : frV s' s'' a) : frV s s'' a := by
  obtain ⟨h1, h2, h3, h4, h5⟩ := h
  obtain ⟨g1, g2, g3, g4, g5⟩ := h'
  exact ⟨fun b hb => (g1 b hb).trans (h1 b hb), fun b hb => (g2 b hb).trans (h2 b hb), g3.trans h3, g4.trans h4, g5.trans h5⟩
theorem frA_rf (s : gs) (a : Nat) : frA s s a := ⟨rfl, rfl, fun _ _ => rfl, rfl, rfl⟩
theorem frA_A {s s' : gs} {a : Nat} (h : frA s s' a) (k : Nat) (x : Int32) : frA s (gs_A s' a k x) a := by
  obtain ⟨h1, h2, h3, h4, h5⟩ := h
  refine ⟨h1, h2, fun b hb => ?_, h4, h5⟩
  rw [← h3 b hb]
  funext j
  rw [A_A, if_neg hb]
theorem gsA_A (s : gs) (a k : Nat) (x : Int32) : gsA (gs_A s a k x) a = upd (gsA s a) k x := by
  funext j
  rw [A_A, if_pos rfl]
  rfl
theorem xg_V (s : gs) (a k : Nat) (x : Int32) (hk : k < 6) : xg (gs_V s a k x) a = upd (xg s a) k x := by
  funext i
  unfold xg upd
  rw [V_V, V_V, V_V, E_V]
  simp only [if_pos]
  by_cases e : i = k
  · subst e
    simp [hk]
  · by_cases h6 : i < 6
    · simp [h6, e]
    · have e8 : ¬ 8 = k := by omega
      have e9 : ¬ 9 = k := by omega
      simp [h6, e, e8, e9]
theorem bits_1 (e : Int64) (k : Nat) (hk : k < 64) : (lg_cmp ((e.toUInt64 >>> ((nI k).toInt64.toUInt64 &&& Int64.toUInt64 63)).toInt64 &&& 1) 1 = 0) ↔ e.toBitVec.getLsbD k = true := by
  have h1 : ∀ k, k < 64 → ((nI k).toInt64.toUInt64 &&& Int64.toUInt64 63) = UInt64.ofNat k := by decide +kernel
  rw [h1 k hk]
  have h2 : ((e.toUInt64 >>> UInt64.ofNat k).toInt64 &&& 1) = if e.toBitVec.getLsbD k then 1 else 0 := by
    apply Int64.toBitVec_inj.mp
    have e1 : ((e.toUInt64 >>> UInt64.ofNat k).toInt64 &&& 1).toBitVec = (e.toBitVec >>> k) &&& 1#64 := by
      show (e.toBitVec >>> ((UInt64.ofNat k).toBitVec % 64)) &&& 1#64 = _
      congr 1
      have : (((UInt64.ofNat k).toBitVec % 64).toNat) = k := by
        show ((BitVec.ofNat 64 k) % 64#64).toNat = k
        rw [BitVec.toNat_umod, BitVec.toNat_ofNat]
        have : k % 2 ^ 64 = k := Nat.mod_eq_of_lt (by omega)
        rw [this]
        exact Nat.mod_eq_of_lt hk
      rw [BitVec.ushiftRight_eq', this]
    rw [e1]
    apply BitVec.eq_of_getLsbD_eq
    intro i hi
    rw [BitVec.getLsbD_and, BitVec.getLsbD_ushiftRight]
    by_cases h0 : i = 0
    · subst h0
      by_cases hb : e.toBitVec.getLsbD k = true <;> simp [hb]
    · have : (1#64).getLsbD i = false := by
        simp [BitVec.getLsbD_one, h0]
      rw [this, Bool.and_false]
      by_cases hb : e.toBitVec.getLsbD k = true
      · rw [if_pos hb]
        show false = (1#64).getLsbD i
        rw [this]
      · rw [if_neg hb]
        show false = (0#64).getLsbD i
        simp
  rw [h2]
  by_cases hb : e.toBitVec.getLsbD k = true
  · rw [if_pos hb]
    simp only [hb, iff_true]
    decide
  · rw [if_neg hb]
    simp only [hb, iff_false]
    decide
section S1
variable {c : gx} {d : Nat} {Post : Option Value → gs → Prop} {s : gs}
theorem s52 (hd : 1 ≤ d) {r D : Nat} (hr : gs_isC r 6 = true) (hD : D < 2 ^ 20) (k : Post (some (.int (if D < 100 ∧ xg s r (8 + D) = 1 then 1 else 0))) s) : tE c d 52 [.ref r, .int (nI D)] s Post := by
  obtain ⟨d, rfl⟩ := d_1 hd
  refine okm52 c d Post r (nI D) s ⟨fun z => absurd z (nI_pos (by omega)), fun _ => ⟨fun z => ?_, fun z => ?_⟩⟩
  · have hD' : D < 100 := by
      have : nI D ≤ nI 99 := z
      rw [nI_leI (by omega) (by decide)] at this
      omega
    refine ⟨fun y => ⟨hr, ?_⟩, fun y => ⟨hr, ?_⟩⟩
    · have hy : 64 ≤ D := by
        have : nI 64 ≤ nI D := y
        rwa [nI_leI (by decide) (by omega)] at this
      have e1 : nI D - 64 = nI (D - 64) := pk_sub (a := D) (b := 64) hy
      have e2 : xg s r (8 + D) = lbit (gsE s r 7) (D - 64) := by
        unfold xg
        rw [if_neg (by omega), if_neg (by omega), if_neg (by omega), if_neg (by omega), if_pos (by omega), show 8 + D - 72 = D - 64 by omega]
      rw [e1]
      rw [e2] at k
      unfold lbit at k
      refine ⟨fun q => ?_, fun q => ?_⟩
      · rw [bits_1 _ _ (by omega)] at q
        rw [if_pos ⟨hD', by rw [if_pos q]⟩] at k
        exact ⟨Or.inr rfl, k⟩
      · rw [bits_1 _ _ (by omega)] at q
        rw [if_neg (fun z => by have := z.2; rw [if_neg q] at this; cases this)] at k
        exact ⟨Or.inl rfl, k⟩
    · have hy : D < 64 := by
        have : ¬ nI 64 ≤ nI D := y
        rw [nI_leI (by decide) (by omega)] at this
        omega
      have e2 : xg s r (8 + D) = lbit (gsE s r 6) D := by
        unfold xg
        rw [if_neg (by omega), if_neg (by omega), if_neg (by omega), if_pos (by omega), show 8 + D - 8 = D by omega]
      rw [e2] at k
      unfold lbit at k
      refine ⟨fun q => ?_, fun q => ?_⟩
      · rw [bits_1 _ _ (by omega)] at q
        rw [if_pos ⟨hD', by rw [if_pos q]⟩] at k
        exact ⟨Or.inr rfl, k⟩
      · rw [bits_1 _ _ (by omega)] at q
        rw [if_neg (fun z => by have := z.2; rw [if_neg q] at this; cases this)] at k
        exact ⟨Or.inl rfl, k⟩
  · rw [if_neg (fun q => z (by show nI D ≤ nI 99; rw [nI_leI (by omega) (by decide)]; omega))] at k
    exact k
theorem s49 (hd : 1 ≤ d) {r n : Nat} (hr : gs_isC r 6 = true) (hn : n < 2) (k : Post (some (.int (xg s r (6 + n)))) s) : tE c d 49 [.ref r, .int (nI n)] s Post := by
  obtain ⟨d, rfl⟩ := d_1 hd
  rcases (show n = 0 ∨ n = 1 by omega) with rfl | rfl
  · exact okm49 c d Post r (nI 0) s ⟨fun z => absurd z (by decide), fun _ => ⟨hr, k⟩⟩
  · exact okm49 c d Post r (nI 1) s ⟨fun _ => ⟨hr, k⟩, fun z => absurd rfl z⟩
theorem rem2 (D : Nat) (hD : D < 2 ^ 20) : nI D - nI D / 2 * 2 = nI (D % 2) := pk_rem (a := D) (d := 2) (by omega) (by decide) (by decide)
theorem one_sub {n : Nat} (h : n < 2) : (1 : Int32) - nI n = nI (1 - n) := pk_sub (a := 1) (b := n) (by omega)
theorem s51 (hd : 2 ≤ d) {r D : Nat} (hr : gs_isC r 6 = true) (hD : D < 2 ^ 20) (k : Post (some (.int (who (xg s r) D))) s) : tE c d 51 [.ref r, .int (nI D)] s Post := by
  obtain ⟨d, rfl⟩ := d_1 (Nat.le_trans (by decide) hd)
  have key : ∀ n : Nat, n < 2 → whoB (xg s r) D = n → w51_24 c d Post r (nI D) (nI n) s := by
    intro n hn hw
    unfold who at k
    rw [hw] at k
    refine ⟨hr, s49 (by omega) hr hn ⟨_, rfl, fun z => ?_, fun z => ?_⟩⟩
    · rw [if_neg (i_nlt.mpr z)] at k
      rw [one_sub hn]
      refine ⟨hr, s49 (by omega) hr (by omega) ⟨_, rfl, fun y => ?_, fun y => ?_⟩⟩
      · rw [if_neg (i_nlt.mpr y)] at k
        exact k
      · rw [if_pos (i_nle.mp y)] at k
        exact k
    · rw [if_pos (i_nle.mp z)] at k
      exact k
  have base : ∀ n : Nat, n = D % 2 → w51_11 c d Post r (nI D) (nI n) s := by
    intro n hn
    have hn2 : n < 2 := by omega
    refine ⟨hr, s52 (by omega) hr hD ⟨_, rfl, fun z => ?_, fun z => ?_⟩⟩
    · refine key n hn2 ?_
      unfold whoB
      rw [if_neg (fun q => by rw [if_pos q] at z; cases z), hn]
    · rw [one_sub hn2]
      refine key (1 - n) (by omega) ?_
      unfold whoB
      rw [if_pos (by
        by_cases q : D < 100 ∧ xg s r (8 + D) = 1
        · exact q
        · rw [if_neg q] at z
          exact absurd rfl z), hn]
  refine okm51 c d Post r (nI D) s ⟨fun z => ?_, fun z => ?_⟩
  · rw [rem2 D hD] at z
    refine base 0 ?_
    have : nI (D % 2) = nI 0 := z
    rw [nI_eq (by omega) (by decide)] at this
    omega
  · rw [rem2 D hD] at z
    refine base 1 ?_
    have : ¬ nI (D % 2) = nI 0 := z
    rw [nI_eq (by omega) (by decide)] at this
    omega
theorem s183 (hd : 1 ≤ d) {r n : Nat} (hr : gs_isA r 0 108 = true) (hn : n < 2) (x : Int32) (k : Post (some (.int (if gsA s r (6 + n) < x then 0 else 1))) s) : tE c d 183 [.ref r, .int (nI n), .int x] s Post := by
  obtain ⟨d, rfl⟩ := d_1 hd
  have e : (6 : Int32) + nI n = nI (6 + n) := nI_add 6 n
  refine okm183 c d Post r (nI n) x s ⟨108, hr, ?_, ?_⟩
  · rw [e]; exact vp_in_nI (by omega) (by decide)
  · rw [e, nI_clamp (by omega)]
    refine ⟨fun z => ?_, fun z => ?_⟩
    · rw [if_pos z] at k; exact ⟨Or.inl rfl, k⟩
    · rw [if_neg z] at k; exact ⟨Or.inr rfl, k⟩
theorem s184 (hd : 2 ≤ d) {r D : Nat} (hr : gs_isA r 0 108 = true) (hD : D < 2 ^ 20) (k : Post (some (.int (who (gsA s r) D))) s) : tE c d 184 [.ref r, .int (nI D)] s Post := by
  obtain ⟨d, rfl⟩ := d_1 (Nat.le_trans (by decide) hd)
  have key : ∀ n : Nat, n < 2 → whoB (gsA s r) D = n → w184_24 c d Post r (nI D) (nI n) s := by
    intro n hn hw
    unfold who at k
    rw [hw] at k
    refine s183 (by omega) hr hn _ ⟨_, rfl, fun z => ?_, fun z => ?_⟩
    · have z' : gsA s r (6 + n) < nI D := by
        by_cases q : gsA s r (6 + n) < nI D
        · exact q
        · rw [if_neg q] at z; cases z
      rw [if_pos z'] at k
      exact k
    · have z' : ¬ gsA s r (6 + n) < nI D := fun q => z (if_pos q)
      rw [if_neg z'] at k
      rw [one_sub hn]
      refine s183 (by omega) hr (by omega) _ ⟨_, rfl, fun y => ?_, fun y => ?_⟩
      · have y' : gsA s r (6 + (1 - n)) < nI D := by
          by_cases q : gsA s r (6 + (1 - n)) < nI D
          · exact q
          · rw [if_neg q] at y; cases y
        rw [if_pos y'] at k
        exact k
      · have y' : ¬ gsA s r (6 + (1 - n)) < nI D := fun q => y (if_pos q)
        rw [if_neg y'] at k
        exact k
  have e : (8 : Int32) + nI D = nI (8 + D) := nI_add 8 D
  refine okm184 c d Post r (nI D) s ⟨fun z => ?_, fun z => ?_⟩
  · have hz : 100 ≤ D := by
      have : nI 100 ≤ nI D := z
      rwa [nI_leI (by decide) (by omega)] at this
    rw [rem2 D hD]
    refine key _ (by omega) ?_
    unfold whoB
    rw [if_neg (fun q => by omega)]
  · have hz : D < 100 := by
      have : ¬ nI 100 ≤ nI D := z
      rw [nI_leI (by decide) (by omega)] at this
      omega
    rw [rem2 D hD, e, nI_clamp (by omega)]
    refine ⟨108, hr, vp_in_nI (by omega) (by decide), fun y => ?_, fun y => ?_⟩
    · rw [one_sub (by omega)]
      refine key _ (by omega) ?_
      unfold whoB
      rw [if_pos ⟨hz, y⟩]
    · refine key _ (by omega) ?_
      unfold whoB
      rw [if_neg (fun q => y q.2)]
end S1
