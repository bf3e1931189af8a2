/-! The reference's reader: s a state, pz s a w the same at place a, w the wrong place (-1: none). -/
def pz (s : gs) (a : Nat) (w : Int32) : gs := gs_V (gs_V s 48 17 (nI a)) 48 18 w
theorem pz_at (s : gs) (a b : Nat) (w : Int32) : gs_V (pz s a w) 48 17 (nI b) = pz s b w := by
  unfold pz gs_V
  refine Prod.ext ?_ rfl
  funext i j
  unfold gs_u2 gsV
  by_cases h : i = 48
  · by_cases h1 : j = 17
    · simp [h, h1]
    · by_cases h2 : j = 18
      · simp [h, h2]
      · simp [h, h1, h2]
  · simp [h]
theorem pz_wr (s : gs) (a : Nat) (w x : Int32) : gs_V (pz s a w) 48 18 x = pz s a x := by
  unfold pz gs_V
  refine Prod.ext ?_ rfl
  funext i j
  unfold gs_u2 gsV
  by_cases h : i = 48
  · by_cases h2 : j = 18
    · simp [h, h2]
    · simp [h, h2]
  · simp [h]
theorem pz_1 (s : gs) (a : Nat) (w : Int32) : gs_V (pz s a w) 48 17 (gsV (pz s a w) 48 17 + 1) = pz s (a + 1) w := by
  rw [show gsV (pz s a w) 48 17 = nI a from rfl, nI_1, pz_at]
def hrT (t : Nat → Nat) (L p a : Nat) : Nat := if a < L ∧ a < p then t a else 999
theorem hrT_40 (t : Nat → Nat) (L a : Nat) : hr t L a = hrT t L 40 a := rfl
def hI (x : Nat) : Int32 := if x = 999 then -1 else nI x
def PB (s : gs) (t : Nat → Nat) (L p r : Nat) : Prop := gsP s = r ∧ r ≠ 0 ∧ (∃ N, gs_isA r 3 N = true ∧ min L p ≤ N ∧ N ≤ 80) ∧ L ≤ 80 ∧ p ≤ 80 ∧ gsV s 48 15 = nI L ∧ gsV s 48 16 = nI p ∧ ∀ i, i < L → i < p → t i < 256 ∧ gsA s r i = sby (t i)
theorem sby_and : ∀ n, n < 256 → sby n &&& 255 = nI n := by decide +kernel
theorem hrT_lt {t : Nat → Nat} {s : gs} {L p r : Nat} (B : PB s t L p r) (a : Nat) : hrT t L p a < 256 ∨ hrT t L p a = 999 := by
  unfold hrT
  by_cases h : a < L ∧ a < p
  · rw [if_pos h]; exact Or.inl (B.2.2.2.2.2.2.2 a h.1 h.2).1
  · rw [if_neg h]; exact Or.inr rfl
theorem hI_eq {x y : Nat} (hx : x < 256 ∨ x = 999) (hy : y < 256) : hI x = nI y ↔ x = y := by
  unfold hI
  by_cases h : x = 999
  · rw [if_pos h]
    constructor
    · intro q
      exact absurd (q ▸ (by decide : (-1 : Int32) < 0)) (nI_pos (by omega))
    · omega
  · rw [if_neg h, nI_eq' (by omega) (by omega)]
theorem hI_in {x y z : Nat} (hx : x < 256 ∨ x = 999) (hy : y < 256) (hz : z < 256) : (nI y ≤ hI x ∧ hI x ≤ nI z) ↔ (y ≤ x ∧ x ≤ z) := by
  unfold hI
  by_cases h : x = 999
  · rw [if_pos h]
    constructor
    · intro q
      have := q.1
      have h2 : ¬ nI y < 0 := nI_pos (by omega)
      grind
    · omega
  · rw [if_neg h, nI_le' (by omega) (by omega), nI_le' (by omega) (by omega)]
theorem hrT_in {t : Nat → Nat} {L p a : Nat} (h : hrT t L p a ≠ 999) : a < L ∧ a < p ∧ hrT t L p a = t a := by
  unfold hrT at h ⊢
  by_cases q : a < L ∧ a < p
  · rw [if_pos q]; exact ⟨q.1, q.2, rfl⟩
  · rw [if_neg q] at h; exact absurd rfl h
section S6
variable {c : gx} {d : Nat} {Post : Option Value → gs → Prop} {s : gs} {t : Nat → Nat} {L p r a : Nat} {w : Int32}
theorem s162 (hd : 1 ≤ d) (hr : r ≠ 0) (x y : Int32) (k : Post none (pz (gs_V (gs_V (gs_P s r) 48 15 x) 48 16 y) 0 (-1))) : tE c d 162 [.ref 48, .ref r, .int x, .int y] s Post := by
  obtain ⟨d, rfl⟩ := d_1 hd
  refine okm162 c d Post r x y s ⟨hr, ?_⟩
  rintro s1 rfl s2 rfl s3 rfl s4 rfl s5 rfl
  exact k
theorem s164 (hd : 1 ≤ d) (B : PB s t L p r) (ha : a < 2 ^ 20) (k : Post (some (.int (hI (hrT t L p a)))) (pz s a w)) : tE c d 164 [.ref 48] (pz s a w) Post := by
  obtain ⟨d, rfl⟩ := d_1 hd
  obtain ⟨h1, h2, ⟨N, h3, h4, h4'⟩, h5, h6, h7, h8, h9⟩ := B
  refine okm164 c d Post _ ?_
  unfold wm164 w164_38 w164_39
  rw [show gsV (pz s a w) 48 15 = gsV s 48 15 from rfl, show gsV (pz s a w) 48 16 = gsV s 48 16 from rfl, show gsV (pz s a w) 48 17 = nI a from rfl, show gsP (pz s a w) = gsP s from rfl, h7, h8, h1, nI_le' (by omega) (by omega), nI_le' (by omega) (by omega), nI_clamp (by omega)]
  unfold hrT at k
  refine ⟨fun z => ?_, fun z => ⟨fun y => ?_, fun y => ⟨h2, N, h3, vp_in_nI (by omega) (by omega), ?_⟩⟩⟩
  · rw [if_neg (by omega)] at k; exact k
  · rw [if_neg (by omega)] at k; exact k
  · have h10 := h9 a (by omega) (by omega)
    rw [if_pos ⟨by omega, by omega⟩] at k
    unfold hI at k
    rw [if_neg (by omega)] at k
    show Post (some (.int (gsA s r a &&& 255))) _
    rw [h10.2, sby_and _ h10.1]
    exact k
theorem s165 (hd : 1 ≤ d) (k : Post (some (.int (bI (w = -1)))) (pz s a w)) : tE c d 165 [.ref 48] (pz s a w) Post := by
  obtain ⟨d, rfl⟩ := d_1 hd
  refine okm165 c d Post _ ⟨fun z => ?_, fun z => ?_⟩
  · rw [bI_t (show w = -1 from z)] at k; exact ⟨Or.inr rfl, k⟩
  · rw [bI_f (show ¬ w = -1 from z)] at k; exact ⟨Or.inl rfl, k⟩
theorem s166 (hd : 2 ≤ d) (x : Int32) (k : Post none (pz s a (if w = -1 then x else w))) : tE c d 166 [.ref 48, .int x] (pz s a w) Post := by
  obtain ⟨d, rfl⟩ := d_1 (Nat.le_trans (by decide) hd)
  refine okm166 c d Post _ _ (s165 (by omega) ⟨_, rfl, fun z => ?_, fun z => ?_⟩)
  · rw [bI_0] at z
    rw [if_neg z] at k; exact k
  · rw [bI_0, Classical.not_not] at z
    rw [if_pos z] at k
    rintro s1 rfl
    rw [pz_wr]
    exact k
theorem s167 (hd : 2 ≤ d) (B : PB s t L p r) (ha : a < 2 ^ 20) {ch : Nat} (hc : ch < 256) (k : if w = -1 ∧ hrT t L p a = ch then Post (some (.int 1)) (pz s (a + 1) w) else Post (some (.int 0)) (pz s a w)) : tE c d 167 [.ref 48, .int (nI ch)] (pz s a w) Post := by
  obtain ⟨d, rfl⟩ := d_1 (Nat.le_trans (by decide) hd)
  refine okm167 c d Post _ _ (s165 (by omega) ⟨_, rfl, fun z => ?_, fun z => s164 (by omega) B ha ⟨_, rfl, fun y => ?_, fun y => ?_⟩⟩)
  · rw [bI_0] at z
    rw [if_neg (fun q => z q.1)] at k; exact k
  · rw [bI_0, Classical.not_not] at z
    rw [hI_eq (hrT_lt B a) hc] at y
    rw [if_pos ⟨z, y⟩] at k
    rintro s1 rfl
    rw [pz_1]
    exact k
  · rw [hI_eq (hrT_lt B a) hc] at y
    rw [if_neg (fun q => y q.2)] at k; exact k
theorem s168 (hd : 3 ≤ d) (B : PB s t L p r) (ha : a < 2 ^ 20) {ch : Nat} (hc : ch < 256) (k : if w = -1 then (if hrT t L p a = ch then Post none (pz s (a + 1) w) else Post none (pz s a (nI a))) else Post none (pz s a w)) : tE c d 168 [.ref 48, .int (nI ch)] (pz s a w) Post := by
  obtain ⟨d, rfl⟩ := d_1 (Nat.le_trans (by decide) hd)
  refine okm168 c d Post _ _ (s167 (by omega) B ha hc ?_)
  by_cases z : w = -1
  · rw [if_pos z] at k
    by_cases y : hrT t L p a = ch
    · rw [if_pos y] at k
      rw [if_pos ⟨z, y⟩]
      exact ⟨_, rfl, fun q => absurd q (by decide), fun _ => k⟩
    · rw [if_neg y] at k
      rw [if_neg (fun q => y q.2)]
      refine ⟨_, rfl, fun _ => s166 (by omega) _ ⟨rfl, ?_⟩, fun q => absurd rfl q⟩
      rw [if_pos z]
      exact k
  · rw [if_neg z] at k
    rw [if_neg (fun q => z q.1)]
    refine ⟨_, rfl, fun _ => s166 (by omega) _ ⟨rfl, ?_⟩, fun q => absurd rfl q⟩
    rw [if_neg z]
    exact k
/-- a sign of a range; hi below 128 -/
theorem s169 (hd : 3 ≤ d) (B : PB s t L p r) (ha : a < 2 ^ 20) {lo m : Nat} (hl : lo + m ≤ 128) (hm : 1 ≤ m) (k : if w = -1 then (if lo ≤ hrT t L p a ∧ hrT t L p a ≤ lo + m - 1 then Post (some (.int (nI (t a - lo)))) (pz s (a + 1) w) else Post (some (.int 0)) (pz s a (nI a))) else Post (some (.int 0)) (pz s a w)) : tE c d 169 [.ref 48, .int (nI lo), .int (nI m)] (pz s a w) Post := by
  obtain ⟨d, rfl⟩ := d_1 (Nat.le_trans (by decide) hd)
  have e : nI lo + nI m - 1 = nI (lo + m - 1) := by
    rw [nI_add]
    exact pk_sub (a := lo + m) (b := 1) (by omega)
  refine okm169 c d Post _ _ _ ?_
  unfold wm169
  rw [e]
  refine s165 (by omega) ⟨_, rfl, fun z => ?_, fun z => s164 (by omega) B ha ⟨_, rfl, s154 (by omega) _ _ _ ⟨_, rfl, fun y => ?_, fun y => ?_⟩⟩⟩
  · rw [bI_0] at z
    rw [if_neg z] at k; exact k
  · rw [bI_0, Classical.not_not] at z
    rw [bI_0, hI_in (hrT_lt B a) (by omega) (by omega)] at y
    rw [if_pos z, if_neg y] at k
    refine s166 (by omega) _ ⟨rfl, ?_⟩
    rw [if_pos z]
    exact k
  · rw [bI_0, Classical.not_not] at z
    rw [bI_0, hI_in (hrT_lt B a) (by omega) (by omega), Classical.not_not] at y
    rw [if_pos z, if_pos y] at k
    rintro s1 rfl
    rw [pz_1]
    obtain ⟨h1, h2, ⟨N, h3, h4, h4'⟩, h5, h6, h7, h8, h9⟩ := B
    obtain ⟨q1, q2, q3⟩ := hrT_in (t := t) (L := L) (p := p) (a := a) (by omega)
    have h10 := h9 a q1 q2
    have e1 : gsV (pz s (a + 1) w) 48 17 - 1 = nI a := pk_sub (a := a + 1) (b := 1) (by omega)
    rw [e1, show gsP (pz s (a + 1) w) = gsP s from rfl, h1, nI_clamp (by omega)]
    refine ⟨h2, N, h3, vp_in_nI (by omega) (by omega), ?_⟩
    show Post (some (.int (gsA s r a - nI lo))) _
    rw [h10.2]
    unfold sby
    rw [if_pos (by omega), nI_sub (by omega)]
    exact k
theorem s171 (hd : 3 ≤ d) (B : PB s t L p r) (ha : a < 2 ^ 20) (k : if w = -1 then (if a < L then Post (some (.int 0)) (pz s a (nI a)) else Post (some (.int 1)) (pz s a w)) else Post (some (.int 0)) (pz s a w)) : tE c d 171 [.ref 48] (pz s a w) Post := by
  obtain ⟨d, rfl⟩ := d_1 (Nat.le_trans (by decide) hd)
  have h7 := B.2.2.2.2.2.1
  have hL := B.2.2.2.1
  refine okm171 c d Post _ ?_
  unfold wm171 w171_19
  rw [show gsV (pz s a w) 48 15 = gsV s 48 15 from rfl, show gsV (pz s a w) 48 17 = nI a from rfl, h7, nI_le' (by omega) (by omega)]
  refine ⟨fun z => s165 (by omega) ⟨_, rfl, bI_01 _, ?_⟩, fun z => s166 (by omega) _ ⟨rfl, ?_⟩⟩
  · rw [if_neg (show ¬ a < L by omega)] at k
    by_cases q : w = -1
    · rw [if_pos q] at k; rw [bI_t q]; exact k
    · rw [if_neg q] at k; rw [bI_f q]; exact k
  · rw [if_pos (show a < L by omega)] at k
    by_cases q : w = -1
    · rw [if_pos q] at k ⊢
      refine s165 (by omega) ⟨_, rfl, bI_01 _, ?_⟩
      rw [bI_f (fun z => absurd (z ▸ (by decide : (-1 : Int32) < 0)) (nI_pos (by omega)))]
      exact k
    · rw [if_neg q] at k ⊢
      refine s165 (by omega) ⟨_, rfl, bI_01 _, ?_⟩
      rw [bI_f q]
      exact k
end S6
