/-! What must hold for a run to end with Post: by program (wip/whole/gen_wp.py). -/
def w264_19 (c : gx) (d : Nat) (Post : Option Value → gs → Prop) (xs0 : Int32) (s : gs) : Prop :=
  Post (some (.int xs0)) s
theorem ok264_19 (c : gx) (d : Nat) (Post : Option Value → gs → Prop)  (xs0 : Int32) (s : gs) (w : w264_19 c d Post xs0 s) : tV c d 264 19 [none, none] [.int xs0] s Post := by
  intro h hR
  have hk : ∀ pc i, gm_find gk_264 pc = some i → gm_code (gt_T c.1 c.2.1 c.2.2.1) 264 pc = some i := fun _ _ z => z
  unfold w264_19 at w
  unfold gV
  exact gw_ret (hk _ _ rfl) rfl ⟨_, hR, w⟩
/-- java/lang/Integer.compare(II)I -/
def wm264 (c : gx) (d : Nat) (Post : Option Value → gs → Prop) (x0 : Int32) (x1 : Int32) (s : gs) : Prop :=
  ((x1 ≤ x0 → ((x0 = x1 → w264_19 c d Post 0 s) ∧ (¬ (x0 = x1) → w264_19 c d Post 1 s))) ∧ (¬ (x1 ≤ x0) → w264_19 c d Post (-1) s))
theorem okm264 (c : gx) (d : Nat) (Post : Option Value → gs → Prop) (x0 : Int32) (x1 : Int32) (s : gs) (w : wm264 c d Post x0 x1 s) : tE c (d + 1) 264 [.int x0, .int x1] s Post := by
  intro h hR
  have hk : ∀ pc i, gm_find gk_264 pc = some i → gm_code (gt_T c.1 c.2.1 c.2.2.1) 264 pc = some i := fun _ _ z => z
  unfold wm264 at w
  refine ge_of (by decide) (Nat.le_of_ble_eq_true rfl) ?_
  show gw (gt_T c.1 c.2.1 c.2.2.1) c.2.2.2 d 264 (0, [some (.int x0), some (.int x1)], [], h) _
  refine gw_pst hk 2 (st' := (2, [some (.int x0), some (.int x1)], [.int x1, .int x0], h)) rfl ?_
  refine gw_br (c := x1 ≤ x0) (a := (9, [some (.int x0), some (.int x1)], [], h)) (b := (5, [some (.int x0), some (.int x1)], [], h)) (hk _ _ rfl) rfl ⟨fun z1 => ?_, fun z1 => ?_⟩
  · replace w := w.1 z1
    refine gw_pst hk 2 (st' := (11, [some (.int x0), some (.int x1)], [.int x1, .int x0], h)) rfl ?_
    refine gw_br (c := x0 = x1) (a := (14, [some (.int x0), some (.int x1)], [], h)) (b := (18, [some (.int x0), some (.int x1)], [], h)) (hk _ _ rfl) rfl ⟨fun z2 => ?_, fun z2 => ?_⟩
    · replace w := w.1 z2
      refine gw_pst hk 2 (st' := (19, [some (.int x0), some (.int x1)], [.int 0], h)) rfl ?_
      refine gw_le (L' := [none, none]) (gm_le_n _ (gm_le_n _ gm_le_nil)) ?_
      exact ok264_19 c d Post _ _ w _ hR
    · replace w := w.2 z2
      refine gw_pst hk 1 (st' := (19, [some (.int x0), some (.int x1)], [.int 1], h)) rfl ?_
      refine gw_le (L' := [none, none]) (gm_le_n _ (gm_le_n _ gm_le_nil)) ?_
      exact ok264_19 c d Post _ _ w _ hR
  · replace w := w.2 z1
    refine gw_pst hk 2 (st' := (19, [some (.int x0), some (.int x1)], [.int (-1)], h)) rfl ?_
    refine gw_le (L' := [none, none]) (gm_le_n _ (gm_le_n _ gm_le_nil)) ?_
    exact ok264_19 c d Post _ _ w _ hR
def w265_74 (c : gx) (d : Nat) (Post : Option Value → gs → Prop) (x0 : Int32) (x1 : Int32) (s : gs) : Prop :=
  Post (some (.int (x1 + (((x0).toUInt32 >>> ((1 : Int32).toUInt32 &&& Int32.toUInt32 31)).toInt32)))) s
theorem ok265_74 (c : gx) (d : Nat) (Post : Option Value → gs → Prop)  (x0 : Int32) (x1 : Int32) (s : gs) (w : w265_74 c d Post x0 x1 s) : tV c d 265 74 [some (.int x0), some (.int x1)] [] s Post := by
  intro h hR
  have hk : ∀ pc i, gm_find gk_265 pc = some i → gm_code (gt_T c.1 c.2.1 c.2.2.1) 265 pc = some i := fun _ _ z => z
  unfold w265_74 at w
  unfold gV
  refine gw_pst hk 5 (st' := (79, [some (.int x0), some (.int x1)], [.int (x1 + (((x0).toUInt32 >>> ((1 : Int32).toUInt32 &&& Int32.toUInt32 31)).toInt32))], h)) rfl ?_
  exact gw_ret (hk _ _ rfl) rfl ⟨_, hR, w⟩
def w265_62 (c : gx) (d : Nat) (Post : Option Value → gs → Prop) (x0 : Int32) (x1 : Int32) (s : gs) : Prop :=
  ((x0 ≤ 4 → w265_74 c d Post x0 x1 s) ∧ (¬ (x0 ≤ 4) → w265_74 c d Post (((x0).toUInt32 >>> ((2 : Int32).toUInt32 &&& Int32.toUInt32 31)).toInt32) (x1 + 2) s))
theorem ok265_62 (c : gx) (d : Nat) (Post : Option Value → gs → Prop)  (x0 : Int32) (x1 : Int32) (s : gs) (w : w265_62 c d Post x0 x1 s) : tV c d 265 62 [some (.int x0), some (.int x1)] [] s Post := by
  intro h hR
  have hk : ∀ pc i, gm_find gk_265 pc = some i → gm_code (gt_T c.1 c.2.1 c.2.2.1) 265 pc = some i := fun _ _ z => z
  unfold w265_62 at w
  unfold gV
  refine gw_pst hk 2 (st' := (64, [some (.int x0), some (.int x1)], [.int 4, .int x0], h)) rfl ?_
  refine gw_br (c := x0 ≤ 4) (a := (74, [some (.int x0), some (.int x1)], [], h)) (b := (67, [some (.int x0), some (.int x1)], [], h)) (hk _ _ rfl) rfl ⟨fun z1 => ?_, fun z1 => ?_⟩
  · replace w := w.1 z1
    exact ok265_74 c d Post _ _ _ w _ hR
  · replace w := w.2 z1
    refine gw_pst hk 5 (st' := (74, [some (.int (((x0).toUInt32 >>> ((2 : Int32).toUInt32 &&& Int32.toUInt32 31)).toInt32)), some (.int (x1 + 2))], [], h)) rfl ?_
    exact ok265_74 c d Post _ _ _ w _ hR
def w265_49 (c : gx) (d : Nat) (Post : Option Value → gs → Prop) (x0 : Int32) (x1 : Int32) (s : gs) : Prop :=
  ((x0 ≤ 16 → w265_62 c d Post x0 x1 s) ∧ (¬ (x0 ≤ 16) → w265_62 c d Post (((x0).toUInt32 >>> ((4 : Int32).toUInt32 &&& Int32.toUInt32 31)).toInt32) (x1 + 4) s))
theorem ok265_49 (c : gx) (d : Nat) (Post : Option Value → gs → Prop)  (x0 : Int32) (x1 : Int32) (s : gs) (w : w265_49 c d Post x0 x1 s) : tV c d 265 49 [some (.int x0), some (.int x1)] [] s Post := by
  intro h hR
  have hk : ∀ pc i, gm_find gk_265 pc = some i → gm_code (gt_T c.1 c.2.1 c.2.2.1) 265 pc = some i := fun _ _ z => z
  unfold w265_49 at w
  unfold gV
  refine gw_pst hk 2 (st' := (52, [some (.int x0), some (.int x1)], [.int 16, .int x0], h)) rfl ?_
  refine gw_br (c := x0 ≤ 16) (a := (62, [some (.int x0), some (.int x1)], [], h)) (b := (55, [some (.int x0), some (.int x1)], [], h)) (hk _ _ rfl) rfl ⟨fun z1 => ?_, fun z1 => ?_⟩
  · replace w := w.1 z1
    exact ok265_62 c d Post _ _ _ w _ hR
  · replace w := w.2 z1
    refine gw_pst hk 5 (st' := (62, [some (.int (((x0).toUInt32 >>> ((4 : Int32).toUInt32 &&& Int32.toUInt32 31)).toInt32)), some (.int (x1 + 4))], [], h)) rfl ?_
    exact ok265_62 c d Post _ _ _ w _ hR
def w265_34 (c : gx) (d : Nat) (Post : Option Value → gs → Prop) (x0 : Int32) (x1 : Int32) (s : gs) : Prop :=
  ((x0 ≤ 256 → w265_49 c d Post x0 x1 s) ∧ (¬ (x0 ≤ 256) → w265_49 c d Post (((x0).toUInt32 >>> ((8 : Int32).toUInt32 &&& Int32.toUInt32 31)).toInt32) (x1 + 8) s))
theorem ok265_34 (c : gx) (d : Nat) (Post : Option Value → gs → Prop)  (x0 : Int32) (x1 : Int32) (s : gs) (w : w265_34 c d Post x0 x1 s) : tV c d 265 34 [some (.int x0), some (.int x1)] [] s Post := by
  intro h hR
  have hk : ∀ pc i, gm_find gk_265 pc = some i → gm_code (gt_T c.1 c.2.1 c.2.2.1) 265 pc = some i := fun _ _ z => z
  unfold w265_34 at w
  unfold gV
  refine gw_pst hk 2 (st' := (38, [some (.int x0), some (.int x1)], [.int 256, .int x0], h)) rfl ?_
  refine gw_br (c := x0 ≤ 256) (a := (49, [some (.int x0), some (.int x1)], [], h)) (b := (41, [some (.int x0), some (.int x1)], [], h)) (hk _ _ rfl) rfl ⟨fun z1 => ?_, fun z1 => ?_⟩
  · replace w := w.1 z1
    exact ok265_49 c d Post _ _ _ w _ hR
  · replace w := w.2 z1
    refine gw_pst hk 5 (st' := (49, [some (.int (((x0).toUInt32 >>> ((8 : Int32).toUInt32 &&& Int32.toUInt32 31)).toInt32)), some (.int (x1 + 8))], [], h)) rfl ?_
    exact ok265_49 c d Post _ _ _ w _ hR
/-- java/lang/Integer.numberOfTrailingZeros(I)I -/
def wm265 (c : gx) (d : Nat) (Post : Option Value → gs → Prop) (x0 : Int32) (s : gs) : Prop :=
  ((0 < ((x0 ^^^ (-1)) &&& (x0 - 1)) → ((((x0 ^^^ (-1)) &&& (x0 - 1)) ≤ 65536 → w265_34 c d Post ((x0 ^^^ (-1)) &&& (x0 - 1)) 1 s) ∧ (¬ (((x0 ^^^ (-1)) &&& (x0 - 1)) ≤ 65536) → w265_34 c d Post (((((x0 ^^^ (-1)) &&& (x0 - 1))).toUInt32 >>> ((16 : Int32).toUInt32 &&& Int32.toUInt32 31)).toInt32) (1 + 16) s))) ∧ (¬ (0 < ((x0 ^^^ (-1)) &&& (x0 - 1))) → Post (some (.int (((x0 ^^^ (-1)) &&& (x0 - 1)) &&& 32))) s))
theorem okm265 (c : gx) (d : Nat) (Post : Option Value → gs → Prop) (x0 : Int32) (s : gs) (w : wm265 c d Post x0 s) : tE c (d + 1) 265 [.int x0] s Post := by
  intro h hR
  have hk : ∀ pc i, gm_find gk_265 pc = some i → gm_code (gt_T c.1 c.2.1 c.2.2.1) 265 pc = some i := fun _ _ z => z
  unfold wm265 at w
  refine ge_of (by decide) (Nat.le_of_ble_eq_true rfl) ?_
  show gw (gt_T c.1 c.2.1 c.2.2.1) c.2.2.2 d 265 (0, [some (.int x0), none], [], h) _
  refine gw_pst hk 9 (st' := (9, [some (.int ((x0 ^^^ (-1)) &&& (x0 - 1))), none], [.int ((x0 ^^^ (-1)) &&& (x0 - 1))], h)) rfl ?_
  refine gw_br (c := 0 < ((x0 ^^^ (-1)) &&& (x0 - 1))) (a := (17, [some (.int ((x0 ^^^ (-1)) &&& (x0 - 1))), none], [], h)) (b := (12, [some (.int ((x0 ^^^ (-1)) &&& (x0 - 1))), none], [], h)) (hk _ _ rfl) rfl ⟨fun z1 => ?_, fun z1 => ?_⟩
  · replace w := w.1 z1
    refine gw_pst hk 4 (st' := (23, [some (.int ((x0 ^^^ (-1)) &&& (x0 - 1))), some (.int 1)], [.int 65536, .int ((x0 ^^^ (-1)) &&& (x0 - 1))], h)) rfl ?_
    refine gw_br (c := ((x0 ^^^ (-1)) &&& (x0 - 1)) ≤ 65536) (a := (34, [some (.int ((x0 ^^^ (-1)) &&& (x0 - 1))), some (.int 1)], [], h)) (b := (26, [some (.int ((x0 ^^^ (-1)) &&& (x0 - 1))), some (.int 1)], [], h)) (hk _ _ rfl) rfl ⟨fun z2 => ?_, fun z2 => ?_⟩
    · replace w := w.1 z2
      exact ok265_34 c d Post _ _ _ w _ hR
    · replace w := w.2 z2
      refine gw_pst hk 5 (st' := (34, [some (.int (((((x0 ^^^ (-1)) &&& (x0 - 1))).toUInt32 >>> ((16 : Int32).toUInt32 &&& Int32.toUInt32 31)).toInt32)), some (.int (1 + 16))], [], h)) rfl ?_
      exact ok265_34 c d Post _ _ _ w _ hR
  · replace w := w.2 z1
    refine gw_pst hk 3 (st' := (16, [some (.int ((x0 ^^^ (-1)) &&& (x0 - 1))), none], [.int (((x0 ^^^ (-1)) &&& (x0 - 1)) &&& 32)], h)) rfl ?_
    exact gw_ret (hk _ _ rfl) rfl ⟨_, hR, w⟩
/-- java/lang/Integer.bitCount(I)I -/
def wm266 (c : gx) (d : Nat) (Post : Option Value → gs → Prop) (x0 : Int32) (s : gs) : Prop :=
  Post (some (.int ((((((((x0 - ((((x0).toUInt32 >>> ((1 : Int32).toUInt32 &&& Int32.toUInt32 31)).toInt32) &&& 1431655765)) &&& 858993459) + (((((x0 - ((((x0).toUInt32 >>> ((1 : Int32).toUInt32 &&& Int32.toUInt32 31)).toInt32) &&& 1431655765))).toUInt32 >>> ((2 : Int32).toUInt32 &&& Int32.toUInt32 31)).toInt32) &&& 858993459)) + ((((((x0 - ((((x0).toUInt32 >>> ((1 : Int32).toUInt32 &&& Int32.toUInt32 31)).toInt32) &&& 1431655765)) &&& 858993459) + (((((x0 - ((((x0).toUInt32 >>> ((1 : Int32).toUInt32 &&& Int32.toUInt32 31)).toInt32) &&& 1431655765))).toUInt32 >>> ((2 : Int32).toUInt32 &&& Int32.toUInt32 31)).toInt32) &&& 858993459))).toUInt32 >>> ((4 : Int32).toUInt32 &&& Int32.toUInt32 31)).toInt32)) &&& 252645135) + ((((((((x0 - ((((x0).toUInt32 >>> ((1 : Int32).toUInt32 &&& Int32.toUInt32 31)).toInt32) &&& 1431655765)) &&& 858993459) + (((((x0 - ((((x0).toUInt32 >>> ((1 : Int32).toUInt32 &&& Int32.toUInt32 31)).toInt32) &&& 1431655765))).toUInt32 >>> ((2 : Int32).toUInt32 &&& Int32.toUInt32 31)).toInt32) &&& 858993459)) + ((((((x0 - ((((x0).toUInt32 >>> ((1 : Int32).toUInt32 &&& Int32.toUInt32 31)).toInt32) &&& 1431655765)) &&& 858993459) + (((((x0 - ((((x0).toUInt32 >>> ((1 : Int32).toUInt32 &&& Int32.toUInt32 31)).toInt32) &&& 1431655765))).toUInt32 >>> ((2 : Int32).toUInt32 &&& Int32.toUInt32 31)).toInt32) &&& 858993459))).toUInt32 >>> ((4 : Int32).toUInt32 &&& Int32.toUInt32 31)).toInt32)) &&& 252645135)).toUInt32 >>> ((8 : Int32).toUInt32 &&& Int32.toUInt32 31)).toInt32)) + (((((((((x0 - ((((x0).toUInt32 >>> ((1 : Int32).toUInt32 &&& Int32.toUInt32 31)).toInt32) &&& 1431655765)) &&& 858993459) + (((((x0 - ((((x0).toUInt32 >>> ((1 : Int32).toUInt32 &&& Int32.toUInt32 31)).toInt32) &&& 1431655765))).toUInt32 >>> ((2 : Int32).toUInt32 &&& Int32.toUInt32 31)).toInt32) &&& 858993459)) + ((((((x0 - ((((x0).toUInt32 >>> ((1 : Int32).toUInt32 &&& Int32.toUInt32 31)).toInt32) &&& 1431655765)) &&& 858993459) + (((((x0 - ((((x0).toUInt32 >>> ((1 : Int32).toUInt32 &&& Int32.toUInt32 31)).toInt32) &&& 1431655765))).toUInt32 >>> ((2 : Int32).toUInt32 &&& Int32.toUInt32 31)).toInt32) &&& 858993459))).toUInt32 >>> ((4 : Int32).toUInt32 &&& Int32.toUInt32 31)).toInt32)) &&& 252645135) + ((((((((x0 - ((((x0).toUInt32 >>> ((1 : Int32).toUInt32 &&& Int32.toUInt32 31)).toInt32) &&& 1431655765)) &&& 858993459) + (((((x0 - ((((x0).toUInt32 >>> ((1 : Int32).toUInt32 &&& Int32.toUInt32 31)).toInt32) &&& 1431655765))).toUInt32 >>> ((2 : Int32).toUInt32 &&& Int32.toUInt32 31)).toInt32) &&& 858993459)) + ((((((x0 - ((((x0).toUInt32 >>> ((1 : Int32).toUInt32 &&& Int32.toUInt32 31)).toInt32) &&& 1431655765)) &&& 858993459) + (((((x0 - ((((x0).toUInt32 >>> ((1 : Int32).toUInt32 &&& Int32.toUInt32 31)).toInt32) &&& 1431655765))).toUInt32 >>> ((2 : Int32).toUInt32 &&& Int32.toUInt32 31)).toInt32) &&& 858993459))).toUInt32 >>> ((4 : Int32).toUInt32 &&& Int32.toUInt32 31)).toInt32)) &&& 252645135)).toUInt32 >>> ((8 : Int32).toUInt32 &&& Int32.toUInt32 31)).toInt32))).toUInt32 >>> ((16 : Int32).toUInt32 &&& Int32.toUInt32 31)).toInt32)) &&& 63))) s
theorem okm266 (c : gx) (d : Nat) (Post : Option Value → gs → Prop) (x0 : Int32) (s : gs) (w : wm266 c d Post x0 s) : tE c (d + 1) 266 [.int x0] s Post := by
  intro h hR
  have hk : ∀ pc i, gm_find gk_266 pc = some i → gm_code (gt_T c.1 c.2.1 c.2.2.1) 266 pc = some i := fun _ _ z => z
  unfold wm266 at w
  refine ge_of (by decide) (Nat.le_of_ble_eq_true rfl) ?_
  show gw (gt_T c.1 c.2.1 c.2.2.1) c.2.2.2 d 266 (0, [some (.int x0)], [], h) _
  refine gw_pst hk 41 (st' := (52, [some (.int (((((((x0 - ((((x0).toUInt32 >>> ((1 : Int32).toUInt32 &&& Int32.toUInt32 31)).toInt32) &&& 1431655765)) &&& 858993459) + (((((x0 - ((((x0).toUInt32 >>> ((1 : Int32).toUInt32 &&& Int32.toUInt32 31)).toInt32) &&& 1431655765))).toUInt32 >>> ((2 : Int32).toUInt32 &&& Int32.toUInt32 31)).toInt32) &&& 858993459)) + ((((((x0 - ((((x0).toUInt32 >>> ((1 : Int32).toUInt32 &&& Int32.toUInt32 31)).toInt32) &&& 1431655765)) &&& 858993459) + (((((x0 - ((((x0).toUInt32 >>> ((1 : Int32).toUInt32 &&& Int32.toUInt32 31)).toInt32) &&& 1431655765))).toUInt32 >>> ((2 : Int32).toUInt32 &&& Int32.toUInt32 31)).toInt32) &&& 858993459))).toUInt32 >>> ((4 : Int32).toUInt32 &&& Int32.toUInt32 31)).toInt32)) &&& 252645135) + ((((((((x0 - ((((x0).toUInt32 >>> ((1 : Int32).toUInt32 &&& Int32.toUInt32 31)).toInt32) &&& 1431655765)) &&& 858993459) + (((((x0 - ((((x0).toUInt32 >>> ((1 : Int32).toUInt32 &&& Int32.toUInt32 31)).toInt32) &&& 1431655765))).toUInt32 >>> ((2 : Int32).toUInt32 &&& Int32.toUInt32 31)).toInt32) &&& 858993459)) + ((((((x0 - ((((x0).toUInt32 >>> ((1 : Int32).toUInt32 &&& Int32.toUInt32 31)).toInt32) &&& 1431655765)) &&& 858993459) + (((((x0 - ((((x0).toUInt32 >>> ((1 : Int32).toUInt32 &&& Int32.toUInt32 31)).toInt32) &&& 1431655765))).toUInt32 >>> ((2 : Int32).toUInt32 &&& Int32.toUInt32 31)).toInt32) &&& 858993459))).toUInt32 >>> ((4 : Int32).toUInt32 &&& Int32.toUInt32 31)).toInt32)) &&& 252645135)).toUInt32 >>> ((8 : Int32).toUInt32 &&& Int32.toUInt32 31)).toInt32)) + (((((((((x0 - ((((x0).toUInt32 >>> ((1 : Int32).toUInt32 &&& Int32.toUInt32 31)).toInt32) &&& 1431655765)) &&& 858993459) + (((((x0 - ((((x0).toUInt32 >>> ((1 : Int32).toUInt32 &&& Int32.toUInt32 31)).toInt32) &&& 1431655765))).toUInt32 >>> ((2 : Int32).toUInt32 &&& Int32.toUInt32 31)).toInt32) &&& 858993459)) + ((((((x0 - ((((x0).toUInt32 >>> ((1 : Int32).toUInt32 &&& Int32.toUInt32 31)).toInt32) &&& 1431655765)) &&& 858993459) + (((((x0 - ((((x0).toUInt32 >>> ((1 : Int32).toUInt32 &&& Int32.toUInt32 31)).toInt32) &&& 1431655765))).toUInt32 >>> ((2 : Int32).toUInt32 &&& Int32.toUInt32 31)).toInt32) &&& 858993459))).toUInt32 >>> ((4 : Int32).toUInt32 &&& Int32.toUInt32 31)).toInt32)) &&& 252645135) + ((((((((x0 - ((((x0).toUInt32 >>> ((1 : Int32).toUInt32 &&& Int32.toUInt32 31)).toInt32) &&& 1431655765)) &&& 858993459) + (((((x0 - ((((x0).toUInt32 >>> ((1 : Int32).toUInt32 &&& Int32.toUInt32 31)).toInt32) &&& 1431655765))).toUInt32 >>> ((2 : Int32).toUInt32 &&& Int32.toUInt32 31)).toInt32) &&& 858993459)) + ((((((x0 - ((((x0).toUInt32 >>> ((1 : Int32).toUInt32 &&& Int32.toUInt32 31)).toInt32) &&& 1431655765)) &&& 858993459) + (((((x0 - ((((x0).toUInt32 >>> ((1 : Int32).toUInt32 &&& Int32.toUInt32 31)).toInt32) &&& 1431655765))).toUInt32 >>> ((2 : Int32).toUInt32 &&& Int32.toUInt32 31)).toInt32) &&& 858993459))).toUInt32 >>> ((4 : Int32).toUInt32 &&& Int32.toUInt32 31)).toInt32)) &&& 252645135)).toUInt32 >>> ((8 : Int32).toUInt32 &&& Int32.toUInt32 31)).toInt32))).toUInt32 >>> ((16 : Int32).toUInt32 &&& Int32.toUInt32 31)).toInt32)))], [.int ((((((((x0 - ((((x0).toUInt32 >>> ((1 : Int32).toUInt32 &&& Int32.toUInt32 31)).toInt32) &&& 1431655765)) &&& 858993459) + (((((x0 - ((((x0).toUInt32 >>> ((1 : Int32).toUInt32 &&& Int32.toUInt32 31)).toInt32) &&& 1431655765))).toUInt32 >>> ((2 : Int32).toUInt32 &&& Int32.toUInt32 31)).toInt32) &&& 858993459)) + ((((((x0 - ((((x0).toUInt32 >>> ((1 : Int32).toUInt32 &&& Int32.toUInt32 31)).toInt32) &&& 1431655765)) &&& 858993459) + (((((x0 - ((((x0).toUInt32 >>> ((1 : Int32).toUInt32 &&& Int32.toUInt32 31)).toInt32) &&& 1431655765))).toUInt32 >>> ((2 : Int32).toUInt32 &&& Int32.toUInt32 31)).toInt32) &&& 858993459))).toUInt32 >>> ((4 : Int32).toUInt32 &&& Int32.toUInt32 31)).toInt32)) &&& 252645135) + ((((((((x0 - ((((x0).toUInt32 >>> ((1 : Int32).toUInt32 &&& Int32.toUInt32 31)).toInt32) &&& 1431655765)) &&& 858993459) + (((((x0 - ((((x0).toUInt32 >>> ((1 : Int32).toUInt32 &&& Int32.toUInt32 31)).toInt32) &&& 1431655765))).toUInt32 >>> ((2 : Int32).toUInt32 &&& Int32.toUInt32 31)).toInt32) &&& 858993459)) + ((((((x0 - ((((x0).toUInt32 >>> ((1 : Int32).toUInt32 &&& Int32.toUInt32 31)).toInt32) &&& 1431655765)) &&& 858993459) + (((((x0 - ((((x0).toUInt32 >>> ((1 : Int32).toUInt32 &&& Int32.toUInt32 31)).toInt32) &&& 1431655765))).toUInt32 >>> ((2 : Int32).toUInt32 &&& Int32.toUInt32 31)).toInt32) &&& 858993459))).toUInt32 >>> ((4 : Int32).toUInt32 &&& Int32.toUInt32 31)).toInt32)) &&& 252645135)).toUInt32 >>> ((8 : Int32).toUInt32 &&& Int32.toUInt32 31)).toInt32)) + (((((((((x0 - ((((x0).toUInt32 >>> ((1 : Int32).toUInt32 &&& Int32.toUInt32 31)).toInt32) &&& 1431655765)) &&& 858993459) + (((((x0 - ((((x0).toUInt32 >>> ((1 : Int32).toUInt32 &&& Int32.toUInt32 31)).toInt32) &&& 1431655765))).toUInt32 >>> ((2 : Int32).toUInt32 &&& Int32.toUInt32 31)).toInt32) &&& 858993459)) + ((((((x0 - ((((x0).toUInt32 >>> ((1 : Int32).toUInt32 &&& Int32.toUInt32 31)).toInt32) &&& 1431655765)) &&& 858993459) + (((((x0 - ((((x0).toUInt32 >>> ((1 : Int32).toUInt32 &&& Int32.toUInt32 31)).toInt32) &&& 1431655765))).toUInt32 >>> ((2 : Int32).toUInt32 &&& Int32.toUInt32 31)).toInt32) &&& 858993459))).toUInt32 >>> ((4 : Int32).toUInt32 &&& Int32.toUInt32 31)).toInt32)) &&& 252645135) + ((((((((x0 - ((((x0).toUInt32 >>> ((1 : Int32).toUInt32 &&& Int32.toUInt32 31)).toInt32) &&& 1431655765)) &&& 858993459) + (((((x0 - ((((x0).toUInt32 >>> ((1 : Int32).toUInt32 &&& Int32.toUInt32 31)).toInt32) &&& 1431655765))).toUInt32 >>> ((2 : Int32).toUInt32 &&& Int32.toUInt32 31)).toInt32) &&& 858993459)) + ((((((x0 - ((((x0).toUInt32 >>> ((1 : Int32).toUInt32 &&& Int32.toUInt32 31)).toInt32) &&& 1431655765)) &&& 858993459) + (((((x0 - ((((x0).toUInt32 >>> ((1 : Int32).toUInt32 &&& Int32.toUInt32 31)).toInt32) &&& 1431655765))).toUInt32 >>> ((2 : Int32).toUInt32 &&& Int32.toUInt32 31)).toInt32) &&& 858993459))).toUInt32 >>> ((4 : Int32).toUInt32 &&& Int32.toUInt32 31)).toInt32)) &&& 252645135)).toUInt32 >>> ((8 : Int32).toUInt32 &&& Int32.toUInt32 31)).toInt32))).toUInt32 >>> ((16 : Int32).toUInt32 &&& Int32.toUInt32 31)).toInt32)) &&& 63)], h)) rfl ?_
  exact gw_ret (hk _ _ rfl) rfl ⟨_, hR, w⟩
