/-! The reference's parser answers as pp says. -/
section S7
variable {c : gx} {d : Nat} {Post : Option Value → gs → Prop} {s : gs} {t : Nat → Nat} {L p r a : Nat} {w : Int32}
theorem s178 (hd : 1 ≤ d) {x : Nat} (hx : x < 256 ∨ x = 999) (k : Post (some (.int (match lix x with | some i => nI i | none => -1))) s) : tE c d 178 [.int (hI x)] s Post := by
  obtain ⟨d, rfl⟩ := d_1 hd
  refine okm178 c d Post _ s ?_
  have e := fun y (hy : y < 256) => hI_eq hx hy
  unfold wm178 w178_83
  rw [show hI x = 98 ↔ x = 98 from e 98 (by decide), show hI x = 108 ↔ x = 108 from e 108 (by decide), show hI x = 104 ↔ x = 104 from e 104 (by decide), show hI x = 109 ↔ x = 109 from e 109 (by decide), show hI x = 101 ↔ x = 101 from e 101 (by decide), show hI x = 102 ↔ x = 102 from e 102 (by decide), show hI x = 100 ↔ x = 100 from e 100 (by decide), show hI x = 119 ↔ x = 119 from e 119 (by decide)]
  unfold lix at k
  refine ⟨fun z => ?_, fun z1 => ⟨fun z => ?_, fun z2 => ⟨fun z => ?_, fun z3 => ⟨fun z => ?_, fun z4 => ⟨fun z => ?_, fun z5 => ⟨fun z => ?_, fun z6 => ⟨fun z => ?_, fun z7 => ⟨fun z => ?_, fun z8 => ?_⟩⟩⟩⟩⟩⟩⟩⟩
  · subst z; exact k
  · subst z; exact k
  · subst z; exact k
  · subst z; exact k
  · subst z; exact k
  · subst z; exact k
  · subst z; exact k
  · subst z; exact k
  · simpa [z1, z2, z3, z4, z5, z6, z7, z8] using k
/-- a number of at most three digits, the first one there -/
theorem s170 (hd : 4 ≤ d) (B : PB s t L 40 r) (ha : a < 2 ^ 20) (h0 : 48 ≤ hr t L a ∧ hr t L a ≤ 57) (k : Post (some (.int (pnm t L a).1)) (pz s (pnm t L a).2 (-1))) : tE c d 170 [.ref 48, .int (nI 3)] (pz s a (-1)) Post := by
  obtain ⟨d, rfl⟩ := d_1 (Nat.le_trans (by decide) hd)
  have one : ∀ (b : Nat) (Q : Option Value → gs → Prop), b < 2 ^ 20 + 5 → 48 ≤ hr t L b ∧ hr t L b ≤ 57 → Q (some (.int (nI (t b - 48)))) (pz s (b + 1) (-1)) → tE c d 169 [.ref 48, .int 48, .int 10] (pz s b (-1)) Q := by
    intro b Q hb h1 hq
    have hb' : b < 2 ^ 20 := by
      have := (hrT_in (t := t) (L := L) (p := 40) (a := b) (by rw [← hrT_40]; omega)).2.1
      omega
    refine s169 (lo := 48) (m := 10) (by omega) B hb' (by decide) (by decide) ?_
    rw [if_pos rfl, ← hrT_40, if_pos ⟨h1.1, by omega⟩]
    exact hq
  have bd : ∀ b, 48 ≤ hr t L b ∧ hr t L b ≤ 57 → b < 40 ∧ t b ≤ 57 := by
    intro b h1
    have := hrT_in (t := t) (L := L) (p := 40) (a := b) (by rw [← hrT_40]; omega)
    rw [hrT_40] at h1
    omega
  refine okm170 c d Post _ _ (one a _ (by omega) h0 ⟨_, rfl, 4, ?_⟩)
  have stop : ∀ (b m i : Nat) (v : Int32), b < 2 ^ 20 → i ≤ 3 → (¬ (48 ≤ hr t L b ∧ hr t L b ≤ 57) ∨ i = 3) → Post (some (.int v)) (pz s b (-1)) → wl170_11 c d Post (m + 1) (nI 3) v (nI i) (pz s b (-1)) := by
    intro b m i v hb hi h1 hq
    refine ⟨fun _ => hq, fun z => s165 (by omega) ⟨_, rfl, fun _ => hq, fun _ => s164 (by omega) B hb ⟨_, rfl, s154 (by omega) _ _ _ ⟨_, rfl, fun _ => hq, fun y => ?_⟩⟩⟩⟩
    rw [nI_le' (by decide) (by omega)] at z
    rw [bI_0, show ((48 : Int32) ≤ hI (hrT t L 40 b) ∧ hI (hrT t L 40 b) ≤ 57) ↔ _ from hI_in (y := 48) (z := 57) (hrT_lt B b) (by decide) (by decide), Classical.not_not, ← hrT_40] at y
    rcases h1 with h1 | h1
    · exact absurd y h1
    · omega
  have go : ∀ (b m i : Nat) (v : Int32), b < 2 ^ 20 → i < 3 → (48 ≤ hr t L b ∧ hr t L b ≤ 57) → wl170_11 c d Post m (nI 3) (10 * v + nI (t b - 48)) (nI (i + 1)) (pz s (b + 1) (-1)) → wl170_11 c d Post (m + 1) (nI 3) v (nI i) (pz s b (-1)) := by
    intro b m i v hb hi h1 hq
    refine ⟨fun z => ?_, fun z => s165 (by omega) ⟨_, rfl, fun z => absurd z (by decide), fun _ => s164 (by omega) B hb ⟨_, rfl, s154 (by omega) _ _ _ ⟨_, rfl, fun y => ?_, fun y => one b _ (by omega) h1 ⟨_, rfl, ?_⟩⟩⟩⟩⟩
    · rw [nI_le' (by decide) (by omega)] at z; omega
    · rw [bI_0, show ((48 : Int32) ≤ hI (hrT t L 40 b) ∧ hI (hrT t L 40 b) ≤ 57) ↔ _ from hI_in (y := 48) (z := 57) (hrT_lt B b) (by decide) (by decide), ← hrT_40] at y
      exact absurd h1 y
    · rw [nI_1]
      exact hq
  have b0 := bd a h0
  have ten : ∀ x y : Nat, (10 : Int32) * nI x + nI y = nI (10 * x + y) := by
    intro x y
    rw [← nI_add, ← pk_mul]
    rfl
  unfold pnm at k
  by_cases h1 : 48 ≤ hr t L (a + 1) ∧ hr t L (a + 1) ≤ 57
  · have b1 := bd (a + 1) h1
    rw [if_pos h1] at k
    refine go (a + 1) 3 1 _ (by omega) (by decide) h1 ?_
    rw [ten]
    by_cases h2 : 48 ≤ hr t L (a + 2) ∧ hr t L (a + 2) ≤ 57
    · have b2 := bd (a + 2) h2
      rw [if_pos h2] at k
      refine go (a + 2) 2 2 _ (by omega) (by decide) h2 ?_
      rw [ten]
      refine stop (a + 3) 1 3 _ (by omega) (by decide) (Or.inr rfl) ?_
      rw [show 10 * (10 * (t a - 48) + (t (a + 1) - 48)) + (t (a + 2) - 48) = 100 * (t a - 48) + 10 * (t (a + 1) - 48) + (t (a + 2) - 48) by omega]
      exact k
    · rw [if_neg h2] at k
      exact stop (a + 2) 2 2 _ (by omega) (by decide) (Or.inl h2) k
  · rw [if_neg h1] at k
    exact stop (a + 1) 3 1 _ (by omega) (by decide) (Or.inl h1) k
/-- what the reader must do with an answer of pp -/
def pok (s : gs) (Post : Option Value → gs → Prop) : Nat ⊕ (Int32 × Nat) → Prop
  | .inl e => ∀ (v : Int32) (b : Nat), b < 2 ^ 20 → Post (some (.int v)) (pz s b (nI e))
  | .inr (v, b) => Post (some (.int v)) (pz s b (-1))
theorem pok_imp {P Q : Option Value → gs → Prop} {x : Nat ⊕ (Int32 × Nat)} (h : pok s P x) (q1 : ∀ e, x = .inl e → ∀ (v : Int32) (b : Nat), b < 2 ^ 20 → P (some (.int v)) (pz s b (nI e)) → Q (some (.int v)) (pz s b (nI e))) (q2 : ∀ v b, x = .inr (v, b) → P (some (.int v)) (pz s b (-1)) → Q (some (.int v)) (pz s b (-1))) : pok s Q x := by
  cases x with
  | inl e => exact fun v b hb => q1 e rfl v b hb (h v b hb)
  | inr y => exact q2 y.1 y.2 rfl h
end S7
/-- where pp ends -/
theorem hr_lt {t : Nat → Nat} {L a x : Nat} (h : hr t L a = x) (hx : x ≠ 999) : a < L ∧ a < 40 := by
  have := hrT_in (t := t) (L := L) (p := 40) (a := a) (by rw [← hrT_40]; omega)
  exact ⟨this.1, this.2.1⟩
theorem pnm_b {t : Nat → Nat} {L a : Nat} (h0 : 48 ≤ hr t L a ∧ hr t L a ≤ 57) (ha : a ≤ 40) : a + 1 ≤ (pnm t L a).2 ∧ (pnm t L a).2 ≤ 40 ∧ (pnm t L a).2 ≤ L := by
  have b0 := hr_lt (t := t) (L := L) (a := a) rfl (by omega)
  unfold pnm
  by_cases h1 : 48 ≤ hr t L (a + 1) ∧ hr t L (a + 1) ≤ 57
  · have b1 := hr_lt (t := t) (L := L) (a := a + 1) rfl (by omega)
    rw [if_pos h1]
    by_cases h2 : 48 ≤ hr t L (a + 2) ∧ hr t L (a + 2) ≤ 57
    · have b2 := hr_lt (t := t) (L := L) (a := a + 2) rfl (by omega)
      rw [if_pos h2]
      show a + 1 ≤ a + 3 ∧ a + 3 ≤ 40 ∧ a + 3 ≤ L
      omega
    · rw [if_neg h2]
      show a + 1 ≤ a + 2 ∧ a + 2 ≤ 40 ∧ a + 2 ≤ L
      omega
  · rw [if_neg h1]
    show a + 1 ≤ a + 1 ∧ a + 1 ≤ 40 ∧ a + 1 ≤ L
    omega
theorem hr_40 (t : Nat → Nat) (L a : Nat) : hr t L a = 999 ∨ (a < 40 ∧ a < L) := by
  unfold hr
  by_cases h : a < L ∧ a < 40
  · exact Or.inr ⟨h.2, h.1⟩
  · exact Or.inl (if_neg h)
section PPE
variable (t : Nat → Nat) (L : Nat) (th : Nat → Int32) (n q : Nat) (v : Int32) (a : Nat)
theorem pp0 : pp t L th (n + 1) 0 q v a = pbd (pp t L th n 1 q 0 a) fun v b =>
      if hr t L b = 60 ∨ hr t L b = 62 ∨ hr t L b = 61 then pbd (pp t L th n 1 q 0 (b + 1)) fun o e => .inr (jn (nI (hr t L b)) v o, e)
      else .inr (v, b) := rfl
theorem pp1 : pp t L th (n + 1) 1 q v a = pbd (pp t L th n 3 q 0 a) fun v b => pp t L th n 2 q v b := rfl
theorem pp2 : pp t L th (n + 1) 2 q v a = if hr t L a = 43 ∨ hr t L a = 45 then pbd (pp t L th n 3 q 0 (a + 1)) fun o e => pp t L th n 2 q (jn (nI (hr t L a)) v o) e
    else .inr (v, a) := rfl
theorem pp3 : pp t L th (n + 1) 3 q v a = pbd (pp t L th n 5 q 0 a) fun v b => pp t L th n 4 q v b := rfl
theorem pp4 : pp t L th (n + 1) 4 q v a = if hr t L a = 42 ∨ hr t L a = 47 then pbd (pp t L th n 5 q 0 (a + 1)) fun o e => pp t L th n 4 q (jn (nI (hr t L a)) v o) e
    else .inr (v, a) := rfl
theorem pp5 (m : Nat) : pp t L th (n + 1) (m + 5) q v a = if hr t L a = 45 then pbd (pp t L th n 5 q 0 (a + 1)) fun v b => .inr (-v, b)
    else if hr t L a = 40 ∧ q < 4 then pbd (pp t L th n 0 (q + 1) 0 (a + 1)) fun v b => if hr t L b = 41 then .inr (v, b + 1) else .inl b
    else if 48 ≤ hr t L a ∧ hr t L a ≤ 57 then .inr (pnm t L a)
    else match lix (hr t L a) with
      | some i => .inr (th i, a + 1)
      | none => .inl a := rfl
end PPE
theorem pbd_r {x : Nat ⊕ (Int32 × Nat)} {f : Int32 → Nat → Nat ⊕ (Int32 × Nat)} {y : Int32 × Nat} (h : pbd x f = .inr y) : ∃ v b, x = .inr (v, b) ∧ f v b = .inr y := by
  cases x with
  | inl e => cases h
  | inr z => exact ⟨z.1, z.2, rfl, h⟩
def pin (L a : Nat) : Nat ⊕ (Int32 × Nat) → Prop
  | .inl e => e ≤ 40 ∧ e ≤ L
  | .inr y => a ≤ y.2 ∧ y.2 ≤ 40 ∧ y.2 ≤ L
theorem pin_bd {L a a' : Nat} {x : Nat ⊕ (Int32 × Nat)} {f : Int32 → Nat → Nat ⊕ (Int32 × Nat)} (h : pin L a x) (ha : a' ≤ a) (k : ∀ v b, a ≤ b → b ≤ 40 → b ≤ L → pin L b (f v b)) : pin L a' (pbd x f) := by
  cases x with
  | inl e => exact h
  | inr z =>
    have := k z.1 z.2 h.1 h.2.1 h.2.2
    show pin L a' (f z.1 z.2)
    have h1 := h.1
    cases hf : f z.1 z.2 with
    | inl e => rw [hf] at this; exact this
    | inr y => rw [hf] at this; exact ⟨by have := this.1; omega, this.2⟩
theorem pp_b {t : Nat → Nat} {L : Nat} {th : Nat → Int32} : ∀ (n m q : Nat) (v : Int32) (a : Nat), a ≤ 40 → a ≤ L → pin L a (pp t L th n m q v a) := by
  intro n
  induction n with
  | zero => intro m q v a ha hl; exact ⟨ha, hl⟩
  | succ n ih =>
    intro m q v a ha hl
    have h40 := hr_40 t L a
    match m with
    | 0 =>
      rw [pp0]
      refine pin_bd (ih _ _ _ _ ha hl) (Nat.le_refl _) (fun v b h1 h2 h3 => ?_)
      have := hr_40 t L b
      split
      · exact pin_bd (ih _ _ _ _ (by omega) (by omega)) (by omega) (fun v b h1 h2 h3 => ⟨Nat.le_refl _, h2, h3⟩)
      · exact ⟨Nat.le_refl _, h2, h3⟩
    | 1 =>
      rw [pp1]
      exact pin_bd (ih _ _ _ _ ha hl) (Nat.le_refl _) (fun v b h1 h2 h3 => ih _ _ _ _ h2 h3)
    | 2 =>
      rw [pp2]
      split
      · exact pin_bd (ih _ _ _ _ (by omega) (by omega)) (by omega) (fun v b h1 h2 h3 => ih _ _ _ _ h2 h3)
      · exact ⟨Nat.le_refl _, ha, hl⟩
    | 3 =>
      rw [pp3]
      exact pin_bd (ih _ _ _ _ ha hl) (Nat.le_refl _) (fun v b h1 h2 h3 => ih _ _ _ _ h2 h3)
    | 4 =>
      rw [pp4]
      split
      · exact pin_bd (ih _ _ _ _ (by omega) (by omega)) (by omega) (fun v b h1 h2 h3 => ih _ _ _ _ h2 h3)
      · exact ⟨Nat.le_refl _, ha, hl⟩
    | m + 5 =>
      rw [pp5]
      split
      · exact pin_bd (ih _ _ _ _ (by omega) (by omega)) (by omega) (fun v b h1 h2 h3 => ⟨Nat.le_refl _, h2, h3⟩)
      · split
        · refine pin_bd (ih _ _ _ _ (by omega) (by omega)) (by omega) (fun v b h1 h2 h3 => ?_)
          have := hr_40 t L b
          split
          · show b ≤ b + 1 ∧ b + 1 ≤ 40 ∧ b + 1 ≤ L
            omega
          · exact ⟨h2, h3⟩
        · split
          · rename_i x
            have := pnm_b x ha
            show a ≤ (pnm t L a).2 ∧ _
            omega
          · cases hl' : lix (hr t L a) with
            | none => exact ⟨ha, hl⟩
            | some i =>
              have : hr t L a ≠ 999 := by
                intro q
                rw [q] at hl'
                cases hl'
              show a ≤ a + 1 ∧ a + 1 ≤ 40 ∧ a + 1 ≤ L
              omega
theorem jn_60 (v o : Int32) : jn (nI 60) v o = if v < o then 1 else 0 := rfl
theorem jn_62 (v o : Int32) : jn (nI 62) v o = if o < v then 1 else 0 := rfl
theorem jn_61 (v o : Int32) : jn (nI 61) v o = if v = o then 1 else 0 := rfl
theorem jn_43 (v o : Int32) : jn (nI 43) v o = v + o := rfl
theorem jn_45 (v o : Int32) : jn (nI 45) v o = v - o := rfl
theorem jn_42 (v o : Int32) : jn (nI 42) v o = v * o := rfl
theorem jn_47 (v o : Int32) : jn (nI 47) v o = if o = 0 then 0 else v / o := rfl
section S8
variable {c : gx} {s : gs} {t : Nat → Nat} {L r : Nat} {th : Nat → Int32}
theorem pok_bd {L a : Nat} {Post Q : Option Value → gs → Prop} {x : Nat ⊕ (Int32 × Nat)} {f : Int32 → Nat → Nat ⊕ (Int32 × Nat)} (h : pok s Post (pbd x f)) (hb : pin L a x) (k1 : ∀ e v b, e ≤ 40 → b < 2 ^ 20 → (∀ v b, b < 2 ^ 20 → Post (some (.int v)) (pz s b (nI e))) → Q (some (.int v)) (pz s b (nI e))) (k2 : ∀ v b, a ≤ b → b ≤ 40 → b ≤ L → pok s Post (f v b) → Q (some (.int v)) (pz s b (-1))) : pok s Q x := by
  cases x with
  | inl e => exact fun v b hb' => k1 e v b hb.1 hb' (fun v b hb => h v b hb)
  | inr z => exact k2 z.1 z.2 hb.1 hb.2.1 hb.2.2 h
theorem ni_1 {e : Nat} (he : e < 2 ^ 20) : ¬ nI e = -1 := fun z => absurd (z ▸ (by decide : (-1 : Int32) < 0)) (nI_pos (by omega))
/-- where pp's fuel is enough, the reader does as it says -/
theorem psim (B : PB s t L 40 r) (ht : ∀ i, i < 8 → (if gsV s 48 23 = 0 then 0 else gsA s 62 i) = th i) : ∀ (n d q : Nat) (v : Int32) (a : Nat), n + 5 ≤ d → q ≤ 4 → a ≤ 40 → a ≤ L →
    (8 * (41 - a) + 4 ≤ n → ∀ Post, pok s Post (pp t L th n 0 q v a) → tE c d 175 [.ref 48, .int (nI q)] (pz s a (-1)) Post) ∧
    (8 * (41 - a) + 3 ≤ n → ∀ Post, pok s Post (pp t L th n 1 q v a) → tE c d 176 [.ref 48, .int (nI q)] (pz s a (-1)) Post) ∧
    (8 * (41 - a) + 1 ≤ n → ∀ Post, pok s Post (pp t L th n 2 q v a) → wl176_6 c d Post n (nI q) v (pz s a (-1))) ∧
    (8 * (41 - a) + 2 ≤ n → ∀ Post, pok s Post (pp t L th n 3 q v a) → tE c d 177 [.ref 48, .int (nI q)] (pz s a (-1)) Post) ∧
    (8 * (41 - a) + 1 ≤ n → ∀ Post, pok s Post (pp t L th n 4 q v a) → wl177_6 c d Post n (nI q) v (pz s a (-1))) ∧
    (8 * (41 - a) + 1 ≤ n → ∀ Post, pok s Post (pp t L th n 5 q v a) → tE c d 179 [.ref 48, .int (nI q)] (pz s a (-1)) Post) := by
  intro n
  induction n with
  | zero =>
    intro d q v a hd hq ha hl
    refine ⟨fun h => ?_, fun h => ?_, fun h => ?_, fun h => ?_, fun h => ?_, fun h => ?_⟩ <;> omega
  | succ n ih =>
    intro d q v a hd hq ha hl
    have a20 : a < 2 ^ 20 := by omega
    have h40 := hr_40 t L a
    refine ⟨fun hn Post hp => ?_, fun hn Post hp => ?_, fun hn Post hp => ?_, fun hn Post hp => ?_, fun hn Post hp => ?_, fun hn Post hp => ?_⟩
    · obtain ⟨d, rfl⟩ := d_1 (show 1 ≤ d by omega)
      rw [pp0] at hp
      have hc : ∀ b ch, ch < 256 → b < 2 ^ 20 → ∀ Q : Option Value → gs → Prop, (if hr t L b = ch then Q (some (.int 1)) (pz s (b + 1) (-1)) else Q (some (.int 0)) (pz s b (-1))) → tE c d 167 [.ref 48, .int (nI ch)] (pz s b (-1)) Q := by
        intro b ch h1 h2 Q hq
        refine s167 (by omega) B h2 h1 ?_
        rw [← hrT_40]
        by_cases z : hr t L b = ch
        · rw [if_pos z] at hq; rw [if_pos ⟨rfl, z⟩]; exact hq
        · rw [if_neg z] at hq; rw [if_neg (fun y => z y.2)]; exact hq
      have hx : ∀ e b ch, e ≤ 40 → ch < 256 → b < 2 ^ 20 → ∀ Q : Option Value → gs → Prop, Q (some (.int 0)) (pz s b (nI e)) → tE c d 167 [.ref 48, .int (nI ch)] (pz s b (nI e)) Q := by
        intro e b ch h0 h1 h2 Q hq
        refine s167 (by omega) B h2 h1 ?_
        rw [if_neg (fun y => ni_1 (by omega) y.1)]
        exact hq
      refine okm175 c d Post _ _ ((ih d q 0 a (by omega) hq ha hl).2.1 (by omega) _ (pok_bd hp (pp_b _ _ _ _ _ ha hl) (fun e v b he hb k => ?_) (fun v b h1 h2 h3 k => ?_)))
      · refine ⟨_, rfl, hx e b 60 he (by decide) hb _ ⟨_, rfl, fun _ => hx e b 62 he (by decide) hb _ ⟨_, rfl, fun _ => hx e b 61 he (by decide) hb _ ⟨_, rfl, fun _ => k v b hb, fun z => absurd rfl z⟩, fun z => absurd rfl z⟩, fun z => absurd rfl z⟩⟩
      · have hb40 := hr_40 t L b
        refine ⟨_, rfl, hc b 60 (by decide) (by omega) _ ?_⟩
        by_cases z : hr t L b = 60
        · rw [if_pos z]
          rw [if_pos (Or.inl z), z] at k
          refine ⟨_, rfl, fun y => absurd y (by decide), fun _ => (ih d q 0 (b + 1) (by omega) hq (by omega) (by omega)).2.1 (by omega) _ (pok_bd k (pp_b _ _ _ _ _ (by omega) (by omega)) (fun e v b he hb k => ⟨_, rfl, fun _ => k _ _ hb, fun _ => k _ _ hb⟩) (fun o e h1 h2 h3 k => ⟨_, rfl, fun y => ?_, fun y => ?_⟩))⟩
          · have : jn (nI 60) v o = 0 := by rw [jn_60, if_neg (by grind)]
            rw [this] at k; exact k
          · have : jn (nI 60) v o = 1 := by rw [jn_60, if_pos (by grind)]
            rw [this] at k; exact k
        rw [if_neg z]
        refine ⟨_, rfl, fun _ => hc b 62 (by decide) (by omega) _ ?_, fun y => absurd rfl y⟩
        by_cases z2 : hr t L b = 62
        · rw [if_pos z2]
          rw [if_pos (Or.inr (Or.inl z2)), z2] at k
          refine ⟨_, rfl, fun y => absurd y (by decide), fun _ => (ih d q 0 (b + 1) (by omega) hq (by omega) (by omega)).2.1 (by omega) _ (pok_bd k (pp_b _ _ _ _ _ (by omega) (by omega)) (fun e v b he hb k => ⟨_, rfl, fun _ => k _ _ hb, fun _ => k _ _ hb⟩) (fun o e h1 h2 h3 k => ⟨_, rfl, fun y => ?_, fun y => ?_⟩))⟩
          · have : jn (nI 62) v o = 0 := by rw [jn_62, if_neg (by grind)]
            rw [this] at k; exact k
          · have : jn (nI 62) v o = 1 := by rw [jn_62, if_pos (by grind)]
            rw [this] at k; exact k
        rw [if_neg z2]
        refine ⟨_, rfl, fun _ => hc b 61 (by decide) (by omega) _ ?_, fun y => absurd rfl y⟩
        by_cases z3 : hr t L b = 61
        · rw [if_pos z3]
          rw [if_pos (Or.inr (Or.inr z3)), z3] at k
          refine ⟨_, rfl, fun y => absurd y (by decide), fun _ => (ih d q 0 (b + 1) (by omega) hq (by omega) (by omega)).2.1 (by omega) _ (pok_bd k (pp_b _ _ _ _ _ (by omega) (by omega)) (fun e v b he hb k => ⟨_, rfl, fun _ => k _ _ hb, fun _ => k _ _ hb⟩) (fun o e h1 h2 h3 k => ⟨_, rfl, fun y => ?_, fun y => ?_⟩))⟩
          · have : jn (nI 61) v o = 1 := by rw [jn_61, if_pos y]
            rw [this] at k; exact k
          · have : jn (nI 61) v o = 0 := by rw [jn_61, if_neg y]
            rw [this] at k; exact k
        rw [if_neg z3]
        rw [if_neg (by omega)] at k
        exact ⟨_, rfl, fun _ => k, fun y => absurd rfl y⟩
    · obtain ⟨d, rfl⟩ := d_1 (show 1 ≤ d by omega)
      rw [pp1] at hp
      refine okm176 c d Post _ _ ((ih d q 0 a (by omega) hq ha hl).2.2.2.1 (by omega) _ (pok_bd hp (pp_b _ _ _ _ _ ha hl) (fun e v b he hb k => ?_) (fun v b h1 h2 h3 k => ?_)))
      · refine ⟨_, rfl, 1, s165 (by omega) ⟨_, rfl, fun _ => k v b hb, fun z => ?_⟩⟩
        rw [bI_0] at z
        exact absurd (ni_1 (by omega)) z
      · exact ⟨_, rfl, n, (ih d q v b (by omega) hq h2 h3).2.2.1 (by omega) _ k⟩
    · rw [pp2] at hp
      have e43 : (hI (hrT t L 40 a) = 43) ↔ hr t L a = 43 := hI_eq (y := 43) (hrT_lt B a) (by decide)
      have e45 : (hI (hrT t L 40 a) = 45) ↔ hr t L a = 45 := hI_eq (y := 45) (hrT_lt B a) (by decide)
      refine s165 (by omega) ⟨_, rfl, fun z => absurd z (by decide), fun _ => s164 (by omega) B a20 ⟨_, rfl, fun z => ?_, fun z => s164 (by omega) B a20 ⟨_, rfl, fun y => ?_, fun y => ?_⟩⟩⟩
      · have z' := e43.mp z
        rw [if_pos (Or.inl z'), z'] at hp
        refine s164 (by omega) B a20 ⟨_, rfl, fun _ => ?_, fun y => absurd z y⟩
        rintro s1 rfl
        rw [pz_1]
        refine (ih d q 0 (a + 1) (by omega) hq (by omega) (by omega)).2.2.2.1 (by omega) _ (pok_bd hp (pp_b _ _ _ _ _ (by omega) (by omega)) (fun e v1 b he hb k => ⟨_, rfl, fun y => absurd y (by decide), fun _ => ?_⟩) (fun o e h1 h2 h3 k => ⟨_, rfl, fun y => absurd y (by decide), fun _ => ?_⟩))
        · obtain ⟨n, rfl⟩ := d_1 (show 1 ≤ n by omega)
          refine s165 (by omega) ⟨_, rfl, fun _ => k _ b hb, fun z => ?_⟩
          rw [bI_0] at z
          exact absurd (ni_1 (by omega)) z
        · exact (ih (d) q _ e (by omega) hq h2 h3).2.2.1 (by omega) _ k
      · have y' := e45.mp y
        rw [if_pos (Or.inr y'), y'] at hp
        refine s164 (by omega) B a20 ⟨_, rfl, fun w => absurd w z, fun _ => ?_⟩
        rintro s1 rfl
        rw [pz_1]
        refine (ih d q 0 (a + 1) (by omega) hq (by omega) (by omega)).2.2.2.1 (by omega) _ (pok_bd hp (pp_b _ _ _ _ _ (by omega) (by omega)) (fun e v1 b he hb k => ⟨_, rfl, fun _ => ?_, fun y => absurd rfl y⟩) (fun o e h1 h2 h3 k => ⟨_, rfl, fun _ => ?_, fun y => absurd rfl y⟩))
        · obtain ⟨n, rfl⟩ := d_1 (show 1 ≤ n by omega)
          refine s165 (by omega) ⟨_, rfl, fun _ => k _ b hb, fun z => ?_⟩
          rw [bI_0] at z
          exact absurd (ni_1 (by omega)) z
        · exact (ih (d) q _ e (by omega) hq h2 h3).2.2.1 (by omega) _ k
      · rw [e43] at z
        rw [e45] at y
        rw [if_neg (by omega)] at hp
        exact hp
    · obtain ⟨d, rfl⟩ := d_1 (show 1 ≤ d by omega)
      rw [pp3] at hp
      refine okm177 c d Post _ _ ((ih d q 0 a (by omega) hq ha hl).2.2.2.2.2 (by omega) _ (pok_bd hp (pp_b _ _ _ _ _ ha hl) (fun e v b he hb k => ?_) (fun v b h1 h2 h3 k => ?_)))
      · refine ⟨_, rfl, 1, s165 (by omega) ⟨_, rfl, fun _ => k v b hb, fun z => ?_⟩⟩
        rw [bI_0] at z
        exact absurd (ni_1 (by omega)) z
      · exact ⟨_, rfl, n, (ih d q v b (by omega) hq h2 h3).2.2.2.2.1 (by omega) _ k⟩
    · rw [pp4] at hp
      have e42 : (hI (hrT t L 40 a) = 42) ↔ hr t L a = 42 := hI_eq (y := 42) (hrT_lt B a) (by decide)
      have e47 : (hI (hrT t L 40 a) = 47) ↔ hr t L a = 47 := hI_eq (y := 47) (hrT_lt B a) (by decide)
      have er : ∀ (e : Nat) (v1 : Int32) (b : Nat), e ≤ 40 → b < 2 ^ 20 → (∀ v b, b < 2 ^ 20 → Post (some (.int v)) (pz s b (nI e))) → wl177_6 c d Post n (nI q) v1 (pz s b (nI e)) := by
        intro e v1 b he hb k
        obtain ⟨n, rfl⟩ := d_1 (show 1 ≤ n by omega)
        refine s165 (by omega) ⟨_, rfl, fun _ => k _ b hb, fun z => ?_⟩
        rw [bI_0] at z
        exact absurd (ni_1 (by omega)) z
      refine s165 (by omega) ⟨_, rfl, fun z => absurd z (by decide), fun _ => s164 (by omega) B a20 ⟨_, rfl, fun z => ?_, fun z => s164 (by omega) B a20 ⟨_, rfl, fun y => ?_, fun y => ?_⟩⟩⟩
      · have z' := e42.mp z
        rw [if_pos (Or.inl z'), z'] at hp
        refine s164 (by omega) B a20 ⟨_, rfl, fun _ => ?_, fun y => absurd z y⟩
        rintro s1 rfl
        rw [pz_1]
        refine (ih d q 0 (a + 1) (by omega) hq (by omega) (by omega)).2.2.2.2.2 (by omega) _ (pok_bd hp (pp_b _ _ _ _ _ (by omega) (by omega)) (fun e v1 b he hb k => ⟨_, rfl, fun y => absurd y (by decide), fun _ => er e _ b he hb k⟩) (fun o e h1 h2 h3 k => ⟨_, rfl, fun y => absurd y (by decide), fun _ => ?_⟩))
        exact (ih (d) q _ e (by omega) hq h2 h3).2.2.2.2.1 (by omega) _ k
      · have y' := e47.mp y
        rw [if_pos (Or.inr y'), y'] at hp
        refine s164 (by omega) B a20 ⟨_, rfl, fun w => absurd w z, fun _ => ?_⟩
        rintro s1 rfl
        rw [pz_1]
        refine (ih d q 0 (a + 1) (by omega) hq (by omega) (by omega)).2.2.2.2.2 (by omega) _ (pok_bd hp (pp_b _ _ _ _ _ (by omega) (by omega)) (fun e v1 b he hb k => ⟨_, rfl, fun _ => ⟨fun _ => er e _ b he hb k, fun u => ⟨u, er e _ b he hb k⟩⟩, fun y => absurd rfl y⟩) (fun o e h1 h2 h3 k => ⟨_, rfl, fun _ => ⟨fun u => ?_, fun u => ⟨u, ?_⟩⟩, fun y => absurd rfl y⟩))
        · rw [jn_47, if_pos u] at k
          exact (ih (d) q _ e (by omega) hq h2 h3).2.2.2.2.1 (by omega) _ k
        · rw [jn_47, if_neg u] at k
          exact (ih (d) q _ e (by omega) hq h2 h3).2.2.2.2.1 (by omega) _ k
      · rw [e42] at z
        rw [e47] at y
        rw [if_neg (by omega)] at hp
        exact hp
    · obtain ⟨d, rfl⟩ := d_1 (show 1 ≤ d by omega)
      rw [pp5 (m := 0)] at hp
      have e40 : (hI (hrT t L 40 a) = 40) ↔ hr t L a = 40 := hI_eq (y := 40) (hrT_lt B a) (by decide)
      refine okm179 c d Post _ _ (s167 (ch := 45) (by omega) B a20 (by decide) ?_)
      rw [← hrT_40]
      by_cases z : hr t L a = 45
      · rw [if_pos z] at hp
        rw [if_pos ⟨rfl, z⟩]
        refine ⟨_, rfl, fun y => absurd y (by decide), fun _ => (ih d q 0 (a + 1) (by omega) hq (by omega) (by omega)).2.2.2.2.2 (by omega) _ (pok_bd hp (pp_b _ _ _ _ _ (by omega) (by omega)) (fun e v1 b he hb k => ⟨_, rfl, k _ b hb⟩) (fun o e h1 h2 h3 k => ⟨_, rfl, k⟩))⟩
      · rw [if_neg z] at hp
        rw [if_neg (fun y => z y.2)]
        refine ⟨_, rfl, fun _ => s165 (by omega) ⟨_, rfl, fun y => absurd y (by decide), fun _ => s164 (by omega) B a20 ⟨_, rfl, ?_⟩⟩, fun y => absurd rfl y⟩
        have rest : ¬ (hr t L a = 40 ∧ q < 4) → w179_67 c d Post (hI (hrT t L 40 a)) (pz s a (-1)) := by
          intro y
          rw [if_neg y] at hp
          refine s154 (by omega) _ _ _ ⟨_, rfl, fun w => ?_, fun w => ?_⟩
          · rw [bI_0, show ((48 : Int32) ≤ hI (hrT t L 40 a) ∧ hI (hrT t L 40 a) ≤ 57) ↔ _ from hI_in (y := 48) (z := 57) (hrT_lt B a) (by decide) (by decide), ← hrT_40] at w
            rw [if_neg w] at hp
            refine s178 (by omega) (hrT_lt B a) ?_
            rw [← hrT_40]
            cases hl' : lix (hr t L a) with
            | none =>
              rw [hl'] at hp
              refine ⟨_, rfl, fun _ => s166 (by omega) _ ⟨rfl, ?_⟩, fun u => absurd rfl u⟩
              rw [if_pos rfl]
              exact hp _ a a20
            | some i =>
              rw [hl'] at hp
              have hi : i < 8 := by
                unfold lix at hl'
                grind
              refine ⟨_, rfl, fun u => absurd u (ni_1 (by omega)), fun _ => ?_⟩
              rintro s1 rfl
              rw [pz_1]
              have hti := ht i hi
              have hp : Post (some (.int (th i))) (pz s (a + 1) (-1)) := hp
              refine ⟨fun u => ?_, fun u => s178 (by omega) (hrT_lt B a) ?_⟩
              · rw [if_pos (show gsV s 48 23 = 0 from u)] at hti
                rw [← hti] at hp
                exact hp
              · rw [hl']
                rw [if_neg (show ¬ gsV s 48 23 = 0 from u)] at hti
                rw [← hti] at hp
                refine ⟨_, rfl, vp_in_nI hi (by decide), ?_⟩
                show Post (some (.int (gsA s 62 (nI i).toNatClampNeg))) (pz s (a + 1) (-1))
                rw [nI_clamp (by omega)]
                exact hp
          · rw [bI_0, show ((48 : Int32) ≤ hI (hrT t L 40 a) ∧ hI (hrT t L 40 a) ≤ 57) ↔ _ from hI_in (y := 48) (z := 57) (hrT_lt B a) (by decide) (by decide), ← hrT_40, Classical.not_not] at w
            rw [if_pos w] at hp
            exact s170 (by omega) B a20 w ⟨_, rfl, hp⟩
        refine ⟨fun y => ⟨fun w => rest ?_, fun w => ?_⟩, fun y => rest (fun u => y (e40.mpr u.1))⟩
        · have : nI 4 ≤ nI q := w
          rw [nI_le' (by decide) (by omega)] at this
          omega
        · have hq4 : ¬ nI 4 ≤ nI q := w
          rw [nI_le' (by decide) (by omega)] at hq4
          have y' := e40.mp y
          rw [if_pos ⟨y', by omega⟩] at hp
          rintro s1 rfl
          rw [pz_1, nI_1]
          refine (ih d (q + 1) 0 (a + 1) (by omega) (by omega) (by omega) (by omega)).1 (by omega) _ (pok_bd hp (pp_b _ _ _ _ _ (by omega) (by omega)) (fun e v1 b he hb k => ⟨_, rfl, s168 (ch := 41) (by omega) B hb (by decide) ?_⟩) (fun o e h1 h2 h3 k => ⟨_, rfl, s168 (ch := 41) (by omega) B (by omega) (by decide) ?_⟩))
          · rw [if_neg (ni_1 (by omega))]
            exact ⟨rfl, k _ b hb⟩
          · rw [if_pos rfl, ← hrT_40]
            by_cases u : hr t L e = 41
            · rw [if_pos u] at k ⊢
              exact ⟨rfl, k⟩
            · rw [if_neg u] at k ⊢
              exact ⟨rfl, k _ e (by omega)⟩
end S8
