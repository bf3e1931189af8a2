/-! Calls: war. -/
abbrev two (x : Nat) : Prop := x = 62 ∨ x = 60 ∨ x = 102
abbrev on1 (x : Nat) : Prop := x = 104 ∨ x = 120 ∨ x = 108
def agB (o x : Nat) : Bool := if o = 102 then decide ((48 ≤ x ∧ x ≤ 57) ∨ x = 97 ∨ x = 98) else decide (49 ≤ x ∧ x ≤ 57)
/-- what the look through the text says: some: the wrong place -/
def wpf (t : Nat → Nat) (T : Nat) : Nat → Nat → Nat → Option Nat
  | 0, _, o => if 60 < T then some 60 else if o = 0 then none else some T
  | m + 1, i, o => if o = 0 then (if two (t i) then wpf t T m (i + 1) (t i) else if on1 (t i) then wpf t T m (i + 1) 0 else some i) else if agB o (t i) = true then wpf t T m (i + 1) 0 else some i
theorem wpf_0 (t : Nat → Nat) (T i o : Nat) : wpf t T 0 i o = if 60 < T then some 60 else if o = 0 then none else some T := rfl
theorem wpf_1 (t : Nat → Nat) (T m i o : Nat) : wpf t T (m + 1) i o = if o = 0 then (if two (t i) then wpf t T m (i + 1) (t i) else if on1 (t i) then wpf t T m (i + 1) 0 else some i) else if agB o (t i) = true then wpf t T m (i + 1) 0 else some i := rfl
theorem wpf_le {t : Nat → Nat} {T : Nat} (hT : T ≤ 80) : ∀ (m i o j : Nat), i + m ≤ 60 → wpf t T m i o = some j → j ≤ 80
  | 0, i, o, j, h, e => by
    rw [wpf_0] at e
    split at e
    · cases e; omega
    · split at e
      · cases e
      · cases e; exact hT
  | m + 1, i, o, j, h, e => by
    rw [wpf_1] at e
    split at e
    · split at e
      · exact wpf_le hT m (i + 1) _ j (by omega) e
      · split at e
        · exact wpf_le hT m (i + 1) _ j (by omega) e
        · cases e; omega
    · split at e
      · exact wpf_le hT m (i + 1) _ j (by omega) e
      · cases e; omega
theorem wpf_60 {t : Nat → Nat} {T : Nat} : ∀ (m i o : Nat), wpf t T m i o = none → T ≤ 60
  | 0, i, o, e => by
    rw [wpf_0] at e
    split at e
    · cases e
    · omega
  | m + 1, i, o, e => by
    rw [wpf_1] at e
    split at e
    · split at e
      · exact wpf_60 m (i + 1) _ e
      · split at e
        · exact wpf_60 m (i + 1) _ e
        · cases e
    · split at e
      · exact wpf_60 m (i + 1) _ e
      · cases e
/-- an act's number -/
def avl (x y : Nat) : Int32 := if x = 60 then 48 - nI y else if x = 62 then nI y - 48 else if nI y < 97 then nI y - 48 else (nI y - 97) + 10
def acl (t : Nat → Nat) (T : Nat) : Nat → Nat → List (Nat × Int32)
  | 0, _ => []
  | m + 1, i => if T ≤ i then [] else if two (t i) then (t i, avl (t i) (if i + 1 < T then t (i + 1) else 0)) :: acl t T m (i + 2) else (t i, 0) :: acl t T m (i + 1)
theorem acl_1 (t : Nat → Nat) (T m i : Nat) : acl t T (m + 1) i = if T ≤ i then [] else if two (t i) then (t i, avl (t i) (if i + 1 < T then t (i + 1) else 0)) :: acl t T m (i + 2) else (t i, 0) :: acl t T m (i + 1) := rfl
theorem acl_e (t : Nat → Nat) (T : Nat) : ∀ (m i : Nat), T ≤ i → acl t T m i = []
  | 0, _, _ => rfl
  | m + 1, i, h => by rw [acl_1, if_pos h]
theorem acl_fu (t : Nat → Nat) (T : Nat) : ∀ (m n i : Nat), T ≤ i + m → T ≤ i + n → acl t T m i = acl t T n i
  | 0, n, i, h, _ => by rw [acl_e t T n i (by omega)]; rfl
  | m + 1, 0, i, _, h => by rw [acl_e t T (m + 1) i (by omega)]; rfl
  | m + 1, n + 1, i, h1, h2 => by
    rw [acl_1, acl_1, acl_fu t T m n (i + 2) (by omega) (by omega), acl_fu t T m n (i + 1) (by omega) (by omega)]
theorem acl_len (t : Nat → Nat) (T : Nat) : ∀ (m i : Nat), (acl t T m i).length ≤ T - i
  | 0, i => Nat.zero_le _
  | m + 1, i => by
    rw [acl_1]
    split
    · exact Nat.zero_le _
    · split
      · have := acl_len t T m (i + 2)
        rw [List.length_cons]
        omega
      · have := acl_len t T m (i + 1)
        rw [List.length_cons]
        omega
def actG (D : DD) (x : Nat) (v : Int32) : Option (Nat → Int32) :=
  if x = 62 ∨ x = 60 then (if refM D v = 0 then some (marG (dg D) v) else none)
  else if x = 102 then (if fld D v then some (upd (dg D) 2 v) else none)
  else if x = 104 then some (nightG (dg D))
  else if x = 120 then (if refF D (dg D) = 0 then some (nightG (sufG (dg D) (btV D (dg D)))) else none)
  else if gn (dg D) 0 < 100 then some (upd (dg D) (8 + gn (dg D) 0) (1 - dg D (8 + gn (dg D) 0))) else none
def wex (D : DD) : List (Nat × Int32) → Nat → (Nat → Int32) → Nat × Nat × (Nat → Int32)
  | [], n, g => (n, 0, g)
  | a :: l, n, g => match actG (uG D g) a.1 a.2 with
    | none => (n, 1, g)
    | some g' => wex D l (n + 1) g'
theorem wex_n {D : DD} {a : Nat × Int32} {l : List (Nat × Int32)} {n : Nat} {g : Nat → Int32} (h : actG (uG D g) a.1 a.2 = none) : wex D (a :: l) n g = (n, 1, g) := by
  unfold wex
  rw [h]
theorem wex_s {D : DD} {a : Nat × Int32} {l : List (Nat × Int32)} {n : Nat} {g g' : Nat → Int32} (h : actG (uG D g) a.1 a.2 = some g') : wex D (a :: l) n g = wex D l (n + 1) g' := by
  show (match actG (uG D g) a.1 a.2 with
    | none => (n, 1, g)
    | some g' => wex D l (n + 1) g') = _
  rw [h]
theorem refM_n {D : DD} {v : Int32} (q : ¬ refM D v = 0) : refM D v < 0 := by
  unfold refM at q ⊢
  split at q
  · rename_i z; rw [if_pos z]; decide
  rename_i z1; rw [if_neg z1]
  split at q
  · rename_i z; rw [if_pos z]; decide
  rename_i z2; rw [if_neg z2]
  split at q
  · rename_i z; rw [if_pos z]; decide
  rename_i z3; rw [if_neg z3]
  split at q
  · rename_i z; rw [if_pos z]; decide
  rename_i z4; rw [if_neg z4]
  split at q
  · rename_i z; rw [if_pos z]; decide
  exact absurd rfl q
theorem refM_f {D : DD} {v : Int32} (q : refM D v = 0) : fld D (dg D 1 + v) := by
  unfold refM at q
  by_cases z1 : v < -12 ∨ 12 < v ∨ v = 0
  · rw [if_pos z1] at q; cases q
  rw [if_neg z1] at q
  by_cases z2 : who (dg D) (gn (dg D) 0) = -1
  · rw [if_pos z2] at q; cases q
  rw [if_neg z2] at q
  by_cases z3 : ¬ fld D (dg D 1 + v)
  · rw [if_pos z3] at q; cases q
  exact Classical.not_not.mp z3
theorem refF_n {D : DD} {g : Nat → Int32} (q : ¬ refF D g = 0) : refF D g < 0 := by
  unfold refF at q ⊢
  split at q
  · rename_i z; rw [if_pos z]; decide
  rename_i z1; rw [if_neg z1]
  split at q
  · rename_i z; rw [if_pos z]; decide
  rename_i z2; rw [if_neg z2]
  split at q
  · rename_i z; rw [if_pos z]; decide
  exact absurd rfl q
theorem okG_act {D : DD} {B x : Nat} {v : Int32} {g' : Nat → Int32} (hF : okF D) (h : okG (dF D) B (dg D)) (hB : B < 2 ^ 20) (e : actG D x v = some g') : okG (dF D) (B + 1) g' := by
  unfold actG at e
  split at e
  · split at e
    · rename_i q
      cases e
      obtain ⟨n, hn, en⟩ := fld_nat hF (refM_f q)
      have hg1 : okG (dF D) B (upd (dg D) 1 (dg D 1 + v)) := by rw [en]; exact okG_u1 h hn
      exact okG_night hg1 hF.2 hB
    · cases e
  split at e
  · split at e
    · rename_i q
      cases e
      obtain ⟨n, hn, en⟩ := fld_nat hF q
      rw [en]
      exact okG_mono (okG_u2 h hn) (by omega)
    · cases e
  split at e
  · cases e; exact okG_night h hF.2 hB
  split at e
  · split at e
    · cases e
      exact okG_night (okG_suf h hF.2 hB _) hF.2 hB
    · cases e
  split at e
  · cases e
    exact okG_mono (okG_u6 h (by omega) _) (by omega)
  · cases e
theorem wex_ok {D : DD} (hF : okF D) : ∀ (l : List (Nat × Int32)) (n B : Nat) (g : Nat → Int32), okG (dF D) B g → B + l.length < 2 ^ 20 → okG (dF D) (B + l.length) (wex D l n g).2.2 ∧ (wex D l n g).1 ≤ n + l.length ∧ n ≤ (wex D l n g).1 ∧ ((wex D l n g).1 = n → (wex D l n g).2.2 = g)
  | [], n, B, g, h, _ => ⟨h, Nat.le_refl _, Nat.le_refl _, fun _ => rfl⟩
  | a :: l, n, B, g, h, hB => by
    rw [List.length_cons] at hB ⊢
    cases e : actG (uG D g) a.1 a.2 with
    | none =>
      rw [wex_n e]
      exact ⟨okG_mono h (by omega), by show n ≤ _; omega, Nat.le_refl _, fun _ => rfl⟩
    | some g' =>
      rw [wex_s e]
      have h' := okG_act (D := uG D g) hF h (by omega) e
      obtain ⟨a1, a2, a3, a4⟩ := wex_ok hF l (n + 1) (B + 1) g' h' (by omega)
      refine ⟨okG_mono a1 (by omega), by omega, by omega, fun z => absurd z (by omega)⟩
def RA (s : gs) (l : List (Nat × Int32)) : Prop := ∀ j, j < l.length → gsA s 66 (2 * j) = nI (l.getD j (0, 0)).1 ∧ (l.getD j (0, 0)).1 < 256 ∧ ((l.getD j (0, 0)).1 = 60 → -gsA s 66 (2 * j + 1) = (l.getD j (0, 0)).2) ∧ ((l.getD j (0, 0)).1 = 62 ∨ (l.getD j (0, 0)).1 = 102 → gsA s 66 (2 * j + 1) = (l.getD j (0, 0)).2)
theorem RA_add {s s' : gs} {l : List (Nat × Int32)} (h : RA s l) (ho : ∀ j, j < 2 * l.length → gsA s' 66 j = gsA s 66 j) {a : Nat × Int32} (h1 : gsA s' 66 (2 * l.length) = nI a.1) (h0 : a.1 < 256) (h2 : a.1 = 60 → -gsA s' 66 (2 * l.length + 1) = a.2) (h3 : a.1 = 62 ∨ a.1 = 102 → gsA s' 66 (2 * l.length + 1) = a.2) : RA s' (l ++ [a]) := by
  intro j hj
  rw [List.length_append, List.length_singleton] at hj
  by_cases e : j = l.length
  · subst e
    have eg : (l ++ [a]).getD l.length (0, 0) = a := by simp [List.getD]
    rw [eg]
    exact ⟨h1, h0, h2, h3⟩
  · have eg : (l ++ [a]).getD j (0, 0) = l.getD j (0, 0) := by
      simp [List.getD, List.getElem?_append_left (show j < l.length by omega)]
    rw [eg, ho (2 * j) (by omega), ho (2 * j + 1) (by omega)]
    exact h j (by omega)
theorem ag_60 : ∀ y, y < 58 → 49 ≤ y → -(nI (y - 49) + 1) = avl 60 y := by decide
theorem ag_62 : ∀ y, y < 58 → 49 ≤ y → nI (y - 49) + 1 = avl 62 y := by decide
theorem ag_f0 : ∀ y, y < 58 → 48 ≤ y → nI (y - 48) = avl 102 y := by decide
theorem ag_f1 : ∀ y, y < 99 → 97 ≤ y → 10 + nI (y - 97) = avl 102 y := by decide
section A1
variable {c : gx} {d B : Nat} {Post : Option Value → gs → Prop} {s0 s : gs} {D : DD}
theorem s100 (hd : 1 ≤ d) {x : Nat} (hx : x < 256) (k : Post (some (.int (if two x then 1 else 0))) s) : tE c d 100 [.int (nI x)] s Post := by
  obtain ⟨d, rfl⟩ := d_1 hd
  refine okm100 c d Post _ s ?_
  unfold wm100
  rw [show (62 : Int32) = nI 62 from rfl, show (60 : Int32) = nI 60 from rfl, show (102 : Int32) = nI 102 from rfl, nI_eq' (by omega) (by decide), nI_eq' (by omega) (by decide), nI_eq' (by omega) (by decide)]
  refine ⟨fun z => ?_, fun z1 => ⟨fun z => ?_, fun z2 => ⟨fun z => ?_, fun z3 => ?_⟩⟩⟩
  · rw [if_pos (Or.inl z)] at k; exact ⟨Or.inr rfl, k⟩
  · rw [if_pos (Or.inr (Or.inl z))] at k; exact ⟨Or.inr rfl, k⟩
  · rw [if_pos (Or.inr (Or.inr z))] at k; exact ⟨Or.inr rfl, k⟩
  · rw [if_neg (fun w => w.elim z1 (fun w => w.elim z2 z3))] at k; exact ⟨Or.inl rfl, k⟩
theorem s102 (hd : 2 ≤ d) (hT : XT s D) (k : Post (some (.int (match wpf (dt D) (dT D) (min (dT D) 60) 0 0 with | some j => nI j | none => -1))) s) : tE c d 102 [.ref 0] s Post := by
  obtain ⟨d, rfl⟩ := d_1 (show 1 ≤ d by omega)
  have h80 := hT.1
  have loop : ∀ (m i o : Nat), i + m = min (dT D) 60 → (o = 0 ∨ two o) → wpf (dt D) (dT D) m i o = wpf (dt D) (dT D) (min (dT D) 60) 0 0 → wl102_17 c d Post (m + 1) (nI (min (dT D) 60)) (nI o) (nI i) s := by
    intro m
    induction m with
    | zero =>
      intro i o hi ho hr
      have e0 : nI o = 0 ↔ o = 0 := nI_eq' (b := 0) (by omega) (by decide)
      have e6 : nI (dT D) ≤ 60 ↔ dT D ≤ 60 := nI_le' (b := 60) (by omega) (by decide)
      rw [wpf_0] at hr
      unfold wl102_17 wb102_17 w102_176
      rw [hT.2.1, e0, e6]
      refine ⟨fun _ => ⟨fun z => ⟨fun y => ?_, fun y => ?_⟩, fun z => ?_⟩, fun z => absurd (le_t (by omega) (by omega) (by omega)) z⟩
      · rw [if_neg (by omega), if_pos y] at hr
        rw [← hr] at k; exact k
      · rw [if_neg (by omega), if_neg y] at hr
        rw [← hr] at k; exact k
      · rw [if_pos (by omega)] at hr
        rw [← hr] at k; exact k
    | succ m ih =>
      intro i o hi ho hr
      have hti := (hT.2.2 i (by omega)).1
      have hat : atT D i = dt D i := if_pos (by omega)
      have ec : ∀ b, b < 256 → (nI (dt D i) = nI b ↔ dt D i = b) := fun b hb => nI_eq' (by omega) (by omega)
      have e0 : nI o = 0 ↔ o = 0 := nI_eq' (b := 0) (by omega) (by decide)
      have e102 : nI o = 102 ↔ o = 102 := nI_eq' (b := 102) (by omega) (by decide)
      rw [wpf_1] at hr
      have nx : ∀ o', (o' = 0 ∨ two o') → wpf (dt D) (dT D) m (i + 1) o' = wpf (dt D) (dT D) (min (dT D) 60) 0 0 → w102_140 c d Post (wl102_17 c d Post (m + 1)) (nI (min (dT D) 60)) (nI o') (nI i) s := by
        intro o' ho' h'
        unfold w102_140
        rw [nI_1]
        exact ih (i + 1) o' (by omega) ho' h'
      have stop : wpf (dt D) (dT D) (min (dT D) 60) 0 0 = some i → Post (some (.int (nI i))) s := by
        intro h'
        rw [h'] at k
        exact k
      unfold wl102_17 wb102_17
      refine ⟨fun z => absurd z (le_f (by omega) (by omega) (by omega)), fun _ => s61 (by omega) hT (by omega) ⟨_, rfl, ?_⟩⟩
      rw [hat, e0, e102]
      refine ⟨fun z => s100 (by omega) hti ⟨_, rfl, fun y => ?_, fun y => ?_⟩, fun z => ?_⟩
      · have y' : ¬ two (dt D i) := fun w => by rw [if_pos w] at y; exact absurd y (by decide)
        rw [if_pos z, if_neg y'] at hr
        subst z
        rw [show (104 : Int32) = nI 104 from rfl, show (120 : Int32) = nI 120 from rfl, show (108 : Int32) = nI 108 from rfl, ec 104 (by decide), ec 120 (by decide), ec 108 (by decide)]
        refine ⟨fun w => ?_, fun w1 => ⟨fun w => ?_, fun w2 => ⟨fun w => ?_, fun w3 => ?_⟩⟩⟩
        · rw [if_pos (Or.inl w)] at hr; exact nx 0 (Or.inl rfl) hr
        · rw [if_pos (Or.inr (Or.inl w))] at hr; exact nx 0 (Or.inl rfl) hr
        · rw [if_pos (Or.inr (Or.inr w))] at hr; exact nx 0 (Or.inl rfl) hr
        · rw [if_neg (fun w => w.elim w1 (fun w => w.elim w2 w3))] at hr; exact stop hr.symm
      · have y' : two (dt D i) := by
          by_cases w : two (dt D i)
          · exact w
          · rw [if_neg w] at y; exact absurd rfl y
        rw [if_pos z, if_pos y'] at hr
        exact nx _ (Or.inr y') hr
      · rw [if_neg z] at hr
        have good : agB o (dt D i) = true → ∀ x : Int32, ¬ x = 0 → w102_129 c d Post (wl102_17 c d Post (m + 1)) (nI (min (dT D) 60)) (nI i) x s := by
          intro g x hx
          rw [if_pos g] at hr
          exact ⟨fun w => absurd w hx, fun _ => nx 0 (Or.inl rfl) hr⟩
        have bad : ¬ agB o (dt D i) = true → w102_129 c d Post (wl102_17 c d Post (m + 1)) (nI (min (dT D) 60)) (nI i) 0 s := by
          intro g
          rw [if_neg g] at hr
          exact ⟨fun _ => stop hr.symm, fun w => absurd rfl w⟩
        have dg1 : ((48 : Int32) ≤ nI (dt D i) ∧ nI (dt D i) ≤ 57) ↔ (48 ≤ dt D i ∧ dt D i ≤ 57) := and_congr (nI_le' (a := 48) (by decide) (by omega)) (nI_le' (b := 57) (by omega) (by decide))
        refine ⟨fun y => s60 (by omega) _ ⟨_, rfl, fun x => ?_, fun x => ?_⟩, fun y => s60 (by omega) _ ⟨_, rfl, fun x => ?_, fun x => ?_⟩⟩
        · rw [bI_0, dg1] at x
          have ea : agB o (dt D i) = decide ((48 ≤ dt D i ∧ dt D i ≤ 57) ∨ dt D i = 97 ∨ dt D i = 98) := by unfold agB; rw [if_pos y]
          rw [show (97 : Int32) = nI 97 from rfl, show (98 : Int32) = nI 98 from rfl, ec 97 (by decide), ec 98 (by decide)]
          refine ⟨fun w => good (by rw [ea]; exact decide_eq_true (Or.inr (Or.inl w))) 1 (by decide), fun w1 => ⟨fun w => good (by rw [ea]; exact decide_eq_true (Or.inr (Or.inr w))) 1 (by decide), fun w2 => bad (fun w => ?_)⟩⟩
          rw [ea] at w
          rcases of_decide_eq_true w with w | w | w
          · exact x w
          · exact w1 w
          · exact w2 w
        · rw [bI_0, dg1, Classical.not_not] at x
          exact good (by unfold agB; rw [if_pos y]; exact decide_eq_true (Or.inl x)) 1 (by decide)
        · rw [bI_0, dg1] at x
          have ea : agB o (dt D i) = decide (49 ≤ dt D i ∧ dt D i ≤ 57) := by unfold agB; rw [if_neg y]
          exact bad (fun w => by rw [ea] at w; have := of_decide_eq_true w; exact x ⟨by omega, this.2⟩)
        · rw [bI_0, dg1, Classical.not_not] at x
          have ea : agB o (dt D i) = decide (49 ≤ dt D i ∧ dt D i ≤ 57) := by unfold agB; rw [if_neg y]
          rw [show (48 : Int32) = nI 48 from rfl, ec 48 (by decide)]
          exact ⟨fun w => bad (fun w2 => by rw [ea] at w2; have := of_decide_eq_true w2; omega), fun w => good (by rw [ea]; exact decide_eq_true (by omega)) 1 (by decide)⟩
  refine okm102 c d Post s ⟨min (dT D) 60 + 1, ?_⟩
  have e : (if 60 < gsV s 1 1 then 60 else gsV s 1 1) = nI (min (dT D) 60) := by
    rw [hT.2.1]
    by_cases q : 60 < dT D
    · rw [if_pos (show (60 : Int32) < nI (dT D) from (nI_lt' (a := 60) (by decide) (by omega)).mpr q), Nat.min_eq_right (by omega)]; rfl
    · rw [if_neg (show ¬ (60 : Int32) < nI (dT D) from fun z => q ((nI_lt' (a := 60) (by decide) (by omega)).mp z)), Nat.min_eq_left (by omega)]
  rw [e]
  exact loop _ 0 0 (by omega) (Or.inl rfl) rfl
/-- an act, by the class -/
theorem s101 (hd : 8 ≤ d) (h : XS s0 s D) (hN : okN (dF D) B (dg D)) (hG : okG (dF D) B (dg D)) (hB : B < 2 ^ 20) {x y : Nat} (hx : x < 256) (hy : y < 256) {v : Int32} (hv : two x → v = avl x y) (k0 : actG D x v = none → ∀ r : Int32, r < 0 → Post (some (.int r)) s) (k1 : ∀ g', actG D x v = some g' → ∀ (s' : gs) (n : Nat) (R : Nat → Int64) (r : Int32), 0 ≤ r → XS s0 s' (uW (uG D g') n R) → xg s' 15 = xg s 15 → Post (some (.int r)) s') : tE c d 101 [.ref 0, .int (nI x), .int (nI y)] s Post := by
  obtain ⟨d, rfl⟩ := d_1 (show 1 ≤ d by omega)
  have hF := h.1.2.1.1
  have ec : ∀ b, b < 256 → (nI x = nI b ↔ x = b) := fun b hb => nI_eq' (by omega) (by omega)
  have mar : (x = 62 ∨ x = 60) → ∀ P : Option Value → gs → Prop, (∀ r s', Post (some (.int r)) s' → P (some (.int r)) s') → tE c d 95 [.ref 0, .int v] s P := by
    intro hx' P hP
    refine s95 (by omega) h hN hB v ?_
    by_cases q : refM D v = 0
    · rw [if_pos q]
      have e : actG D x v = some (marG (dg D) v) := by unfold actG; rw [if_pos hx', if_pos q]
      exact fun s2 h2 x2 => hP _ _ (k1 _ e s2 _ _ _ (refM_f q).1 h2 x2)
    · rw [if_neg q]
      have e : actG D x v = none := by unfold actG; rw [if_pos hx', if_neg q]
      exact hP _ _ (k0 e _ (refM_n q))
  refine okm101 c d Post _ _ s ?_
  unfold wm101
  rw [show (60 : Int32) = nI 60 from rfl, show (62 : Int32) = nI 62 from rfl, show (102 : Int32) = nI 102 from rfl, show (104 : Int32) = nI 104 from rfl, show (120 : Int32) = nI 120 from rfl, ec 60 (by decide), ec 62 (by decide), ec 102 (by decide), ec 104 (by decide), ec 120 (by decide)]
  refine ⟨fun z => ?_, fun z => ?_, fun z => ?_, fun z => ?_, fun z => ?_, fun z => ?_⟩
  · have ev : (48 : Int32) - nI y = v := by rw [hv (Or.inr (Or.inl z)), z]; rfl
    rw [ev]
    exact mar (Or.inr z) _ (fun r s' hp => ⟨r, rfl, hp⟩)
  · have ev : nI y - (48 : Int32) = v := by rw [hv (Or.inl z), z]; rfl
    rw [ev]
    exact mar (Or.inl z) _ (fun r s' hp => ⟨r, rfl, hp⟩)
  · have ev : v = if nI y < 97 then nI y - 48 else (nI y - 97) + 10 := by rw [hv (Or.inr (Or.inr z)), z]; rfl
    have ea : actG D x v = if fld D v then some (upd (dg D) 2 v) else none := by
      unfold actG
      rw [if_neg (by omega), if_pos z]
    have go : w101_101 c d Post v s := by
      refine s98 (by omega) h v ?_
      by_cases q : fld D v
      · rw [if_pos q]
        rw [if_pos q] at ea
        refine fun s2 h2 x2 => ⟨_, rfl, k1 _ ea s2 (dm D) (dR D) _ ?_ h2 x2⟩
        rw [hN.2.2.1.1]
        exact i_nlt.mp (nI_pos (by have := hN.2.2.1.2; have := hF.2; omega))
      · rw [if_neg q]
        rw [if_neg q] at ea
        exact ⟨_, rfl, k0 ea _ (by decide)⟩
    refine ⟨fun w => ?_, fun w => ?_⟩
    · rw [if_pos w] at ev; rw [← ev]; exact go
    · rw [if_neg w] at ev; rw [← ev]; exact go
  · have ea : actG D x v = some (nightG (dg D)) := by
      unfold actG
      rw [if_neg (by omega), if_neg (by omega), if_pos z]
    refine s96 (by omega) h hN hB (fun s2 h2 x2 => ⟨_, rfl, k1 _ ea s2 _ _ _ ?_ h2 x2⟩)
    obtain ⟨_, _, _, _, _, ⟨n, hn, e5⟩, _⟩ := okG_night hG hF.2 hB
    rw [e5]
    exact i_nlt.mp (nI_pos (by omega))
  · have ea : actG D x v = if refF D (dg D) = 0 then some (nightG (sufG (dg D) (btV D (dg D)))) else none := by
      unfold actG
      rw [if_neg (by omega), if_neg (by omega), if_neg (by omega), if_pos z]
    refine s97 (by omega) h hN hB ?_
    by_cases q : refF D (dg D) = 0
    · rw [if_pos q]
      rw [if_pos q] at ea
      refine fun s2 h2 x2 => ⟨_, rfl, k1 _ ea s2 _ _ _ ?_ h2 x2⟩
      obtain ⟨n, hn, hc⟩ := btV_b D (dg D)
      have h5 : nI n ≤ nI 500 := (nI_le' (by omega) (by decide)).mpr hn
      have e5 : nI 500 = 500 := rfl
      have h0 : 0 ≤ nI n := i_nlt.mp (nI_pos (by omega))
      grind
    · rw [if_neg q]
      rw [if_neg q] at ea
      exact ⟨_, rfl, k0 ea _ (refF_n q)⟩
  · have ea : actG D x v = if gn (dg D) 0 < 100 then some (upd (dg D) (8 + gn (dg D) 0) (1 - dg D (8 + gn (dg D) 0))) else none := by
      unfold actG
      rw [if_neg (by omega), if_neg (by omega), if_neg (by omega), if_neg (by omega)]
    have e0 : gsV s 14 0 = dg D 0 := XS_g h (by decide)
    have a0 := hN.1.1
    have b0 := hN.1.2
    rw [e0]
    refine s99 (by omega) h hN hB _ ?_
    have ec0 : (dg D 0).toNatClampNeg = gn (dg D) 0 := rfl
    rw [ec0]
    by_cases q : gn (dg D) 0 < 100
    · have q' : dg D 0 ≤ dg D 0 ∧ dg D 0 ≤ 99 := ⟨Int32.le_refl _, by rw [a0]; exact le_t (b := 99) (by omega) (by decide) (by omega)⟩
      rw [if_pos q']
      rw [if_pos q] at ea
      refine fun s2 h2 x2 => ⟨_, rfl, k1 _ ea s2 (dm D) (dR D) _ ?_ h2 x2⟩
      have hx2 : xg s2 14 = upd (dg D) (8 + gn (dg D) 0) (1 - dg D (8 + gn (dg D) 0)) := h2.1.2.2.2.2.2.1
      unfold lentG
      obtain ⟨m, m1, m2⟩ := lsum_nn (g := upd (dg D) (8 + gn (dg D) 0) (1 - dg D (8 + gn (dg D) 0))) (fun i h8 _ => by rw [← hx2]; exact xg_bit s2 14 i h8) (100 - gn (dg D) 0) (gn (dg D) 0) 0 (by omega)
      rw [show (0 : Int32) = nI 0 from rfl, m2]
      exact i_nlt.mp (nI_pos (by omega))
    · have q' : ¬ (dg D 0 ≤ dg D 0 ∧ dg D 0 ≤ 99) := fun w => by
        have := w.2
        rw [a0] at this
        exact q (by have := (nI_le' (b := 99) (by omega) (by decide)).mp this; omega)
      rw [if_neg q']
      rw [if_neg q] at ea
      exact ⟨_, rfl, k0 ea _ (by decide)⟩
/-- an act, by the reference -/
theorem s213 (hd : 1040 ≤ d) (h : MS s0 s D) (hN : okN (dF D) B (dg D)) (hB : B < 2 ^ 20) {x : Nat} (hx : x < 256) {a v : Int32} (h60 : x = 60 → -a = v) (h62 : x = 62 ∨ x = 102 → a = v) (k0 : actG D x v = none → Post (some (.int 0)) s) (k1 : ∀ g', actG D x v = some g' → ∀ s', MS s0 s' (uG D g') → gsA s' 64 = gsA s 64 → gsA s' 66 = gsA s 66 → Post (some (.int 1)) s') : tE c d 213 [.ref 48, .int (nI x), .int a] s Post := by
  obtain ⟨d, rfl⟩ := d_1 (show 1 ≤ d by omega)
  have hF := h.1.2.1.1
  have hG : gsA s 49 = dg D := MS_G h
  have ec : ∀ b, b < 256 → (nI x = nI b ↔ x = b) := fun b hb => nI_eq' (by omega) (by omega)
  have mar : (x = 62 ∨ x = 60) → w213_64 c d Post v s := by
    intro hx'
    refine s199 (by omega) h hN hB v ⟨_, rfl, fun z => ?_, fun z => ?_⟩
    · have q : refM D v = 0 := by
        by_cases q : refM D v = 0
        · exact q
        · exact absurd z (i_nle.mpr (refM_n q))
      have e : actG D x v = some (marG (dg D) v) := by unfold actG; rw [if_pos hx', if_pos q]
      obtain ⟨d, rfl⟩ := d_1 (show 1 ≤ d by omega)
      refine okm200 c d _ _ s ⟨vpd rfl, vpd rfl, ?_⟩
      rw [hG]
      rintro s1 rfl
      have h1 := MS_u h 1 (dg D 1 + v)
      refine s197 (by omega) rfl (fun s2 f2 e2 => ⟨rfl, rfl, ?_⟩)
      have e2' : gsA s2 49 = nightG (upd (dg D) 1 (dg D 1 + v)) := e2.trans (congrArg nightG (MS_G h1))
      have h3 : MS s0 s2 (uG (uG D (upd (dg D) 1 (dg D 1 + v))) (nightG (upd (dg D) 1 (dg D 1 + v)))) := MS_now h1 f2 e2'
      refine k1 _ e s2 h3 ?_ ?_
      · rw [f2.2.2.1 64 (by decide)]; rfl
      · rw [f2.2.2.1 66 (by decide)]; rfl
    · have q : ¬ refM D v = 0 := fun q => z (by rw [q]; exact Int32.le_refl _)
      exact k0 (by unfold actG; rw [if_pos hx', if_neg q])
  have mr2 : (x = 62 ∨ x = 60) → w213_52 c d Post (nI x) a s := by
    intro hx'
    unfold w213_52
    rw [show (62 : Int32) = nI 62 from rfl, ec 62 (by decide)]
    refine ⟨fun z => ?_, fun z => ?_⟩
    · rw [h62 (Or.inl z)]; exact mar hx'
    · have z0 : x = 60 := by omega
      rw [h60 z0]; exact mar hx'
  refine okm213 c d Post _ _ s ?_
  unfold wm213
  rw [show (60 : Int32) = nI 60 from rfl, show (62 : Int32) = nI 62 from rfl, show (102 : Int32) = nI 102 from rfl, show (104 : Int32) = nI 104 from rfl, show (120 : Int32) = nI 120 from rfl, ec 60 (by decide), ec 62 (by decide), ec 102 (by decide), ec 104 (by decide), ec 120 (by decide)]
  refine ⟨fun z => mr2 (Or.inr z), fun z => mr2 (Or.inl z), fun z => ?_, fun z => ?_, fun z => ?_, fun z => ?_⟩
  · have ea : actG D x v = if fld D v then some (upd (dg D) 2 v) else none := by
      unfold actG
      rw [if_neg (by omega), if_pos z]
    rw [h62 (Or.inr z)]
    refine s158 (by omega) h.1.2.1 _ ⟨_, rfl, fun w => ?_, fun w => ⟨vpd rfl, ?_⟩⟩
    · rw [bI_0] at w
      rw [if_neg w] at ea
      exact k0 ea
    · rw [bI_0, Classical.not_not] at w
      rw [if_pos w] at ea
      rintro s5 rfl
      exact k1 _ ea _ (MS_u h 2 v) rfl rfl
  · have ea : actG D x v = some (nightG (dg D)) := by
      unfold actG
      rw [if_neg (by omega), if_neg (by omega), if_pos z]
    refine s197 (by omega) rfl (fun s2 f2 e2 => ⟨rfl, ?_⟩)
    rw [hG] at e2
    exact k1 _ ea s2 (MS_now h f2 e2) (f2.2.2.1 64 (by decide)) (f2.2.2.1 66 (by decide))
  · have ea : actG D x v = if refF D (dg D) = 0 then some (nightG (sufG (dg D) (btV D (dg D)))) else none := by
      unfold actG
      rw [if_neg (by omega), if_neg (by omega), if_neg (by omega), if_pos z]
    refine s203 (D := D) (by omega) rfl hG hN hF.2 hB ⟨_, rfl, fun w => ?_, fun w => ?_⟩
    · have q : refF D (dg D) = 0 := by
        by_cases q : refF D (dg D) = 0
        · exact q
        · exact absurd w (i_nle.mpr (refF_n q))
      rw [if_pos q] at ea
      refine s204 (by omega) h.1.2.1 h.1.2.2.1 h.1.2.2.2.1 rfl (by decide) hG hN hB (refF_0 q) (fun s1 s2 f1 f2 e2 => ⟨_, rfl, ?_⟩)
      have h2 := MS_now (MS_frJ h f1) f2 e2
      refine s197 (by omega) rfl (fun s3 f3 e3 => ⟨rfl, ?_⟩)
      rw [e2] at e3
      have h3 : MS s0 s3 (uG (uG D (sufG (dg D) (btV D (dg D)))) (nightG (sufG (dg D) (btV D (dg D))))) := MS_now h2 f3 e3
      refine k1 _ ea s3 h3 ?_ ?_
      · rw [f3.2.2.1 64 (by decide), f2.2.2.1 64 (by decide), f1.2.2.1 64 (by decide)]
      · rw [f3.2.2.1 66 (by decide), f2.2.2.1 66 (by decide), f1.2.2.1 66 (by decide)]
    · have q : ¬ refF D (dg D) = 0 := fun q => w (by rw [q]; exact Int32.le_refl _)
      rw [if_neg q] at ea
      exact k0 ea
  · have ea : actG D x v = if gn (dg D) 0 < 100 then some (upd (dg D) (8 + gn (dg D) 0) (1 - dg D (8 + gn (dg D) 0))) else none := by
      unfold actG
      rw [if_neg (by omega), if_neg (by omega), if_neg (by omega), if_neg (by omega)]
    have a0 := hN.1.1
    have b0 := hN.1.2
    rw [hG, show dg D (0 : Int32).toNatClampNeg = nI (gn (dg D) 0) from a0, show (8 : Int32) + nI (gn (dg D) 0) = nI (8 + gn (dg D) 0) from nI_add 8 _, nI_clamp (by omega)]
    refine ⟨vpd rfl, fun w => ?_, fun w => ?_⟩
    · have q : gn (dg D) 0 < 100 := (nI_lt' (b := 100) (by omega) (by decide)).mp w
      rw [if_pos q] at ea
      refine ⟨vpd rfl, vpd rfl, vp_in_nI (by omega) (by decide), vp_in_nI (by omega) (by decide), ?_⟩
      rintro s2 rfl
      exact k1 _ ea _ (MS_u h _ _) rfl rfl
    · have q : ¬ gn (dg D) 0 < 100 := fun q => w ((nI_lt' (b := 100) (by omega) (by decide)).mpr q)
      rw [if_neg q] at ea
      exact k0 ea
end A1
