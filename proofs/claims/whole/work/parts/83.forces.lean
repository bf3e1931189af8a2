/-! Calls: forces. -/
theorem pcs_q {f g : Nat → Bool} : ∀ n, (∀ j, j < n → f j = true → g j = true) → pcs f n = pcs g n → ∀ j, j < n → g j = true → f j = true
  | 0, _, _, j, hj, _ => absurd hj (Nat.not_lt_zero _)
  | n + 1, h, e, j, hj, hg => by
    have h1 := pcs_mn (f := f) (g := g) n (fun j hj => h j (by omega))
    rw [pcs_s, pcs_s] at e
    by_cases qf : f n = true
    · rw [if_pos qf, if_pos (h n (by omega) qf)] at e
      by_cases ej : j = n
      · rw [ej]; exact qf
      · exact pcs_q n (fun j hj => h j (by omega)) (by omega) j (by omega) hg
    · rw [if_neg qf] at e
      by_cases qg : g n = true
      · rw [if_pos qg] at e; omega
      · rw [if_neg qg] at e
        by_cases ej : j = n
        · rw [ej] at hg; exact absurd hg qg
        · exact pcs_q n (fun j hj => h j (by omega)) (by omega) j (by omega) hg
theorem jbc_n {x : Int32} (h : inF 12 x) : jbc x = nI (pcs (gb x) 12) := jbc_f x (gb x) (fun i hi => by
  show gb x i = _
  by_cases q : i < 12
  · rw [decide_eq_true q, Bool.true_and]
  · rw [decide_eq_false q, Bool.false_and]
    cases hq : gb x i
    · rfl
    · exact absurd (h i hi hq) q)
def lx (p q : Int32 × Int32) : Prop := p.1 < q.1 ∨ (p.1 = q.1 ∧ p.2 ≤ q.2)
theorem lx_rf (p : Int32 × Int32) : lx p p := Or.inr ⟨rfl, Int32.le_refl _⟩
theorem lx_tr {p q r : Int32 × Int32} (h1 : lx p q) (h2 : lx q r) : lx p r := by
  rcases h1 with h1 | ⟨h1, h1'⟩ <;> rcases h2 with h2 | ⟨h2, h2'⟩
  · exact Or.inl (by grind)
  · exact Or.inl (by rw [← h2]; exact h1)
  · exact Or.inl (by rw [h1]; exact h2)
  · exact Or.inr ⟨h1.trans h2, by grind⟩
theorem lx_as {p q : Int32 × Int32} (h1 : lx p q) (h2 : lx q p) : p = q := by
  rcases h1 with h1 | ⟨h1, h1'⟩ <;> rcases h2 with h2 | ⟨h2, h2'⟩
  · grind
  · grind
  · grind
  · exact Prod.ext h1 (by grind)
/-- more days given: never before -/
theorem lx_sub {g h : Int32} (hh : inF 12 h) (hs : ∀ j, j < 32 → gb g j = true → gb h j = true) : lx (jbc g, g) (jbc h, h) := by
  have hg : inF 12 g := fun j hj q => hh j hj (hs j hj q)
  have h1 := pcs_mn (f := gb g) (g := gb h) 12 (fun j hj => hs j (by omega))
  have l1 := pcs_le (gb h) 12
  rw [jbc_n hg, jbc_n hh]
  by_cases e : pcs (gb g) 12 = pcs (gb h) 12
  · have eg : g = h := gb_ext (fun j hj => by
      cases q : gb h j
      · cases q2 : gb g j
        · rfl
        · rw [hs j hj q2] at q; cases q
      · exact pcs_q 12 (fun j hj => hs j (by omega)) e j (hh j hj q) q)
    rw [eg]
    exact lx_rf _
  · exact Or.inl ((nI_lt' (by omega) (by omega)).mpr (by omega))
theorem mvA_0 {R S : Nat → Int32} (o : Int32) : mvA R S o 0 = 0 := by
  apply Classical.byContradiction
  intro h
  obtain ⟨j, _, hj⟩ := ne_0.mp h
  obtain ⟨f, _, h1, _⟩ := mvA_b.mp hj
  rw [gb_0] at h1
  cases h1
theorem fwd_0 {R S O : Nat → Int32} : ∀ m k, fwd R S O k m 0 = 0
  | 0, _ => rfl
  | m + 1, k => by
    show mvA R S (O (k + m)) (fwd R S O k m 0) = 0
    rw [fwd_0 m k, mvA_0]
/-- the class's search -/
def gvF (R S O : Nat → Int32) : Nat → Nat → Int32 → Int32 → Int32 × Int32 → Int32 × Int32
  | 0, _, X, g, st => if X = 0 then (if jbc g < st.1 then (jbc g, g) else if jbc g = st.1 ∧ ¬ st.2 ≤ g then (jbc g, g) else st) else st
  | m + 1, k, X, g, st => if X = 0 then (if jbc g < st.1 then (jbc g, g) else if jbc g = st.1 ∧ ¬ st.2 ≤ g then (jbc g, g) else st) else if jbc g ≤ st.1 then (if O k = 1 then gvF R S O m (k + 1) (mvA R S 0 X) (g ||| sh1 k) (gvF R S O m (k + 1) (mvA R S (O k) X) g st) else gvF R S O m (k + 1) (mvA R S (O k) X) g st) else st
/-- days given from k on, so that no field is left -/
def cpl (D : DD) (R S : Nat → Int32) (n m k : Nat) (X g h : Int32) : Prop := (∀ j, j < 32 → gb h j = true → (j < k ∧ gb g j = true) ∨ (k ≤ j ∧ j < n ∧ owD D j = 1)) ∧ (∀ j, j < 32 → gb g j = true → gb h j = true) ∧ fwd R S (owG D h) k m X = 0
theorem lx_put {st p r : Int32 × Int32} (hr : r = if p.1 < st.1 then p else if p.1 = st.1 ∧ ¬ st.2 ≤ p.2 then p else st) : (r = st ∨ r = p) ∧ lx r st ∧ lx r p := by
  by_cases q1 : p.1 < st.1
  · rw [if_pos q1] at hr
    subst hr
    exact ⟨Or.inr rfl, Or.inl q1, lx_rf _⟩
  · rw [if_neg q1] at hr
    by_cases q2 : p.1 = st.1 ∧ ¬ st.2 ≤ p.2
    · rw [if_pos q2] at hr
      subst hr
      refine ⟨Or.inr rfl, Or.inr ⟨q2.1, ?_⟩, lx_rf _⟩
      have := q2.2
      grind
    · rw [if_neg q2] at hr
      subst hr
      refine ⟨Or.inl rfl, lx_rf _, ?_⟩
      by_cases q3 : r.1 = p.1
      · refine Or.inr ⟨q3, ?_⟩
        apply Classical.byContradiction
        intro z
        exact q2 ⟨q3.symm, z⟩
      · exact Or.inl (by grind)
theorem gv_ok {D : DD} {R S : Nat → Int32} {n : Nat} (hn : n ≤ 10) : ∀ (m k : Nat) (X g : Int32) (st : Int32 × Int32), k + m = n → inF k g → (gvF R S (owD D) m k X g st = st ∨ ∃ h, cpl D R S n m k X g h ∧ gvF R S (owD D) m k X g st = (jbc h, h)) ∧ lx (gvF R S (owD D) m k X g st) st ∧ ∀ h, cpl D R S n m k X g h → lx (gvF R S (owD D) m k X g st) (jbc h, h) := by
  intro m
  have inh : ∀ {m k X g h}, k + m = n → cpl D R S n m k X g h → inF 12 h := fun hk hc j hj q => by
    rcases hc.1 j hj q with z | z
    · omega
    · omega
  -- no field left
  have leaf : ∀ (m k : Nat) (g : Int32) (st : Int32 × Int32), k + m = n → inF k g → ((if jbc g < st.1 then (jbc g, g) else if jbc g = st.1 ∧ ¬ st.2 ≤ g then (jbc g, g) else st) = st ∨ ∃ h, cpl D R S n m k 0 g h ∧ (if jbc g < st.1 then (jbc g, g) else if jbc g = st.1 ∧ ¬ st.2 ≤ g then (jbc g, g) else st) = (jbc h, h)) ∧ lx (if jbc g < st.1 then (jbc g, g) else if jbc g = st.1 ∧ ¬ st.2 ≤ g then (jbc g, g) else st) st ∧ ∀ h, cpl D R S n m k 0 g h → lx (if jbc g < st.1 then (jbc g, g) else if jbc g = st.1 ∧ ¬ st.2 ≤ g then (jbc g, g) else st) (jbc h, h) := by
    intro m k g st hk hg
    obtain ⟨p1, p2, p3⟩ := lx_put (st := st) (p := (jbc g, g)) (r := if jbc g < st.1 then (jbc g, g) else if jbc g = st.1 ∧ ¬ st.2 ≤ g then (jbc g, g) else st) rfl
    refine ⟨p1.imp id (fun z => ⟨g, ⟨fun j hj q => Or.inl ⟨hg j hj q, q⟩, fun j hj q => q, fwd_0 m k⟩, z⟩), p2, fun h hc => lx_tr p3 (lx_sub (inh hk hc) hc.2.1)⟩
  induction m with
  | zero =>
    intro k X g st hk hg
    unfold gvF
    by_cases qx : X = 0
    · rw [if_pos qx, qx]
      exact leaf 0 k g st hk hg
    · rw [if_neg qx]
      exact ⟨Or.inl rfl, lx_rf _, fun h hc => absurd hc.2.2 qx⟩
  | succ m ih =>
    intro k X g st hk hg
    unfold gvF
    by_cases qx : X = 0
    · rw [if_pos qx, qx]
      exact leaf (m + 1) k g st hk hg
    · rw [if_neg qx]
      by_cases qw : jbc g ≤ st.1
      · rw [if_pos qw]
        have gk : gb g k = false := by
          cases q : gb g k
          · rfl
          · have := hg k (by omega) q; omega
        have hg1 : inF (k + 1) g := fun j hj q => by have := hg j hj q; omega
        -- the children's completions are this one's
        have c1 : ∀ h, cpl D R S n m (k + 1) (mvA R S (owD D k) X) g h → cpl D R S n (m + 1) k X g h := by
          intro h hc
          have hk0 : ¬ gb h k = true := fun q => by
            rcases hc.1 k (by omega) q with z | z
            · rw [gk] at z; cases z.2
            · omega
          refine ⟨fun j hj q => ?_, hc.2.1, ?_⟩
          · rcases hc.1 j hj q with z | z
            · by_cases e : j = k
              · rw [e] at q; exact absurd q hk0
              · exact Or.inl ⟨by omega, z.2⟩
            · exact Or.inr ⟨by omega, z.2⟩
          · rw [fwd_c, show owG D h k = owD D k from if_neg (fun z => hk0 z.2)]
            exact hc.2.2
        obtain ⟨i1, i2, i3⟩ := ih (k + 1) (mvA R S (owD D k) X) g st (by omega) hg1
        -- which child a completion belongs to
        have sp : ∀ h, cpl D R S n (m + 1) k X g h → gb h k = false → cpl D R S n m (k + 1) (mvA R S (owD D k) X) g h := by
          intro h hc q0
          refine ⟨fun j hj q => ?_, hc.2.1, ?_⟩
          · rcases hc.1 j hj q with z | z
            · exact Or.inl ⟨by omega, z.2⟩
            · by_cases e : j = k
              · rw [e, q0] at q; cases q
              · exact Or.inr ⟨by omega, z.2⟩
          · have := hc.2.2
            rw [fwd_c, show owG D h k = owD D k from if_neg (fun z => by rw [q0] at z; cases z.2)] at this
            exact this
        by_cases qo : owD D k = 1
        · rw [if_pos qo]
          have hg2 : inF (k + 1) (g ||| sh1 k) := fun j hj q => by
            rw [gb_ors (by omega) hj, Bool.or_eq_true] at q
            rcases q with q | q
            · have := hg j hj q; omega
            · have := of_decide_eq_true q; omega
          have c2 : ∀ h, cpl D R S n m (k + 1) (mvA R S 0 X) (g ||| sh1 k) h → cpl D R S n (m + 1) k X g h := by
            intro h hc
            have hk1 : gb h k = true := hc.2.1 k (by omega) (by rw [gb_ors (by omega) (by omega), decide_eq_true rfl, Bool.or_true])
            refine ⟨fun j hj q => ?_, fun j hj q => hc.2.1 j hj (by rw [gb_ors (by omega) hj, q, Bool.true_or]), ?_⟩
            · rcases hc.1 j hj q with z | z
              · have z2 := z.2
                rw [gb_ors (by omega) hj, Bool.or_eq_true] at z2
                rcases z2 with z2 | z2
                · exact Or.inl ⟨hg j hj z2, z2⟩
                · have := of_decide_eq_true z2
                  exact Or.inr ⟨by omega, by omega, by rw [this]; exact qo⟩
              · exact Or.inr ⟨by omega, z.2⟩
            · rw [fwd_c, show owG D h k = 0 from if_pos ⟨qo, hk1⟩]
              exact hc.2.2
          obtain ⟨j1, j2, j3⟩ := ih (k + 1) (mvA R S 0 X) (g ||| sh1 k) (gvF R S (owD D) m (k + 1) (mvA R S (owD D k) X) g st) (by omega) hg2
          refine ⟨?_, lx_tr j2 i2, fun h hc => ?_⟩
          · rcases j1 with j1 | ⟨h, hc, j1⟩
            · rw [j1]
              rcases i1 with i1 | ⟨h, hc, i1⟩
              · exact Or.inl i1
              · exact Or.inr ⟨h, c1 h hc, i1⟩
            · exact Or.inr ⟨h, c2 h hc, j1⟩
          · cases q0 : gb h k
            · exact lx_tr j2 (i3 h (sp h hc q0))
            · refine j3 h ⟨fun j hj q => ?_, fun j hj q => ?_, ?_⟩
              · rcases hc.1 j hj q with z | z
                · exact Or.inl ⟨by omega, by rw [gb_ors (by omega) hj, z.2, Bool.true_or]⟩
                · by_cases e : j = k
                  · exact Or.inl ⟨by omega, by rw [e, gb_ors (by omega) (by omega), decide_eq_true rfl, Bool.or_true]⟩
                  · exact Or.inr ⟨by omega, z.2⟩
              · rw [gb_ors (by omega) hj, Bool.or_eq_true] at q
                rcases q with q | q
                · exact hc.2.1 j hj q
                · rw [of_decide_eq_true q]; exact q0
              · have := hc.2.2
                rw [fwd_c, show owG D h k = 0 from if_pos ⟨qo, q0⟩] at this
                exact this
        · rw [if_neg qo]
          refine ⟨?_, i2, fun h hc => ?_⟩
          · rcases i1 with i1 | ⟨h, hc, i1⟩
            · exact Or.inl i1
            · exact Or.inr ⟨h, c1 h hc, i1⟩
          · refine i3 h (sp h hc ?_)
            cases q0 : gb h k
            · rfl
            · rcases hc.1 k (by omega) q0 with z | z
              · omega
              · exact absurd z.2.2 qo
      · rw [if_neg qw]
        refine ⟨Or.inl rfl, lx_rf _, fun h hc => ?_⟩
        rcases lx_sub (inh hk hc) hc.2.1 with z | z
        · refine Or.inl ?_
          have z' : jbc g < jbc h := z
          show st.1 < jbc h
          grind
        · refine Or.inl ?_
          have z' : jbc g = jbc h := z.1
          show st.1 < jbc h
          grind
/-- the reference's search -/
def rfF (ow : Int32) (K : Nat → Bool) (g : Nat) (b : Option Nat) : Option Nat := if ¬ nI g &&& (ow ^^^ (-1)) = 0 then b else if (match b with
  | none => true
  | some k => decide (jbc (nI g) < jbc (nI k))) = true then (if K g = true then some g else b) else b
theorem rfF_or (ow : Int32) (K : Nat → Bool) (i : Nat) (b : Option Nat) : rfF ow K i b = b ∨ rfF ow K i b = some i := by
  unfold rfF
  by_cases q1 : ¬ nI i &&& (ow ^^^ (-1)) = 0
  · rw [if_pos q1]; exact Or.inl rfl
  · rw [if_neg q1]
    generalize (match b with
      | none => true
      | some k => decide (jbc (nI i) < jbc (nI k))) = t
    by_cases q2 : t = true
    · rw [if_pos q2]
      by_cases q3 : K i = true
      · rw [if_pos q3]; exact Or.inr rfl
      · rw [if_neg q3]; exact Or.inl rfl
    · rw [if_neg q2]; exact Or.inl rfl
theorem rf_ok {ow : Int32} {K : Nat → Bool} : ∀ (m i : Nat) (b : Option Nat), i + m ≤ 4096 → (∀ k, b = some k → k < i) → (∀ k, fl (rfF ow K) i m b = some k → (b = some k ∨ (nI k &&& (ow ^^^ (-1)) = 0 ∧ K k = true)) ∧ (∀ k', b = some k' → lx (jbc (nI k), nI k) (jbc (nI k'), nI k')) ∧ ∀ g, i ≤ g → g < i + m → nI g &&& (ow ^^^ (-1)) = 0 → K g = true → lx (jbc (nI k), nI k) (jbc (nI g), nI g)) ∧ (fl (rfF ow K) i m b = none → b = none ∧ ∀ g, i ≤ g → g < i + m → nI g &&& (ow ^^^ (-1)) = 0 → ¬ K g = true)
  | 0, i, b, _, hb => ⟨fun k hk => ⟨Or.inl hk, fun k' hk' => by
      have hk2 : b = some k := hk
      rw [hk'] at hk2
      cases hk2
      exact lx_rf _, fun g h1 h2 => absurd h2 (by omega)⟩, fun z => ⟨z, fun g h1 h2 => absurd h2 (by omega)⟩⟩
  | m + 1, i, b, hi, hb => by
    have e : fl (rfF ow K) i (m + 1) b = fl (rfF ow K) (i + 1) m (rfF ow K i b) := rfl
    rw [e]
    -- one step
    have st : (rfF ow K i b = b ∧ (nI i &&& (ow ^^^ (-1)) = 0 → K i = true → ∃ k, b = some k ∧ lx (jbc (nI k), nI k) (jbc (nI i), nI i))) ∨ (rfF ow K i b = some i ∧ nI i &&& (ow ^^^ (-1)) = 0 ∧ K i = true ∧ ∀ k, b = some k → lx (jbc (nI i), nI i) (jbc (nI k), nI k)) := by
      unfold rfF
      by_cases q1 : nI i &&& (ow ^^^ (-1)) = 0
      · rw [if_neg (fun z => z q1)]
        cases b with
        | none =>
          rw [if_pos rfl]
          by_cases q2 : K i = true
          · rw [if_pos q2]
            exact Or.inr ⟨rfl, q1, q2, fun k hk => by cases hk⟩
          · rw [if_neg q2]
            exact Or.inl ⟨rfl, fun _ z => absurd z q2⟩
        | some k =>
          have hk := hb k rfl
          by_cases q3 : jbc (nI i) < jbc (nI k)
          · have q3' : decide (jbc (nI i) < jbc (nI k)) = true := decide_eq_true q3
            rw [if_pos q3']
            by_cases q2 : K i = true
            · rw [if_pos q2]
              exact Or.inr ⟨rfl, q1, q2, fun k' hk' => by cases hk'; exact Or.inl q3⟩
            · rw [if_neg q2]
              exact Or.inl ⟨rfl, fun _ z => absurd z q2⟩
          · have q3' : ¬ decide (jbc (nI i) < jbc (nI k)) = true := fun z => q3 (of_decide_eq_true z)
            rw [if_neg q3']
            refine Or.inl ⟨rfl, fun _ _ => ⟨k, rfl, ?_⟩⟩
            by_cases q4 : jbc (nI k) = jbc (nI i)
            · exact Or.inr ⟨q4, le_t (by omega) (by omega) (by omega)⟩
            · exact Or.inl (by show jbc (nI k) < jbc (nI i); grind)
      · rw [if_pos q1]
        exact Or.inl ⟨rfl, fun z => absurd z q1⟩
    rcases st with ⟨e1, s1⟩ | ⟨e1, s1, s2, s3⟩
    · rw [e1]
      obtain ⟨a1, a2⟩ := rf_ok m (i + 1) b (by omega) (fun k hk => by have := hb k hk; omega)
      refine ⟨fun k hk => ?_, fun z => ?_⟩
      · obtain ⟨b1, b2, b3⟩ := a1 k hk
        refine ⟨b1, b2, fun g g1 g2 g3 g4 => ?_⟩
        by_cases eg : g = i
        · subst eg
          obtain ⟨k', hk', l'⟩ := s1 g3 g4
          exact lx_tr (b2 k' hk') l'
        · exact b3 g (by omega) (by omega) g3 g4
      · obtain ⟨z1, z2⟩ := a2 z
        refine ⟨z1, fun g g1 g2 g3 g4 => ?_⟩
        by_cases eg : g = i
        · subst eg
          obtain ⟨k', hk', _⟩ := s1 g3 g4
          rw [z1] at hk'
          cases hk'
        · exact z2 g (by omega) (by omega) g3 g4
    · rw [e1]
      obtain ⟨a1, a2⟩ := rf_ok m (i + 1) (some i) (by omega) (fun k hk => by cases hk; omega)
      refine ⟨fun k hk => ?_, fun z => ?_⟩
      · obtain ⟨b1, b2, b3⟩ := a1 k hk
        have b4 := b2 i rfl
        refine ⟨Or.inr ?_, fun k' hk' => lx_tr b4 (s3 k' hk'), fun g g1 g2 g3 g4 => ?_⟩
        · rcases b1 with b1 | b1
          · cases b1; exact ⟨s1, s2⟩
          · exact b1
        · by_cases eg : g = i
          · subst eg; exact b4
          · exact b3 g (by omega) (by omega) g3 g4
      · have := (a2 z).1
        cases this
theorem XS_36 {s0 s : gs} {D : DD} (h : XS s0 s D) (k : Nat) (x : Int32) : XS s0 (gs_V s 36 k x) D := by
  obtain ⟨⟨h1, h2, h3, h4, h5, h6, h7, h8, h9, h10⟩, hf⟩ := h
  exact ⟨⟨h1, h2, h3, h4, XN_V h5 (by decide) _ _, h6, XU_V h7 (by decide) _ _, XK_V h8 (by decide) _ _, h9, h10⟩, frX_V hf (by decide) _ _⟩
section C17
variable {c : gx} {B : Nat} {s0 : gs} {D : DD} {R S O : Nat → Int32}
theorem s73 {n : Nat} (hn : n ≤ 10) : ∀ (m d k : Nat) (X g : Int32) (st : Int32 × Int32) (s : gs) (Post : Option Value → gs → Prop), k + m = n → m + 4 ≤ d → XS s0 s D → WK s R S O → gsV s 36 4 = st.1 → gsV s 36 5 = st.2 → (∀ s', XS s0 s' D → WK s' R S O → gsV s' 36 4 = (gvF R S O m k X g st).1 → gsV s' 36 5 = (gvF R S O m k X g st).2 → Post none s') → tE c d 73 [.ref 36, .int (nI k), .int (nI n), .int X, .int g] s Post := by
  intro m
  -- no field left
  have leaf : ∀ (d : Nat) (g : Int32) (st : Int32 × Int32) (s : gs) (Post : Option Value → gs → Prop), XS s0 s D → WK s R S O → gsV s 36 4 = st.1 → gsV s 36 5 = st.2 → (∀ s', XS s0 s' D → WK s' R S O → gsV s' 36 4 = (if jbc g < st.1 then (jbc g, g) else if jbc g = st.1 ∧ ¬ st.2 ≤ g then (jbc g, g) else st).1 → gsV s' 36 5 = (if jbc g < st.1 then (jbc g, g) else if jbc g = st.1 ∧ ¬ st.2 ≤ g then (jbc g, g) else st).2 → Post none s') → ((jbc g < (gsV s 36 4) → w73_38 c d Post g (jbc g) s) ∧ (¬ (jbc g < (gsV s 36 4)) → ((jbc g = (gsV s 36 4) → (((gsV s 36 5) ≤ g → w73_50 c d Post s) ∧ (¬ ((gsV s 36 5) ≤ g) → w73_38 c d Post g (jbc g) s))) ∧ (¬ (jbc g = (gsV s 36 4)) → w73_50 c d Post s)))) := by
    intro d g st s Post hS hW e1 e2 k
    have put : (if jbc g < st.1 then (jbc g, g) else if jbc g = st.1 ∧ ¬ st.2 ≤ g then (jbc g, g) else st) = (jbc g, g) → w73_38 c d Post g (jbc g) s := by
      intro e
      rw [e] at k
      rintro s1 rfl s2 rfl
      exact k _ (XS_36 (XS_36 hS _ _) _ _) hW rfl rfl
    have non : (if jbc g < st.1 then (jbc g, g) else if jbc g = st.1 ∧ ¬ st.2 ≤ g then (jbc g, g) else st) = st → w73_50 c d Post s := by
      intro e
      rw [e] at k
      exact k s hS hW e1 e2
    rw [e1, e2]
    refine ⟨fun z => put (if_pos z), fun z => ⟨fun y => ⟨fun w => non ?_, fun w => put ?_⟩, fun y => non ?_⟩⟩
    · rw [if_neg z, if_neg (fun u => u.2 w)]
    · rw [if_neg z, if_pos ⟨y, w⟩]
    · rw [if_neg z, if_neg (fun u => y u.1)]
  induction m with
  | zero =>
    intro d k X g st s Post hk hd hS hW e1 e2 kk
    obtain ⟨d, rfl⟩ := d_1 (show 1 ≤ d by omega)
    unfold gvF at kk
    refine okm73 c d Post _ _ _ _ s (s266 (by omega) _ ⟨_, rfl, fun z => ?_, fun z => ⟨fun y => absurd y (nI_pos (by omega)), fun _ => ⟨fun _ => ?_, fun y => absurd (le_t (by omega) (by omega) (by omega)) y⟩⟩⟩)
    · rw [if_pos z] at kk
      exact leaf d g st s Post hS hW e1 e2 kk
    · rw [if_neg z] at kk
      exact kk s hS hW e1 e2
  | succ m ih =>
    intro d k X g st s Post hk hd hS hW e1 e2 kk
    obtain ⟨d, rfl⟩ := d_1 (show 1 ≤ d by omega)
    unfold gvF at kk
    refine okm73 c d Post _ _ _ _ s (s266 (by omega) _ ⟨_, rfl, fun z => ?_, fun z => ⟨fun y => absurd y (nI_pos (by omega)), fun _ => ⟨fun y => absurd y (le_f (by omega) (by omega) (by omega)), fun _ => ?_⟩⟩⟩)
    · rw [if_pos z] at kk
      exact leaf d g st s Post hS hW e1 e2 kk
    · rw [if_neg z] at kk
      rw [e1, nI_clamp (by omega), nI_1]
      refine ⟨fun y => ⟨vp_in_nI (by omega) (by decide), ?_⟩, fun y => ?_⟩
      · rw [if_pos y] at kk
        rw [hW.2.2 k (by omega)]
        refine s66 (by omega) hW _ _ ⟨_, rfl, ih d (k + 1) _ g st s _ (by omega) (by omega) hS hW e1 e2 (fun s2 h2 w2 f1 f2 => ⟨rfl, vp_in_nI (by omega) (by decide), ?_⟩)⟩
        rw [w2.2.2 k (by omega)]
        refine ⟨fun w => ?_, fun w => ?_⟩
        · rw [if_pos w] at kk
          exact s66 (by omega) w2 _ _ ⟨_, rfl, ih d (k + 1) _ _ _ s2 _ (by omega) (by omega) h2 w2 f1 f2 (fun s3 h3 w3 g1 g2 => ⟨rfl, kk s3 h3 w3 g1 g2⟩)⟩
        · rw [if_neg w] at kk
          exact kk s2 h2 w2 f1 f2
      · rw [if_neg y] at kk
        exact kk s hS hW e1 e2
end C17
section C18
variable {c : gx} {d B : Nat} {Post : Option Value → gs → Prop} {s0 s : gs} {D : DD}
def ownB (D : DD) (n : Nat) : Int32 := fl (fun k a => if owD D k = 1 then a ||| sh1 k else a) 0 n 0
theorem own_b {n : Nat} (hn : n ≤ 10) {j : Nat} (hj : j < 32) : gb (ownB D n) j = decide (j < n ∧ owD D j = 1) := by
  unfold ownB
  rw [fl_bits (fun k => owD D k = 1) n 0 0 j (by omega) hj, gb_0, Bool.false_or]
  exact decide_eq_decide.mpr ⟨fun z => ⟨by omega, z.2.2⟩, fun z => ⟨by omega, by omega, z.2⟩⟩
theorem sub_o {x o : Int32} : (x &&& (o ^^^ (-1)) = 0) ↔ ∀ j, j < 32 → gb x j = true → gb o j = true := by
  constructor
  · intro h j hj hx
    have : gb (x &&& (o ^^^ (-1))) j = false := by rw [h, gb_0]
    rw [gb_and, hx, Bool.true_and, gb_not hj] at this
    simpa using this
  · intro h
    refine gb_ext (fun j hj => ?_)
    rw [gb_0, gb_and, gb_not hj]
    cases q : gb x j
    · rfl
    · rw [h j hj q]; rfl
theorem cl_forces (h : HY d s B D) (x : Int32) : CL c d 116 232 [.int x] s B := by
  have hd := h.1
  have hB := h.2.2.2.2
  have hv := h.2.2.2.1
  have hF := hv.1.2
  have hNN := HY_n h
  obtain ⟨⟨a0, b0⟩, ⟨a1, b1⟩, ⟨a2, b2⟩, _⟩ := HY_n h
  by_cases q : 1 ≤ x ∧ x ≤ 10
  · obtain ⟨n, hn1, hn, rfl⟩ := i_rng (a := 1) (b := 10) (by decide) q (by decide)
    have owF : inF 12 (ownB D n) := fun j hj z => by
      rw [own_b hn hj] at z
      have := (of_decide_eq_true z).1
      omega
    have oN := lt12 owF
    have oE := eq_nI (ownB D n)
    generalize hoN : (ownB D n).toBitVec.toNat = N at oN oE
    -- forcing, on both sides
    have frc : ∀ g : Int32, (kp D (owG D g) n 0 (gn (dg D) 1) < n) ↔ fwd (gmR D) (prW D 1) (owG D g) 0 n (sh1 (gn (dg D) 1)) = 0 := by
      intro g
      have h1 := kp_b hv (owG D g) n 0 n (gn (dg D) 1) b1 (Nat.le_refl _)
      have h2 := fw_bw hv (owG D g) b1 n
      rw [← h2] at h1
      have h3 : (fwd (gmR D) (prW D 1) (owG D g) 0 n (sh1 (gn (dg D) 1)) = 0) ↔ ¬ n ≤ kp D (owG D g) n 0 (gn (dg D) 1) := by rw [h1, Classical.not_not]
      rw [h3]
      omega
    obtain ⟨v1, v2, v3⟩ := gv_ok (D := D) (R := gmR D) (S := prW D 1) hn n 0 (sh1 (gn (dg D) 1)) 0 (nI (n + 1), 0) (by omega) (fun j hj z => by rw [gb_0] at z; cases z)
    obtain ⟨r1', r2'⟩ := rf_ok (ow := ownB D n) (K := fun g => decide (kp D (owG D (nI g)) n 0 (gn (dg D) 1) < n)) (N + 1) 0 none (by omega) (fun k hk => by cases hk)
    generalize hV : gvF (gmR D) (prW D 1) (owD D) n 0 (sh1 (gn (dg D) 1)) 0 (nI (n + 1), 0) = V at v1 v2 v3
    generalize hRf : fl (rfF (ownB D n) (fun g => decide (kp D (owG D (nI g)) n 0 (gn (dg D) 1) < n))) 0 (N + 1) none = Rf at r1' r2'
    -- a completion is one of the sets that are tried
    have cS : ∀ hh, cpl D (gmR D) (prW D 1) n n 0 (sh1 (gn (dg D) 1)) 0 hh → ∃ g, g < N + 1 ∧ hh = nI g ∧ nI g &&& (ownB D n ^^^ (-1)) = 0 ∧ kp D (owG D (nI g)) n 0 (gn (dg D) 1) < n ∧ inF 12 hh ∧ jbc hh ≤ nI n := by
      intro hh hc
      have hsub : ∀ j, j < 32 → gb hh j = true → gb (ownB D n) j = true := fun j hj z => by
        rw [own_b hn hj]
        rcases hc.1 j hj z with w | w
        · omega
        · exact decide_eq_true ⟨w.2.1, w.2.2⟩
      have e := eq_nI hh
      have hin : inF 12 hh := fun j hj z => owF j hj (hsub j hj z)
      have hle : hh.toBitVec.toNat ≤ N := by
        have e2 : hh &&& ownB D n = hh := gb_ext (fun j hj => by
          rw [gb_and]
          cases w : gb hh j
          · rfl
          · rw [hsub j hj w]; rfl)
        have e3 : (hh &&& ownB D n).toBitVec.toNat = hh.toBitVec.toNat &&& (ownB D n).toBitVec.toNat := BitVec.toNat_and _ _
        rw [e2, hoN] at e3
        rw [e3]
        exact Nat.and_le_right
      refine ⟨hh.toBitVec.toNat, by omega, e, ?_, ?_, hin, ?_⟩
      · rw [← e]; exact sub_o.mpr hsub
      · rw [← e]; exact (frc hh).mpr hc.2.2
      · rw [jbc_n hin]
        refine le_t (by have := pcs_le (gb hh) 12; omega) (by omega) ?_
        have h1 := pcs_hi (f := gb hh) (m := n) (fun i hi => by
          cases w : gb hh i
          · rfl
          · have := hsub i (gb_32 w) w
            rw [own_b hn (gb_32 w)] at this
            have := (of_decide_eq_true this).1
            omega) (12 - n)
        rw [show n + (12 - n) = 12 by omega] at h1
        rw [h1]
        exact pcs_le _ _
    have sC : ∀ g, nI g &&& (ownB D n ^^^ (-1)) = 0 → kp D (owG D (nI g)) n 0 (gn (dg D) 1) < n → cpl D (gmR D) (prW D 1) n n 0 (sh1 (gn (dg D) 1)) 0 (nI g) := by
      intro g g1 g2
      refine ⟨fun j hj z => Or.inr ?_, fun j hj z => (by rw [gb_0] at z; cases z), (frc _).mp g2⟩
      have := sub_o.mp g1 j hj z
      rw [own_b hn hj] at this
      have := of_decide_eq_true this
      exact ⟨Nat.zero_le _, this.1, this.2⟩
    -- both searches find the same
    have both : (Rf = none → V = (nI (n + 1), 0)) ∧ ∀ g, Rf = some g → g < N + 1 ∧ V = (jbc (nI g), nI g) ∧ jbc (nI g) ≤ nI n := by
      refine ⟨fun z => ?_, fun g z => ?_⟩
      · rcases v1 with v1 | ⟨hh, hc, v1⟩
        · exact v1
        · obtain ⟨g, g1, g2, g3, g4, _⟩ := cS hh hc
          exact absurd (decide_eq_true g4) ((r2' z).2 g (by omega) (by omega) g3)
      · obtain ⟨b1', -, b3'⟩ := r1' g z
        rcases b1' with w | w
        · cases w
        · have hc := sC g w.1 (of_decide_eq_true w.2)
          obtain ⟨g0, l1, l2, _, _, _, l6⟩ := cS (nI g) hc
          have hlx := v3 (nI g) hc
          have hV1 : V.1 ≤ nI n := by
            rcases hlx with u | u
            · have u' : V.1 < jbc (nI g) := u
              grind
            · have u' : V.1 = jbc (nI g) := u.1
              rw [u']; exact l6
          rcases v1 with v1 | ⟨hh, hc', v1⟩
          · rw [v1] at hV1
            exact absurd hV1 (le_f (by omega) (by omega) (by omega))
          · obtain ⟨g', p1, p2, p3, p4, _⟩ := cS hh hc'
            have := b3' g' (by omega) (by omega) p3 (decide_eq_true p4)
            rw [← p2, ← v1] at this
            have e := lx_as hlx this
            refine ⟨?_, e, l6⟩
            have e2 : V.2 = nI g := by rw [e]
            rw [v1] at e2
            have e3 : hh = nI g := e2
            rw [p2] at e3
            by_cases qg : g < N + 1
            · exact qg
            · have hg' : ∀ (m i : Nat) (b : Option Nat), (∀ k, b = some k → k < i) → ∀ k, fl (rfF (ownB D n) (fun g => decide (kp D (owG D (nI g)) n 0 (gn (dg D) 1) < n))) i m b = some k → k < i + m := by
                intro m
                induction m with
                | zero => intro i b hb k hk; exact hb k hk
                | succ m ih =>
                  intro i b hb k hk
                  have := ih (i + 1) (rfF (ownB D n) (fun g => decide (kp D (owG D (nI g)) n 0 (gn (dg D) 1) < n)) i b) (fun k' hk' => by
                    rcases rfF_or (ownB D n) (fun g => decide (kp D (owG D (nI g)) n 0 (gn (dg D) 1) < n)) i b with e | e
                    · rw [e] at hk'
                      have := hb k' hk'
                      omega
                    · rw [e] at hk'
                      cases hk'
                      omega) k hk
                  omega
              rw [← hRf] at z
              have := hg' (N + 1) 0 none (fun k hk => by cases hk) g z
              omega
    -- the class
    have cls : ∀ (d : Nat) (Post : Option Value → gs → Prop), 1090 ≤ d → (∀ s', XS s s' D → WK s' (gmR D) (prW D 1) (owD D) → gsV s' 36 4 = V.1 → gsV s' 36 5 = V.2 → ((nI n < (gsV s' 36 4) → Post (some (.int (-2))) s') ∧ (¬ nI n < (gsV s' 36 4) → tE c d 45 [.ref 34, .long ((gsV s' 36 5 : Int32).toInt64)] s' (fun v12 s_12 => v12 = none ∧ Post (some (.int (gsV s_12 36 4))) s_12)))) → tE c (d + 1) 116 [.ref 0, .int (nI n)] s Post := by
      intro d Post hd2 k
      obtain ⟨d, rfl⟩ := d_1 (show 1 ≤ d by omega)
      have hS := XS_rf h.2.1
      refine okm116 c (d + 1) Post _ s ⟨fun z => absurd z (i_nlt.mpr q.1), fun _ => ⟨fun _ => s119 (by omega) hS hv hNN hB (fun s2 h2 w2 => ⟨rfl, ?_⟩), fun z => absurd q.2 z⟩⟩
      rw [XS_g h2 (by decide), a1]
      refine okm72 c d _ _ _ s2 ?_
      rintro s3 rfl s4 rfl
      have e20 : (if (20 : Int32) < nI n then 20 else nI n) = nI n := if_neg (fun z => by
        have := (nI_lt' (a := 20) (by decide) (by omega)).mp z
        omega)
      rw [e20]
      refine s73 hn n d 0 _ _ (nI (n + 1), 0) _ _ (by omega) (by omega) (XS_36 (XS_36 h2 _ _) _ _) (show WK (gs_V (gs_V s2 36 4 (nI n + 1)) 36 5 0) (gmR D) (prW D 1) (owD D) from w2) ?_ rfl (fun s5 h5 w5 f4 f5 => ⟨rfl, ?_⟩)
      · show nI n + 1 = nI (n + 1)
        exact nI_1 n
      · rw [show gvF (gmR D) (prW D 1) (owD D) n 0 ((1 : Int32) <<< (nI (gn (dg D) 1) &&& 31)) 0 (nI (n + 1), 0) = V from hV] at f4 f5
        obtain ⟨k1, k2⟩ := k s5 h5 w5 f4 f5
        refine ⟨fun z => ⟨Or.inl rfl, _, rfl, fun _ => k1 z, fun w => absurd rfl w⟩, fun z => ⟨Or.inr rfl, _, rfl, fun w => absurd w (by decide), fun _ => k2 z⟩⟩
    -- the reference
    have rfl' : ∀ (d : Nat) (Post : Option Value → gs → Prop) (s1 : gs), 1090 ≤ d → MS s1 s1 D → (∀ s', MS s1 s' D → ((oI Rf = -1 → Post (some (.int (-2))) s') ∧ (¬ oI Rf = -1 → ∀ s_4 : gs, s_4 = gs_V s' 48 12 0 → tE c d 157 [.ref 48, .long ((oI Rf : Int32).toInt64)] s_4 (fun v5 s_5 => v5 = none ∧ tE c d 266 [.int (oI Rf)] s_5 (fun v6 s_6 => ∃ x_6 : Int32, v6 = some (.int x_6) ∧ Post (some (.int x_6)) s_6))))) → tE c (d + 1) 232 [.ref 48, .int (nI n)] s1 Post := by
      intro d Post s1 hd2 hm k
      refine okm232 c d Post _ s1 ?_
      rintro s2 rfl
      have hm1 := MS_thr hm 0
      have search : ∀ (m g : Nat) (b : Option Nat) (s' : gs), g + m = N + 1 → (∀ k, b = some k → k < 4096) → MS s1 s' D → fl (rfF (ownB D n) (fun g => decide (kp D (owG D (nI g)) n 0 (gn (dg D) 1) < n))) g m b = Rf → wl232_66 c d Post (m + 1) (nI n) (ownB D n) (oI b) (nI g) s' := by
        intro m
        induction m with
        | zero =>
          intro g b s' hg hb hS hr
          have hr' : b = Rf := hr
          subst hr'
          unfold wl232_66 wb232_66
          rw [oE, nI_lt' (by omega) (by omega)]
          refine ⟨fun _ => ?_, fun z => absurd (by omega) z⟩
          rintro s2 rfl
          exact k _ (MS_gv hS 0)
        | succ m ih =>
          intro g b s' hg hb hS hr
          have hr' : fl (rfF (ownB D n) (fun g => decide (kp D (owG D (nI g)) n 0 (gn (dg D) 1) < n))) (g + 1) m (rfF (ownB D n) (fun g => decide (kp D (owG D (nI g)) n 0 (gn (dg D) 1) < n)) g b) = Rf := hr
          have hlt : ¬ ownB D n < nI g := by
            rw [oE]
            intro z
            have := (nI_lt' (by omega) (by omega)).mp z
            omega
          have nx : ∀ (b' : Option Nat) (s2 : gs), (∀ k, b' = some k → k < 4096) → MS s1 s2 D → rfF (ownB D n) (fun g => decide (kp D (owG D (nI g)) n 0 (gn (dg D) 1) < n)) g b = b' → w232_135 c d Post (wl232_66 c d Post (m + 1)) (nI n) (ownB D n) (oI b') (nI g) s2 := by
            intro b' s2 hb' h2 e
            unfold w232_135
            rw [nI_1]
            rw [e] at hr'
            exact ih (g + 1) b' s2 (by omega) hb' h2 hr'
          have try_ : ∀ (s2 : gs), MS s1 s2 D → rfF (ownB D n) (fun g => decide (kp D (owG D (nI g)) n 0 (gn (dg D) 1) < n)) g b = (if decide (kp D (owG D (nI g)) n 0 (gn (dg D) 1) < n) = true then some g else b) → w232_101 c d Post (wl232_66 c d Post (m + 1)) (nI n) (ownB D n) (oI b) (nI g) s2 := by
            intro s2 h2 e
            rintro s3 rfl
            refine s229 (g := nI g) (by omega) (MS_gv h2 (nI g)) hv hNN hB rfl (by omega) (fun s5 h5 f5 g5 => ⟨rfl, vpd rfl, ?_⟩)
            rw [MS_G h5, show dg D (1 : Int32).toNatClampNeg = nI (gn (dg D) 1) from a1]
            refine s227 (by omega) 0 (gn (dg D) 1) ⟨_, rfl, vp_in_nI (by omega) (by decide), ?_⟩
            have hle := kp_le D (owG D (nI g)) n 0 (gn (dg D) 1)
            rw [nI_clamp (by omega), g5 0 (Nat.zero_le _) _ b1, Nat.sub_zero, nI_le' (by omega) (by omega)]
            refine ⟨fun z => nx b s5 hb h5 ?_, fun z => nx (some g) s5 (fun k hk => by cases hk; omega) h5 ?_⟩
            · rw [e, if_neg (fun w => by have := of_decide_eq_true w; omega)]
            · rw [e, if_pos (decide_eq_true (by omega))]
          refine ⟨fun z => absurd z hlt, fun _ => ⟨fun z => ?_, fun z => nx b s' hb hS (if_pos z)⟩⟩
          cases b with
          | none =>
            refine ⟨fun _ => try_ s' hS ?_, fun w => absurd rfl w⟩
            unfold rfF
            rw [if_neg (fun w => w z), if_pos rfl]
          | some k' =>
            have hk' := hb k' rfl
            refine ⟨fun w => absurd w (ni_1 (by omega)), fun _ => s266 (by omega) _ ⟨_, rfl, s266 (by omega) _ ⟨_, rfl, fun w => try_ s' hS ?_, fun w => nx (some k') s' hb hS ?_⟩⟩⟩
            · unfold rfF
              have w' : decide (jbc (nI g) < jbc (nI k')) = true := decide_eq_true w
              rw [if_neg (fun u => u z), if_pos w']
            · unfold rfF
              have w' : ¬ decide (jbc (nI g) < jbc (nI k')) = true := fun u => w (of_decide_eq_true u)
              rw [if_neg (fun u => u z), if_neg w']
      have own : ∀ (m i : Nat) (a : Int32), i + m = n → fl (fun k a => if owD D k = 1 then a ||| sh1 k else a) i m a = ownB D n → wl232_21 c d Post (m + 1) (nI n) a (nI i) (gs_V s1 48 13 0) := by
        intro m
        induction m with
        | zero =>
          intro i a hi hr
          have hr' : a = ownB D n := hr
          subst hr'
          exact ⟨fun _ => ⟨N + 2, search (N + 1) 0 none _ (by omega) (fun k hk => by cases hk) hm1 hRf⟩, fun z => absurd (le_t (by omega) (by omega) (by omega)) z⟩
        | succ m ih =>
          intro i a hi hr
          have hr' : fl (fun k a => if owD D k = 1 then a ||| sh1 k else a) (i + 1) m (if owD D i = 1 then a ||| sh1 i else a) = ownB D n := hr
          unfold owD at hr'
          unfold wl232_21 wb232_21 w232_53
          rw [nI_1]
          refine ⟨fun z => absurd z (le_f (by omega) (by omega) (by omega)), fun _ => ⟨vpd rfl, s184n (by omega) hm1 a0 (by omega) ⟨_, rfl, fun z => ?_, fun z => ?_⟩⟩⟩
          · rw [if_pos z] at hr'
            exact ih (i + 1) _ (by omega) hr'
          · rw [if_neg z] at hr'
            rw [Int32.or_zero]
            exact ih (i + 1) _ (by omega) hr'
      refine s154 (by omega) _ _ _ ⟨_, rfl, fun z => ?_, fun _ => ⟨n + 1, own n 0 0 (by omega) rfl⟩⟩
      rw [bI_0] at z; exact absurd q z
    cases hRs : Rf with
    | none =>
      have eV := both.1 hRs
      refine glu0 h (x := -2) (fun Post k => ?_) (fun s1 Post hm k => ?_)
      · obtain ⟨d, rfl⟩ := d_1 (show 1 ≤ d by omega)
        refine cls d Post (by omega) (fun s' h' _ f4 _ => ?_)
        rw [f4, eV]
        exact ⟨fun _ => k s' h', fun z => absurd ((nI_lt' (by omega) (by omega)).mpr (by omega)) z⟩
      · obtain ⟨d, rfl⟩ := d_1 (show 1 ≤ d by omega)
        refine rfl' d Post s1 (by omega) hm (fun s' h' => ?_)
        rw [hRs]
        exact ⟨fun _ => k s' h', fun z => absurd rfl z⟩
    | some g =>
      obtain ⟨hgN, eV, hle⟩ := both.2 g hRs
      refine glu1 h (D' := uW D 1 (r1 (nI g).toInt64)) (x := jbc (nI g)) (VD_W (VD_mono hv (Nat.le_add_right B 60)) _ _) (fun Post k => ?_) (fun s1 Post hm k => ?_)
      · obtain ⟨d, rfl⟩ := d_1 (show 1 ≤ d by omega)
        refine cls d Post (by omega) (fun s' h' _ f4 f5 => ?_)
        refine ⟨fun z => ?_, fun _ => ?_⟩
        · rw [f4, eV] at z
          exact absurd hle (i_nle.mpr z)
        · rw [f5, eV]
          refine s45' (by omega) h' _ (fun s2 h2 f2 => ⟨rfl, ?_⟩)
          rw [f2.1 36 (by decide), f4, eV]
          exact k s2 h2
      · obtain ⟨d, rfl⟩ := d_1 (show 1 ≤ d by omega)
        refine rfl' d Post s1 (by omega) hm (fun s' h' => ?_)
        rw [hRs]
        refine ⟨fun z => absurd z (ni_1 (by omega)), fun _ => ?_⟩
        rintro s4 rfl
        exact s157r (by omega) (MS_row0 h' (r1 (nI g).toInt64)) (by decide) rfl (fun s5 h5 e5 => ⟨rfl, s266 (by omega) _ ⟨_, rfl, k s5 h5⟩⟩)
  · refine glu0 h (x := -1) (fun Post k => ?_) (fun s1 Post hm k => ?_)
    · obtain ⟨d, rfl⟩ := d_1 (show 1 ≤ d by omega)
      have k' := k s (XS_rf h.2.1)
      exact okm116 c d Post _ s ⟨fun z => k', fun z1 => ⟨fun z2 => absurd ⟨i_nlt.mp z1, z2⟩ q, fun z => k'⟩⟩
    · obtain ⟨d, rfl⟩ := d_1 (show 1 ≤ d by omega)
      refine okm232 c d Post _ s1 ?_
      rintro s2 rfl
      refine s154 (by omega) _ _ _ ⟨_, rfl, fun z => k _ (MS_thr hm 0), fun z => ?_⟩
      rw [bI_0, Classical.not_not] at z
      exact absurd z q
end C18
