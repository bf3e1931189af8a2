/-! The class's rule at work; issues; wishes. -/
/-- only what waits has changed -/
def frW (s s' : gs) : Prop := (∀ b k, ¬ (b = 5 ∧ k = 3) → gsV s' b k = gsV s b k) ∧ gsE s' = gsE s ∧ (∀ b, b ≠ 7 → gsA s' b = gsA s b) ∧ gsR s' = gsR s
def frI (s s' : gs) : Prop := (∀ b k, ¬ (b = 5 ∧ k = 3) → gsV s' b k = gsV s b k) ∧ gsE s' = gsE s ∧ (∀ b, b ≠ 7 → b ≠ 45 → gsA s' b = gsA s b) ∧ gsR s' = gsR s
theorem frW_rf (s : gs) : frW s s := ⟨fun _ _ _ => rfl, rfl, fun _ _ => rfl, rfl⟩
theorem frW_tr {s s' s'' : gs} (h : frW s s') (h' : frW s' s'') : frW s s'' := ⟨fun b k hb => (h'.1 b k hb).trans (h.1 b k hb), h'.2.1.trans h.2.1, fun b hb => (h'.2.2.1 b hb).trans (h.2.2.1 b hb), h'.2.2.2.trans h.2.2.2⟩
theorem frI_tr {s s' s'' : gs} (h : frI s s') (h' : frI s' s'') : frI s s'' := ⟨fun b k hb => (h'.1 b k hb).trans (h.1 b k hb), h'.2.1.trans h.2.1, fun b hb hc => (h'.2.2.1 b hb hc).trans (h.2.2.1 b hb hc), h'.2.2.2.trans h.2.2.2⟩
theorem frI_rf (s : gs) : frI s s := ⟨fun _ _ _ => rfl, rfl, fun _ _ _ => rfl, rfl⟩
theorem frI_W {s s' : gs} (h : frW s s') : frI s s' := ⟨h.1, h.2.1, fun b hb _ => h.2.2.1 b hb, h.2.2.2⟩
def wst (f : Nat → Int32) : List Int32 → Prop
  | [] => True
  | x :: st => f st.length = x ∧ wst f st
theorem wst_up {f : Nat → Int32} {n : Nat} {x : Int32} : ∀ {st : List Int32}, wst f st → st.length ≤ n → wst (upd f n x) st
  | [], _, _ => trivial
  | y :: st, h, hn => by
    have hn' : st.length + 1 ≤ n := hn
    refine ⟨?_, wst_up h.2 (by omega)⟩
    rw [upd_ne (by omega)]
    exact h.1
def WS (s : gs) (st : List Int32) : Prop := st.length ≤ 40 ∧ gsV s 5 3 = nI st.length ∧ wst (gsA s 7) st
/-- eight things -/
def thg (a b e f g h i j : Int32) : Nat → Int32 := fun n => match n with
  | 0 => a | 1 => b | 2 => e | 3 => f | 4 => g | 5 => h | 6 => i | 7 => j | _ => 0
def clp (x : Int32) : Int32 := if -500 < (if x < 500 then x else 500) then (if x < 500 then x else 500) else -500
def isv (D : DD) (n : Nat) (ab men foes food day wat : Int32) : Int32 := clp (dV D (thg (db D n) (dl D n) ab (men / 10) (foes / 10) (food / 10) (day - day / 10 * 10) wat))
/-- what both call the issue at a field, on a day, of a standing -/
def isf (D : DD) (g : Nat → Int32) (n a : Nat) (day : Int32) : Int32 := isv D n (dh D a - dh D (g 2).toNatClampNeg) (g 3) (g 4) (g 5) day (rvb D a (g 2).toNatClampNeg)
def wsh (D : DD) (n : Nat) (x : Int32) : Int32 := if 0 ≤ x - nI (dd D n) ∧ x - nI (dd D n) < nI (dn D n) then dw D n (x - nI (dd D n)).toNatClampNeg else 0
theorem ck8 {x : Int32} (h1 : 1000 ≤ x) (h2 : ¬ 8 ≤ x - 1000) : vp_in (x - 1000) 8 := by
  have h : 0 ≤ x - 1000 := by grind
  obtain ⟨n, hn, e⟩ := i_nat h
  rw [e] at h2 ⊢
  have : ¬ nI 8 ≤ nI n := h2
  rw [nI_le' (by decide) hn] at this
  exact vp_in_nI (by omega) (by decide)
section S4
variable {c : gx} {d : Nat} {Post : Option Value → gs → Prop} {s : gs} {D : DD}
theorem s9 (hd : 1 ≤ d) {st : List Int32} (h : WS s st) (x : Int32) (k : ∀ s', frW s s' → WS s' (psh st x) → Post none s') : tE c d 9 [.ref 5, .int x] s Post := by
  obtain ⟨d, rfl⟩ := d_1 hd
  obtain ⟨h1, h2, h3⟩ := h
  refine okm9 c d Post x s ?_
  unfold wm9 w9_39
  rw [h2]
  refine ⟨fun z => absurd z (nI_pos (by omega)), fun _ => ⟨fun z => ?_, fun z => ⟨vp_in_nI ?_ (by decide), ?_⟩⟩⟩
  · have : nI 40 ≤ nI st.length := z
    rw [nI_le' (by decide) (by omega)] at this
    refine k s (frW_rf s) ?_
    unfold psh
    rw [if_neg (by omega)]
    exact ⟨h1, h2, h3⟩
  · have : ¬ nI 40 ≤ nI st.length := z
    rw [nI_le' (by decide) (by omega)] at this
    omega
  · have : ¬ nI 40 ≤ nI st.length := z
    rw [nI_le' (by decide) (by omega)] at this
    rintro s1 rfl s2 rfl
    rw [nI_clamp (by omega), V_A, h2, nI_1]
    refine k _ ?_ ?_
    · refine ⟨fun b j hb => ?_, rfl, fun b hb => ?_, rfl⟩
      · rw [V_V]
        by_cases q : b = 5
        · rw [if_pos q, if_neg (fun z => hb ⟨q, z⟩), V_A]
        · rw [if_neg q, V_A]
      · rw [A_V]
        funext j
        rw [A_A, if_neg hb]
    · unfold psh
      rw [if_pos (by omega)]
      refine ⟨by show st.length + 1 ≤ 40; omega, rfl, ?_⟩
      rw [A_V, gsA_A]
      exact ⟨upd_eq, wst_up h3 (Nat.le_refl _)⟩
theorem s10 (hd : 1 ≤ d) {st : List Int32} (h : WS s st) (k : ∀ s', frW s s' → WS s' st.tail → Post (some (.int (st.headD 0))) s') : tE c d 10 [.ref 5] s Post := by
  obtain ⟨d, rfl⟩ := d_1 hd
  obtain ⟨h1, h2, h3⟩ := h
  refine okm10 c d Post s ?_
  unfold wm10 w10_19
  rw [h2]
  cases st with
  | nil => exact ⟨fun _ => k s (frW_rf s) ⟨h1, h2, h3⟩, fun z => absurd (show nI 0 ≤ nI 0 from (nI_le' (by decide) (by decide)).mpr (by omega)) z⟩
  | cons x st =>
    have hl : st.length + 1 ≤ 40 := h1
    have el : (x :: st).length = st.length + 1 := rfl
    rw [el] at h2 ⊢
    refine ⟨fun z => ?_, fun _ => ⟨fun _ => ?_, fun z => ?_⟩⟩
    · have : nI (st.length + 1) ≤ nI 0 := z
      rw [nI_le' (by omega) (by decide)] at this
      omega
    · rintro s1 rfl
      have e : nI (st.length + 1) - 1 = nI st.length := pk_sub (a := st.length + 1) (b := 1) (by omega)
      rw [e, V_V, if_pos rfl, if_pos rfl, A_V, nI_clamp (by omega)]
      refine ⟨vp_in_nI (by omega) (by decide), ?_⟩
      rw [h3.1]
      refine k _ ⟨fun b j hb => ?_, rfl, fun b hb => rfl, rfl⟩ ⟨by show st.length ≤ 40; omega, rfl, h3.2⟩
      rw [V_V]
      by_cases q : b = 5
      · rw [if_pos q, if_neg (fun z => hb ⟨q, z⟩)]
      · rw [if_neg q]
    · have : ¬ nI (st.length + 1) ≤ nI 40 := z
      rw [nI_le' (by omega) (by decide)] at this
      omega
theorem s12 (hd : 1 ≤ d) (o a b : Int32) (k : Post (some (.int (jn o a b))) s) : tE c d 12 [.int o, .int a, .int b] s Post := by
  obtain ⟨d, rfl⟩ := d_1 hd
  refine okm12 c d Post o a b s ?_
  unfold wm12 w12_70 w12_81 w12_92 w12_116
  unfold jn at k
  refine ⟨?_, ?_, ?_, ?_, ?_, ?_, ?_⟩ <;> grind
theorem s11 (hd : 2 ≤ d) {th : Nat → Int32} (hR : XR s D) (ht : ∀ i, i < 8 → gsA s 45 i = th i) (k : ∀ s', frW s s' → Post (some (.int (dV D th))) s') : tE c d 11 [.ref 5, .ref 45] s Post := by
  obtain ⟨d, rfl⟩ := d_1 (Nat.le_trans (by decide) hd)
  obtain ⟨l, hl, h1, h2, h3⟩ := hR
  refine okm11 c d Post s ?_
  rintro s1 rfl
  have loop : ∀ (m i : Nat) (st : List Int32) (s1 : gs), i + m = l.length → frW s s1 → WS s1 st → (rpn th (l.drop i) st).headD 0 = dV D th → wl11_7 c d Post (m + 1) (nI i) s1 := by
    intro m
    induction m with
    | zero =>
      intro i st s1 hi hf hw hv
      rw [List.drop_eq_nil_of_le (by omega)] at hv
      have hv' : st.headD 0 = dV D th := hv
      refine ⟨fun _ => s10 (by omega) hw (fun s' f' _ => ⟨_, rfl, ?_⟩), fun z => ?_⟩
      · rw [hv']
        exact k s' (frW_tr hf f')
      · rw [hf.1 5 1 (by decide), h1, nI_le' (by omega) (by omega)] at z
        omega
    | succ m ih =>
      intro i st s1 hi hf hw hv
      rw [List.drop_eq_getElem_cons (by omega)] at hv
      have e6 : gsA s1 6 i = l[i]'(by omega) := by
        rw [hf.2.2.1 6 (by decide), h2 i (by omega), List.getD_eq_getElem?_getD, List.getElem?_eq_getElem (by omega)]
        rfl
      have ih' := fun st' s' f' w' hq => ih (i + 1) st' s' (by omega) (frW_tr hf f') w' hq
      unfold wl11_7 wb11_7 w11_76 w11_129
      rw [hf.1 5 1 (by decide), h1, nI_clamp (by omega), e6, nI_1, hf.2.2.1 45 (by decide)]
      have hv' : (rpn th (l.drop (i + 1)) (rq1 th (l[i]'(by omega)) st)).headD 0 = dV D th := hv
      generalize (l[i]'(by omega)) = x at hv' ⊢
      refine ⟨fun z => ?_, fun _ => ⟨fun z => ?_, fun _ => ⟨vp_in_nI (by omega) (by decide), fun z => ⟨fun y => ⟨fun w => ?_, fun w => ?_⟩, fun y => ⟨fun w => ?_, fun w => ⟨ck8 z w, ?_⟩⟩⟩, fun z => ?_⟩⟩⟩
      · rw [nI_le' (by omega) (by omega)] at z; omega
      · have : nI 40 ≤ nI i := z
        rw [nI_le' (by decide) (by omega)] at this; omega
      · refine s10 (by omega) hw (fun s' f' w' => ⟨_, rfl, s9 (by omega) w' _ (fun s'' f'' w'' => ⟨rfl, ih' _ _ (frW_tr f' f'') w'' ?_⟩)⟩)
        unfold rq1 at hv'
        rwa [if_neg (by grind), if_neg (by grind), if_pos w] at hv'
      · refine s10 (by omega) hw (fun s' f' w' => ⟨_, rfl, s10 (by omega) w' (fun s'' f'' w'' => ⟨_, rfl, s12 (by omega) _ _ _ ⟨_, rfl, s9 (by omega) w'' _ (fun s3 f3 w3 => ⟨rfl, ih' _ _ (frW_tr f' (frW_tr f'' f3)) w3 ?_⟩)⟩⟩)⟩)
        unfold rq1 at hv'
        rwa [if_neg (by grind), if_neg (by grind), if_neg w] at hv'
      · refine s9 (by omega) hw _ (fun s' f' w' => ⟨rfl, ih' _ _ f' w' ?_⟩)
        unfold rq1 at hv'
        rwa [if_neg (by grind), if_pos (by grind), if_neg (by grind)] at hv'
      · rw [ht _ (by have := ck8 z w; unfold vp_in at this; omega)]
        refine s9 (by omega) hw _ (fun s' f' w' => ⟨rfl, ih' _ _ f' w' ?_⟩)
        unfold rq1 at hv'
        rwa [if_neg (by grind), if_pos (by grind), if_pos (by grind)] at hv'
      · refine s9 (by omega) hw _ (fun s' f' w' => ⟨rfl, ih' _ _ f' w' ?_⟩)
        unfold rq1 at hv'
        rwa [if_pos (by grind)] at hv'
  refine ⟨l.length + 1, loop l.length 0 [] _ (by omega) ?_ ⟨by decide, rfl, trivial⟩ (h3 th)⟩
  refine ⟨fun b j hb => ?_, rfl, fun b hb => rfl, rfl⟩
  rw [V_V]
  by_cases q : b = 5
  · rw [if_pos q, if_neg (fun z => hb ⟨q, z⟩)]
  · rw [if_neg q]
end S4
