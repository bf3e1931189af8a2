/-! The start, in the words of states. -/
theorem gSt_ex : ∃ (h : gm_H) (kc ks : Nat), gSt = some ((23, gL1, [], h), kc, ks) ∧ h.1 = 74 ∧ kc ≤ 100 ∧ ks ≤ 10000 ∧ (∀ i, i < 74 → shOk h i = true) ∧ datP (sOf h) := by
  have h := gChk_t
  unfold gChk at h
  cases hs : gSt with
  | none => rw [hs] at h; cases h
  | some q =>
    obtain ⟨⟨pc, L, S, hp⟩, kc, ks⟩ := q
    rw [hs] at h
    have h' : (Nat.beq pc 23 && (S.isEmpty && (decide (L = gL1) && (Nat.beq hp.1 74 && (Nat.ble kc 100 && (Nat.ble ks 10000 && ((List.range 74).all (shOk hp) && datB (sOf hp)))))))) = true := h
    rw [Bool.and_eq_true, Bool.and_eq_true, Bool.and_eq_true, Bool.and_eq_true, Bool.and_eq_true, Bool.and_eq_true, Bool.and_eq_true] at h'
    obtain ⟨h1, h2, h3, h4, h5, h6, h7, h8⟩ := h'
    refine ⟨hp, kc, ks, ?_, Nat.eq_of_beq_eq_true h4, Nat.le_of_ble_eq_true h5, Nat.le_of_ble_eq_true h6, fun i hi => all_r h7 hi, datB_P h8⟩
    rw [Nat.eq_of_beq_eq_true h1, List.isEmpty_iff.mp h2, of_decide_eq_true h3]
theorem arrV_cg {c : ClassId} {n : Nat} {f g : Nat → Value} (h : ∀ j, j < n → f j = g j) : arrV c n f = arrV c n g := by
  unfold arrV
  congr 2
  funext j
  exact h j.val j.isLt
theorem shF_val {h : gm_H} {i ci k q : Nat} {fs : List Value} (hi : h.2 i = .inr (ci, fs)) (hq : shF q fs[k]? = true) : fs[k]? = some (gs_val (sOf h) i k q) := by
  cases hf : fs[k]? with
  | none =>
    rw [hf] at hq
    match q, hq with
    | 0, hq => cases hq
    | 1, hq => cases hq
    | 2, hq => cases hq
    | n + 3, hq => cases hq
  | some v =>
    rw [hf] at hq
    match q, v, hq, hf with
    | 0, .int x, _, hf =>
      show some (Value.int x) = some (Value.int ((sOf h).1 i k))
      have e : (sOf h).1 i k = x := by
        show (match h.2 i with
          | .inr (_, fs) => (match fs[k]? with
            | some (.int x) => x
            | _ => 0)
          | _ => (0 : Int32)) = x
        rw [hi]
        show (match fs[k]? with
            | some (.int x) => x
            | _ => (0 : Int32)) = x
        rw [hf]
      rw [e]
    | 1, .long x, _, hf =>
      show some (Value.long x) = some (Value.long ((sOf h).2.1 i k))
      have e : (sOf h).2.1 i k = x := by
        show (match h.2 i with
          | .inr (_, fs) => (match fs[k]? with
            | some (.long x) => x
            | _ => 0)
          | _ => (0 : Int64)) = x
        rw [hi]
        show (match fs[k]? with
            | some (.long x) => x
            | _ => (0 : Int64)) = x
        rw [hf]
      rw [e]
    | 2, .null, _, _ => rfl
    | n + 3, .ref m, hq, _ =>
      have e : m = n := Nat.eq_of_beq_eq_true hq
      rw [e]
      rfl
theorem at_sOf {b : Nat} {aK : Nat → Nat} {D : va_G} {cl : List vw_C} {dA : Nat → ClassId} {h : gm_H} {H : Heap} {i : Nat} (hs : shOk h i = true) (ha : va_at D cl (b + i, gm_tc b aK dA (h.2 i)) H) : va_at D cl (b + i, gm_tc b aK dA (gs_cell (sOf h) i)) H := by
  unfold shOk at hs
  cases hsh : gs_sh i with
  | inl tn =>
    obtain ⟨t, n⟩ := tn
    cases hc : h.2 i with
    | inr o => rw [hsh, hc] at hs; cases hs
    | inl a =>
      obtain ⟨t', n', ct⟩ := a
      rw [hsh, hc] at hs
      rw [hc] at ha
      have hs' : (Nat.beq t' t && (Nat.beq n' n && ctOk t n i ct)) = true := hs
      rw [Bool.and_eq_true, Bool.and_eq_true] at hs'
      obtain ⟨e1, e2, e3⟩ := hs'
      have e1' : t' = t := Nat.eq_of_beq_eq_true e1
      have e2' : n' = n := Nat.eq_of_beq_eq_true e2
      subst e1' e2'
      have hce : gs_cell (sOf h) i = if t' = 2 then .inl (2, n', .inr (.inl ((sOf h).2.2.2.1 i))) else if t' = 5 then .inl (5, n', .inr (.inr (.inr (.inr fun k => some (i + 1 + k))))) else .inl (t', n', .inl ((sOf h).2.2.1 i)) := by
        unfold gs_cell
        rw [hsh]
      rw [hce]
      match ct, e3, hc, ha with
      | .inl f, e3, hc, ha =>
        have e3' : (!Nat.beq t' 2 && !Nat.beq t' 5) = true := e3
        have n2 : ¬ t' = 2 := fun z => by subst z; cases e3'
        have n5 : ¬ t' = 5 := fun z => by subst z; cases e3'
        rw [if_neg n2, if_neg n5]
        have ha' : H[b + i]? = some (arrV (dA t') n' (fun j => .int (f j))) := ha
        show H[b + i]? = some (arrV (dA t') n' (fun j => .int ((sOf h).2.2.1 i j)))
        rw [ha']
        congr 1
        refine arrV_cg (fun j hj => ?_)
        have e : (sOf h).2.2.1 i j = f j := by
          show (match h.2 i with
            | .inl (_, n, .inl f) => if j < n then f j else 0
            | _ => (0 : Int32)) = f j
          rw [hc]
          show (if j < n' then f j else 0) = f j
          rw [if_pos hj]
        rw [e]
      | .inr (.inl f), e3, hc, ha =>
        have e3' : t' = 2 := Nat.eq_of_beq_eq_true e3
        subst e3'
        rw [if_pos rfl]
        have ha' : H[b + i]? = some (arrV (dA 2) n' (fun j => .long (f j))) := ha
        show H[b + i]? = some (arrV (dA 2) n' (fun j => .long ((sOf h).2.2.2.1 i j)))
        rw [ha']
        congr 1
        refine arrV_cg (fun j hj => ?_)
        have e : (sOf h).2.2.2.1 i j = f j := by
          show (match h.2 i with
            | .inl (_, n, .inr (.inl f)) => if j < n then f j else 0
            | _ => (0 : Int64)) = f j
          rw [hc]
          show (if j < n' then f j else 0) = f j
          rw [if_pos hj]
        rw [e]
      | .inr (.inr (.inl f)), e3, _, _ => cases e3
      | .inr (.inr (.inr (.inl f))), e3, _, _ => cases e3
      | .inr (.inr (.inr (.inr f))), e3, hc, ha =>
        have e3' : (Nat.beq t' 5 && (List.range n').all (fun k => match f k with
          | some q => Nat.beq q (i + 1 + k)
          | none => false)) = true := e3
        rw [Bool.and_eq_true] at e3'
        have e5 : t' = 5 := Nat.eq_of_beq_eq_true e3'.1
        subst e5
        rw [if_neg (by decide), if_pos rfl]
        have ha' : H[b + i]? = some (arrV (dA 5) n' (fun j => va_rf ((f j).map (fun q => b + q)))) := ha
        show H[b + i]? = some (arrV (dA 5) n' (fun j => va_rf ((some (i + 1 + j)).map (fun q => b + q))))
        rw [ha']
        congr 1
        refine arrV_cg (fun j hj => ?_)
        have hk := all_r e3'.2 hj
        cases hfj : f j with
        | none => rw [hfj] at hk; cases hk
        | some q =>
          rw [hfj] at hk
          have : q = i + 1 + j := Nat.eq_of_beq_eq_true hk
          rw [this]
  | inr ck =>
    obtain ⟨ci, ks⟩ := ck
    cases hc : h.2 i with
    | inl a => rw [hsh, hc] at hs; cases hs
    | inr o =>
      obtain ⟨ci', fs⟩ := o
      rw [hsh, hc] at hs
      have hs' : (Nat.beq ci' ci && (Nat.beq fs.length ks.length && (List.range ks.length).all (fun k => shF (ks.getD k 9) fs[k]?))) = true := hs
      rw [Bool.and_eq_true, Bool.and_eq_true] at hs'
      obtain ⟨e1, e2, e3⟩ := hs'
      have e1' : ci' = ci := Nat.eq_of_beq_eq_true e1
      have e2' : fs.length = ks.length := Nat.eq_of_beq_eq_true e2
      subst e1'
      have hce : gs_cell (sOf h) i = .inr (ci', ks.mapIdx (fun k q => gs_val (sOf h) i k q)) := by
        unfold gs_cell
        rw [hsh]
      have hfs : fs = ks.mapIdx (fun k q => gs_val (sOf h) i k q) := by
        apply List.ext_getElem?
        intro k
        rw [List.getElem?_mapIdx]
        by_cases hk : k < ks.length
        · have h1 := all_r e3 hk
          have h2 := shF_val hc h1
          rw [h2, List.getElem?_eq_getElem hk]
          have h3 : ks.getD k 9 = ks[k] := by simp [List.getD, List.getElem?_eq_getElem hk]
          rw [h3]
          rfl
        · rw [List.getElem?_eq_none (by omega), List.getElem?_eq_none (by omega)]
          rfl
      rw [hce, ← hfs, ← hc]
      exact ha
theorem hp_sOf {b : Nat} {aK : Nat → Nat} {D : va_G} {cl : List vw_C} {dA : Nat → ClassId} {al : Bool} {h : gm_H} {H : Heap} (h74 : h.1 = 74) (hs : ∀ i, i < 74 → shOk h i = true) (hh : gm_hp b aK D cl dA al h H) : gm_hp b aK D cl dA false (74, gs_cell (sOf h)) H := by
  obtain ⟨h1, h2, h3⟩ := hh
  refine ⟨by show b + 74 ≤ H.size; rw [← h74]; exact h1, fun z => (by cases z), fun k q hk => ?_⟩
  obtain ⟨hl, rfl⟩ := gm_w_at hk
  have hl' : k < 74 := hl
  refine at_sOf (hs k hl') ?_
  exact h3 k _ (gm_w_get (gm_get_of (by rw [h74]; exact hl')))
theorem RL_sOf (h : gm_H) : RL (74, gs_cell (sOf h)) (sOf h) := ⟨rfl, fun _ _ => rfl⟩
theorem sOf_A (h : gm_H) {i n t : Nat} (hs : shOk h i = true) (hsh : gs_sh i = .inl (t, n)) {k : Nat} (hk : n ≤ k) : gsA (sOf h) i k = 0 := by
  unfold shOk at hs
  rw [hsh] at hs
  show (match h.2 i with
    | .inl (_, n, .inl f) => if k < n then f k else 0
    | _ => (0 : Int32)) = 0
  cases hc : h.2 i with
  | inr o => rfl
  | inl a =>
    obtain ⟨t', n', ct⟩ := a
    rw [hc] at hs
    match ct, hs with
    | .inl f, hs =>
      have hs' : (Nat.beq t' t && (Nat.beq n' n && (!Nat.beq t 2 && !Nat.beq t 5))) = true := hs
      rw [Bool.and_eq_true, Bool.and_eq_true] at hs'
      have e2' : n' = n := Nat.eq_of_beq_eq_true hs'.2.1
      show (if k < n' then f k else 0) = 0
      rw [if_neg (by omega)]
    | .inr x, _ => rfl
def D00 (s : gs) : DD := ((0, fun _ => 0), (2, fun _ => 0, fun _ => false), dfl, (fun i => if i = 0 then 9 else 3, fun _ => 5), (fun _ => 0, fun _ => 0, fun _ _ => 0), gsA s 49, (0, fun _ _ => 0), (fun _ => false, fun _ _ => 0), (0, fun _ => 0), (0, gsA s 42))
theorem rpv_norC (th : Nat → Int32) : rpv th norC = dfl th := by
  have := rpv_nor th
  rw [rd_nor] at this
  exact this
theorem start_OK {h : gm_H} (hs : ∀ i, i < 74 → shOk h i = true) (hd : datP (sOf h)) : OK2 0 (sOf h) := by
  have z49 : ∀ i, 108 ≤ i → gsA (sOf h) 49 i = 0 := fun i hi => sOf_A h (hs 49 (by decide)) (show gs_sh 49 = .inl (0, 108) from rfl) hi
  have z65 : ∀ i, 108 ≤ i → gsA (sOf h) 65 i = 0 := fun i hi => sOf_A h (hs 65 (by decide)) (show gs_sh 65 = .inl (0, 108) from rfl) hi
  revert z49 z65 hd
  generalize sOf h = s
  intro hd z49 z65
  obtain ⟨⟨a1, a2, a3, a4, a5, a6, a7⟩, ⟨b1, b2, b3, b4, b5, b6, b7, b8⟩, ⟨c1, c2, c3, c4, c5, c6, c7⟩, ⟨d1, d2, d3, d4, d5, d6, d7, d8, d9, d10, d11, d12, d13, d14⟩, ⟨e1, e2, e3, e4, e5, e6, e7, e8, e9, e10, e11⟩⟩ := hd
  have okf : okF (D00 s) := ⟨Nat.le_refl 2, show 2 ≤ 12 by decide⟩
  refine ⟨D00 s, ⟨?_, ?_, ?_, ?_, ?_, ?_, ?_, ?_, ?_, ?_⟩, ⟨?_, ?_, ?_, ?_, ?_, ?_, ?_, ?_, ?_, ?_, ?_⟩, ?_⟩
  · exact ⟨Nat.zero_le _, a1, fun i hi => absurd hi (Nat.not_lt_zero _)⟩
  · refine ⟨okf, a2, fun i hi => ?_, fun i hi => ?_⟩
    · rcases (show i = 0 ∨ i = 1 by have : i < 2 := hi; omega) with rfl | rfl
      · exact a3
      · exact a4
    rw [a5]
    exact (gb_0 i).trans (Bool.and_false _).symm
  · exact ⟨norC, by decide, a6, a7, rpv_norC⟩
  · exact ⟨b1, b2, b3, b4⟩
  · intro i hi
    rcases (show i = 0 ∨ i = 1 by omega) with rfl | rfl
    · exact ⟨Nat.zero_le _, b5, b6, fun k hk => absurd hk (Nat.not_lt_zero _)⟩
    · exact ⟨Nat.zero_le _, b7, b8, fun k hk => absurd hk (Nat.not_lt_zero _)⟩
  · show xg s 14 = gsA s 49
    funext i
    by_cases q : i < 108
    · exact c1 i q
    · rw [xg_ou s 14 (by omega), z49 i (by omega)]
  · exact ⟨c2, Nat.zero_le _, 0, by decide, c3, fun i hi => absurd hi (Nat.not_lt_zero _)⟩
  · intro i hi
    rw [c4]
    exact ⟨gb_0 i, fun z => by cases z⟩
  · exact ⟨Nat.zero_le _, c5, fun i hi => absurd hi (Nat.not_lt_zero _)⟩
  · exact ⟨c6, fun i _ => rfl⟩
  · exact ⟨Nat.zero_le _, d1, fun i hi => absurd hi (Nat.not_lt_zero _)⟩
  · refine ⟨okf, d2, fun i hi => ?_, fun i hi => ?_⟩
    · rcases (show i = 0 ∨ i = 1 by have : i < 2 := hi; omega) with rfl | rfl
      · exact d3
      · exact d4
    have hi' : i + 1 < 2 := hi
    rw [show i = 0 by omega]
    exact d5
  · exact ⟨0, fun _ => 0, by decide, d6, fun i hi => absurd hi (Nat.not_lt_zero _), fun _ th => rfl, fun z => absurd z (by decide)⟩
  · intro i hi
    rcases (show i = 0 ∨ i = 1 by omega) with rfl | rfl
    · exact ⟨d7, d9⟩
    · exact ⟨d8, d10⟩
  · intro i hi
    rcases (show i = 0 ∨ i = 1 by omega) with rfl | rfl
    · exact ⟨Nat.zero_le _, d13, d11, fun k hk => absurd hk (Nat.not_lt_zero _)⟩
    · exact ⟨Nat.zero_le _, d14, d12, fun k hk => absurd hk (Nat.not_lt_zero _)⟩
  · rfl
  · exact ⟨e1, Nat.zero_le _, fun i hi => absurd hi (Nat.not_lt_zero _)⟩
  · intro i hi
    rcases (show i = 0 ∨ i = 1 by omega) with rfl | rfl
    · exact ⟨e2, fun z => by cases z⟩
    · exact ⟨e3, fun z => by cases z⟩
  · exact ⟨Nat.zero_le _, e4, fun i hi => absurd hi (Nat.not_lt_zero _)⟩
  · exact ⟨e5, fun i hi => (c7 i hi).symm⟩
  · exact z65
  · refine ⟨okf, ⟨⟨0, Nat.le_refl _, e6⟩, ⟨0, show 0 < 2 by decide, e7⟩, ⟨1, show 1 < 2 by decide, e8⟩, ⟨900, by decide, e9⟩, ⟨900, by decide, e10⟩, ⟨500, by decide, e11⟩, z49⟩, fun i hi => absurd hi (Nat.not_lt_zero _), fun i _ z => (by cases z), fun i hi => ?_⟩
    rcases (show i = 0 ∨ i = 1 by omega) with rfl | rfl
    · exact ⟨Nat.le_refl _, ⟨9, by decide, rfl⟩, fun k hk => absurd hk (Nat.not_lt_zero _)⟩
    · exact ⟨Nat.le_refl _, ⟨3, by decide, rfl⟩, fun k hk => absurd hk (Nat.not_lt_zero _)⟩
