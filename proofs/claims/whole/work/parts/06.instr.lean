/-! Every instruction that goes on. -/
section GMI
variable {p : Program} {l : Launch} {e : Env} {R : Room} {s : State} {m : MethodId} {args : Array Value} {below : List Frame} {meth : Method} {c : Code} {H : Heap} {locs : List Loc} {cells slots : Nat} {Q : State → Prop}
variable {b : Nat} {aK : Nat → Nat} {D : va_G} {cl : List vw_C} {dA : Nat → ClassId} {T : gm_T} {G : List Cond} {h : gm_H} {cc : ByteArray} {pc nL : Nat} {ls : Array Slot} {L : gm_L} {S : List Value} {st : gm_S} {dc ds : Nat}
variable {NW : List (String × Nat × MethodName × String)} {SR : List (String × Nat × Nat × String)} {yn : Nat → MethodName} {bc : Nat → ByteArray} {XP : State → Prop} {own : String} {isI : Bool}
theorem gm_isI_of {v : Value} (q : gm_isI v = true) : ∃ x, v = .int x := by
  cases v with
  | int x => exact ⟨x, rfl⟩
  | _ => cases q
theorem gm_isL_of {v : Value} (q : gm_isL v = true) : ∃ x, v = .long x := by
  cases v with
  | long x => exact ⟨x, rfl⟩
  | _ => cases q
theorem gm_isR_of {v : Value} (q : gm_isR v = true) : ∃ x, gm_tv b aK v = .ref x := by
  cases v with
  | ref x => exact ⟨_, rfl⟩
  | float x => exact ⟨_, rfl⟩
  | _ => cases q
theorem gm_sw_of {pc : Nat} {off : Int} {L : gm_L} {S : List Value} {h : gm_H} {x : gm_O} (hst : gm_sw pc off L S h = some x) : ∃ t : Nat, (pc : Int) + off = (t : Int) ∧ gm_nx t L S h = some x := by
  unfold gm_sw at hst
  split at hst
  · rename_i t ht
    exact ⟨t, ht, hst⟩
  · cases hst
theorem gm_W_ald {t pc' : Nat} (hst : gm_ald T t pc' L S h = some (.inl (st, dc, ds))) (hE : gm_E b aK D cl dA NW SR T XP s)
    (row : ∀ (i : Int32) (r : List Value) (a n : Nat) (f : Nat → Int32), gm_get h a = some (.inl (t, n, .inl f)) → ¬ (i < 0 ∨ n ≤ i.toNatClampNeg) → W p l e R s m args below meth c H locs cells slots Q (F0 m pc' ls (.int (f i.toNatClampNeg) :: r)) → W p l e R s m args below meth c H locs cells slots Q (F0 m pc ls (.int i :: .ref (b + a) :: r)))
    (rowX : t = 0 → ∀ (i : Int32) (r : List Value), ¬ (i < 0 ∨ gm_sl T ≤ i.toNatClampNeg) → W p l e R s m args below meth c H locs cells slots Q (F0 m pc' ls (.int (gm_sx T i.toNatClampNeg) :: r)) → W p l e R s m args below meth c H locs cells slots Q (F0 m pc ls (.int i :: .ref (aK 99) :: r)))
    (hl : gm_lh b aK ls nL L) (hh : gm_hp b aK D cl dA (gm_al T) h H) (hS : va_S (gm_A b) s.heap H locs) (kk : gm_K p l e R s m args below meth c Q b aK D cl dA T nL st (cells + dc) (slots + ds)) : W p l e R s m args below meth c H locs cells slots Q (F0 m pc ls (S.map (gm_tv b aK))) := by
  rcases S with _ | ⟨v, S⟩
  · cases hst
  rcases S with _ | ⟨w, r⟩
  · cases v <;> cases hst
  cases v <;> try (cases hst; done)
  rename_i k
  cases w <;> try (cases hst; done)
  · rename_i u
    have hst' : (if u = 99 ∧ t = 0 then (if k < 0 ∨ gm_sl T ≤ k.toNatClampNeg then none else gm_nx pc' L (.int (gm_sx T k.toNatClampNeg) :: r) h) else none) = some (.inl (st, dc, ds)) := hst
    by_cases q : u = 99 ∧ t = 0
    · rw [if_pos q] at hst'
      obtain ⟨rfl, q2⟩ := q
      by_cases q3 : k < 0 ∨ gm_sl T ≤ k.toNatClampNeg
      · rw [if_pos q3] at hst'; cases hst'
      · rw [if_neg q3] at hst'
        exact rowX q2 k (r.map (gm_tv b aK)) q3 (gm_W_nx (S' := .int (gm_sx T k.toNatClampNeg) :: r) hst' hl hh hS kk)
    · rw [if_neg q] at hst'; cases hst'
  · rename_i a
    have hst' : (match gm_get h a with
      | some (.inl (t', n, .inl f)) => if t' = t then (if k < 0 ∨ n ≤ k.toNatClampNeg then none else gm_nx pc' L (.int (f k.toNatClampNeg) :: r) h) else none
      | _ => none) = some (.inl (st, dc, ds)) := hst
    cases hg : gm_get h a with
    | none => rw [hg] at hst'; cases hst'
    | some cel =>
      rw [hg] at hst'
      rcases cel with ⟨t', n, f | f | f | f | f⟩ | o
      · have hst2 : (if t' = t then (if k < 0 ∨ n ≤ k.toNatClampNeg then none else gm_nx pc' L (.int (f k.toNatClampNeg) :: r) h) else none) = some (.inl (st, dc, ds)) := hst'
        by_cases q : t' = t
        · subst q
          rw [if_pos rfl] at hst2
          by_cases q3 : k < 0 ∨ n ≤ k.toNatClampNeg
          · rw [if_pos q3] at hst2; cases hst2
          · rw [if_neg q3] at hst2
            exact row k (r.map (gm_tv b aK)) a n f hg q3 (gm_W_nx (S' := .int (f k.toNatClampNeg) :: r) hst2 hl hh hS kk)
        · rw [if_neg q] at hst2; cases hst2
      all_goals cases hst'
theorem gm_W_ast {t pc' : Nat} {ty : FieldType} (hst : gm_ast t ty pc' L S h = some (.inl (st, dc, ds)))
    (row : ∀ (x i : Int32) (r : List Value) (a n : Nat) (f : Nat → Int32), gm_get h a = some (.inl (t, n, .inl f)) → ¬ (i < 0 ∨ n ≤ i.toNatClampNeg) → (∀ (H1 : Heap) (locs1 : List Loc), gm_hp b aK D cl dA (gm_al T) (gm_put h a (.inl (t, n, .inl (upd f i.toNatClampNeg (vp_nar ty x))))) H1 → va_S (gm_A b) s.heap H1 locs1 → W p l e R s m args below meth c H1 locs1 cells slots Q (F0 m pc' ls r)) → W p l e R s m args below meth c H locs cells slots Q (F0 m pc ls (.int x :: .int i :: .ref (b + a) :: r)))
    (hl : gm_lh b aK ls nL L) (kk : gm_K p l e R s m args below meth c Q b aK D cl dA T nL st (cells + dc) (slots + ds)) : W p l e R s m args below meth c H locs cells slots Q (F0 m pc ls (S.map (gm_tv b aK))) := by
  rcases S with _ | ⟨v, S⟩
  · cases hst
  rcases S with _ | ⟨w, S⟩
  · cases v <;> cases hst
  rcases S with _ | ⟨z, r⟩
  · cases v <;> cases w <;> cases hst
  cases v <;> try (cases hst; done)
  cases w <;> try (cases hst; done)
  cases z <;> try (cases hst; done)
  rename_i x k a
  have hst' : (match gm_get h a with
    | some (.inl (t', n, .inl f)) => if t' = t then (if k < 0 ∨ n ≤ k.toNatClampNeg then none else gm_nx pc' L r (gm_put h a (.inl (t', n, .inl (upd f k.toNatClampNeg (vp_nar ty x)))))) else none
    | _ => none) = some (.inl (st, dc, ds)) := hst
  cases hg : gm_get h a with
  | none => rw [hg] at hst'; cases hst'
  | some cel =>
    rw [hg] at hst'
    rcases cel with ⟨t', n, f | f | f | f | f⟩ | o
    · have hst2 : (if t' = t then (if k < 0 ∨ n ≤ k.toNatClampNeg then none else gm_nx pc' L r (gm_put h a (.inl (t', n, .inl (upd f k.toNatClampNeg (vp_nar ty x)))))) else none) = some (.inl (st, dc, ds)) := hst'
      by_cases q : t' = t
      · subst q
        rw [if_pos rfl] at hst2
        by_cases q3 : k < 0 ∨ n ≤ k.toNatClampNeg
        · rw [if_pos q3] at hst2; cases hst2
        · rw [if_neg q3] at hst2
          obtain ⟨rfl, rfl, rfl⟩ := gm_nx_inj hst2
          exact row x k (r.map (gm_tv b aK)) a n f hg q3 (fun H1 locs1 hh1 hS1 => kk ls H1 locs1 hl hh1 hS1)
      · rw [if_neg q] at hst2; cases hst2
    all_goals cases hst'
set_option maxHeartbeats 4000000 in
theorem gm_next {call : Nat → List Value → gm_H → Option gm_R} {j d : Nat} {i : gm_I} (C : gm_Cx p s m args meth c b aK D cl dA T G NW SR XP own isI cc nL) (hd : gm_dc cc pc i.1) (hlk : gm_lk cl G NW SR T yn bc own isI pc i)
    (hst : gm_stp T call j i pc L S h = some (.inl (st, dc, ds))) (hl : gm_lh b aK ls nL L) (hh : gm_hp b aK D cl dA (gm_al T) h H) (hS : va_S (gm_A b) s.heap H locs) (hcells : cells + dc ≤ R.cells) (hslots : slots + ds ≤ R.slots) (hfr : d + 1 ≤ R.frames) (hlo : (d + 1) * 64 ≤ R.locals)
    (hcall : ∀ j As r, call j As h = some r → gm_Met l b aK D cl dA T G yn bc (gm_E b aK D cl dA NW SR T XP) d j As h r)
    (kk : gm_K p l e R s m args below meth c Q b aK D cl dA T nL st (cells + dc) (slots + ds)) : W p l e R s m args below meth c H locs cells slots Q (F0 m pc ls (S.map (gm_tv b aK))) := by
  have C0 := C
  obtain ⟨hx, hb, hml, hown, hts, hE, hX, hini, hgood, hbs⟩ := C
  have hK := hE.1
  have hLn : L.length = nL := hl.2.2.1
  obtain ⟨ig, ia, ib⟩ := i
  cases ig <;> try (cases hst; done)
  case iconst n => exact lv_iconst (rest := S.map (gm_tv b aK)) hx hb hd rfl (gm_W_nx (S' := .int (Int32.ofInt n) :: S) hst hl hh hS kk)
  case bipush n => exact lv_bipush (rest := S.map (gm_tv b aK)) hx hb hd rfl (gm_W_nx (S' := .int (Int8.ofInt n).toInt32 :: S) hst hl hh hS kk)
  case sipush n => exact lv_sipush (rest := S.map (gm_tv b aK)) hx hb hd rfl (gm_W_nx (S' := .int (Int16.ofInt n).toInt32 :: S) hst hl hh hS kk)
  case lconst n => exact lv_lconst (rest := S.map (gm_tv b aK)) hx hb hd rfl (gm_W_nx (S' := .long (Int64.ofNat n) :: S) hst hl hh hS kk)
  case ldc idx =>
    obtain ⟨k1, k2⟩ : (ib = 0 → Cond.constant own idx (Int32.ofNat ia) ∈ G) ∧ (ib = 2 → ia < 99 ∧ ∃ tx, (own, idx, ia, tx) ∈ SR) := hlk
    have hst' : (if ib = 0 then gm_nx (pc + 2) L (.int (Int32.ofNat ia) :: S) h else if ib = 2 then gm_nx (pc + 2) L (.float (UInt32.ofNat ia) :: S) h else none) = some (.inl (st, dc, ds)) := hst
    by_cases q0 : ib = 0
    · rw [if_pos q0] at hst'
      exact lv_ldc (rest := S.map (gm_tv b aK)) hx hb hown (hts _ (k1 q0)) hd (gm_W_nx (S' := .int (Int32.ofNat ia) :: S) hst' hl hh hS kk)
    · rw [if_neg q0] at hst'
      by_cases q2 : ib = 2
      · rw [if_pos q2] at hst'
        obtain ⟨hlt, tx, hm⟩ := k2 q2
        have e9 : (UInt32.ofNat ia).toNat = ia := by
          show (BitVec.ofNat 32 ia).toNat = ia
          rw [BitVec.toNat_ofNat]
          exact Nat.mod_eq_of_lt (Nat.lt_of_lt_of_le hlt (by decide))
        have hR := hE.2.2.2.1 _ hm
        refine va_ldcS (rest := S.map (gm_tv b aK)) (q := aK ia) hx hb hown hR hd ?_
        have := gm_W_nx (S' := .float (UInt32.ofNat ia) :: S) hst' hl hh hS kk
        have e8 : ((Value.float (UInt32.ofNat ia) :: S).map (gm_tv b aK)) = .ref (aK ia) :: S.map (gm_tv b aK) := by
          show Value.ref (aK (UInt32.ofNat ia).toNat) :: _ = _
          rw [e9]
        rw [e8] at this
        exact this
      · rw [if_neg q2] at hst'; cases hst'
  case ldc_w idx => exact lv_ldcw (rest := S.map (gm_tv b aK)) hx hb hown (hts _ hlk) hd (gm_W_nx (S' := .int (Int32.ofNat ia) :: S) hst hl hh hS kk)
  case ldc2_w idx => exact lv_ldc2 (rest := S.map (gm_tv b aK)) hx hb hown (hts _ hlk) hd (gm_W_nx (S' := .long (Int64.ofNat ia) :: S) hst hl hh hS kk)
  case iload k => exact gm_W_ld (pc' := pc + 2) hst (fun v q hv w => by obtain ⟨x, rfl⟩ := gm_isI_of q; exact lv_iload hx hb hd hv w) hl hh hS kk
  case iload_n k => exact gm_W_ld (pc' := pc + 1) hst (fun v q hv w => by obtain ⟨x, rfl⟩ := gm_isI_of q; exact lv_iload_n hx hb hd rfl hv w) hl hh hS kk
  case lload k => exact gm_W_ld (pc' := pc + 2) hst (fun v q hv w => by obtain ⟨x, rfl⟩ := gm_isL_of q; exact lv_lload hx hb hd hv w) hl hh hS kk
  case lload_n k => exact gm_W_ld (pc' := pc + 1) hst (fun v q hv w => by obtain ⟨x, rfl⟩ := gm_isL_of q; exact lv_lload_n hx hb hd rfl hv w) hl hh hS kk
  case aload k => exact gm_W_ld (pc' := pc + 2) hst (fun v q hv w => by obtain ⟨x, ex⟩ := gm_isR_of (b := b) (aK := aK) q; rw [ex] at hv w; exact lv_aload hx hb hd hv w) hl hh hS kk
  case aload_n k => exact gm_W_ld (pc' := pc + 1) hst (fun v q hv w => by obtain ⟨x, ex⟩ := gm_isR_of (b := b) (aK := aK) q; rw [ex] at hv w; exact lv_aload_n hx hb hd rfl hv w) hl hh hS kk
  case istore k => exact gm_W_st1 (pc' := pc + 2) hst hLn (fun v r q hi w => by obtain ⟨x, rfl⟩ := gm_isI_of q; exact lv_istore hx hb hd hl.has hi rfl w) hh hS kk
  case istore_n k => exact gm_W_st1 (pc' := pc + 1) hst hLn (fun v r q hi w => by obtain ⟨x, rfl⟩ := gm_isI_of q; exact lv_istore_n hx hb hd rfl hl.has hi rfl w) hh hS kk
  case astore k => exact gm_W_st1 (pc' := pc + 2) hst hLn (fun v r q hi w => by obtain ⟨x, ex⟩ := gm_isR_of (b := b) (aK := aK) q; rw [ex] at w ⊢; exact lv_astore hx hb hd hl.has hi rfl w) hh hS kk
  case astore_n k => exact gm_W_st1 (pc' := pc + 1) hst hLn (fun v r q hi w => by obtain ⟨x, ex⟩ := gm_isR_of (b := b) (aK := aK) q; rw [ex] at w ⊢; exact lv_astore_n hx hb hd rfl hl.has hi rfl w) hh hS kk
  case lstore k => exact gm_W_st2 (pc' := pc + 2) hst hLn (fun x r hi w => lv_lstore hx hb hd hl.has hi rfl w) hh hS kk
  case lstore_n k => exact gm_W_st2 (pc' := pc + 1) hst hLn (fun x r hi w => lv_lstore_n hx hb hd rfl hl.has hi rfl w) hh hS kk
  case iinc k n =>
    have hst' : (match L[k]? with
      | some (some (.int x)) => gm_nx (pc + 3) (gm_set1 L k (.int (x + Int32.ofInt n))) S h
      | _ => none) = some (.inl (st, dc, ds)) := hst
    cases hL : L[k]? with
    | none => rw [hL] at hst'; cases hst'
    | some o =>
      rw [hL] at hst'
      rcases o with _ | v
      · cases hst'
      cases v with
      | int x =>
        have hk : k < nL := by rw [← hLn]; exact (List.getElem?_eq_some_iff.mp hL).1
        obtain ⟨q9, hq9⟩ := List.getElem?_of_mem (gm_lv_of (b := b) (aK := aK) hL)
        obtain ⟨rfl, rfl, rfl⟩ := gm_nx_inj hst'
        exact lv_iinc (k := q9) hx hb hd hl.has hq9 rfl hk rfl (fun ls' hl' => kk ls' H locs (gm_lh_st1 (v := .int (x + Int32.ofInt n)) hLn hk hl') hh hS)
      | _ => cases hst'
  case iadd => exact gm_W_ii (pc' := pc + 1) hst (fun x y r w => lv_iadd hx hb hd w) hl hh hS kk
  case isub => exact gm_W_ii (pc' := pc + 1) hst (fun x y r w => lv_isub hx hb hd w) hl hh hS kk
  case imul => exact gm_W_ii (pc' := pc + 1) hst (fun x y r w => lv_imul hx hb hd w) hl hh hS kk
  case iand => exact gm_W_ii (pc' := pc + 1) hst (fun x y r w => lv_iand hx hb hd w) hl hh hS kk
  case ior => exact gm_W_ii (pc' := pc + 1) hst (fun x y r w => lv_ior hx hb hd w) hl hh hS kk
  case ixor => exact gm_W_ii (pc' := pc + 1) hst (fun x y r w => lv_ixor hx hb hd w) hl hh hS kk
  case ishl => exact gm_W_ii (pc' := pc + 1) hst (fun x y r w => lv_ishl hx hb hd w) hl hh hS kk
  case ishr => exact gm_W_ii (pc' := pc + 1) hst (fun x y r w => lv_ishr hx hb hd w) hl hh hS kk
  case iushr => exact gm_W_ii (pc' := pc + 1) hst (fun x y r w => lv_iushr hx hb hd rfl w) hl hh hS kk
  case ineg => exact gm_W_i1 (pc' := pc + 1) hst (fun x r w => lv_ineg hx hb hd w) hl hh hS kk
  case i2b => exact gm_W_i1 (pc' := pc + 1) hst (fun x r w => lv_i2b hx hb hd rfl w) hl hh hS kk
  case i2s => exact gm_W_i1 (pc' := pc + 1) hst (fun x r w => lv_i2s hx hb hd rfl w) hl hh hS kk
  case i2c => exact gm_W_i1 (pc' := pc + 1) hst (fun x r w => lv_i2c hx hb hd rfl w) hl hh hS kk
  case ladd => exact gm_W_ll (pc' := pc + 1) hst (fun x y r w => lv_ladd hx hb hd w) hl hh hS kk
  case lsub => exact gm_W_ll (pc' := pc + 1) hst (fun x y r w => lv_lsub hx hb hd w) hl hh hS kk
  case lmul => exact gm_W_ll (pc' := pc + 1) hst (fun x y r w => lv_lmul hx hb hd w) hl hh hS kk
  case land => exact gm_W_ll (pc' := pc + 1) hst (fun x y r w => lv_land hx hb hd w) hl hh hS kk
  case lxor => exact gm_W_ll (pc' := pc + 1) hst (fun x y r w => lv_lxor hx hb hd w) hl hh hS kk
  case lshl => exact gm_W_lI (pc' := pc + 1) hst (fun x y r w => lv_lshl hx hb hd rfl w) hl hh hS kk
  case lushr => exact gm_W_lI (pc' := pc + 1) hst (fun x y r w => lv_lushr hx hb hd rfl w) hl hh hS kk
  case goto off => exact lv_goto hx hb hd hlk (gm_W_nx hst hl hh hS kk)
  case idiv =>
    rcases S with _ | ⟨v, S⟩
    · cases hst
    rcases S with _ | ⟨w, r⟩
    · cases v <;> cases hst
    cases v <;> try (cases hst; done)
    cases w <;> try (cases hst; done)
    rename_i y x
    have hst' : (if y = 0 then none else gm_nx (pc + 1) L (.int (x / y) :: r) h) = some (.inl (st, dc, ds)) := hst
    by_cases q : y = 0
    · rw [if_pos q] at hst'; cases hst'
    · rw [if_neg q] at hst'
      exact lv_idiv hx hb hd q (gm_W_nx (S' := .int (x / y) :: r) hst' hl hh hS kk)
  case irem =>
    rcases S with _ | ⟨v, S⟩
    · cases hst
    rcases S with _ | ⟨w, r⟩
    · cases v <;> cases hst
    cases v <;> try (cases hst; done)
    cases w <;> try (cases hst; done)
    rename_i y x
    have hst' : (if y = 0 then none else gm_nx (pc + 1) L (.int (x - x / y * y) :: r) h) = some (.inl (st, dc, ds)) := hst
    by_cases q : y = 0
    · rw [if_pos q] at hst'; cases hst'
    · rw [if_neg q] at hst'
      exact lv_irem hx hb hd q (gm_W_nx (S' := .int (x - x / y * y) :: r) hst' hl hh hS kk)
  case ldiv =>
    rcases S with _ | ⟨v, S⟩
    · cases hst
    rcases S with _ | ⟨w, r⟩
    · cases v <;> cases hst
    cases v <;> try (cases hst; done)
    cases w <;> try (cases hst; done)
    rename_i y x
    have hst' : (if y = 0 then none else gm_nx (pc + 1) L (.long (x / y) :: r) h) = some (.inl (st, dc, ds)) := hst
    by_cases q : y = 0
    · rw [if_pos q] at hst'; cases hst'
    · rw [if_neg q] at hst'
      exact lv_ldiv hx hb hd q (gm_W_nx (S' := .long (x / y) :: r) hst' hl hh hS kk)
  case lrem =>
    rcases S with _ | ⟨v, S⟩
    · cases hst
    rcases S with _ | ⟨w, r⟩
    · cases v <;> cases hst
    cases v <;> try (cases hst; done)
    cases w <;> try (cases hst; done)
    rename_i y x
    have hst' : (if y = 0 then none else gm_nx (pc + 1) L (.long (x - x / y * y) :: r) h) = some (.inl (st, dc, ds)) := hst
    by_cases q : y = 0
    · rw [if_pos q] at hst'; cases hst'
    · rw [if_neg q] at hst'
      exact lv_lrem hx hb hd q (gm_W_nx (S' := .long (x - x / y * y) :: r) hst' hl hh hS kk)
  case i2l =>
    rcases S with _ | ⟨v, r⟩
    · cases hst
    cases v <;> try (cases hst; done)
    rename_i x
    exact lv_i2l hx hb hd rfl (gm_W_nx (S' := .long x.toInt64 :: r) hst hl hh hS kk)
  case l2i =>
    rcases S with _ | ⟨v, r⟩
    · cases hst
    cases v <;> try (cases hst; done)
    rename_i x
    exact lv_l2i hx hb hd rfl (gm_W_nx (S' := .int x.toInt32 :: r) hst hl hh hS kk)
  case lcmp =>
    rcases S with _ | ⟨v, S⟩
    · cases hst
    rcases S with _ | ⟨w, r⟩
    · cases v <;> cases hst
    cases v <;> try (cases hst; done)
    cases w <;> try (cases hst; done)
    rename_i y x
    exact W.lcmp hx hb hd (gm_W_nx (S' := .int (lg_cmp x y) :: r) hst hl hh hS kk)
  case dup =>
    rcases S with _ | ⟨v, r⟩
    · cases hst
    have hst' : (if v.category = 1 then gm_nx (pc + 1) L (v :: v :: r) h else none) = some (.inl (st, dc, ds)) := hst
    by_cases q : v.category = 1
    · rw [if_pos q] at hst'
      exact lv_dup hx hb hd (by rw [gm_tv_cat]; exact q) (gm_W_nx (S' := v :: v :: r) hst' hl hh hS kk)
    · rw [if_neg q] at hst'; cases hst'
  case dup_x1 =>
    rcases S with _ | ⟨v, S⟩
    · cases hst
    rcases S with _ | ⟨w, r⟩
    · cases hst
    have hst' : (if v.category = 1 ∧ w.category = 1 then gm_nx (pc + 1) L (v :: w :: v :: r) h else none) = some (.inl (st, dc, ds)) := hst
    by_cases q : v.category = 1 ∧ w.category = 1
    · rw [if_pos q] at hst'
      exact lv_dup_x1 hx hb hd (by rw [gm_tv_cat]; exact q.1) (by rw [gm_tv_cat]; exact q.2) (gm_W_nx (S' := v :: w :: v :: r) hst' hl hh hS kk)
    · rw [if_neg q] at hst'; cases hst'
  case dup2 =>
    rcases S with _ | ⟨v, S⟩
    · cases hst
    rcases S with _ | ⟨w, r⟩
    · cases hst
    have hst' : (if v.category = 1 ∧ w.category = 1 then gm_nx (pc + 1) L (v :: w :: v :: w :: r) h else none) = some (.inl (st, dc, ds)) := hst
    by_cases q : v.category = 1 ∧ w.category = 1
    · rw [if_pos q] at hst'
      exact lv_dup2_11 hx hb hd (by rw [gm_tv_cat]; exact q.1) (by rw [gm_tv_cat]; exact q.2) (gm_W_nx (S' := v :: w :: v :: w :: r) hst' hl hh hS kk)
    · rw [if_neg q] at hst'; cases hst'
  case pop =>
    rcases S with _ | ⟨v, r⟩
    · cases hst
    have hst' : (if v.category = 1 then gm_nx (pc + 1) L r h else none) = some (.inl (st, dc, ds)) := hst
    by_cases q : v.category = 1
    · rw [if_pos q] at hst'
      exact lv_pop hx hb hd (by rw [gm_tv_cat]; exact q) (gm_W_nx hst' hl hh hS kk)
    · rw [if_neg q] at hst'; cases hst'
  case if_icmp cnd off =>
    rcases S with _ | ⟨v, S⟩
    · cases hst
    rcases S with _ | ⟨w, r⟩
    · cases v <;> cases hst
    cases v <;> try (cases hst; done)
    cases w <;> try (cases hst; done)
    rename_i y x
    cases cnd
    · have hst' : (if x = y then gm_nx ia L r h else gm_nx (pc + 3) L r h) = some (.inl (st, dc, ds)) := hst
      exact lv_icmp_eq hx hb hd hlk (fun q => gm_W_nx (by rw [if_pos q] at hst'; exact hst') hl hh hS kk) (fun q => gm_W_nx (by rw [if_neg q] at hst'; exact hst') hl hh hS kk)
    · have hst' : (if x = y then gm_nx (pc + 3) L r h else gm_nx ia L r h) = some (.inl (st, dc, ds)) := hst
      exact lv_icmp_ne hx hb hd hlk (fun q => gm_W_nx (by rw [if_neg q] at hst'; exact hst') hl hh hS kk) (fun q => gm_W_nx (by rw [if_pos q] at hst'; exact hst') hl hh hS kk)
    · have hst' : (if x < y then gm_nx ia L r h else gm_nx (pc + 3) L r h) = some (.inl (st, dc, ds)) := hst
      exact lv_icmp_lt hx hb hd hlk (fun q => gm_W_nx (by rw [if_pos q] at hst'; exact hst') hl hh hS kk) (fun q => gm_W_nx (by rw [if_neg q] at hst'; exact hst') hl hh hS kk)
    · have hst' : (if y ≤ x then gm_nx ia L r h else gm_nx (pc + 3) L r h) = some (.inl (st, dc, ds)) := hst
      exact lv_icmp_ge hx hb hd hlk (fun q => gm_W_nx (by rw [if_pos q] at hst'; exact hst') hl hh hS kk) (fun q => gm_W_nx (by rw [if_neg q] at hst'; exact hst') hl hh hS kk)
    · have hst' : (if y < x then gm_nx ia L r h else gm_nx (pc + 3) L r h) = some (.inl (st, dc, ds)) := hst
      exact lv_icmp_gt hx hb hd hlk (fun q => gm_W_nx (by rw [if_pos q] at hst'; exact hst') hl hh hS kk) (fun q => gm_W_nx (by rw [if_neg q] at hst'; exact hst') hl hh hS kk)
    · have hst' : (if x ≤ y then gm_nx ia L r h else gm_nx (pc + 3) L r h) = some (.inl (st, dc, ds)) := hst
      exact lv_icmp_le hx hb hd hlk (fun q => gm_W_nx (by rw [if_pos q] at hst'; exact hst') hl hh hS kk) (fun q => gm_W_nx (by rw [if_neg q] at hst'; exact hst') hl hh hS kk)
  case ifCond cnd off =>
    rcases S with _ | ⟨v, r⟩
    · cases hst
    cases v <;> try (cases hst; done)
    rename_i x
    cases cnd
    · have hst' : (if x = 0 then gm_nx ia L r h else gm_nx (pc + 3) L r h) = some (.inl (st, dc, ds)) := hst
      exact lv_if_eq hx hb hd hlk (fun q => gm_W_nx (by rw [if_pos q] at hst'; exact hst') hl hh hS kk) (fun q => gm_W_nx (by rw [if_neg q] at hst'; exact hst') hl hh hS kk)
    · have hst' : (if x = 0 then gm_nx (pc + 3) L r h else gm_nx ia L r h) = some (.inl (st, dc, ds)) := hst
      exact lv_if_ne hx hb hd hlk (fun q => gm_W_nx (by rw [if_neg q] at hst'; exact hst') hl hh hS kk) (fun q => gm_W_nx (by rw [if_pos q] at hst'; exact hst') hl hh hS kk)
    · have hst' : (if x < 0 then gm_nx ia L r h else gm_nx (pc + 3) L r h) = some (.inl (st, dc, ds)) := hst
      exact lv_if_lt hx hb hd hlk (fun q => gm_W_nx (by rw [if_pos q] at hst'; exact hst') hl hh hS kk) (fun q => gm_W_nx (by rw [if_neg q] at hst'; exact hst') hl hh hS kk)
    · have hst' : (if 0 ≤ x then gm_nx ia L r h else gm_nx (pc + 3) L r h) = some (.inl (st, dc, ds)) := hst
      exact lv_if_ge hx hb hd hlk (fun q => gm_W_nx (by rw [if_pos q] at hst'; exact hst') hl hh hS kk) (fun q => gm_W_nx (by rw [if_neg q] at hst'; exact hst') hl hh hS kk)
    · have hst' : (if 0 < x then gm_nx ia L r h else gm_nx (pc + 3) L r h) = some (.inl (st, dc, ds)) := hst
      exact lv_if_gt hx hb hd hlk (fun q => gm_W_nx (by rw [if_pos q] at hst'; exact hst') hl hh hS kk) (fun q => gm_W_nx (by rw [if_neg q] at hst'; exact hst') hl hh hS kk)
    · have hst' : (if x ≤ 0 then gm_nx ia L r h else gm_nx (pc + 3) L r h) = some (.inl (st, dc, ds)) := hst
      exact lv_if_le hx hb hd hlk (fun q => gm_W_nx (by rw [if_pos q] at hst'; exact hst') hl hh hS kk) (fun q => gm_W_nx (by rw [if_neg q] at hst'; exact hst') hl hh hS kk)
  case tableswitch dd lo hi offs =>
    rcases S with _ | ⟨v, r⟩
    · cases hst
    cases v <;> try (cases hst; done)
    rename_i x
    obtain ⟨len, hd⟩ : ∃ len, decode cc pc = .ok (.tableswitch dd lo hi offs, len) := hd
    have hst' : (if x.toInt < lo ∨ hi < x.toInt then gm_sw pc dd L r h else match offs[(x.toInt - lo).toNat]? with
      | some o => gm_sw pc o L r h
      | none => none) = some (.inl (st, dc, ds)) := hst
    by_cases q : x.toInt < lo ∨ hi < x.toInt
    · rw [if_pos q] at hst'
      obtain ⟨t, ht, hn⟩ := gm_sw_of hst'
      exact lv_tableOut hx hb hd q ht (gm_W_nx hn hl hh hS kk)
    · rw [if_neg q] at hst'
      cases ho : offs[(x.toInt - lo).toNat]? with
      | none => rw [ho] at hst'; cases hst'
      | some o =>
        rw [ho] at hst'
        obtain ⟨t, ht, hn⟩ := gm_sw_of hst'
        exact lv_tableIn hx hb hd (fun z => q (Or.inl z)) (fun z => q (Or.inr z)) ho ht (gm_W_nx hn hl hh hS kk)
  case lookupswitch dd ps =>
    rcases S with _ | ⟨v, r⟩
    · cases hst
    cases v <;> try (cases hst; done)
    rename_i x
    obtain ⟨⟨len, hd⟩, hso⟩ : (∃ len, decode cc pc = .ok (.lookupswitch dd ps, len)) ∧ (ps.toList.zip (ps.toList.drop 1)).all (fun (a, next) => a.1 < next.1) = true := hd
    obtain ⟨t, ht, hn⟩ := gm_sw_of (show gm_sw pc (Op.lookupswitch.offset ps.toList dd x.toInt) L r h = some (.inl (st, dc, ds)) from hst)
    exact lv_lookup hx hb hd hso rfl ht (gm_W_nx hn hl hh hS kk)
  case arraylength =>
    rcases S with _ | ⟨v, r⟩
    · cases hst
    cases v <;> try (cases hst; done)
    · rename_i u
      have hst' : (if u = 99 then gm_nx (pc + 1) L (.int (Int32.ofNat (gm_sl T)) :: r) h else none) = some (.inl (st, dc, ds)) := hst
      by_cases q : u = 99
      · subst q
        rw [if_pos rfl] at hst'
        exact va_slen (A := gm_A b) hx hb hE.2.2.2.2.1 hE.2.2.2.2.2.2.1 (fun z => by have z' : b ≤ aK 99 := z; have := hE.2.2.2.2.2.1; omega) hS hd (gm_W_nx (S' := .int (Int32.ofNat (gm_sl T)) :: r) hst' hl hh hS kk)
      · rw [if_neg q] at hst'; cases hst'
    · rename_i a
      have hst' : (match gm_get h a with
        | some (.inl (t, n, _)) => if t < 6 then gm_nx (pc + 1) L (.int (Int32.ofNat n) :: r) h else none
        | _ => none) = some (.inl (st, dc, ds)) := hst
      cases hg : gm_get h a with
      | none => rw [hg] at hst'; cases hst'
      | some cel =>
        rw [hg] at hst'
        rcases cel with ⟨t, n, z⟩ | o
        · have hst2 : (if t < 6 then gm_nx (pc + 1) L (.int (Int32.ofNat n) :: r) h else none) = some (.inl (st, dc, ds)) := hst'
          by_cases q : t < 6
          · rw [if_pos q] at hst2
            have hw : ∃ zz : vp_A, gm_tc b aK dA (.inl (t, n, z)) = .inl (dA t, zz) ∧ zz.1 = n := by
              rcases z with f | f | f | f | f <;> exact ⟨_, rfl, rfl⟩
            obtain ⟨zz, hz1, hz2⟩ := hw
            have hP := gm_w_get (b := b) (aK := aK) (dA := dA) hg
            rw [hz1] at hP
            exact va_alen hx hb hK hh.2.2 a t hP (gm_tyl_at q) (by rw [hz2]) hd (gm_W_nx (S' := .int (Int32.ofNat n) :: r) hst2 hl hh hS kk)
          · rw [if_neg q] at hst2; cases hst2
        · cases hst'
  case iaload => exact gm_W_ald (pc' := pc + 1) hst hE (fun i r a n f hg hi w => va_iald hx hb hK hh.2.2 a 0 (gm_w_get hg) (gm_tyl_at (by decide)) hi hd w) (fun _ i r hi w => va_sld (A := gm_A b) hx hb hE.2.2.2.2.1 hE.2.2.2.2.2.2.1 (fun z => by have z' : b ≤ aK 99 := z; have := hE.2.2.2.2.2.1; omega) hS hi hd w) hl hh hS kk
  case caload => exact gm_W_ald (pc' := pc + 1) hst hE (fun i r a n f hg hi w => va_cald hx hb hK hh.2.2 a 1 (gm_w_get hg) (gm_tyl_at (by decide)) hi hd w) (fun z => absurd z (by decide)) hl hh hS kk
  case baload =>
    have hst' : (if ia = 3 ∨ ia = 4 then gm_ald T ia (pc + 1) L S h else none) = some (.inl (st, dc, ds)) := hst
    by_cases q : ia = 3 ∨ ia = 4
    · rw [if_pos q] at hst'
      rcases q with rfl | rfl
      · exact gm_W_ald (pc' := pc + 1) hst' hE (fun i r a n f hg hi w => va_bald hx hb hK hh.2.2 a 3 (gm_w_get hg) (gm_tyl_at (by decide)) hi hd w) (fun z => absurd z (by decide)) hl hh hS kk
      · exact gm_W_ald (pc' := pc + 1) hst' hE (fun i r a n f hg hi w => va_zald hx hb hK hh.2.2 a 4 (gm_w_get hg) (gm_tyl_at (by decide)) hi hd w) (fun z => absurd z (by decide)) hl hh hS kk
    · rw [if_neg q] at hst'; cases hst'
  case laload =>
    rcases S with _ | ⟨v, S⟩
    · cases hst
    rcases S with _ | ⟨w, r⟩
    · cases v <;> cases hst
    cases v <;> try (cases hst; done)
    cases w <;> try (cases hst; done)
    rename_i k a
    have hst' : (match gm_get h a with
      | some (.inl (t', n, .inr (.inl f))) => if t' = 2 then (if k < 0 ∨ n ≤ k.toNatClampNeg then none else gm_nx (pc + 1) L (.long (f k.toNatClampNeg) :: r) h) else none
      | _ => none) = some (.inl (st, dc, ds)) := hst
    cases hg : gm_get h a with
    | none => rw [hg] at hst'; cases hst'
    | some cel =>
      rw [hg] at hst'
      rcases cel with ⟨t', n, f | f | f | f | f⟩ | o
      · cases hst'
      · have hst2 : (if t' = 2 then (if k < 0 ∨ n ≤ k.toNatClampNeg then none else gm_nx (pc + 1) L (.long (f k.toNatClampNeg) :: r) h) else none) = some (.inl (st, dc, ds)) := hst'
        by_cases q : t' = 2
        · subst q
          rw [if_pos rfl] at hst2
          by_cases q3 : k < 0 ∨ n ≤ k.toNatClampNeg
          · rw [if_pos q3] at hst2; cases hst2
          · rw [if_neg q3] at hst2
            exact va_lald hx hb hK hh.2.2 a 2 (gm_w_get hg) (gm_tyl_at (by decide)) q3 hd (gm_W_nx (S' := .long (f k.toNatClampNeg) :: r) hst2 hl hh hS kk)
        · rw [if_neg q] at hst2; cases hst2
      all_goals cases hst'
  case aaload =>
    rcases S with _ | ⟨v, S⟩
    · cases hst
    rcases S with _ | ⟨w, r⟩
    · cases v <;> cases hst
    cases v <;> try (cases hst; done)
    cases w <;> try (cases hst; done)
    rename_i k a
    have hst' : (match gm_get h a with
      | some (.inl (t', n, .inr (.inr (.inr (.inr f))))) => if t' = 5 then (if k < 0 ∨ n ≤ k.toNatClampNeg then none else match f k.toNatClampNeg with
        | some v => gm_nx (pc + 1) L (.ref v :: r) h
        | none => none) else none
      | _ => none) = some (.inl (st, dc, ds)) := hst
    cases hg : gm_get h a with
    | none => rw [hg] at hst'; cases hst'
    | some cel =>
      rw [hg] at hst'
      rcases cel with ⟨t', n, f | f | f | f | f⟩ | o
      · cases hst'
      · cases hst'
      · cases hst'
      · cases hst'
      · have hst2 : (if t' = 5 then (if k < 0 ∨ n ≤ k.toNatClampNeg then none else match f k.toNatClampNeg with
          | some v => gm_nx (pc + 1) L (.ref v :: r) h
          | none => none) else none) = some (.inl (st, dc, ds)) := hst'
        by_cases q : t' = 5
        · subst q
          rw [if_pos rfl] at hst2
          by_cases q3 : k < 0 ∨ n ≤ k.toNatClampNeg
          · rw [if_pos q3] at hst2; cases hst2
          · rw [if_neg q3] at hst2
            cases hf : f k.toNatClampNeg with
            | none => rw [hf] at hst2; cases hst2
            | some v =>
              rw [hf] at hst2
              refine va_aldq (C := "CommandByTurns$Standing") hx hb hK hh.2.2 a 5 (gm_w_get hg) (gm_tyl_at (by decide)) q3 hd ?_
              have := gm_W_nx (S' := .ref v :: r) hst2 hl hh hS kk
              show W p l e R s m args below meth c H locs cells slots Q (F0 m (pc + 1) ls (va_rf ((f k.toNatClampNeg).map (fun q => b + q)) :: r.map (gm_tv b aK)))
              rw [hf]
              exact this
        · rw [if_neg q] at hst2; cases hst2
      · cases hst'
  case iastore => exact gm_W_ast (pc' := pc + 1) hst (fun x i r a n f hg hi w => gm_rast hx hb hK (Or.inl ⟨rfl, rfl, rfl⟩) hh hS hg hi hd w) hl kk
  case castore => exact gm_W_ast (pc' := pc + 1) hst (fun x i r a n f hg hi w => gm_rast hx hb hK (Or.inr (Or.inl ⟨rfl, rfl, rfl⟩)) hh hS hg hi hd w) hl kk
  case bastore =>
    have hst' : (if ia = 3 then gm_ast 3 .byte (pc + 1) L S h else if ia = 4 then gm_ast 4 .boolean (pc + 1) L S h else none) = some (.inl (st, dc, ds)) := hst
    by_cases q : ia = 3
    · rw [if_pos q] at hst'
      exact gm_W_ast (pc' := pc + 1) hst' (fun x i r a n f hg hi w => gm_rast hx hb hK (Or.inr (Or.inr (Or.inl ⟨rfl, rfl, rfl⟩))) hh hS hg hi hd w) hl kk
    · rw [if_neg q] at hst'
      by_cases q4 : ia = 4
      · rw [if_pos q4] at hst'
        exact gm_W_ast (pc' := pc + 1) hst' (fun x i r a n f hg hi w => gm_rast hx hb hK (Or.inr (Or.inr (Or.inr ⟨rfl, rfl, rfl⟩))) hh hS hg hi hd w) hl kk
      · rw [if_neg q4] at hst'; cases hst'
  case lastore =>
    rcases S with _ | ⟨v, S⟩
    · cases hst
    rcases S with _ | ⟨w, S⟩
    · cases v <;> cases hst
    rcases S with _ | ⟨z, r⟩
    · cases v <;> cases w <;> cases hst
    cases v <;> try (cases hst; done)
    cases w <;> try (cases hst; done)
    cases z <;> try (cases hst; done)
    rename_i x k a
    have hst' : (match gm_get h a with
      | some (.inl (t', n, .inr (.inl f))) => if t' = 2 then (if k < 0 ∨ n ≤ k.toNatClampNeg then none else gm_nx (pc + 1) L r (gm_put h a (.inl (t', n, .inr (.inl (vp_updL f k.toNatClampNeg x)))))) else none
      | _ => none) = some (.inl (st, dc, ds)) := hst
    cases hg : gm_get h a with
    | none => rw [hg] at hst'; cases hst'
    | some cel =>
      rw [hg] at hst'
      rcases cel with ⟨t', n, f | f | f | f | f⟩ | o
      · cases hst'
      · have hst2 : (if t' = 2 then (if k < 0 ∨ n ≤ k.toNatClampNeg then none else gm_nx (pc + 1) L r (gm_put h a (.inl (t', n, .inr (.inl (vp_updL f k.toNatClampNeg x)))))) else none) = some (.inl (st, dc, ds)) := hst'
        by_cases q : t' = 2
        · subst q
          rw [if_pos rfl] at hst2
          by_cases q3 : k < 0 ∨ n ≤ k.toNatClampNeg
          · rw [if_pos q3] at hst2; cases hst2
          · rw [if_neg q3] at hst2
            obtain ⟨rfl, rfl, rfl⟩ := gm_nx_inj hst2
            exact gm_rlast hx hb hK hh hS hg q3 hd (fun H1 locs1 hh1 hS1 => kk ls H1 locs1 hl hh1 hS1)
        · rw [if_neg q] at hst2; cases hst2
      all_goals cases hst'
  case aastore =>
    rcases S with _ | ⟨v, S⟩
    · cases hst
    rcases S with _ | ⟨w, S⟩
    · cases v <;> cases hst
    rcases S with _ | ⟨z, r⟩
    · cases v <;> cases w <;> cases hst
    cases v <;> try (cases hst; done)
    cases w <;> try (cases hst; done)
    cases z <;> try (cases hst; done)
    rename_i v k a
    have hst' : (match gm_get h a, gm_get h v with
      | some (.inl (t', n, .inr (.inr (.inr (.inr f))))), some (.inr (ci, _)) => if t' = 5 ∧ ci = 6 then (if k < 0 ∨ n ≤ k.toNatClampNeg then none else gm_nx (pc + 1) L r (gm_put h a (.inl (t', n, .inr (.inr (.inr (.inr (va_up f k.toNatClampNeg (some v))))))))) else none
      | _, _ => none) = some (.inl (st, dc, ds)) := hst
    obtain ⟨TT, N, h6⟩ : ∃ TT N, cl[6]? = some ("CommandByTurns$Standing", TT, N) := hlk
    cases hg : gm_get h a with
    | none => rw [hg] at hst'; cases hst'
    | some cel =>
      cases hgv : gm_get h v with
      | none =>
        rw [hg, hgv] at hst'
        rcases cel with ⟨t', n, f | f | f | f | f⟩ | o <;> cases hst'
      | some celv =>
        rw [hg, hgv] at hst'
        rcases cel with ⟨t', n, f | f | f | f | f⟩ | o
        · cases hst'
        · cases hst'
        · cases hst'
        · cases hst'
        · rcases celv with ar | ⟨ci, vs⟩
          · cases hst'
          · have hst2 : (if t' = 5 ∧ ci = 6 then (if k < 0 ∨ n ≤ k.toNatClampNeg then none else gm_nx (pc + 1) L r (gm_put h a (.inl (t', n, .inr (.inr (.inr (.inr (va_up f k.toNatClampNeg (some v))))))))) else none) = some (.inl (st, dc, ds)) := hst'
            by_cases q : t' = 5 ∧ ci = 6
            · rw [if_pos q] at hst2
              obtain ⟨rfl, rfl⟩ := q
              by_cases q3 : k < 0 ∨ n ≤ k.toNatClampNeg
              · rw [if_pos q3] at hst2; cases hst2
              · rw [if_neg q3] at hst2
                obtain ⟨rfl, rfl, rfl⟩ := gm_nx_inj hst2
                exact gm_raast hx hb hK h6 hh hS hg hgv q3 hd (fun H1 locs1 hh1 hS1 => kk ls H1 locs1 hl hh1 hS1)
            · rw [if_neg q] at hst2; cases hst2
        · cases hst'
  case getfield idx =>
    obtain ⟨Cn, TT, N, k1, k2, k3⟩ : ∃ Cn TT N, gm_cls cl G T ia Cn TT N ∧ ib < N ∧ Cond.fieldLink own idx (TT ib).1 (TT ib).2.1 (TT ib).2.2.1 ∈ G := hlk
    rcases S with _ | ⟨v, r⟩
    · cases hst
    cases v <;> try (cases hst; done)
    rename_i a
    have hst' : (match gm_get h a with
      | some (.inr (ci', fs)) => if ci' = ia then match fs[ib]? with
        | some v => gm_nx (pc + 3) L (v :: r) h
        | none => none
        else none
      | _ => none) = some (.inl (st, dc, ds)) := hst
    cases hg : gm_get h a with
    | none => rw [hg] at hst'; cases hst'
    | some cel =>
      rw [hg] at hst'
      rcases cel with ar | ⟨ci', fs⟩
      · cases hst'
      have hst2 : (if ci' = ia then match fs[ib]? with
        | some v => gm_nx (pc + 3) L (v :: r) h
        | none => none
        else none) = some (.inl (st, dc, ds)) := hst'
      by_cases q : ci' = ia
      · subst q
        rw [if_pos rfl] at hst2
        cases hf : fs[ib]? with
        | none => rw [hf] at hst2; cases hst2
        | some v =>
          rw [hf] at hst2
          exact gm_rget hx hb hts hown hK k1 k2 k3 hh hg hf hd (gm_W_nx (S' := v :: r) hst2 hl hh hS kk)
      · rw [if_neg q] at hst2; cases hst2
  case putfield idx =>
    obtain ⟨Cn, TT, N, k1, k2, k3, k4⟩ : ∃ Cn TT N, gm_cls cl G T ia Cn TT N ∧ ib < N ∧ Cond.fieldLink own idx (TT ib).1 (TT ib).2.1 (TT ib).2.2.1 ∈ G ∧ ((TT ib).2.2.2 = false ∨ ((TT ib).2.2.2 = true ∧ isI = true ∧ (TT ib).1 = own)) := hlk
    rcases S with _ | ⟨v, S⟩
    · cases hst
    rcases S with _ | ⟨w, r⟩
    · cases hst
    cases w <;> try (cases hst; done)
    rename_i a
    have hst' : (match gm_get h a with
      | some (.inr (ci', fs)) => if ci' = ia ∧ ib < fs.length ∧ gm_fok (gm_fty T ia ib) v = true then gm_nx (pc + 3) L r (gm_put h a (.inr (ci', fs.set ib v))) else none
      | _ => none) = some (.inl (st, dc, ds)) := hst
    cases hg : gm_get h a with
    | none => rw [hg] at hst'; cases hst'
    | some cel =>
      rw [hg] at hst'
      rcases cel with ar | ⟨ci', fs⟩
      · cases hst'
      have hst2 : (if ci' = ia ∧ ib < fs.length ∧ gm_fok (gm_fty T ia ib) v = true then gm_nx (pc + 3) L r (gm_put h a (.inr (ci', fs.set ib v))) else none) = some (.inl (st, dc, ds)) := hst'
      by_cases q : ci' = ia ∧ ib < fs.length ∧ gm_fok (gm_fty T ia ib) v = true
      · rw [if_pos q] at hst2
        obtain ⟨rfl, q2, q3⟩ := q
        obtain ⟨rfl, rfl, rfl⟩ := gm_nx_inj hst2
        exact gm_rput hx hb hts hown hK k1 k2 k3 (k4.imp id (fun z => ⟨z.1, hini z.2.1, z.2.2⟩)) hh hS hg q2 q3 hd (fun H1 locs1 hh1 hS1 => kk ls H1 locs1 hl hh1 hS1)
      · rw [if_neg q] at hst2; cases hst2
  case new idx =>
    obtain ⟨Cn, TT, N, k1, k2, k3, k4, k5, k6, k7⟩ : ∃ Cn TT N, gm_cls cl G T ia Cn TT N ∧ Cond.classLink own idx Cn ∈ G ∧ Cond.instantiable Cn N ∈ G ∧ Cond.initialized Cn ∈ G ∧ (gm_dfl T ia).length = N ∧ (∀ j, j < N → defaultValue (gm_fty T ia j) = vp_V (gm_dfl T ia) j) ∧ ∀ v ∈ gm_dfl T ia, gm_isR v = false := hlk
    have hst' : (if gm_al T = true then some (.inl ((pc + 3, L, .ref h.1 :: S, gm_app h (.inr (ia, gm_dfl T ia))), 1, (gm_dfl T ia).length)) else none) = some (Sum.inl (st, dc, ds)) := hst
    by_cases q : gm_al T = true
    · rw [if_pos q] at hst'
      cases hst'
      have em : (gm_dfl T ia).map (gm_tv b aK) = gm_dfl T ia := by
        have : ∀ v ∈ gm_dfl T ia, gm_tv b aK v = v := fun v hv => by
          have := k7 v hv
          cases v <;> first | rfl | cases this
        exact (List.map_congr_left this).trans (List.map_id' _)
      rw [q] at hh
      refine gm_rnew hx hb hts hown hK k1 k2 k3 k4 (by rw [em]; exact k6) hh hS hcells (by rw [← k5]; exact hslots) hd (fun H1 hh1 hS1 => ?_)
      have := kk ls H1 locs hl (by show gm_hp b aK D cl dA (gm_al T) (gm_app h (.inr (ia, gm_dfl T ia))) H1; rw [q]; exact hh1) hS1
      rw [k5] at this
      exact this
    · rw [if_neg q] at hst'; cases hst'
  case newarray at_ =>
    have q : gm_al T = true := by
      by_cases q : gm_al T = true
      · exact q
      · have hst' : (if gm_al T = true then (match (generalizing := false) S, gm_kind at_ with
          | .int n :: r, some (t, _, _, z) => if n < 0 ∨ 10000 < n.toNatClampNeg then none else some (.inl ((pc + 2, L, .ref h.1 :: r, gm_app h (.inl (t, n.toNatClampNeg, z))), 1, n.toNatClampNeg))
          | _, _ => none : Option gm_O) else none) = some (Sum.inl (st, dc, ds)) := hst
        rw [if_neg q] at hst'; cases hst'
    have hst' : (if gm_al T = true then (match (generalizing := false) S, gm_kind at_ with
      | .int n :: r, some (t, _, _, z) => if n < 0 ∨ 10000 < n.toNatClampNeg then none else some (.inl ((pc + 2, L, .ref h.1 :: r, gm_app h (.inl (t, n.toNatClampNeg, z))), 1, n.toNatClampNeg))
      | _, _ => none : Option gm_O) else none) = some (Sum.inl (st, dc, ds)) := hst
    rw [if_pos q] at hst'
    rw [q] at hh
    rcases S with _ | ⟨v, r⟩
    · cases hst'
    cases v <;> try (cases hst'; done)
    rename_i n
    have go : ∀ (t : Nat) (z : (Nat → Int32) ⊕ (Nat → Int64) ⊕ (Nat → UInt32) ⊕ (Nat → UInt64) ⊕ (Nat → Option Nat)), (if n < 0 ∨ 10000 < n.toNatClampNeg then none else some (.inl ((pc + 2, L, .ref h.1 :: r, gm_app h (.inl (t, n.toNatClampNeg, z))), 1, n.toNatClampNeg)) : Option gm_O) = some (Sum.inl (st, dc, ds)) → t < 6 → gm_tyl.getD t .int = newarray.typeOf at_ → gm_tc b aK dA (.inl (t, n.toNatClampNeg, z)) = .inl (dA t, n.toNatClampNeg, z) → (∀ cA : ClassId, vp_cell cA (n.toNatClampNeg, z) = arrV cA n.toNatClampNeg (fun _ => defaultValue (newarray.typeOf at_))) → W p l e R s m args below meth c H locs cells slots Q (F0 m pc ls ((Value.int n :: r).map (gm_tv b aK))) := by
      intro t z h1 h2 h3 h4 h5
      by_cases q3 : n < 0 ∨ 10000 < n.toNatClampNeg
      · rw [if_pos q3] at h1; cases h1
      · rw [if_neg q3] at h1
        cases h1
        refine gm_rnewa hx hb h2 h3 hts hlk hK hh hS h4 h5 (fun z => q3 (Or.inl z)) (Nat.not_lt.mp fun z => q3 (Or.inr z)) hcells hslots hd (fun H1 hh1 hS1 => ?_)
        exact kk ls H1 locs hl (by show gm_hp b aK D cl dA (gm_al T) (gm_app h (.inl (t, n.toNatClampNeg, z))) H1; rw [q]; exact hh1) hS1
    cases at_ <;> try (cases hst'; done)
    · exact go 4 _ hst' (by decide) rfl rfl (fun _ => rfl)
    · exact go 1 _ hst' (by decide) rfl rfl (fun _ => rfl)
    · exact go 3 _ hst' (by decide) rfl rfl (fun _ => rfl)
    · exact go 0 _ hst' (by decide) rfl rfl (fun _ => rfl)
    · exact go 2 _ hst' (by decide) rfl rfl (fun _ => rfl)
  case anewarray idx =>
    have hst' : (if gm_al T = true then (match (generalizing := false) S with
      | .int n :: r => if n < 0 ∨ 10000 < n.toNatClampNeg then none else some (.inl ((pc + 3, L, .ref h.1 :: r, gm_app h (.inl (5, n.toNatClampNeg, .inr (.inr (.inr (.inr fun _ => none)))))), 1, n.toNatClampNeg))
      | _ => none : Option gm_O) else none) = some (Sum.inl (st, dc, ds)) := hst
    by_cases q : gm_al T = true
    · rw [if_pos q] at hst'
      rw [q] at hh
      rcases S with _ | ⟨v, r⟩
      · cases hst'
      cases v <;> try (cases hst'; done)
      rename_i n
      have hst2 : (if n < 0 ∨ 10000 < n.toNatClampNeg then none else some (.inl ((pc + 3, L, .ref h.1 :: r, gm_app h (.inl (5, n.toNatClampNeg, .inr (.inr (.inr (.inr fun _ => none)))))), 1, n.toNatClampNeg)) : Option gm_O) = some (Sum.inl (st, dc, ds)) := hst'
      by_cases q3 : n < 0 ∨ 10000 < n.toNatClampNeg
      · rw [if_pos q3] at hst2; cases hst2
      · rw [if_neg q3] at hst2
        cases hst2
        refine gm_rnewq hx hb hts hown hlk hE.2.2.1 hK hh hS (fun z => q3 (Or.inl z)) (Nat.not_lt.mp fun z => q3 (Or.inr z)) hcells hslots hd (fun H1 hh1 hS1 => ?_)
        exact kk ls H1 locs hl (by show gm_hp b aK D cl dA (gm_al T) (gm_app h (.inl (5, n.toNatClampNeg, .inr (.inr (.inr (.inr fun _ => none)))))) H1; rw [q]; exact hh1) hS1
    · rw [if_neg q] at hst'; cases hst'
  case invokestatic idx =>
    obtain ⟨k2, k3, k1, m5, m6, m7, m8⟩ : Cond.methodLink own idx (yn ia) ∈ G ∧ Cond.static (yn ia) ∈ G ∧ ((gm_dat T ia).2.2.2.1 = 0 → gm_mth G T yn bc ia) ∧ gm_mw G yn (gm_dat T ia).2.2.2.1 ia := hlk
    have hst' : (if (gm_dat T ia).2.2.2.1 = 0 then gm_cal T call ia (pc + 3) L S h else if (gm_dat T ia).2.2.2.1 = 5 then gm_mx (pc + 3) L S h else if (gm_dat T ia).2.2.2.1 = 6 then gm_mn (pc + 3) L S h else if (gm_dat T ia).2.2.2.1 = 7 then gm_ab (pc + 3) L S h else if (gm_dat T ia).2.2.2.1 = 8 then gm_mxl (pc + 3) L S h else none) = some (.inl (st, dc, ds)) := hst
    have hcat : ∀ r : List Value, gm_cat r ≤ 8 → ((r.map (gm_tv b aK)).map fun v => v.category).sum + 15 ≤ R.locals := by
      intro r hr
      have e1 : ((r.map (gm_tv b aK)).map fun v => v.category) = r.map fun v => v.category := by
        rw [List.map_map]
        exact List.map_congr_left (fun v _ => gm_tv_cat b aK v)
      rw [e1]
      unfold gm_cat at hr
      omega
    by_cases q : (gm_dat T ia).2.2.2.1 = 0
    · rw [if_pos q] at hst'
      exact gm_cal_W C0 hst' hl hh hS hcells hslots hfr hlo (fun As r => hcall ia As r) (k1 q) hd (Or.inl ⟨q, rfl, k2, k3⟩) kk
    rw [if_neg q] at hst'
    by_cases q5 : (gm_dat T ia).2.2.2.1 = 5
    · rw [if_pos q5] at hst'
      obtain ⟨z1, z2, z3⟩ := m5 q5
      rw [z1] at k2 k3
      rcases S with _ | ⟨v, S⟩
      · cases hst'
      rcases S with _ | ⟨w, r⟩
      · cases v <;> cases hst'
      cases v <;> try (cases hst'; done)
      cases w <;> try (cases hst'; done)
      rename_i y x
      have hst2 : (if gm_cat r ≤ 8 then gm_nx (pc + 3) L (.int (if x < y then y else x) :: r) h else none) = some (.inl (st, dc, ds)) := hst'
      by_cases q9 : gm_cat r ≤ 8
      · rw [if_pos q9] at hst2
        exact va_mmax hx hb (hml.trans hl.1.symm) hown (hts _ k2) (hts _ k3) (hts _ z2) (hts _ z3) (by omega) (by have := hcat r q9; omega) (by omega) (by omega) hd (gm_W_nx (S' := .int (if x < y then y else x) :: r) hst2 hl hh hS kk)
      · rw [if_neg q9] at hst2; cases hst2
    rw [if_neg q5] at hst'
    by_cases q6 : (gm_dat T ia).2.2.2.1 = 6
    · rw [if_pos q6] at hst'
      obtain ⟨z1, z2, z3⟩ := m6 q6
      rw [z1] at k2 k3
      rcases S with _ | ⟨v, S⟩
      · cases hst'
      rcases S with _ | ⟨w, r⟩
      · cases v <;> cases hst'
      cases v <;> try (cases hst'; done)
      cases w <;> try (cases hst'; done)
      rename_i y x
      have hst2 : (if gm_cat r ≤ 8 then gm_nx (pc + 3) L (.int (if y < x then y else x) :: r) h else none) = some (.inl (st, dc, ds)) := hst'
      by_cases q9 : gm_cat r ≤ 8
      · rw [if_pos q9] at hst2
        exact va_mmin hx hb (hml.trans hl.1.symm) hown (hts _ k2) (hts _ k3) (hts _ z2) (hts _ z3) (by omega) (by have := hcat r q9; omega) (by omega) (by omega) hd (gm_W_nx (S' := .int (if y < x then y else x) :: r) hst2 hl hh hS kk)
      · rw [if_neg q9] at hst2; cases hst2
    rw [if_neg q6] at hst'
    by_cases q7 : (gm_dat T ia).2.2.2.1 = 7
    · rw [if_pos q7] at hst'
      obtain ⟨z1, z2, z3⟩ := m7 q7
      rw [z1] at k2 k3
      rcases S with _ | ⟨v, r⟩
      · cases hst'
      cases v <;> try (cases hst'; done)
      rename_i x
      have hst2 : (if gm_cat r ≤ 8 then gm_nx (pc + 3) L (.int (if 0 ≤ x then x else 0 - x) :: r) h else none) = some (.inl (st, dc, ds)) := hst'
      by_cases q9 : gm_cat r ≤ 8
      · rw [if_pos q9] at hst2
        exact va_mabs hx hb (hml.trans hl.1.symm) hown (hts _ k2) (hts _ k3) (hts _ z2) (hts _ z3) (by omega) (by have := hcat r q9; omega) (by omega) (by omega) hd (gm_W_nx (S' := .int (if 0 ≤ x then x else 0 - x) :: r) hst2 hl hh hS kk)
      · rw [if_neg q9] at hst2; cases hst2
    rw [if_neg q7] at hst'
    by_cases q8 : (gm_dat T ia).2.2.2.1 = 8
    · rw [if_pos q8] at hst'
      obtain ⟨z1, z2, z3⟩ := m8 q8
      rw [z1] at k2 k3
      rcases S with _ | ⟨v, S⟩
      · cases hst'
      rcases S with _ | ⟨w, r⟩
      · cases v <;> cases hst'
      cases v <;> try (cases hst'; done)
      cases w <;> try (cases hst'; done)
      rename_i y x
      have hst2 : (if gm_cat r ≤ 8 then gm_nx (pc + 3) L (.long (if y < x then x else y) :: r) h else none) = some (.inl (st, dc, ds)) := hst'
      by_cases q9 : gm_cat r ≤ 8
      · rw [if_pos q9] at hst2
        exact va_mmax_long hx hb (hml.trans hl.1.symm) hown (hts _ k2) (hts _ k3) (hts _ z2) (hts _ z3) (by omega) (hcat r q9) (by omega) (by omega) hd (gm_W_nx (S' := .long (if y < x then x else y) :: r) hst2 hl hh hS kk)
      · rw [if_neg q9] at hst2; cases hst2
    rw [if_neg q8] at hst'
    cases hst'
  case invokevirtual idx =>
    obtain ⟨k1, k2, k3, k4, k5⟩ : gm_mth G T yn bc ia ∧ Cond.methodLink own idx (yn ia) ∈ G ∧ Cond.instanceMethod (yn ia) ∈ G ∧ ((gm_dat T ia).2.2.2.1 = 1 → ∃ r, cl[(gm_dat T ia).2.2.2.2]? = some r ∧ Cond.selects r.1 (yn ia) (yn ia) ∈ G) ∧ ((gm_dat T ia).2.2.2.1 = 3 → Cond.selects "java/lang/String" (yn ia) (yn ia) ∈ G) := hlk
    have hst' : (if (gm_dat T ia).2.2.2.1 = 1 ∨ (gm_dat T ia).2.2.2.1 = 3 then gm_cal T call ia (pc + 3) L S h else none) = some (.inl (st, dc, ds)) := hst
    by_cases q : (gm_dat T ia).2.2.2.1 = 1 ∨ (gm_dat T ia).2.2.2.1 = 3
    · rw [if_pos q] at hst'
      rcases q with q | q
      · exact gm_cal_W C0 hst' hl hh hS hcells hslots hfr hlo (fun As r => hcall ia As r) k1 hd (Or.inr (Or.inl ⟨q, rfl, k2, k3, k4 q⟩)) kk
      · exact gm_cal_W C0 hst' hl hh hS hcells hslots hfr hlo (fun As r => hcall ia As r) k1 hd (Or.inr (Or.inr (Or.inl ⟨q, rfl, k2, k3, k5 q⟩))) kk
    · rw [if_neg q] at hst'; cases hst'
  case invokespecial idx =>
    obtain ⟨k1, k2⟩ : ((gm_dat T ia).2.2.2.1 = 4 → Cond.methodLink own idx objectInit ∈ G ∧ Cond.instanceMethod objectInit ∈ G ∧ Cond.code objectInit ⟨#[0xb1]⟩ 1 none ∈ G) ∧ ((gm_dat T ia).2.2.2.1 = 2 → gm_mth G T yn bc ia ∧ Cond.instanceMethod (yn ia) ∈ G ∧ (yn ia).name = "<init>" ∧ (gm_dat T ia).2.1 = none ∧ (Cond.methodLink own idx (yn ia) ∈ G ∨ ∃ host, (own, idx, yn ia, host) ∈ NW)) := hlk
    have hst' : (if (gm_dat T ia).2.2.2.1 = 4 then (match (generalizing := false) S with
      | .ref _ :: r => if gm_cat r ≤ 8 then gm_nx (pc + 3) L r h else none
      | _ => none) else if (gm_dat T ia).2.2.2.1 = 2 then gm_cal T call ia (pc + 3) L S h else none) = some (.inl (st, dc, ds)) := hst
    by_cases q : (gm_dat T ia).2.2.2.1 = 4
    · rw [if_pos q] at hst'
      obtain ⟨z1, z2, z3⟩ := k1 q
      rcases S with _ | ⟨v, r⟩
      · cases hst'
      cases v <;> try (cases hst'; done)
      rename_i a
      have hst2 : (if gm_cat r ≤ 8 then gm_nx (pc + 3) L r h else none) = some (.inl (st, dc, ds)) := hst'
      by_cases q3 : gm_cat r ≤ 8
      · rw [if_pos q3] at hst2
        refine W.objInit (g := F0 m pc ls (.ref (b + a) :: r.map (gm_tv b aK))) hx hb hown (hts _ z1) (hts _ z2) (hts _ z3) rfl (by rw [hml]; exact hl.1) rfl hd (by omega) ?_ ?_
        · have e1 : ((r.map (gm_tv b aK)).map fun v => v.category) = r.map fun v => v.category := by
            rw [List.map_map]
            exact List.map_congr_left (fun v _ => gm_tv_cat b aK v)
          have e2 := lv_room (m := m) (pc := pc) (ls := ls) (rest := .ref (b + a) :: r.map (gm_tv b aK)) (st := r.map (gm_tv b aK)) (by rw [e1]; exact q3)
          omega
        · exact gm_W_nx hst2 hl hh hS kk
      · rw [if_neg q3] at hst2; cases hst2
    · rw [if_neg q] at hst'
      by_cases q2 : (gm_dat T ia).2.2.2.1 = 2
      · rw [if_pos q2] at hst'
        obtain ⟨z1, z2, z3, z4, z5⟩ := k2 q2
        exact gm_cal_W C0 hst' hl hh hS hcells hslots hfr hlo (fun As r => hcall ia As r) z1 hd (Or.inr (Or.inr (Or.inr ⟨q2, rfl, z2, z3, z4, z5⟩))) kk
      · rw [if_neg q2] at hst'; cases hst'
  case ireturn =>
    exfalso
    rcases S with _ | ⟨v, r⟩
    · cases hst
    cases v <;> try (cases hst; done)
    rename_i x
    rcases r with _ | ⟨w, r⟩
    · have hst' : (if gm_rok (gm_dat T j).2.1 x = true then some (.inr (some (.int x), h)) else none : Option gm_O) = some (.inl (st, dc, ds)) := hst
      by_cases q : gm_rok (gm_dat T j).2.1 x = true
      · rw [if_pos q] at hst'; cases hst'
      · rw [if_neg q] at hst'; cases hst'
    · cases hst
  case lreturn =>
    exfalso
    rcases S with _ | ⟨v, r⟩
    · cases hst
    cases v <;> try (cases hst; done)
    rename_i x
    rcases r with _ | ⟨w, r⟩
    · have hst' : (if (gm_dat T j).2.1 = some .long then some (.inr (some (.long x), h)) else none : Option gm_O) = some (.inl (st, dc, ds)) := hst
      by_cases q : (gm_dat T j).2.1 = some .long
      · rw [if_pos q] at hst'; cases hst'
      · rw [if_neg q] at hst'; cases hst'
    · cases hst
  case areturn =>
    exfalso
    rcases S with _ | ⟨v, r⟩
    · cases hst
    cases v <;> try (cases hst; done)
    rename_i x
    rcases r with _ | ⟨w, r⟩
    · have hst' : (match (gm_dat T j).2.1 with
        | some (.object _) => some (.inr (some (.ref x), h))
        | _ => none : Option gm_O) = some (.inl (st, dc, ds)) := hst
      split at hst' <;> cases hst'
    · cases hst
  case return_ =>
    exfalso
    rcases S with _ | ⟨v, r⟩
    · have hst' : (if (gm_dat T j).2.1 = none then some (.inr (none, h)) else none : Option gm_O) = some (.inl (st, dc, ds)) := hst
      by_cases q : (gm_dat T j).2.1 = none
      · rw [if_pos q] at hst'; cases hst'
      · rw [if_neg q] at hst'; cases hst'
    · cases hst
end GMI
