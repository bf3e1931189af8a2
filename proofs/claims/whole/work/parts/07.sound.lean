/-! Runs of the small machine are runs of the real one. -/
theorem gm_run_mono {T : gm_T} {call : Nat → List Value → gm_H → Option gm_R} {j : Nat} : ∀ (n : Nat) (st : gm_S) (kc ks : Nat) (r : gm_R), gm_run T call j n st kc ks = some r → kc ≤ r.2.2.1 ∧ ks ≤ r.2.2.2
  | 0, _, _, _, _, h => by cases h
  | n + 1, st, kc, ks, r, h => by
    unfold gm_run at h
    cases hc : gm_code T j st.1 with
    | none => rw [hc] at h; cases h
    | some i =>
      rw [hc] at h
      cases hs : gm_stp T call j i st.1 st.2.1 st.2.2.1 st.2.2.2 with
      | none => simp only [hs] at h; cases h
      | some o =>
        simp only [hs] at h
        rcases o with ⟨st', dc, ds⟩ | ⟨v, h'⟩
        · have h2 : gm_run T call j n st' (kc + dc) (ks + ds) = some r := h
          have := gm_run_mono n st' _ _ r h2
          omega
        · cases h
          exact ⟨Nat.le_refl _, Nat.le_refl _⟩
theorem gm_noret {T : gm_T} {call : Nat → List Value → gm_H → Option gm_R} {j pc : Nat} {ig : Instr} {ia ib : Nat} {L : gm_L} {S : List Value} {h : gm_H} {r : Option Value × gm_H} (hst : gm_stp T call j (ig, ia, ib) pc L S h = some (.inr r)) : ig = .ireturn ∨ ig = .lreturn ∨ ig = .areturn ∨ ig = .return_ := by
  cases ig
  all_goals first
    | exact Or.inl rfl
    | exact Or.inr (Or.inl rfl)
    | exact Or.inr (Or.inr (Or.inl rfl))
    | exact Or.inr (Or.inr (Or.inr rfl))
    | (exfalso; cases hst; done)
    | (exfalso
       simp only [gm_stp, gm_nx, gm_ld, gm_st1, gm_st2, gm_ii, gm_i1, gm_ll, gm_lI, gm_br1, gm_br2, gm_ald, gm_lald, gm_aald, gm_ast, gm_last, gm_aast, gm_gf, gm_pf, gm_cal, gm_sw, gm_mx, gm_mn, gm_ab, gm_mxl] at hst
       (repeat' split at hst) <;> cases hst)
section GMW
variable {p : Program} {l : Launch} {e : Env} {R : Room} {s : State} {m : MethodId} {args : Array Value} {below : List Frame} {meth : Method} {c : Code} {H : Heap} {locs : List Loc} {cells slots : Nat} {Q : State → Prop}
variable {b : Nat} {aK : Nat → Nat} {D : va_G} {cl : List vw_C} {dA : Nat → ClassId} {T : gm_T} {G : List Cond} {h : gm_H} {cc : ByteArray} {pc nL : Nat} {ls : Array Slot} {L : gm_L} {S : List Value} {st : gm_S} {dc ds : Nat}
variable {NW : List (String × Nat × MethodName × String)} {SR : List (String × Nat × Nat × String)} {yn : Nat → MethodName} {bc : Nat → ByteArray} {XP : State → Prop} {own : String} {isI : Bool}
theorem gm_ret {call : Nat → List Value → gm_H → Option gm_R} {j : Nat} {i : gm_I} {v : Option Value} {h' : gm_H} (C : gm_Cx p s m args meth c b aK D cl dA T G NW SR XP own isI cc nL) (hr : meth.sig.returnType = (gm_dat T j).2.1) (hlocks : meth.locks = false) (hd : gm_dc cc pc i.1)
    (hst : gm_stp T call j i pc L S h = some (.inr (v, h'))) (hh : gm_hp b aK D cl dA (gm_al T) h H) (hS : va_S (gm_A b) s.heap H locs) :
    W p l e R s m args below meth c H locs cells slots (MQ below (gm_Qc b aK D cl dA (gm_al T) v h') args s cells slots (gm_A b)) (F0 m pc ls (S.map (gm_tv b aK))) := by
  obtain ⟨hx, hb, hml, hown, hts, hE, hX, hini, hgood, hbs⟩ := C
  obtain ⟨ig, ia, ib⟩ := i
  rcases gm_noret hst with rfl | rfl | rfl | rfl
  · rcases S with _ | ⟨w, r⟩
    · cases hst
    cases w <;> try (cases hst; done)
    rename_i x
    rcases r with _ | ⟨w, r⟩
    · have hst' : (if gm_rok (gm_dat T j).2.1 x = true then some (.inr (some (.int x), h)) else none : Option gm_O) = some (.inr (v, h')) := hst
      by_cases q : gm_rok (gm_dat T j).2.1 x = true
      · rw [if_pos q] at hst'
        cases hst'
        have hq : ∃ ty, (gm_dat T j).2.1 = some ty ∧ narrow ty (.int x) = .int x := by
          generalize (gm_dat T j).2.1 = o at q
          rcases o with _ | ty
          · cases q
          refine ⟨ty, rfl, ?_⟩
          cases ty <;> try (cases q; done)
          · have q' : decide (vp_nar .char x = x) = true := q
            have q2 := of_decide_eq_true q'
            show Value.int (vp_nar .char x) = .int x
            rw [q2]
          · rfl
          · have q' : (decide (x = 0) || decide (x = 1)) = true := q
            simp only [Bool.or_eq_true, decide_eq_true_eq] at q'
            rcases q' with rfl | rfl <;> rfl
        obtain ⟨ty, e1, e2⟩ := hq
        exact W.zret (ty := ty) hx hb (hr.trans e1) e2 (fun t ht hW => ⟨rfl, by rw [ht]; exact hh, hS.F ht⟩) hS.2.2 hd hlocks
      · rw [if_neg q] at hst'; cases hst'
    · cases hst
  · rcases S with _ | ⟨w, r⟩
    · cases hst
    cases w <;> try (cases hst; done)
    rename_i x
    rcases r with _ | ⟨w, r⟩
    · have hst' : (if (gm_dat T j).2.1 = some .long then some (.inr (some (.long x), h)) else none : Option gm_O) = some (.inr (v, h')) := hst
      by_cases q : (gm_dat T j).2.1 = some .long
      · rw [if_pos q] at hst'
        cases hst'
        exact W.lret hx hb (hr.trans q) (fun t ht hW => ⟨rfl, by rw [ht]; exact hh, hS.F ht⟩) hS.2.2 hd hlocks
      · rw [if_neg q] at hst'; cases hst'
    · cases hst
  · rcases S with _ | ⟨w, r⟩
    · cases hst
    cases w <;> try (cases hst; done)
    rename_i x
    rcases r with _ | ⟨w, r⟩
    · have hst' : (match (gm_dat T j).2.1 with
        | some (.object _) => some (.inr (some (.ref x), h))
        | _ => none : Option gm_O) = some (.inr (v, h')) := hst
      generalize hro : (gm_dat T j).2.1 = o at hst'
      rcases o with _ | ty
      · cases hst'
      cases ty <;> try (cases hst'; done)
      rename_i nm
      cases hst'
      exact W.aret (rt := .object nm) hx hb (hr.trans hro) (Or.inl ⟨_, rfl⟩) (Or.inr ⟨_, rfl⟩) (fun t ht hW => ⟨rfl, by rw [ht]; exact hh, hS.F ht⟩) hS.2.2 hd hlocks
    · cases hst
  · rcases S with _ | ⟨w, r⟩
    · have hst' : (if (gm_dat T j).2.1 = none then some (.inr (none, h)) else none : Option gm_O) = some (.inr (v, h')) := hst
      by_cases q : (gm_dat T j).2.1 = none
      · rw [if_pos q] at hst'
        cases hst'
        exact W.vret hx hb (hr.trans q) (fun t ht hW => ⟨rfl, by rw [ht]; exact hh, hS.F ht⟩) hS.2.2 hd hlocks
      · rw [if_neg q] at hst'; cases hst'
    · cases hst
theorem gm_run_W {call : Nat → List Value → gm_H → Option gm_R} {j d : Nat} {v : Option Value} {h' : gm_H} {RC RS : Nat} (C : gm_Cx p s m args meth c b aK D cl dA T G NW SR XP own isI (bc j) nL) (hr : meth.sig.returnType = (gm_dat T j).2.1) (hlocks : meth.locks = false)
    (hcode : ∀ pc i, gm_code T j pc = some i → gm_dc (bc j) pc i.1 ∧ gm_lk cl G NW SR T yn bc own isI pc i) (hfr : d + 1 ≤ R.frames) (hlo : (d + 1) * 64 ≤ R.locals) (hRc : RC ≤ R.cells) (hRs : RS ≤ R.slots)
    (hcall : ∀ j As h r, call j As h = some r → gm_Met l b aK D cl dA T G yn bc (gm_E b aK D cl dA NW SR T XP) d j As h r) :
    ∀ (n : Nat) (st : gm_S) (kc ks : Nat), gm_run T call j n st kc ks = some (v, h', RC, RS) → gm_K p l e R s m args below meth c (MQ below (gm_Qc b aK D cl dA (gm_al T) v h') args s RC RS (gm_A b)) b aK D cl dA T nL st kc ks := by
  intro n
  induction n with
  | zero => intro st kc ks hrun; cases hrun
  | succ n ih =>
    intro st kc ks hrun ls H locs hl hh hS
    have hmono := gm_run_mono _ _ _ _ _ hrun
    unfold gm_run at hrun
    cases hc : gm_code T j st.1 with
    | none => rw [hc] at hrun; cases hrun
    | some i =>
      rw [hc] at hrun
      obtain ⟨hd, hlk⟩ := hcode _ _ hc
      cases hs : gm_stp T call j i st.1 st.2.1 st.2.2.1 st.2.2.2 with
      | none => simp only [hs] at hrun; cases hrun
      | some o =>
        simp only [hs] at hrun
        rcases o with ⟨st', dc, ds⟩ | ⟨v0, h0⟩
        · have hrun' : gm_run T call j n st' (kc + dc) (ks + ds) = some (v, h', RC, RS) := hrun
          have hm2 := gm_run_mono _ _ _ _ _ hrun'
          have hm3 : kc + dc ≤ RC := hm2.1
          have hm4 : ks + ds ≤ RS := hm2.2
          exact gm_next C hd hlk hs hl hh hS (by omega) (by omega) hfr hlo (fun j As r => hcall j As _ r) (ih st' (kc + dc) (ks + ds) hrun')
        · cases hrun
          exact gm_ret C hr hlocks hd hs hh hS
/-- all that the tables must say of a method that is run -/
def gm_mok (cl : List vw_C) (G : List Cond) (NW : List (String × Nat × MethodName × String)) (SR : List (String × Nat × Nat × String)) (T : gm_T) (yn : Nat → MethodName) (bc : Nat → ByteArray) (j : Nat) : Prop :=
  plainName (yn j).cls = true ∧ ∀ pc i, gm_code T j pc = some i → gm_dc (bc j) pc i.1 ∧ gm_lk cl G NW SR T yn bc (yn j).cls (decide ((yn j).name = "<init>")) pc i
theorem gm_sound {prim : Nat → List Value → gm_H → Option gm_R} {n : Nat} (hgood : ∀ w ∈ G, goodWord w = true) (hX : gm_ok b XP) (hok : ∀ j, j < 1000 → gm_code T j 0 ≠ none → gm_mok cl G NW SR T yn bc j)
    (hprim : ∀ d j As h r, 16 ≤ d → 1000 ≤ j → prim j As h = some r → gm_Met l b aK D cl dA T G yn bc (gm_E b aK D cl dA NW SR T XP) (d + 1) j As h r) :
    ∀ (d j : Nat) (As : List Value) (h : gm_H) (r : gm_R), gm_ev T prim n d j As h = some r → gm_Met l b aK D cl dA T G yn bc (gm_E b aK D cl dA NW SR T XP) d j As h r := by
  intro d
  induction d with
  | zero => intro j As h r hev; cases hev
  | succ d ih =>
    intro j As h r hev
    have hev' : (if j < 1000 then (if (gm_ent1 As).length ≤ (gm_dat T j).1 then gm_run T (gm_ev T prim n d) j n (0, gm_ent (gm_dat T j).1 As, [], h) 0 0 else none) else if 16 ≤ d then prim j As h else none) = some r := hev
    by_cases hj : j < 1000
    · rw [if_pos hj] at hev'
      by_cases hlen : (gm_ent1 As).length ≤ (gm_dat T j).1
      · rw [if_pos hlen] at hev'
        have hc0 : gm_code T j 0 ≠ none := by
          intro hc0
          cases n with
          | zero => cases hev'
          | succ n =>
            have hev2 : (match gm_code T j 0 with
              | none => none
              | some i => match gm_stp T (gm_ev T prim (n + 1) d) j i 0 (gm_ent (gm_dat T j).1 As) [] h with
                | none => none
                | some (.inr (v, h)) => some (v, h, 0, 0)
                | some (.inl (s', dc, ds)) => gm_run T (gm_ev T prim (n + 1) d) j n s' (0 + dc) (0 + ds) : Option gm_R) = some r := hev'
            rw [hc0] at hev2
            cases hev2
        obtain ⟨hpl, hcode⟩ := hok j hj hc0
        obtain ⟨v, h', RC, RS⟩ := r
        refine Met.ofW (cc := bc j) (maxL := (gm_dat T j).1) (ret := (gm_dat T j).2.1) hpl rfl ?_
        intro p e s m args below meth c s₁ B hml hv
        obtain ⟨rfl, hhp, hE⟩ := hv
        have hts := atoms_spec (ws := Cond.code (yn j) (bc j) (gm_dat T j).1 (gm_dat T j).2.1 :: G) B.pre
        have C : gm_Cx p s m (As.map (gm_tv b aK)).toArray meth c b aK D cl dA T G NW SR XP (yn j).cls (decide ((yn j).name = "<init>")) (bc j) (gm_dat T j).1 :=
          ⟨B.exec, B.bytes, hml, findClass_of_methodNamed B.named, fun w hw => hts w (List.mem_cons_of_mem _ hw), hE, hX, fun z => (name_of_methodNamed B.named B.method).1.trans (of_decide_eq_true z), hgood, Nat.le_trans (Nat.le_add_right _ _) hhp.1⟩
        have hl := lv_entry (As.map (gm_tv b aK)) (n := (gm_dat T j).1) (by rw [gm_ent1_len]; exact hlen)
        rw [lg_entry_eq]
        generalize (lg_sl (As.map (gm_tv b aK)) ++ List.replicate ((gm_dat T j).1 - (lg_sl (As.map (gm_tv b aK))).length) Slot.unset).toArray = ls at hl ⊢
        have hlh : gm_lh b aK ls (gm_dat T j).1 (gm_ent (gm_dat T j).1 As) := by
          refine ⟨hl.1, hl.2.1, ?_, fun k w hk => ?_⟩
          · unfold gm_ent
            rw [List.length_append, List.length_replicate]
            omega
          · unfold gm_ent at hk
            by_cases hkl : k < (gm_ent1 As).length
            · rw [List.getElem?_append_left hkl] at hk
              have := gm_ent1_args (b := b) (aK := aK) As 0 k w hk
              rw [Nat.zero_add] at this
              exact hl.2.2 _ this
            · rw [List.getElem?_append_right (by omega)] at hk
              have := List.eq_of_mem_replicate (List.mem_of_getElem? hk)
              cases this
        exact gm_run_W (R := gm_rm (d + 1) (v, h', RC, RS)) (d := d) C B.returns B.notSynchronized hcode (Nat.le_refl _) (Nat.le_refl _) (Nat.le_refl _) (Nat.le_refl _) (fun j As h r => ih j As h r) n _ 0 0 hev' ls s.heap [] hlh hhp va_S.rf
      · rw [if_neg hlen] at hev'; cases hev'
    · rw [if_neg hj] at hev'
      by_cases hd : 16 ≤ d
      · rw [if_pos hd] at hev'
        exact hprim d j As h r hd (by omega) hev'
      · rw [if_neg hd] at hev'; cases hev'
end GMW
