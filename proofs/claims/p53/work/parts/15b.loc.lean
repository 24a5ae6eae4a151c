/-! fewer locals known: what runs with them, runs with more -/
def aLe (lv1 lv : ALv) : Prop := (lv1.map (fun q => q.1)).Nodup ∧ ∀ (i : Nat) (v : Value), aGet lv1 i = some v → aGet lv i = some v
theorem aGet_none {i : Nat} : ∀ {lv : ALv}, i ∉ lv.map (fun q => q.1) → aGet lv i = none
  | [], _ => rfl
  | q :: r, h => by
    simp only [List.map_cons, List.mem_cons, not_or] at h
    simp only [aGet, if_neg (Ne.symm h.1)]
    exact aGet_none h.2
theorem aGet_filter {p : Nat × Value → Bool} {i : Nat} {v : Value} (hp : p (i, v) = true) : ∀ {lv : ALv}, aGet lv i = some v → aGet (lv.filter p) i = some v
  | [], h => by cases h
  | q :: r, h => by
    by_cases hq : q.1 = i
    · simp only [aGet, if_pos hq] at h
      cases h
      have hpq : p q = true := by
        obtain ⟨a, b⟩ := q
        dsimp only at hq hp
        subst hq
        exact hp
      simp only [List.filter_cons, hpq, if_true, aGet, if_pos hq]
    · simp only [aGet, if_neg hq] at h
      have ih := aGet_filter hp h
      by_cases hpq : p q = true
      · simp only [List.filter_cons, hpq, if_true, aGet, if_neg hq]
        exact ih
      · simp only [List.filter_cons, hpq]
        exact ih
theorem aGet_of_filter {p : Nat × Value → Bool} {i : Nat} {v : Value} : ∀ {lv : ALv}, (lv.map (fun q => q.1)).Nodup → aGet (lv.filter p) i = some v → aGet lv i = some v ∧ p (i, v) = true
  | [], _, h => by cases h
  | q :: r, hn, h => by
    simp only [List.map_cons, List.nodup_cons] at hn
    by_cases hpq : p q = true
    · simp only [List.filter_cons, hpq, if_true] at h
      by_cases hq : q.1 = i
      · simp only [aGet, if_pos hq] at h ⊢
        cases h
        refine ⟨rfl, ?_⟩
        rw [← hq]
        exact hpq
      · simp only [aGet, if_neg hq] at h ⊢
        exact aGet_of_filter hn.2 h
    · simp only [List.filter_cons, hpq] at h
      obtain ⟨g1, g2⟩ := aGet_of_filter hn.2 h
      by_cases hq : q.1 = i
      · have : aGet r i = none := aGet_none (by rw [← hq]; exact hn.1)
        rw [this] at g1
        cases g1
      · simp only [aGet, if_neg hq]
        exact ⟨g1, g2⟩
theorem nodup_filter {p : Nat × Value → Bool} {lv : ALv} (h : (lv.map (fun q => q.1)).Nodup) : ((lv.filter p).map (fun q => q.1)).Nodup := h.sublist (List.Sublist.map _ List.filter_sublist)
theorem aLe.put {p : Nat × Value → Bool} {lv1 lv : ALv} {i : Nat} {v : Value} (h : aLe lv1 lv) (hp : ∀ w, p (i, w) = false) : aLe ((i, v) :: lv1.filter p) ((i, v) :: lv.filter p) := by
  refine ⟨?_, fun j w hj => ?_⟩
  · simp only [List.map_cons, List.nodup_cons]
    refine ⟨fun hm => ?_, nodup_filter h.1⟩
    obtain ⟨q, hq, hqi⟩ := List.mem_map.mp hm
    have h1 := (List.mem_filter.mp hq).2
    obtain ⟨a, b⟩ := q
    dsimp only at hqi
    subst hqi
    rw [hp b] at h1
    cases h1
  · by_cases hij : i = j
    · simp only [aGet, if_pos hij] at hj ⊢
      exact hj
    · simp only [aGet, if_neg hij] at hj ⊢
      obtain ⟨g1, g2⟩ := aGet_of_filter h.1 hj
      exact aGet_filter g2 (h.2 j w g1)
theorem aLe.put1 {lv1 lv : ALv} {i : Nat} {v : Value} (h : aLe lv1 lv) : aLe (aPut1 lv1 i v) (aPut1 lv i v) := h.put (fun w => by simp)
theorem aLe.put2 {lv1 lv : ALv} {i : Nat} {v : Value} (h : aLe lv1 lv) : aLe (aPut2 lv1 i v) (aPut2 lv i v) := h.put (fun w => by simp)
def aLoc : Instr → Bool
  | .iload_n _ => true
  | .iload _ => true
  | .lload_n _ => true
  | .lload _ => true
  | .aload_n _ => true
  | .aload _ => true
  | .istore_n _ => true
  | .istore _ => true
  | .lstore_n _ => true
  | .lstore _ => true
  | .astore_n _ => true
  | .astore _ => true
  | .iinc _ _ => true
  | _ => false
theorem aLoc_no {kad : Nat → Nat} {y : AMeth} {ins : Instr} {f : AFr} {S : ASt} {mi pc : Nat} {st : List Value} {M : AMem} (h : aLoc ins = true) : aMo y ins f S = none ∧ aEx kad y ins f S = none ∧ aThr ins mi pc st = none ∧ aCall y ins st M = none := by
  unfold aLoc at h
  split at h <;> first | exact ⟨rfl, rfl, rfl, rfl⟩ | cases h
theorem aLd_le {lv1 lv : ALv} (h : aLe lv1 lv) {i n pc : Nat} {st : List Value} {f1 : AFr} :
    (aLdI lv1 i n pc st = some f1 → aLdI lv i n pc st = some (f1.1, (lv, f1.2.2)) ∧ f1.2.1 = lv1) ∧ (aLdL lv1 i n pc st = some f1 → aLdL lv i n pc st = some (f1.1, (lv, f1.2.2)) ∧ f1.2.1 = lv1) ∧ (aLdA lv1 i n pc st = some f1 → aLdA lv i n pc st = some (f1.1, (lv, f1.2.2)) ∧ f1.2.1 = lv1) := by
  refine ⟨fun g => ?_, fun g => ?_, fun g => ?_⟩
  · unfold aLdI at g ⊢
    split at g
    · rename_i x hx
      cases g
      rw [h.2 _ _ hx]
      exact ⟨rfl, rfl⟩
    · cases g
  · unfold aLdL at g ⊢
    split at g
    · rename_i x hx
      cases g
      rw [h.2 _ _ hx]
      exact ⟨rfl, rfl⟩
    · cases g
  · unfold aLdA at g ⊢
    split at g
    · rename_i x hx
      cases g
      rw [h.2 _ _ hx]
      exact ⟨rfl, rfl⟩
    · cases g
theorem aSt_le {lv1 lv : ALv} (h : aLe lv1 lv) {nl i n pc : Nat} {st : List Value} {f1 : AFr} :
    (aStI nl lv1 i n pc st = some f1 → ∃ lv2, aStI nl lv i n pc st = some (f1.1, (lv2, f1.2.2)) ∧ aLe f1.2.1 lv2) ∧ (aStL nl lv1 i n pc st = some f1 → ∃ lv2, aStL nl lv i n pc st = some (f1.1, (lv2, f1.2.2)) ∧ aLe f1.2.1 lv2) ∧ (aStA nl lv1 i n pc st = some f1 → ∃ lv2, aStA nl lv i n pc st = some (f1.1, (lv2, f1.2.2)) ∧ aLe f1.2.1 lv2) := by
  refine ⟨fun g => ?_, fun g => ?_, fun g => ?_⟩
  · unfold aStI at g ⊢
    split at g
    · split at g
      · cases g
        exact ⟨_, by first | rfl | simp_all, h.put1⟩
      · cases g
    · cases g
  · unfold aStL at g ⊢
    split at g
    · split at g
      · cases g
        exact ⟨_, by first | rfl | simp_all, h.put2⟩
      · cases g
    · cases g
  · unfold aStA at g ⊢
    split at g
    · split at g
      · cases g
        exact ⟨_, by first | rfl | simp_all, h.put1⟩
      · cases g
    · cases g
theorem aInc_le {lv1 lv : ALv} (h : aLe lv1 lv) {nl i pc : Nat} {d : Int} {st : List Value} {f1 : AFr} (g : aInc nl lv1 i d pc st = some f1) : ∃ lv2, aInc nl lv i d pc st = some (f1.1, (lv2, f1.2.2)) ∧ aLe f1.2.1 lv2 := by
  unfold aInc at g ⊢
  split at g
  · rename_i x hx
    split at g
    · rename_i hi
      cases g
      rw [h.2 _ _ hx]
      exact ⟨_, by simp only [if_pos hi], h.put1⟩
    · cases g
  · cases g
theorem aOp_le1 {lv1 lv : ALv} (h : aLe lv1 lv) {nl pc : Nat} {ins : Instr} {st : List Value} {f1 : AFr} (hl : aLoc ins = true) (g : aOp nl ins pc lv1 st = some f1) : ∃ lv2, aOp nl ins pc lv st = some (f1.1, (lv2, f1.2.2)) ∧ aLe f1.2.1 lv2 := by
  unfold aLoc at hl
  split at hl
  · obtain ⟨g1, g2⟩ := (aLd_le h).1 g; exact ⟨lv, g1, by rw [g2]; exact h⟩
  · obtain ⟨g1, g2⟩ := (aLd_le h).1 g; exact ⟨lv, g1, by rw [g2]; exact h⟩
  · obtain ⟨g1, g2⟩ := (aLd_le h).2.1 g; exact ⟨lv, g1, by rw [g2]; exact h⟩
  · obtain ⟨g1, g2⟩ := (aLd_le h).2.1 g; exact ⟨lv, g1, by rw [g2]; exact h⟩
  · obtain ⟨g1, g2⟩ := (aLd_le h).2.2 g; exact ⟨lv, g1, by rw [g2]; exact h⟩
  · obtain ⟨g1, g2⟩ := (aLd_le h).2.2 g; exact ⟨lv, g1, by rw [g2]; exact h⟩
  · exact (aSt_le h).1 g
  · exact (aSt_le h).1 g
  · exact (aSt_le h).2.1 g
  · exact (aSt_le h).2.1 g
  · exact (aSt_le h).2.2 g
  · exact (aSt_le h).2.2 g
  · exact aInc_le h g
  · cases hl
def aRel (lv : ALv) (f : AFr) : AFr := (f.1, (lv, f.2.2))
theorem aJ_rel {lv1 lv : ALv} {pc : Nat} {off : Int} {st : List Value} : aJump pc off lv st = (aJump pc off lv1 st).map (aRel lv) := by
  unfold aJump; split <;> rfl
theorem aIf_rel {lv1 lv : ALv} {c : Bool} {pc : Nat} {off : Int} {st : List Value} : aIf c pc off lv st = (aIf c pc off lv1 st).map (aRel lv) := by
  unfold aIf; split
  · split <;> rfl
  · rfl
theorem aTab_rel {lv1 lv : ALv} {a b c : Int} {o : Array Int} {pc : Nat} {x : Int32} {st : List Value} : aTab a b c o pc lv x st = (aTab a b c o pc lv1 x st).map (aRel lv) := by
  unfold aTab
  split
  · exact aJ_rel
  · split
    · exact aJ_rel
    · split
      · exact aJ_rel
      · rfl
theorem aOp_rel {lv1 lv : ALv} {nl pc : Nat} {ins : Instr} {st : List Value} (hl : aLoc ins = false) : aOp nl ins pc lv st = (aOp nl ins pc lv1 st).map (aRel lv) := by
  unfold aOp
  split <;> first
    | rfl
    | (cases hl; done)
    | exact aJ_rel
    | (unfold aS2; split <;> first | rfl | exact aIf_rel | (dsimp only; split <;> rfl))
    | (unfold aS1; split <;> first | rfl | exact aIf_rel | exact aTab_rel | (split <;> rfl))
    | (unfold aS2L; split <;> first | rfl | (dsimp only; split <;> rfl))
    | (unfold aS1L; split <;> first | rfl | (split <;> rfl))
    | (unfold aSLI; split <;> first | rfl | (split <;> rfl))
    | (unfold aSA; split <;> first | rfl | exact aIf_rel)
    | (unfold aDup; split <;> first | rfl | (split <;> rfl))
    | (unfold aPop; split <;> first | rfl | (split <;> rfl))
    | (unfold aDup2; split <;> first | rfl | (split <;> rfl))
theorem aMo_rel {lv1 lv : ALv} {y : AMeth} {ins : Instr} {pc : Nat} {st : List Value} {S : ASt} : aMo y ins (pc, (lv, st)) S = (aMo y ins (pc, (lv1, st)) S).map (fun z => (aRel lv z.1, z.2)) := by
  unfold aMo aGf aPf aAl aAs aLn aKo aKl
  dsimp only
  repeat' first | rfl | split
theorem aEx_rel {lv1 lv : ALv} {kad : Nat → Nat} {y : AMeth} {ins : Instr} {pc : Nat} {st : List Value} {S : ASt} : aEx kad y ins (pc, (lv, st)) S = (aEx kad y ins (pc, (lv1, st)) S).map (fun z => (aRel lv z.1, z.2)) := by
  unfold aEx aMx aCp aMnn aNa aNa1
  dsimp only
  repeat' first | rfl | split
theorem aRun_le (kad : Nat → Nat) : ∀ (n d mi pc : Nat) (lv1 lv : ALv) (st : List Value) (S : ASt) (x : ARes × ASt), aRun kad n d mi (pc, (lv1, st)) S = some x → aLe lv1 lv → aRun kad n d mi (pc, (lv, st)) S = some x := by
  intro n
  induction n with
  | zero => intro d mi pc lv1 lv st S x h; cases h
  | succ n ih =>
    intro d mi pc lv1 lv st S x h hle
    unfold aRun at h ⊢
    cases hy : aMS[mi]? with
    | none => rw [hy] at h; cases h
    | some y =>
      rw [hy] at h
      dsimp only at h ⊢
      cases hq : aFind (aPs y) pc with
      | none => rw [hq] at h; cases h
      | some q =>
        rw [hq] at h
        dsimp only at h ⊢
        cases hr : aRet (aRt y) q.1 st with
        | some v => rw [hr] at h; exact h
        | none =>
          rw [hr] at h
          dsimp only at h ⊢
          cases hloc : aLoc q.1 with
          | true =>
            obtain ⟨n1, n2, n3, n4⟩ := aLoc_no (kad := kad) (y := y) (f := (pc, (lv1, st))) (S := S) (mi := mi) (pc := pc) (st := st) (M := S.1) hloc
            cases ho : aOp (aNl y) q.1 pc lv1 st with
            | none =>
              have n5 : aHcl y q.1 st = none := by
                unfold aHcl
                split
                · rename_i ix hi
                  rw [hi] at hloc
                  cases hloc
                · rfl
              rw [ho, n1, n2, n3, n4] at h
              dsimp only at h
              rw [n5] at h
              cases h
            | some f1 =>
              rw [ho] at h
              dsimp only at h
              obtain ⟨lv2, g1, g2⟩ := aOp_le1 hle hloc ho
              rw [g1]
              exact ih d mi f1.1 f1.2.1 lv2 f1.2.2 S x h g2
          | false =>
            rw [aOp_rel (lv1 := lv1) hloc, aMo_rel (lv1 := lv1), aEx_rel (lv1 := lv1)]
            cases ho : aOp (aNl y) q.1 pc lv1 st with
            | some f1 =>
              rw [ho] at h
              dsimp only at h
              have hf1 : f1.2.1 = lv1 := by
                have := aOp_rel (lv1 := lv1) (lv := lv1) (nl := aNl y) (pc := pc) (st := st) hloc
                rw [ho] at this
                have := Option.some.inj this
                rw [this]
                rfl
              refine ih d mi f1.1 f1.2.1 lv f1.2.2 S x h ?_
              rw [hf1]
              exact hle
            | none =>
              rw [ho] at h
              dsimp only at h
              simp only [Option.map_none]
              cases hm : aMo y q.1 (pc, (lv1, st)) S with
              | some z =>
                rw [hm] at h
                dsimp only at h
                have hf1 : z.1.2.1 = lv1 := by
                  have := aMo_rel (lv1 := lv1) (lv := lv1) (y := y) (ins := q.1) (pc := pc) (st := st) (S := S)
                  rw [hm] at this
                  have := Option.some.inj this
                  rw [this]
                  rfl
                refine ih d mi z.1.1 z.1.2.1 lv z.1.2.2 z.2 x h ?_
                rw [hf1]
                exact hle
              | none =>
                rw [hm] at h
                dsimp only at h
                simp only [Option.map_none]
                cases he : aEx kad y q.1 (pc, (lv1, st)) S with
                | some z =>
                  rw [he] at h
                  dsimp only at h
                  have hf1 : z.1.2.1 = lv1 := by
                    have := aEx_rel (lv1 := lv1) (lv := lv1) (kad := kad) (y := y) (ins := q.1) (pc := pc) (st := st) (S := S)
                    rw [he] at this
                    have := Option.some.inj this
                    rw [this]
                    rfl
                  refine ih d mi z.1.1 z.1.2.1 lv z.1.2.2 z.2 x h ?_
                  rw [hf1]
                  exact hle
                | none =>
                  rw [he] at h
                  dsimp only at h
                  simp only [Option.map_none]
                  cases ht : aThr q.1 mi pc st with
                  | some E => rw [ht] at h; exact h
                  | none =>
                    rw [ht] at h
                    dsimp only at h
                    cases hc : aCall y q.1 st S.1 with
                    | none =>
                      rw [hc] at h
                      dsimp only at h
                      try dsimp only
                      cases hl : aHcl y q.1 st with
                      | none => rw [hl] at h; cases h
                      | some c =>
                        rw [hl] at h
                        dsimp only at h
                        try dsimp only
                        cases hw : aHca c.1 c.2.1 S.1 with
                        | none => rw [hw] at h; cases h
                        | some w =>
                          rw [hw] at h
                          dsimp only at h
                          try dsimp only
                          cases d with
                          | zero => cases h
                          | succ d1 =>
                            cases d1 with
                            | zero => cases h
                            | succ d2 =>
                              dsimp only at h
                              try dsimp only
                              cases hrun : aRun kad n d2 w.1 (0, (lv_args 0 w.2.1, [])) S with
                              | none => rw [hrun] at h; cases h
                              | some u =>
                                rw [hrun] at h
                                dsimp only at h
                                try rw [hrun]
                                try dsimp only
                                cases hre : aHre c.1 c.2.1 w.2.2 u.1 with
                                | none => rw [hre] at h; cases h
                                | some x1 =>
                                  rw [hre] at h
                                  dsimp only at h
                                  try rw [hre]
                                  exact ih (d2 + 2) mi (pc + 3) lv1 lv _ u.2 x h hle
                    | some c =>
                      rw [hc] at h
                      dsimp only at h
                      cases d with
                      | zero => cases h
                      | succ d1 =>
                        dsimp only at h
                        cases hrun : aRun kad n d1 c.1 (0, (lv_args 0 c.2.2.1, [])) S with
                        | none => rw [hrun] at h; cases h
                        | some w =>
                          rw [hrun] at h
                          dsimp only
                          rw [hrun]
                          obtain ⟨r, S1⟩ := w
                          cases r with
                          | inl v => exact ih (d1 + 1) mi (pc + 3) lv1 lv _ S1 x h hle
                          | inr E => exact h
theorem go_le {kad : Nat → Nat} {d mi pc : Nat} {lv1 lv : ALv} {st : List Value} {S : ASt} {Q : ARes → ASt → Prop} (hle : aLe lv1 lv) (h : aGo kad d mi (pc, (lv1, st)) S Q) : aGo kad d mi (pc, (lv, st)) S Q := by
  obtain ⟨n, r, S1, h1, h2⟩ := h
  exact ⟨n, r, S1, aRun_le kad n d mi pc lv1 lv st S _ h1 hle, h2⟩
/-- a list of locals out of another by lookups -/
def aSubL (lv1 lv : ALv) : Prop := ∀ q ∈ lv1, aGet lv q.1 = some q.2
theorem aLe_of {lv1 lv : ALv} (hn : (lv1.map (fun q => q.1)).Nodup) (h : aSubL lv1 lv) : aLe lv1 lv := ⟨hn, fun i v hi => h (i, v) (aGet_mem hi)⟩
theorem aSubL_nil {lv : ALv} : aSubL [] lv := fun _ h => absurd h List.not_mem_nil
theorem aSubL_cons {lv1 lv : ALv} {i : Nat} {v : Value} (h : aGet lv i = some v) (t : aSubL lv1 lv) : aSubL ((i, v) :: lv1) lv := fun q hq => by
  rcases List.mem_cons.mp hq with rfl | hq
  · exact h
  · exact t q hq
