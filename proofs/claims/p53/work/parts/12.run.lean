/-! instructions that touch cells, as a function -/
abbrev aOc (y : AMeth) : Nat := y.2.2.2.2.1
abbrev aNl (y : AMeth) : Nat := y.2.2.1
abbrev aRt (y : AMeth) : Option FieldType := y.2.2.2.1
abbrev aPs (y : AMeth) : List (Nat × (Instr × Nat)) := y.2.2.2.2.2
def aFitB : FieldType → Value → Bool
  | .int, .int _ => true
  | .boolean, .int x => decide (x = 0) || decide (x = 1)
  | .object _, .ref _ => true
  | .array _, .ref _ => true
  | _, _ => false
theorem aFitB_ok {ty : FieldType} {v : Value} (h : aFitB ty v = true) : narrow ty v = v ∧ fits ty v = true := by
  unfold aFitB at h
  split at h
  · exact ⟨rfl, rfl⟩
  · simp only [Bool.or_eq_true, decide_eq_true_eq] at h
    rcases h with rfl | rfl <;> exact ⟨by decide +kernel, by decide +kernel⟩
  · exact ⟨rfl, rfl⟩
  · exact ⟨rfl, rfl⟩
  · cases h
def aFin (ci k : Nat) : Bool := match vwCl[ci]? with
  | some (_, T, _) => (T k).2.2.2
  | none => true
def aOwn (ci : Nat) : String := match vwCl[ci]? with
  | some (C, _, _) => C
  | none => ""
def aGf (y : AMeth) (idx : Nat) (f : AFr) (S : ASt) : Option (AFr × ASt) := match f.2.2 with
  | .ref a :: r => match S.1 a with
    | some e => match aFind (aFT (aOc y)) idx with
      | some q => if e.1 = q.1 then some ((f.1 + 3, (f.2.1, e.2.2 q.2.1 :: r)), S) else none
      | none => none
    | none => none
  | _ => none
def aPf (y : AMeth) (idx : Nat) (f : AFr) (S : ASt) : Option (AFr × ASt) := match f.2.2 with
  | v :: .ref a :: r => match S.1 a with
    | some e => match aFind (aFT (aOc y)) idx with
      | some q => if e.1 = q.1 ∧ aFitB (aTyF q.1 q.2.1) v = true ∧ (aFin q.1 q.2.1 = false ∨ (y.1.name = "<init>" ∧ aOwn q.1 = y.1.cls)) then some ((f.1 + 3, (f.2.1, r)), (aMw S.1 a (q.1, (e.2.1, updV e.2.2 q.2.1 v)), S.2)) else none
      | none => none
    | none => none
  | _ => none
def aAl (k0 k1 : Nat) (f : AFr) (S : ASt) : Option (AFr × ASt) := match f.2.2 with
  | .int i :: .ref a :: r => match S.1 a with
    | some e => if k0 ≤ e.1 ∧ e.1 ≤ k1 ∧ ¬ (i < 0 ∨ e.2.1 ≤ i.toNatClampNeg) then some ((f.1 + 1, (f.2.1, e.2.2 i.toNatClampNeg :: r)), S) else none
    | none => none
  | _ => none
def aAs (k0 : Nat) (f : AFr) (S : ASt) : Option (AFr × ASt) := match f.2.2 with
  | .int x :: .int i :: .ref a :: r => match S.1 a with
    | some e => if e.1 = k0 ∧ ¬ (i < 0 ∨ e.2.1 ≤ i.toNatClampNeg) ∧ (k0 = 101 → aFitB .boolean (.int x) = true) then some ((f.1 + 1, (f.2.1, r)), (aMw S.1 a (e.1, (e.2.1, updV e.2.2 i.toNatClampNeg (.int x))), S.2)) else none
    | none => none
  | _ => none
def aLn (f : AFr) (S : ASt) : Option (AFr × ASt) := match f.2.2 with
  | .ref a :: r => match S.1 a with
    | some e => if 100 ≤ e.1 ∧ e.1 ≤ 105 then some ((f.1 + 1, (f.2.1, .int (Int32.ofNat e.2.1) :: r)), S) else none
    | none => none
  | _ => none
def aKo (y : AMeth) (idx w : Nat) (f : AFr) (S : ASt) : Option (AFr × ASt) := match aFind (aKT (aOc y)) idx with
  | some q => some ((f.1 + w, (f.2.1, .int (Int32.ofInt q.1) :: f.2.2)), S)
  | none => none
def aKl (y : AMeth) (idx : Nat) (f : AFr) (S : ASt) : Option (AFr × ASt) := match aFind (aLT (aOc y)) idx with
  | some q => some ((f.1 + 3, (f.2.1, .long (Int64.ofInt q.1) :: f.2.2)), S)
  | none => none
def aMo (y : AMeth) (ins : Instr) (f : AFr) (S : ASt) : Option (AFr × ASt) := match ins with
  | .getfield idx => aGf y idx f S
  | .putfield idx => aPf y idx f S
  | .iaload => aAl 100 100 f S
  | .baload => aAl 101 101 f S
  | .aaload => aAl 103 105 f S
  | .iastore => aAs 100 f S
  | .bastore => aAs 101 f S
  | .arraylength => aLn f S
  | .ldc idx => aKo y idx 2 f S
  | .ldc_w idx => aKo y idx 3 f S
  | .ldc2_w idx => aKl y idx f S
  | _ => none
def aRet (rt : Option FieldType) (ins : Instr) (st : List Value) : Option (Option Value) := match ins with
  | .return_ => match st, rt with
    | [], none => some none
    | _, _ => none
  | .ireturn => match st, rt with
    | [.int v], some t => if narrow t (.int v) = .int v then some (some (.int v)) else none
    | _, _ => none
  | .lreturn => match st, rt with
    | [.long v], some .long => some (some (.long v))
    | _, _ => none
  | .areturn => match st, rt with
    | [.ref a], some (.object _) => some (some (.ref a))
    | _, _ => none
  | _ => none
/-- the callee, how it is called, its arguments, what stays on the stack -/
def aCall (y : AMeth) (ins : Instr) (st : List Value) (M : AMem) : Option (Nat × (Nat × (List Value × List Value))) := match ins with
  | .invokevirtual idx => match aFind (aCT (aOc y)) idx with
    | some q => if q.1 = 0 then match st.drop q.2.2.1 with
        | .ref a :: r => match M a, aMS[q.2.1]? with
          | some e, some z => if (e.1 = aOc z ∧ e.1 < 11) ∧ (st.take q.2.2.1).length = q.2.2.1 ∧ (r.map fun v => v.category).sum ≤ 8 ∧ (lg_sl (.ref a :: (st.take q.2.2.1).reverse)).length ≤ aNl z then some (q.2.1, (0, (.ref a :: (st.take q.2.2.1).reverse, r))) else none
          | _, _ => none
        | _ => none
      else none
    | none => none
  | .invokestatic idx => match aFind (aCT (aOc y)) idx with
    | some q => if q.1 = 1 then match aMS[q.2.1]? with
        | some z => if (st.take q.2.2.1).length = q.2.2.1 ∧ ((st.drop q.2.2.1).map fun v => v.category).sum ≤ 8 ∧ (lg_sl (st.take q.2.2.1).reverse).length ≤ aNl z then some (q.2.1, (1, ((st.take q.2.2.1).reverse, st.drop q.2.2.1))) else none
        | none => none
      else none
    | none => none
  | _ => none
section AMO
variable {p : Program} {l : Launch} {e : Env} {R : Room} {s : State} {m : MethodId} {args : Array Value} {below : List Frame} {meth : Method} {c : Code} {D : AG} {A : Nat → Prop} {Q : State → Prop} {H : Heap} {locs : List Loc} {ls : Array Slot} {cells slots : Nat} {y : AMeth} {ins : Instr} {f f1 : AFr} {S S1 : ASt} {len : Nat}
theorem aCn_ci {ci : Nat} {C : String} {T : u_T} {N : Nat} (h : vwCl[ci]? = some (C, T, N)) : aCn[ci]? = some C := by
  match ci, h with
  | 0, h => cases h; rfl
  | 1, h => cases h; rfl
  | 2, h => cases h; rfl
  | 3, h => cases h; rfl
  | 4, h => cases h; rfl
  | 5, h => cases h; rfl
  | 6, h => cases h; rfl
  | 7, h => cases h; rfl
  | 8, h => cases h; rfl
  | 9, h => cases h; rfl
  | 10, h => cases h; rfl
  | n + 11, h => cases h
/-- what comes behind an instruction that touches cells -/
abbrev aKM (p : Program) (l : Launch) (e : Env) (R : Room) (s : State) (m : MethodId) (args : Array Value) (below : List Frame) (meth : Method) (c : Code) (D : AG) (A : Nat → Prop) (Q : State → Prop) (cells slots : Nat) (f1 : AFr) (S1 : ASt) : Prop := ∀ (H1 : Heap) (locs1 : List Loc) (ls1 : Array Slot), aR D A s.heap S1 H1 locs1 → lv_has ls1 c.maxLocals f1.2.1 → W p l e R s m args below meth c H1 locs1 cells slots Q (F0 m f1.1 ls1 f1.2.2)
theorem aGf_ok {idx : Nat} (X0 : aCtx p l R s m args meth c D A y.1.cls y.2.1) (hy : aCn[aOc y]? = some y.1.cls) (hR : aR D A s.heap S H locs) (hl : lv_has ls c.maxLocals f.2.1) (hd : decode y.2.1 f.1 = .ok (.getfield idx, 3)) (h : aGf y idx f S = some (f1, S1))
    (k : aKM p l e R s m args below meth c D A Q cells slots f1 S1) : W p l e R s m args below meth c H locs cells slots Q (F0 m f.1 ls f.2.2) := by
  obtain ⟨pc, lv, st⟩ := f
  obtain ⟨hx, hb, hown, hts, hKn, hKF, hA, -⟩ := X0
  unfold aGf at h
  split at h
  · rename_i a r hst
    split at h
    · rename_i ent hent
      split at h
      · rename_i q hq
        split at h
        · rename_i he
          obtain ⟨ci, kk, i⟩ := q
          obtain ⟨C, T, N, h1, h2, h3, h4⟩ := aFT_spec hq hy
          obtain ⟨g1, g2, g3, g4⟩ := aCl ci C T N h1
          cases h
          dsimp only at hst he ⊢
          subst hst
          exact am_getf hx hb hts hown hKn h1 h2 g4 h4 h3 g1 (hR.1 a ent hent) he hd (k H locs ls hR hl)
        · cases h
      · cases h
    · cases h
  · cases h
theorem aPf_ok {idx : Nat} (X0 : aCtx p l R s m args meth c D A y.1.cls y.2.1) (hy : aCn[aOc y]? = some y.1.cls) (hnm : meth.name = y.1.name) (hR : aR D A s.heap S H locs) (hl : lv_has ls c.maxLocals f.2.1) (hd : decode y.2.1 f.1 = .ok (.putfield idx, 3)) (h : aPf y idx f S = some (f1, S1))
    (k : aKM p l e R s m args below meth c D A Q cells slots f1 S1) : W p l e R s m args below meth c H locs cells slots Q (F0 m f.1 ls f.2.2) := by
  obtain ⟨pc, lv, st⟩ := f
  obtain ⟨M, z, cs, ss⟩ := S
  obtain ⟨hx, hb, hown, hts, hKn, hKF, hA, -⟩ := X0
  unfold aPf at h
  split at h
  · rename_i v a r hst
    split at h
    · rename_i ent hent
      split at h
      · rename_i q hq
        split at h
        · rename_i he
          obtain ⟨ci, kk, i⟩ := q
          obtain ⟨C, T, N, h1, h2, h3, h4⟩ := aFT_spec hq hy
          obtain ⟨g1, g2, g3, g4⟩ := aCl ci C T N h1
          obtain ⟨e1, e2, e3⟩ := he
          obtain ⟨n1, n2⟩ := aFitB_ok e2
          have hfin : (T kk).2.2.2 = false ∨ (meth.name = "<init>" ∧ C = y.1.cls) := by
            rcases e3 with e3 | ⟨e3, e4⟩
            · left
              have : aFin ci kk = (T kk).2.2.2 := by unfold aFin; rw [h1]
              rw [← this]; exact e3
            · right
              have : aOwn ci = C := by unfold aOwn; rw [h1]
              exact ⟨hnm.trans e3, by rw [← this]; exact e4⟩
          cases h
          dsimp only at hst e1 hent ⊢
          subst hst
          exact am_putf (cells := cells) (slots := slots) hx hb hts hown hKn h1 h2 g4 h4 h3 g1 (aTyF ci) g2 g3 hfin n1 n2 (M := M) (z := z) ⟨hR.1, hR.2.1, hR.2.2.1, hR.2.2.2⟩ hent e1 hd (fun H1 locs1 hR1 => k H1 locs1 ls ⟨hR1.1, hR1.2.1, hR1.2.2.1, hR1.2.2.2⟩ hl)
        · cases h
      · cases h
    · cases h
  · cases h
theorem aAl_ok {k0 k1 : Nat} (X0 : aCtx p l R s m args meth c D A y.1.cls y.2.1) (hi : (ins = .iaload ∧ k0 = 100 ∧ k1 = 100) ∨ (ins = .baload ∧ k0 = 101 ∧ k1 = 101) ∨ (ins = .aaload ∧ k0 = 103 ∧ k1 = 105)) (hR : aR D A s.heap S H locs) (hl : lv_has ls c.maxLocals f.2.1) (hd : decode y.2.1 f.1 = .ok (ins, 1)) (h : aAl k0 k1 f S = some (f1, S1))
    (k : aKM p l e R s m args below meth c D A Q cells slots f1 S1) : W p l e R s m args below meth c H locs cells slots Q (F0 m f.1 ls f.2.2) := by
  obtain ⟨pc, lv, st⟩ := f
  obtain ⟨hx, hb, hown, hts, hKn, hKF, hA, -⟩ := X0
  unfold aAl at h
  split at h
  · rename_i i a r hst
    split at h
    · rename_i ent hent
      split at h
      · rename_i he
        cases h
        dsimp only at hst ⊢
        subst hst
        obtain ⟨e1, e2, e3⟩ := he
        refine am_ald hx hb hKn (hR.1 a ent hent) e3 ?_ hd (k H locs ls hR hl)
        rcases hi with ⟨rfl, rfl, rfl⟩ | ⟨rfl, rfl, rfl⟩ | ⟨rfl, rfl, rfl⟩
        · exact Or.inl ⟨rfl, by omega⟩
        · exact Or.inr (Or.inl ⟨rfl, by omega⟩)
        · exact Or.inr (Or.inr ⟨rfl, e1, e2⟩)
      · cases h
    · cases h
  · cases h
theorem aAs_ok {k0 : Nat} (X0 : aCtx p l R s m args meth c D A y.1.cls y.2.1) (hi : (ins = .iastore ∧ k0 = 100) ∨ (ins = .bastore ∧ k0 = 101)) (hR : aR D A s.heap S H locs) (hl : lv_has ls c.maxLocals f.2.1) (hd : decode y.2.1 f.1 = .ok (ins, 1)) (h : aAs k0 f S = some (f1, S1))
    (k : aKM p l e R s m args below meth c D A Q cells slots f1 S1) : W p l e R s m args below meth c H locs cells slots Q (F0 m f.1 ls f.2.2) := by
  obtain ⟨pc, lv, st⟩ := f
  obtain ⟨M, z, cs, ss⟩ := S
  obtain ⟨hx, hb, hown, hts, hKn, hKF, hA, -⟩ := X0
  unfold aAs at h
  split at h
  · rename_i x i a r hst
    split at h
    · rename_i ent hent
      split at h
      · rename_i he
        cases h
        dsimp only at hst hent ⊢
        subst hst
        obtain ⟨e1, e2, e3⟩ := he
        refine am_ast (cells := cells) (slots := slots) (M := M) (z := z) hx hb hKn ⟨hR.1, hR.2.1, hR.2.2.1, hR.2.2.2⟩ hent e2 ?_ hd (fun H1 locs1 hR1 => k H1 locs1 ls ⟨hR1.1, hR1.2.1, hR1.2.2.1, hR1.2.2.2⟩ hl)
        rcases hi with ⟨rfl, rfl⟩ | ⟨rfl, rfl⟩
        · exact Or.inl ⟨rfl, e1⟩
        · exact Or.inr ⟨rfl, e1, (aFitB_ok (e3 rfl)).1⟩
      · cases h
    · cases h
  · cases h
theorem aLn_ok (X0 : aCtx p l R s m args meth c D A y.1.cls y.2.1) (hR : aR D A s.heap S H locs) (hl : lv_has ls c.maxLocals f.2.1) (hd : decode y.2.1 f.1 = .ok (.arraylength, 1)) (h : aLn f S = some (f1, S1))
    (k : aKM p l e R s m args below meth c D A Q cells slots f1 S1) : W p l e R s m args below meth c H locs cells slots Q (F0 m f.1 ls f.2.2) := by
  obtain ⟨pc, lv, st⟩ := f
  obtain ⟨hx, hb, hown, hts, hKn, hKF, hA, -⟩ := X0
  unfold aLn at h
  split at h
  · rename_i a r hst
    split at h
    · rename_i ent hent
      split at h
      · rename_i he
        cases h
        dsimp only at hst ⊢
        subst hst
        exact am_alen hx hb hKn (hR.1 a ent hent) he.1 he.2 hd (k H locs ls hR hl)
      · cases h
    · cases h
  · cases h
theorem aKT_spec {oc idx i : Nat} {v : Int} {own : String} (h : aFind (aKT oc) idx = some (v, i)) (ho : aCn[oc]? = some own) : Cond.constant own idx (Int32.ofInt v) ∈ aTB := by
  have h1 := List.all_eq_true.mp (aKT_ok oc) _ (aFind_mem h)
  unfold aKchk at h1
  rw [ho] at h1
  simp only [Bool.and_eq_true, decide_eq_true_eq] at h1
  exact aTB_in i h1.1 h1.2
theorem aLT_spec {oc idx i : Nat} {v : Int} {own : String} (h : aFind (aLT oc) idx = some (v, i)) (ho : aCn[oc]? = some own) : Cond.constantLong own idx (Int64.ofInt v) ∈ aTB := by
  have h1 := List.all_eq_true.mp (aLT_ok oc) _ (aFind_mem h)
  unfold aLchk at h1
  rw [ho] at h1
  simp only [Bool.and_eq_true, decide_eq_true_eq] at h1
  exact aTB_in i h1.1 h1.2
theorem aKo_ok {idx w : Nat} (X0 : aCtx p l R s m args meth c D A y.1.cls y.2.1) (hy : aCn[aOc y]? = some y.1.cls) (hi : (ins = .ldc idx ∧ w = 2) ∨ (ins = .ldc_w idx ∧ w = 3)) (hR : aR D A s.heap S H locs) (hl : lv_has ls c.maxLocals f.2.1) (hd : decode y.2.1 f.1 = .ok (ins, w)) (h : aKo y idx w f S = some (f1, S1))
    (k : aKM p l e R s m args below meth c D A Q cells slots f1 S1) : W p l e R s m args below meth c H locs cells slots Q (F0 m f.1 ls f.2.2) := by
  obtain ⟨pc, lv, st⟩ := f
  obtain ⟨hx, hb, hown, hts, hKn, hKF, hA, -⟩ := X0
  unfold aKo at h
  split at h
  · rename_i q hq
    obtain ⟨v, i⟩ := q
    cases h
    have hw := hts _ (aKT_spec hq hy)
    rcases hi with ⟨rfl, rfl⟩ | ⟨rfl, rfl⟩
    · exact lv_ldc hx hb hown hw hd (k H locs ls hR hl)
    · exact lv_ldcw hx hb hown hw hd (k H locs ls hR hl)
  · cases h
theorem aKl_ok {idx : Nat} (X0 : aCtx p l R s m args meth c D A y.1.cls y.2.1) (hy : aCn[aOc y]? = some y.1.cls) (hR : aR D A s.heap S H locs) (hl : lv_has ls c.maxLocals f.2.1) (hd : decode y.2.1 f.1 = .ok (.ldc2_w idx, 3)) (h : aKl y idx f S = some (f1, S1))
    (k : aKM p l e R s m args below meth c D A Q cells slots f1 S1) : W p l e R s m args below meth c H locs cells slots Q (F0 m f.1 ls f.2.2) := by
  obtain ⟨pc, lv, st⟩ := f
  obtain ⟨hx, hb, hown, hts, hKn, hKF, hA, -⟩ := X0
  unfold aKl at h
  split at h
  · rename_i q hq
    obtain ⟨v, i⟩ := q
    cases h
    exact lv_ldc2 hx hb hown (hts _ (aLT_spec hq hy)) hd (k H locs ls hR hl)
  · cases h
theorem aMo_ok (X0 : aCtx p l R s m args meth c D A y.1.cls y.2.1) (hy : aCn[aOc y]? = some y.1.cls) (hnm : meth.name = y.1.name) (hR : aR D A s.heap S H locs) (hl : lv_has ls c.maxLocals f.2.1) (hd : decode y.2.1 f.1 = .ok (ins, len)) (hn : aLen ins = 0 ∨ len = aLen ins) (h : aMo y ins f S = some (f1, S1))
    (k : aKM p l e R s m args below meth c D A Q cells slots f1 S1) : W p l e R s m args below meth c H locs cells slots Q (F0 m f.1 ls f.2.2) := by
  unfold aMo at h
  split at h
  · rcases hn with hn | rfl
    · exact absurd hn (by simp [aLen])
    · exact aGf_ok X0 hy hR hl hd h k
  · rcases hn with hn | rfl
    · exact absurd hn (by simp [aLen])
    · exact aPf_ok X0 hy hnm hR hl hd h k
  · rcases hn with hn | rfl
    · exact absurd hn (by simp [aLen])
    · exact aAl_ok X0 (Or.inl ⟨rfl, rfl, rfl⟩) hR hl hd h k
  · rcases hn with hn | rfl
    · exact absurd hn (by simp [aLen])
    · exact aAl_ok X0 (Or.inr (Or.inl ⟨rfl, rfl, rfl⟩)) hR hl hd h k
  · rcases hn with hn | rfl
    · exact absurd hn (by simp [aLen])
    · exact aAl_ok X0 (Or.inr (Or.inr ⟨rfl, rfl, rfl⟩)) hR hl hd h k
  · rcases hn with hn | rfl
    · exact absurd hn (by simp [aLen])
    · exact aAs_ok X0 (Or.inl ⟨rfl, rfl⟩) hR hl hd h k
  · rcases hn with hn | rfl
    · exact absurd hn (by simp [aLen])
    · exact aAs_ok X0 (Or.inr ⟨rfl, rfl⟩) hR hl hd h k
  · rcases hn with hn | rfl
    · exact absurd hn (by simp [aLen])
    · exact aLn_ok X0 hR hl hd h k
  · rcases hn with hn | rfl
    · exact absurd hn (by simp [aLen])
    · exact aKo_ok X0 hy (Or.inl ⟨rfl, rfl⟩) hR hl hd h k
  · rcases hn with hn | rfl
    · exact absurd hn (by simp [aLen])
    · exact aKo_ok X0 hy (Or.inr ⟨rfl, rfl⟩) hR hl hd h k
  · rcases hn with hn | rfl
    · exact absurd hn (by simp [aLen])
    · exact aKl_ok X0 hy hR hl hd h k
  · cases h
/-- a method's end -/
theorem aRet_ok {v : Option Value} {b : Nat × Nat} {S0 : ASt} (X0 : aCtx p l R s m args meth c D (aA S0.1 s.heap.size) y.1.cls y.2.1) (hrt : meth.sig.returnType = aRt y) (hR : aR D (aA S0.1 s.heap.size) s.heap S H locs) (hd : decode y.2.1 f.1 = .ok (ins, len)) (hn : aLen ins = 0 ∨ len = aLen ins) (h : aRet (aRt y) ins f.2.2 = some v) :
    W p l e R s m args below meth c H locs cells slots (vx_MQ below (aQc D S0 S s.heap.size (.inl v)) (aXC D S0 S s.heap.size (.inl v)) args s cells slots (aA S0.1 s.heap.size)) (F0 m f.1 ls f.2.2) := by
  obtain ⟨pc, lv, st⟩ := f
  obtain ⟨hx, hb, hown, hts, hKn, hKF, hA, hlocks, -⟩ := X0
  have hq : ∀ (o : Option Value) (t : State), o = v → t.heap = H → s.WarmedH t.vm → aQc D S0 S s.heap.size (.inl v) args s (.returned o) t := by
    intro o t ho ht hW
    subst ho
    exact ⟨⟨_, rfl, rfl⟩, ⟨by rw [ht]; exact hR.1, by rw [ht]; exact hR.2.2.2, hR.2.1⟩, hR.2.2.1.F ht⟩
  have hf : ∀ q ∈ locs, aA S0.1 s.heap.size q.base := hR.2.2.1.2.2
  refine vx_ret ?_
  unfold aRet at h
  split at h
  · rcases hn with hn | rfl
    · exact absurd hn (by simp [aLen])
    · split at h
      · rename_i h1 h2
        cases h
        dsimp only at h1 ⊢
        rw [h1]
        exact W.vret hx hb (hrt.trans h2) (fun t ht hW => hq none t rfl ht hW) hf hd hlocks
      · cases h
  · rcases hn with hn | rfl
    · exact absurd hn (by simp [aLen])
    · split at h
      · rename_i w t h1 h2
        split at h
        · rename_i h3
          cases h
          dsimp only at h1 ⊢
          rw [h1]
          exact W.zret hx hb (hrt.trans h2) h3 (fun t ht hW => hq _ t rfl ht hW) hf hd hlocks
        · cases h
      · cases h
  · rcases hn with hn | rfl
    · exact absurd hn (by simp [aLen])
    · split at h
      · rename_i w h1 h2
        cases h
        dsimp only at h1 ⊢
        rw [h1]
        exact W.lret hx hb (hrt.trans h2) (fun t ht hW => hq _ t rfl ht hW) hf hd hlocks
      · cases h
  · rcases hn with hn | rfl
    · exact absurd hn (by simp [aLen])
    · split at h
      · rename_i w t h1 h2
        cases h
        dsimp only at h1 ⊢
        rw [h1]
        exact W.aret hx hb (hrt.trans h2) (Or.inl ⟨_, rfl⟩) (Or.inr ⟨_, rfl⟩) (fun t ht hW => hq _ t rfl ht hW) hf hd hlocks
      · cases h
  · cases h
end AMO
