/-! THE RUN, and that the machine does as it says -/
def aRun (kad : Nat → Nat) : Nat → Nat → Nat → AFr → ASt → Option (ARes × ASt)
  | 0, _, _, _, _ => none
  | n + 1, d, mi, f, S => match aMS[mi]? with
    | none => none
    | some y => match aFind (aPs y) f.1 with
      | none => none
      | some q => match aRet (aRt y) q.1 f.2.2 with
        | some v => some (.inl v, S)
        | none => match aOp (aNl y) q.1 f.1 f.2.1 f.2.2 with
          | some f1 => aRun kad n d mi f1 S
          | none => match aMo y q.1 f S with
            | some z => aRun kad n d mi z.1 z.2
            | none => match aEx kad y q.1 f S with
              | some z => aRun kad n d mi z.1 z.2
              | none => match aThr q.1 mi f.1 f.2.2 with
                | some E => some (.inr E, (S.1, (none, (S.2.2.1 + 1, S.2.2.2 + 6))))
                | none => match aCall y q.1 f.2.2 S.1 with
                  | none => match aHcl y q.1 f.2.2 with
                    | none => none
                    | some c => match aHca c.1 c.2.1 S.1 with
                      | none => none
                      | some w => match d with
                        | 0 => none
                        | 1 => none
                        | d2 + 2 => match aRun kad n d2 w.1 (0, (lv_args 0 w.2.1, [])) S with
                          | none => none
                          | some u => match aHre c.1 c.2.1 w.2.2 u.1 with
                            | none => none
                            | some x => aRun kad n d mi (f.1 + 3, (f.2.1, .int x :: c.2.2)) u.2
                  | some c => match d with
                    | 0 => none
                    | d1 + 1 => match aRun kad n d1 c.1 (0, (lv_args 0 c.2.2.1, [])) S with
                      | none => none
                      | some (.inr E, S1) => if c.2.1 < 2 then some (.inr E, S1) else none
                      | some (.inl v, S1) => aRun kad n d mi (f.1 + 3, (f.2.1, v.toList ++ c.2.2.2)) S1
/-- what is said of a frame: from it the machine comes to the method's end -/
def aStm (l : Launch) (kad : Nat → Nat) (d : Nat) (y : AMeth) (f : AFr) (S : ASt) (r : ARes) (S1 : ASt) : Prop :=
  (S.2.2.1 ≤ S1.2.2.1 ∧ S.2.2.2 ≤ S1.2.2.2) ∧ ∀ (p : Program) (e : Env) (R : Room) (s : State) (m : MethodId) (args : Array Value) (below : List Frame) (meth : Method) (c : Code) (D : AG) (S0 : ASt) (b : Nat × Nat),
    aCtx p l R s m args meth c D (aA S0.1 s.heap.size) y.1.cls y.2.1 → D.2.2 = kad → meth.name = y.1.name → meth.sig.returnType = aRt y → c.maxLocals = aNl y → (R.frames = 8 + d ∧ R.locals = 200 + 40 * d) → (S1.2.2.1 - b.1 ≤ R.cells ∧ S1.2.2.2 - b.2 ≤ R.slots) → (b.1 ≤ S.2.2.1 ∧ b.2 ≤ S.2.2.2) →
    ∀ (H : Heap) (locs : List Loc) (ls : Array Slot), aR D (aA S0.1 s.heap.size) s.heap S H locs → lv_has ls c.maxLocals f.2.1 →
      W p l e R s m args below meth c H locs (S.2.2.1 - b.1) (S.2.2.2 - b.2) (vx_MQ below (aQc D S0 S1 s.heap.size r) (aXC D S0 S1 s.heap.size r) args s (S1.2.2.1 - b.1) (S1.2.2.2 - b.2) (aA S0.1 s.heap.size)) (F0 m f.1 ls f.2.2)
/-- a method as a whole, out of its first frame -/
theorem aStm.met {l : Launch} {kad : Nat → Nat} {d : Nat} {y : AMeth} {argv : List Value} {S S1 : ASt} {r : ARes} (hy : aMGood y) (hsl : (lg_sl argv).length ≤ aNl y) (h : aStm l kad d y (0, (lv_args 0 argv, [])) S r S1) :
    ∀ (D : AG) (sz : Nat), D.2.2 = kad → vx_Met l y.1 (Cond.code y.1 y.2.1 (aNl y) (aRt y) :: aTB) (aRm d (S1.2.2.1 - S.2.2.1) (S1.2.2.2 - S.2.2.2)) (aPc D S sz argv) (aQc D S S1 sz r) (aXC D S S1 sz r) (S1.2.2.1 - S.2.2.1) (S1.2.2.2 - S.2.2.2) (aA S.1 sz) := by
  intro D sz hkad
  obtain ⟨hpl, hcode, -, -, -, -, -⟩ := hy
  refine MetFree.of_bodySF (code := y.2.1) (maxLocals := aNl y) (ret := aRt y) hpl ?_ ?_
  · intro args s m h hn
    obtain ⟨meth, c, h1, h2, h3, h4, h5, h6, -, -⟩ := Cond.code_spec hn (atoms_spec (ws := Cond.code y.1 y.2.1 (aNl y) (aRt y) :: aTB) h _ List.mem_cons_self)
    exact ⟨meth, c, h1, h2, h3, h4, h5, h6⟩
  · intro p e s m args below meth c s₁ B hml hP _
    have hh0 : s₁.heap = s.heap := by rw [B.state]; rfl
    have ht : ∀ x ∈ c.exceptionTable.toList, False := by
      obtain ⟨meth9, c9, h1, h2, -, -, -, -, h7, -⟩ := Cond.code_spec B.named (atoms_spec (ws := Cond.code y.1 y.2.1 (aNl y) (aRt y) :: aTB) B.pre _ List.mem_cons_self)
      cases Option.some.inj (h1.symm.trans B.method)
      cases Option.some.inj (h2.symm.trans (Stand.of_body B).code)
      intro x hx
      rw [Array.isEmpty_iff.mp h7] at hx
      cases hx
    obtain ⟨rfl, hsz, ⟨hH, hz⟩, hKn, hKF⟩ := hP
    subst hsz
    have hts := atoms_spec (ws := Cond.code y.1 y.2.1 (aNl y) (aRt y) :: aTB) B.pre
    have hnm := name_of_methodNamed B.named B.method
    have X0 : aCtx p l (headSpec (Cond.code y.1 y.2.1 (aNl y) (aRt y) :: aTB) (aRm d (S1.2.2.1 - S.2.2.1) (S1.2.2.2 - S.2.2.2))).room s m argv.toArray meth c D (aA S.1 s.heap.size) y.1.cls y.2.1 :=
      ⟨B.exec, B.bytes, findClass_of_methodNamed B.named, fun w hw => hts w (List.mem_cons_of_mem _ hw), hKn, hKF, fun q hq => Or.inr hq, B.notSynchronized, ht⟩
    have hl := lv_entry argv (n := aNl y) hsl
    have hW := h.2 p e _ s m argv.toArray below meth c D S (S.2.2.1, S.2.2.2) X0 hkad hnm.1 B.returns hml ⟨rfl, rfl⟩ ⟨Nat.le_refl _, Nat.le_refl _⟩ ⟨Nat.le_refl _, Nat.le_refl _⟩ s.heap [] ((lg_sl argv ++ List.replicate (aNl y - (lg_sl argv).length) Slot.unset).toArray) ⟨hH, fun a f hf => Or.inl ⟨f, hf⟩, va_S.rf, hz⟩ (by rw [hml]; exact hl)
    simp only [Nat.sub_self] at hW
    have hW2 : W p l e (headSpec (Cond.code y.1 y.2.1 (aNl y) (aRt y) :: aTB) (aRm d (S1.2.2.1 - S.2.2.1) (S1.2.2.2 - S.2.2.2))).room s m argv.toArray below meth c s.heap [] 0 0 (vx_MQ below (aQc D S S1 s.heap.size r) (aXC D S S1 s.heap.size r) argv.toArray s (S1.2.2.1 - S.2.2.1) (S1.2.2.2 - S.2.2.2) (aA S.1 s.heap.size)) (entryFrame m argv.toArray (aNl y)) := by
      rw [lg_entry_eq]
      exact hW
    obtain ⟨t, a1, o, b1, b2, b3⟩ := hW2 s₁ hh0 (Stand.of_body B)
    exact ⟨t, o, a1, b1, b2, b3⟩
theorem aCT_spec {oc idx k mi n i1 i2 i3 : Nat} {own : String} (h : aFind (aCT oc) idx = some (k, (mi, (n, (i1, (i2, i3)))))) (ho : aCn[oc]? = some own) : ∃ z : AMeth, aMS[mi]? = some z ∧ (parseMethodDescriptor z.1.desc).map (fun d => d.parameters.length) = some n ∧ ((k = 0 → Cond.methodLink own idx z.1 ∈ aTB ∧ Cond.instanceMethod z.1 ∈ aTB ∧ Cond.selects z.1.cls z.1 z.1 ∈ aTB) ∧ (k = 1 → Cond.methodLink own idx z.1 ∈ aTB ∧ Cond.static z.1 ∈ aTB)) := by
  have h1 := List.all_eq_true.mp (aCT_ok oc) _ (aFind_mem h)
  unfold aCchk at h1
  rw [ho] at h1
  dsimp only at h1
  cases hc : aMS[mi]? with
  | none => rw [hc] at h1; cases h1
  | some z =>
    rw [hc] at h1
    dsimp only at h1
    rw [Bool.and_eq_true, decide_eq_true_eq] at h1
    obtain ⟨h1, h2⟩ := h1
    refine ⟨z, rfl, h1, fun hk => ?_, fun hk => ?_⟩
    · subst hk
      simp only [Bool.and_eq_true, decide_eq_true_eq] at h2
      obtain ⟨⟨⟨⟨⟨a1, a2⟩, a3⟩, a4⟩, a5⟩, a6⟩ := h2
      exact ⟨aTB_in _ a1 a2, aTB_in _ a3 a4, aTB_in _ a5 a6⟩
    · subst hk
      simp only [Bool.and_eq_true, decide_eq_true_eq] at h2
      obtain ⟨⟨⟨a1, a2⟩, a3⟩, a4⟩ := h2
      exact ⟨aTB_in _ a1 a2, aTB_in _ a3 a4⟩
theorem aCl_ex {ci : Nat} (h : ci < 11) : ∃ (C : String) (T : u_T) (N : Nat), vwCl[ci]? = some (C, T, N) := by
  match ci, h with
  | 0, _ => exact ⟨_, _, _, rfl⟩
  | 1, _ => exact ⟨_, _, _, rfl⟩
  | 2, _ => exact ⟨_, _, _, rfl⟩
  | 3, _ => exact ⟨_, _, _, rfl⟩
  | 4, _ => exact ⟨_, _, _, rfl⟩
  | 5, _ => exact ⟨_, _, _, rfl⟩
  | 6, _ => exact ⟨_, _, _, rfl⟩
  | 7, _ => exact ⟨_, _, _, rfl⟩
  | 8, _ => exact ⟨_, _, _, rfl⟩
  | 9, _ => exact ⟨_, _, _, rfl⟩
  | 10, _ => exact ⟨_, _, _, rfl⟩
  | n + 11, h => omega
/-- what a call of the abstract machine is in the tables -/
theorem aCall_spec {y : AMeth} {ins : Instr} {st : List Value} {M : AMem} {mi k : Nat} {argv rest : List Value} (hcn : aCn[aOc y]? = some y.1.cls) (h : aCall y ins st M = some (mi, (k, (argv, rest)))) :
    ∃ (z : AMeth) (idx n : Nat), aMS[mi]? = some z ∧ (lg_sl argv).length ≤ aNl z ∧ (rest.map fun v => v.category).sum ≤ 8 ∧ (parseMethodDescriptor z.1.desc).map (fun d => d.parameters.length) = some n ∧ Cond.methodLink y.1.cls idx z.1 ∈ aTB ∧
      ((k = 0 ∧ ins = .invokevirtual idx ∧ Cond.instanceMethod z.1 ∈ aTB ∧ Cond.selects z.1.cls z.1 z.1 ∈ aTB ∧ ∃ (a : Nat) (as : List Value) (e : AEnt), argv = .ref a :: as ∧ as.length = n ∧ st = as.reverse ++ .ref a :: rest ∧ M a = some e ∧ e.1 = aOc z ∧ e.1 < 11) ∨
       (k = 1 ∧ ins = .invokestatic idx ∧ Cond.static z.1 ∈ aTB ∧ argv.length = n ∧ st = argv.reverse ++ rest)) := by
  unfold aCall at h
  split at h
  · rename_i idx
    split at h
    · rename_i q hq
      obtain ⟨k0, mi0, n0, i1, i2, i3⟩ := q
      dsimp only at h
      split at h
      · rename_i hk0
        subst hk0
        split at h
        · rename_i a r hdr
          split at h
          · rename_i e z he hz
            split at h
            · rename_i hc
              obtain ⟨⟨c1, c2⟩, c3, c4, c5⟩ := hc
              cases h
              obtain ⟨z', hz', hp, hw, -⟩ := aCT_spec hq hcn
              cases Option.some.inj (hz.symm.trans hz')
              obtain ⟨w1, w2, w3⟩ := hw rfl
              refine ⟨z, idx, n0, hz, c5, c4, hp, w1, Or.inl ⟨rfl, rfl, w2, w3, a, (st.take n0).reverse, e, rfl, by rw [List.length_reverse]; exact c3, ?_, he, c1, c2⟩⟩
              rw [List.reverse_reverse, ← hdr, List.take_append_drop]
            · cases h
          · cases h
        · cases h
      · cases h
    · cases h
  · rename_i idx
    split at h
    · rename_i q hq
      obtain ⟨k0, mi0, n0, i1, i2, i3⟩ := q
      dsimp only at h
      split at h
      · rename_i hk0
        subst hk0
        split at h
        · rename_i z hz
          split at h
          · rename_i hc
            obtain ⟨c3, c4, c5⟩ := hc
            cases h
            obtain ⟨z', hz', hp, -, hw⟩ := aCT_spec hq hcn
            cases Option.some.inj (hz.symm.trans hz')
            obtain ⟨w1, w2⟩ := hw rfl
            refine ⟨z, idx, n0, hz, c5, c4, hp, w1, Or.inr ⟨rfl, rfl, w2, by rw [List.length_reverse]; exact c3, ?_⟩⟩
            rw [List.reverse_reverse, List.take_append_drop]
          · cases h
        · cases h
      · cases h
    · cases h
  · cases h
theorem aMo_cnt {y : AMeth} {ins : Instr} {f : AFr} {S : ASt} {z : AFr × ASt} (h : aMo y ins f S = some z) : z.2.2 = S.2 := by
  unfold aMo aGf aPf aAl aAs aLn aKo aKl at h
  repeat' split at h
  all_goals first | (cases h; rfl) | cases h
theorem a_call_go {l : Launch} {kad : Nat → Nat} {d1 : Nat} {y z : AMeth} {idx np k len : Nat} {argv rest : List Value} {ins : Instr} {S S2 : ASt} {r2 : ARes} {f : AFr} {b : Nat × Nat} {p : Program} {e : Env} {R : Room} {s : State} {m : MethodId} {args : Array Value} {below : List Frame} {meth : Method} {c : Code} {D : AG} {A : Nat → Prop} {Q : State → Prop} {H : Heap} {locs : List Loc} {ls : Array Slot}
    (X0 : aCtx p l R s m args meth c D A y.1.cls y.2.1) (hkad : D.2.2 = kad) (hgz : aMGood z) (hRm : R.frames = 8 + (d1 + 1) ∧ R.locals = 200 + 40 * (d1 + 1)) (hR : aR D A s.heap S H locs) (hl : lv_has ls c.maxLocals f.2.1) (hd : decode y.2.1 f.1 = .ok (ins, len)) (hn : aLen ins = 0 ∨ len = aLen ins)
    (hsl : (lg_sl argv).length ≤ aNl z) (hcat : (rest.map fun v => v.category).sum ≤ 8) (hpar : (parseMethodDescriptor z.1.desc).map (fun d => d.parameters.length) = some np) (hlk : Cond.methodLink y.1.cls idx z.1 ∈ aTB)
    (hkind : (k = 0 ∧ ins = .invokevirtual idx ∧ Cond.instanceMethod z.1 ∈ aTB ∧ Cond.selects z.1.cls z.1 z.1 ∈ aTB ∧ ∃ (a : Nat) (as : List Value) (e : AEnt), argv = .ref a :: as ∧ as.length = np ∧ f.2.2 = as.reverse ++ .ref a :: rest ∧ S.1 a = some e ∧ e.1 = aOc z ∧ e.1 < 11) ∨
       (k = 1 ∧ ins = .invokestatic idx ∧ Cond.static z.1 ∈ aTB ∧ argv.length = np ∧ f.2.2 = argv.reverse ++ rest))
    (hst : aStm l kad d1 z (0, (lv_args 0 argv, [])) S r2 S2) (hbS : b.1 ≤ S.2.2.1 ∧ b.2 ≤ S.2.2.2) (hRc : S2.2.2.1 - b.1 ≤ R.cells ∧ S2.2.2.2 - b.2 ≤ R.slots)
    (kn : ∀ v, r2 = .inl v → ∀ (H1 : Heap) (locs1 : List Loc), aR D A s.heap S2 H1 locs1 → W p l e R s m args below meth c H1 locs1 (S2.2.2.1 - b.1) (S2.2.2.2 - b.2) Q (F0 m (f.1 + 3) ls (v.toList ++ rest)))
    (kx : ∀ (E : String) (q : Addr) (ce : Cell) (H1 : Heap) (locs1 : List Loc), r2 = .inr E → aR D A s.heap S2 H1 locs1 → H1[q]? = some ce → ce.vm = .none → s.vm.findClass E = some ce.cls → vx_W p l e R s m args below meth c H1 locs1 (S2.2.2.1 - b.1) (S2.2.2.2 - b.2) Q (F0 m f.1 ls rest) q) :
    W p l e R s m args below meth c H locs (S.2.2.1 - b.1) (S.2.2.2 - b.2) Q (F0 m f.1 ls f.2.2) := by
  subst hkad
  obtain ⟨c1, c2⟩ := hst.1
  have hM : aMet l D.2.2 d1 z.1 z.2.1 (aNl z) (aRt z) argv S r2 S2 := fun D' sz hk => aStm.met hgz hsl hst D' sz hk
  obtain ⟨-, z2, z3, z4, z5, z6, -⟩ := hgz
  have hC : aCOk y.1.cls idx z.1 z.2.1 (aNl z) (aRt z) np := ⟨z2, z3, z4, z5, hpar⟩
  have hA := X0.2.2.2.2.2.2.1
  have hroom : S.2.2.1 - b.1 + (S2.2.2.1 - S.2.2.1) ≤ R.cells ∧ S.2.2.2 - b.2 + (S2.2.2.2 - S.2.2.2) ≤ R.slots := by omega
  have w1 : S.2.2.1 - b.1 + (S2.2.2.1 - S.2.2.1) = S2.2.2.1 - b.1 := by omega
  have w2 : S.2.2.2 - b.2 + (S2.2.2.2 - S.2.2.2) = S2.2.2.2 - b.2 := by omega
  obtain ⟨pc, lv, st⟩ := f
  rcases hkind with ⟨rfl, rfl, v2, v3, a, as, e', rfl, hlen, hst', hMa, hoc, h12⟩ | ⟨rfl, rfl, v2, hlen, hst'⟩
  · rcases hn with hn | rfl
    · exact absurd hn (by simp [aLen])
    · obtain ⟨C, T, N, hc⟩ := aCl_ex h12
      have hCn := aCn_ci hc
      have hy' : C = z.1.cls := by
        rw [hoc] at hCn
        exact Option.some.inj (hCn.symm.trans z6)
      dsimp only at hst' ⊢
      subst hst'
      exact a_callW hA hR (a_runV X0 hR hl.1 hM hC hlk v2 v3 hMa hc hy' (by omega) hlen hcat hd hRm hroom) (fun v hv H1 locs1 h1 => W.cs2 w1 w2 (kn v hv H1 locs1 h1)) (fun E q ce H1 locs1 hE h1 h2 h3 h4 => vx_W.cs2 w1 w2 (kx E q ce H1 locs1 hE h1 h2 h3 h4))
  · rcases hn with hn | rfl
    · exact absurd hn (by simp [aLen])
    · dsimp only at hst' ⊢
      subst hst'
      exact a_callW hA hR (a_runS X0 hR hl.1 hM hC hlk v2 hlen hcat hd hRm hroom) (fun v hv H1 locs1 h1 => W.cs2 w1 w2 (kn v hv H1 locs1 h1)) (fun E q ce H1 locs1 hE h1 h2 h3 h4 => vx_W.cs2 w1 w2 (kx E q ce H1 locs1 hE h1 h2 h3 h4))
theorem aHcl_spec {y : AMeth} {ins : Instr} {st : List Value} {h : Nat} {argv rest : List Value} (hcn : aCn[aOc y]? = some y.1.cls) (hq : aHcl y ins st = some (h, (argv, rest))) :
    ∃ (idx n : Nat), ins = .invokestatic idx ∧ y.1.cls = RL ∧ h < 4 ∧ Cond.methodLink RL idx (aHM h).1 ∈ aTB ∧ (parseMethodDescriptor (aHM h).1.desc).map (fun d => d.parameters.length) = some n ∧ argv.length = n ∧ st = argv.reverse ++ rest ∧ (rest.map fun v => v.category).sum ≤ 8 ∧ (lg_sl argv).length ≤ aNl (aHM h) := by
  unfold aHcl at hq
  split at hq
  · rename_i idx
    split at hq
    · rename_i q hf
      obtain ⟨h0, np⟩ := q
      dsimp only at hq
      split at hq
      · rename_i hc
        obtain ⟨c1, c2, c3⟩ := hc
        cases hq
        obtain ⟨a1, a2, a3, a4⟩ := aHT_spec hf hcn
        refine ⟨idx, np, rfl, a1, a2, a3, a4, by rw [List.length_reverse]; exact c1, ?_, c2, c3⟩
        rw [List.reverse_reverse, List.take_append_drop]
      · cases hq
    · cases hq
  · cases hq
theorem hl_met {l : Launch} {kad : Nat → Nat} {h d2 : Nat} {argv av rst : List Value} {mi : Nat} {S S2 : ASt} {r2 : ARes} {x : Int32} {z : AMeth} (h4 : h < 4) (hnl : (lg_sl argv).length ≤ aNl (aHM h)) (hw : aHca h argv S.1 = some (mi, (av, rst))) (hz : aMS[mi]? = some z) (hst : aStm l kad d2 z (0, (lv_args 0 av, [])) S r2 S2) (hre : aHre h argv rst r2 = some x) : hMet l kad (d2 + 1) (aHM h).1 (aHM h).2.1 (aNl (aHM h)) (aRt (aHM h)) (aHE h) argv S (.inl (some (.int x))) S2 := by
  obtain ⟨a1, a2, a3, a4, a5, a6, a7, a8, a9, a10⟩ := aH_all h4
  have hgz : aMGood z := aMSg z (List.mem_of_getElem? hz)
  unfold aHca at hw
  split at hw
  · rename_i idx hfi
    split at hw
    · rename_i mi' av' r' hcl
      cases hw
      obtain ⟨z', ix, np, g1, g2, g3, g4, g5, g6⟩ := aCall_spec a10 hcl
      cases Option.some.inj (hz.symm.trans g1)
      rcases g6 with ⟨-, e1, v2, v3, g, as, e0, e2, hlen, e3, hMa, hoc, h11⟩ | ⟨e0, -⟩
      · cases e1
        subst e2
        obtain ⟨kp, hkp⟩ := aPl_ops (y := aHM h) 80 (0, (lv_args 0 argv, []))
        have hkp' : aOpsN (aHM h) kp (0, (lv_args 0 argv, [])) = some ((aHin h argv).1, ((aHin h argv).2.1, as.reverse ++ .ref g :: rst)) := by rw [hkp, ← e3]; rfl
        have hM : aMet l kad d2 z.1 z.2.1 (aNl z) (aRt z) (.ref g :: as) S r2 S2 := fun D' sz hk => aStm.met hgz g2 hst D' sz hk
        obtain ⟨M0, z0, c0, n0⟩ := S
        obtain ⟨M1, z1, c1, n1⟩ := S2
        refine hMet.un (help_p a1 a2 a3 a4 hnl hgz (by rw [← a3]; exact g5) v2 v3 g4 hlen hMa hoc h11 g3 hkp' hfi hM.un (fun v hv => ?_) (fun E hE => ?_))
        · subst hv
          have hre : aHou h ((aHin h argv).1 + 3, ((aHin h argv).2.1, v.toList ++ rst)) = some x := hre
          unfold aHou at hre
          split at hre
          · rename_i q1 q2
            cases hre
            obtain ⟨k, hk⟩ := aPl_ops (y := aHM h) 20 ((aHin h argv).1 + 3, ((aHin h argv).2.1, v.toList ++ rst))
            generalize aPl (aHM h) 20 ((aHin h argv).1 + 3, ((aHin h argv).2.1, v.toList ++ rst)) = w at hk q1 q2
            obtain ⟨w1, w2, w3⟩ := w
            dsimp only at q1 q2
            subst q2
            exact ⟨k, w1, w2, hk, q1⟩
          · cases hre
        · subst hE
          have hre : (if aHex h E (aHin h argv).1 = true then some (Int32.ofInt (-99999999)) else none) = some x := hre
          split at hre
          · rename_i hx
            cases hre
            exact aHex_ok h4 hx
          · cases hre
      · cases e0
    · cases hw
  · cases hw
theorem aRun_ok (l : Launch) (hl0 : l.stackTraces = false) (kad : Nat → Nat) : ∀ (n d mi : Nat) (f : AFr) (S S1 : ASt) (r : ARes) (y : AMeth), aMS[mi]? = some y → aRun kad n d mi f S = some (r, S1) → aStm l kad d y f S r S1 := by
  intro n
  induction n with
  | zero => intro d mi f S S1 r y _ h; cases h
  | succ n ih =>
    intro d mi f S S1 r y hy h
    have hg : aMGood y := aMSg y (List.mem_of_getElem? hy)
    have hcn := hg.2.2.2.2.2.1
    unfold aRun at h
    rw [hy] at h
    dsimp only at h
    split at h
    · cases h
    · rename_i q hq
      obtain ⟨hd, hn⟩ := hg.2.2.2.2.2.2 (f.1, q) (aFind_mem hq)
      obtain ⟨ins, len⟩ := q
      dsimp only at hd hn h
      split at h
      · rename_i v hv
        cases h
        exact ⟨⟨Nat.le_refl _, Nat.le_refl _⟩, fun p e R s m args below meth c D S0 b X0 hkad hnm hrt hml hRm hRc hbS H locs ls hR hl => aRet_ok (b := b) X0 hrt hR hd hn hv⟩
      · split at h
        · rename_i f1 hf1
          obtain ⟨g1, g2⟩ := ih d mi f1 S S1 r y hy h
          refine ⟨g1, fun p e R s m args below meth c D S0 b X0 hkad hnm hrt hml hRm hRc hbS H locs ls hR hl => ?_⟩
          exact ao_all (S := (S.1, (S.2.1, (S.2.2.1 - b.1, S.2.2.2 - b.2)))) X0.1 X0.2.1 hd hn hl (by rw [hml]; exact hf1) (fun ls1 hl1 => g2 p e R s m args below meth c D S0 b X0 hkad hnm hrt hml hRm hRc hbS H locs ls1 hR hl1)
        · split at h
          · rename_i z hz
            obtain ⟨g1, g2⟩ := ih d mi z.1 z.2 S1 r y hy h
            have hcnt := aMo_cnt hz
            rw [hcnt] at g1 g2
            refine ⟨g1, fun p e R s m args below meth c D S0 b X0 hkad hnm hrt hml hRm hRc hbS H locs ls hR hl => ?_⟩
            exact aMo_ok (f1 := z.1) (S1 := z.2) X0 hcn hnm hR hl hd hn hz (fun H1 locs1 ls1 hR1 hl1 => g2 p e R s m args below meth c D S0 b X0 hkad hnm hrt hml hRm hRc hbS H1 locs1 ls1 hR1 hl1)
          · split at h
            · rename_i z hz
              obtain ⟨g1, g2⟩ := ih d mi z.1 z.2 S1 r y hy h
              have hcnt := aEx_cnt hz
              refine ⟨⟨Nat.le_trans hcnt.1 g1.1, Nat.le_trans hcnt.2 g1.2⟩, fun p e R s m args below meth c D S0 b X0 hkad hnm hrt hml hRm hRc hbS H locs ls hR hl => ?_⟩
              exact aEx_ok X0 hkad hcn hRm ⟨Nat.le_trans (Nat.sub_le_sub_right g1.1 _) hRc.1, Nat.le_trans (Nat.sub_le_sub_right g1.2 _) hRc.2⟩ hbS hR hl hd hn hz (fun H1 locs1 ls1 hR1 hl1 => g2 p e R s m args below meth c D S0 b X0 hkad hnm hrt hml hRm hRc ⟨Nat.le_trans hbS.1 hcnt.1, Nat.le_trans hbS.2 hcnt.2⟩ H1 locs1 ls1 hR1 hl1)
            · split at h
              · rename_i E hE
                cases h
                refine ⟨⟨Nat.le_add_right _ _, Nat.le_add_right _ _⟩, fun p e R s m args below meth c D S0 b X0 hkad hnm hrt hml hRm hRc hbS H locs ls hR hl => ?_⟩
                exact aThr1_ok X0 hy hl0 hRm hRc hbS hR hl (aThr_eq hE)
              · split at h
                · split at h
                  · cases h
                  · rename_i c hc
                    obtain ⟨hh, argv, rest⟩ := c
                    dsimp only at h
                    split at h
                    · cases h
                    · rename_i w hw
                      obtain ⟨mi2, av, rst⟩ := w
                      dsimp only at h
                      split at h
                      · cases h
                      · cases h
                      · rename_i d2
                        split at h
                        · cases h
                        · rename_i u hrun
                          obtain ⟨r2, S2⟩ := u
                          dsimp only at h
                          split at h
                          · cases h
                          · rename_i x hx
                            obtain ⟨idx, np, rfl, hRL, h4, hlk, hpar, hlen, hst', hcat, hnl⟩ := aHcl_spec hcn hc
                            obtain ⟨a1, a2, a3, a4, a5, a6, a7, a8, a9, a10⟩ := aH_all h4
                            have hz : ∃ z, aMS[mi2]? = some z := by
                              cases hq9 : aMS[mi2]? with
                              | some z => exact ⟨z, rfl⟩
                              | none =>
                                cases n with
                                | zero => cases hrun
                                | succ n => unfold aRun at hrun; rw [hq9] at hrun; cases hrun
                            obtain ⟨z, hz⟩ := hz
                            have g := ih d2 mi2 _ S S2 r2 z hz hrun
                            have hM := hl_met h4 hnl hw hz g hx
                            obtain ⟨k1, k2⟩ := ih (d2 + 2) mi (f.1 + 3, (f.2.1, .int x :: rest)) S2 S1 r y hy h
                            refine ⟨⟨Nat.le_trans g.1.1 k1.1, Nat.le_trans g.1.2 k1.2⟩, fun p e R s m args below meth c D S0 b X0 hkad hnm hrt hml hRm hRc hbS H locs ls hR hl => ?_⟩
                            subst hkad
                            obtain ⟨b1, b2⟩ := hbS
                            obtain ⟨b3, b4⟩ := g.1
                            obtain ⟨b5, b6⟩ := k1
                            obtain ⟨b7, b8⟩ := hRc
                            have hA := X0.2.2.2.2.2.2.1
                            have w1 : S.2.2.1 - b.1 + (S2.2.2.1 - S.2.2.1) = S2.2.2.1 - b.1 := by omega
                            have w2 : S.2.2.2 - b.2 + (S2.2.2.2 - S.2.2.2) = S2.2.2.2 - b.2 := by omega
                            have X1 : aCx p s m args c D (aA S0.1 s.heap.size) RL y.2.1 := by
                              have X2 := X0
                              rw [hRL] at X2
                              exact ⟨X2.1, X2.2.1, X2.2.2.1, X2.2.2.2.1, X2.2.2.2.2.1, X2.2.2.2.2.2.1, X2.2.2.2.2.2.2.1⟩
                            rcases hn with hn | rfl
                            · exact absurd hn (by simp [aLen])
                            · obtain ⟨pc, lv, st⟩ := f
                              dsimp only at hst' hd hl k2 ⊢
                              subst hst'
                              refine a_callW hA hR (x_runH (d := d2 + 1) (rest := rest) X1 hR hl.1 hM a5 a8 a7 a9 hpar hlk a6 hlen hcat hd (by have := hRm.1; have := hRm.2; omega) (by omega)) (fun v hv H1 locs1 h1 => W.cs2 w1 w2 ?_) (fun E q ce H1 locs1 hE => by cases hE)
                              cases hv
                              exact k2 p e R s m args below meth c D S0 b X0 rfl hnm hrt hml hRm ⟨b7, b8⟩ ⟨Nat.le_trans b1 b3, Nat.le_trans b2 b4⟩ H1 locs1 ls h1 hl
                · rename_i cl hcl
                  obtain ⟨mi1, k, argv, rest⟩ := cl
                  dsimp only at h
                  obtain ⟨z, idx, np, hz, hsl, hcat, hpar, hlk, hkind⟩ := aCall_spec hcn hcl
                  have hgz : aMGood z := aMSg z (List.mem_of_getElem? hz)
                  split at h
                  · cases h
                  · rename_i d1
                    split at h
                    · cases h
                    · rename_i E S2 hrun
                      split at h
                      · rename_i hk2
                        cases h
                        have g := ih d1 mi1 _ S S1 _ z hz hrun
                        refine ⟨g.1, fun p e R s m args below meth c D S0 b X0 hkad hnm hrt hml hRm hRc hbS H locs ls hR hl => ?_⟩
                        refine a_call_go X0 hkad hgz hRm hR hl hd hn hsl hcat hpar hlk hkind g hbS hRc (fun v hv => by cases hv) (fun E' q ce H1 locs1 hE h1 h2 h3 h4 => ?_)
                        cases hE
                        have hx9 := X0.2.2.2.2.2.2.2
                        exact vx_out (fun x hx => absurd hx (fun hx => hx9.2 x hx)) hx9.1 h2 h3 h4 (fun t ht hv => ⟨rfl, ⟨by rw [ht]; exact h1.1, by rw [ht]; exact h1.2.2.2, h1.2.1⟩, h1.2.2.1.F ht⟩) h1.2.2.1.2.2 (Nat.le_refl _) (Nat.le_refl _)
                      · cases h
                    · rename_i v S2 hrun
                      have g := ih d1 mi1 _ S S2 _ z hz hrun
                      obtain ⟨k1, k2⟩ := ih (d1 + 1) mi (f.1 + 3, (f.2.1, v.toList ++ rest)) S2 S1 r y hy h
                      refine ⟨⟨Nat.le_trans g.1.1 k1.1, Nat.le_trans g.1.2 k1.2⟩, fun p e R s m args below meth c D S0 b X0 hkad hnm hrt hml hRm hRc hbS H locs ls hR hl => ?_⟩
                      have hb2 : b.1 ≤ S2.2.2.1 ∧ b.2 ≤ S2.2.2.2 := ⟨Nat.le_trans hbS.1 g.1.1, Nat.le_trans hbS.2 g.1.2⟩
                      refine a_call_go X0 hkad hgz hRm hR hl hd hn hsl hcat hpar hlk hkind g hbS ⟨Nat.le_trans (Nat.sub_le_sub_right k1.1 _) hRc.1, Nat.le_trans (Nat.sub_le_sub_right k1.2 _) hRc.2⟩ (fun v' hv H1 locs1 h1 => ?_) (fun E' q ce H1 locs1 hE => by cases hE)
                      cases hv
                      exact k2 p e R s m args below meth c D S0 b X0 hkad hnm hrt hml hRm hRc hb2 H1 locs1 ls h1 hl
