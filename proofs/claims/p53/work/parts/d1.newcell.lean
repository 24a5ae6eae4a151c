/-! new cells, and the constructors' calls -/
section NEWC
variable {l : Launch} {kad : Nat → Nat} {d mi : Nat} {y : AMeth} {S S2 S9 : ASt} {r : ARes} {M : AMem} {lv : ALv} {st : List Value} {pc idx ci N z cn sn k0 v a0 : Nat} {C : String} {T : u_T}
def dfl (ci : Nat) : Nat → Value := fun k => defaultValue (aTyF ci k)
theorem cs_new (hy : aMS[mi]? = some y) (hq : aFind (aPs y) pc = some (.new idx, 3)) (hc : vwCl[ci]? = some (C, T, N)) (hw : ∀ w ∈ [Cond.classLink y.1.cls idx C, Cond.instantiable C N, Cond.initialized C], w ∈ aTB) (g : aStm l kad d y (pc + 3, (lv, .ref z :: st)) (aMw M z (ci, (N, dfl ci)), (some (z + 1), (cn + 1, sn + N))) r S9) : aStm l kad d y (pc, (lv, st)) (M, (some z, (cn, sn))) r S9 := by
  obtain ⟨hd, -⟩ := cs_dec hy hq
  refine aStm.step ⟨Nat.le_succ _, Nat.le_add_right _ _⟩ g fun p e R s m args below meth c D A b Q X0 hkad hnm hml hRm hRc hbS H locs ls hR hl k => ?_
  obtain ⟨hx, hb, hown, hts, hKn, hKF, hA, -⟩ := X0
  obtain ⟨hH, hI, hS, hz⟩ := hR
  have hsz := hz z rfl
  obtain ⟨g1, g2, g3, g4⟩ := aCl ci C T N hc
  have hKc := hKn.1 ci _ hc
  dsimp only at hRc hbS k ⊢
  have w1 : cn + 1 - b.1 = cn - b.1 + 1 := by omega
  have w2 : sn + N - b.2 = sn - b.2 + N := by omega
  refine W.newcK (n := N) (C := C) hx hb hown (hts _ (hw _ (by simp))) (hts _ (hw _ (by simp))) (hts _ (hw _ (by simp))) rfl hd (by omega) (by omega) hKc.2.1 hsz fun H1 kC hkC e1 z1 o1 => ?_
  refine W.cs2 w1.symm w2.symm (k H1 locs ls ⟨?_, ?_, ⟨by rw [z1, ← hsz]; exact Nat.le_trans hS.1 (Nat.le_succ _), fun q h1 h2 => (o1 q (by rw [← hsz]; exact Nat.lt_of_lt_of_le h1 hS.1)).trans (hS.2.1 q h1 h2), hS.2.2⟩, fun n hn => by cases hn; exact z1⟩ hl)
  · intro a f' hf
    by_cases ha : a = z
    · subst ha
      simp only [aMw, if_true] at hf
      cases hf
      exact Or.inl ⟨g4, _, hc, u_born (aTyF ci) hts g1 hKc hkC e1 g2⟩
    · simp only [aMw, if_neg ha] at hf
      have hat := hH a f' hf
      exact hat.kept (o1 a (by rw [← hsz]; exact hat.lt))
  · exact hI.put (hA z (by rw [← hsz]; exact hS.1))
theorem cs_anew {x : Int32} (hy : aMS[mi]? = some y) (hq : aFind (aPs y) pc = some (.anewarray idx, 3)) (ht : aTys[k0]? = some (.object C)) (hC : C ∈ aAO) (hw : Cond.classLink y.1.cls idx C ∈ aTB) (h0 : ¬ x < 0) (hN : x.toNatClampNeg = N) (h4 : N ≤ 4096) (g : aStm l kad d y (pc + 3, (lv, .ref z :: st)) (aMw M z (100 + k0, (N, fun _ => .null)), (some (z + 1), (cn + 1, sn + N))) r S9) : aStm l kad d y (pc, (lv, .int x :: st)) (M, (some z, (cn, sn))) r S9 := by
  subst hN
  obtain ⟨hd, -⟩ := cs_dec hy hq
  refine aStm.step ⟨Nat.le_succ _, Nat.le_add_right _ _⟩ g fun p e R s m args below meth c D A b Q X0 hkad hnm hml hRm hRc hbS H locs ls hR hl k => ?_
  obtain ⟨hx, hb, hown, hts, hKn, hKF, hA, -⟩ := X0
  obtain ⟨hH, hI, hS, hz⟩ := hR
  have hsz := hz z rfl
  dsimp only at hRc hbS k ⊢
  have w1 : cn + 1 - b.1 = cn - b.1 + 1 := by omega
  have w2 : sn + x.toNatClampNeg - b.2 = sn - b.2 + x.toNatClampNeg := by omega
  refine W.anew hx hb hown (hts _ hw) (va_AO.use (hKF.2.1.2.2.1 C hC)) rfl hd rfl h0 (by omega) (by omega) (by omega) fun cA kA comp q1 q2 q3 q4 => ?_
  obtain ⟨kA', comp', r1, r2, r3, r4⟩ := (hKn.2 k0 _ ht).2
  have hcA : cA = D.2.1 k0 := Option.some.inj (q1.symm.trans r4)
  subst hcA
  subst hsz
  refine W.cs2 w1.symm w2.symm (k _ locs ls ⟨?_, ?_, ⟨by rw [Array.size_push]; exact Nat.le_trans hS.1 (Nat.le_succ _), fun q h1 h2 => ?_, hS.2.2⟩, fun n hn => by cases hn; simp⟩ hl)
  · intro a f' hf
    by_cases ha : a = H.size
    · subst ha
      simp only [aMw, if_true] at hf
      cases hf
      refine Or.inr ⟨Nat.le_add_right _ _, ?_, fun h j => ?_⟩
      · show _ = some (arrV (D.2.1 (100 + k0 - 100)) _ _)
        rw [Nat.add_sub_cancel_left, ← arrV_new]
        simp
      · exfalso
        have h : 100 + k0 = 100 := h
        rw [show k0 = 0 by omega] at ht
        cases ht
    · simp only [aMw, if_neg ha] at hf
      have hat := hH a f' hf
      refine hat.kept ?_
      rw [Array.getElem?_push, if_neg (Nat.ne_of_lt hat.lt)]
  · exact hI.put (hA _ hS.1)
  · rw [Array.getElem?_push, if_neg (Nat.ne_of_lt (Nat.lt_of_lt_of_le h1 hS.1))]
    exact hS.2.1 q h1 h2
theorem cs_aast {i : Int32} {e0 e1 : AEnt} {t : Option Nat × (Nat × Nat)} (hy : aMS[mi]? = some y) (hq : aFind (aPs y) pc = some (.aastore, 1)) (h0 : M a0 = some e0) (hk : e0.1 = 100 + k0) (ht : aTys[k0]? = some (.object C)) (h1 : M v = some e1) (hc : vwCl[e1.1]? = some (C, T, N)) (h100 : e1.1 < 100) (hin : ¬ i < 0 ∧ i.toNatClampNeg < e0.2.1)
    (g : aStm l kad d y (pc + 1, (lv, st)) (aMw M a0 (e0.1, (e0.2.1, updV e0.2.2 i.toNatClampNeg (.ref v))), t) r S9) : aStm l kad d y (pc, (lv, .ref v :: .int i :: .ref a0 :: st)) (M, t) r S9 := by
  obtain ⟨hd, -⟩ := cs_dec hy hq
  refine aStm.step (S := (M, t)) ⟨Nat.le_refl t.2.1, Nat.le_refl t.2.2⟩ g fun p e R s m args below meth c D A b Q X0 hkad hnm hml hRm hRc hbS H locs ls hR hl k => ?_
  obtain ⟨hx, hb, hown, hts, hKn, hKF, hA, -⟩ := X0
  obtain ⟨hH, hI, hS, hz⟩ := hR
  obtain ⟨hcell, -⟩ := (hH a0 e0 h0).arr (by omega)
  obtain ⟨cellV, g1, g2, g3, -⟩ := (hH v e1 h1).obj hc h100
  have hcls := (hKn.1 e1.1 _ hc).2
  have hke : e0.1 - 100 = k0 := by omega
  rw [hke] at hcell
  obtain ⟨kA, comp, k1, k2, k3, -⟩ := (hKn.2 k0 _ ht).2
  have hcomp : comp = D.1.1 e1.1 := Option.some.inj (k3.symm.trans hcls.1)
  subst hcomp
  obtain ⟨kC, hkC, -⟩ := hcls.2
  refine W.aast hx hb hcell (fun q h => by cases h) (fun h => by cases h) k1 k2 rfl hkC ⟨hin.1, by rw [arrV_size]; exact hin.2⟩ g1 (fun q h => by rw [g3] at h; cases h) (by rw [g2]; exact hkC) (by rw [g2]; exact va_assign hcls) rfl rfl hd fun H1 e' z' oq => ?_
  refine k H1 _ ls ⟨hH.put ?_ oq, hI.put (hI a0 e0 h0), hS.put z' oq (hI a0 e0 h0), fun n hn => by rw [z']; exact hz n hn⟩ hl
  refine Or.inr ⟨by show 100 ≤ e0.1; omega, ?_, fun h j => ?_⟩
  · show H1[a0]? = some (arrV (D.2.1 (e0.1 - 100)) _ _)
    rw [hke, e', arrV_store]
  · exfalso
    have h : e0.1 = 100 := h
    rw [show k0 = 0 by omega] at ht
    cases ht
end NEWC
section RUNIN
variable {p : Program} {l : Launch} {e : Env} {R : Room} {s : State} {m : MethodId} {args : Array Value} {below : List Frame} {meth : Method} {c : Code} {D : AG} {A : Nat → Prop} {cc : ByteArray} {pc : Nat} {H : Heap} {locs : List Loc} {ls : Array Slot} {own : String} {S S1 : ASt} {rest As : List Value} {y : MethodName} {cb : ByteArray} {nl n idx d : Nat}
theorem a_runIN {q : Addr} {cl sl : Nat} {v : Option Value} (X0 : aCtx p l R s m args meth c D A own cc) (hR : aR D A s.heap S H locs) (hls : ls.size = c.maxLocals)
    (hM : aMet l D.2.2 d y cb nl none (.ref q :: As) S (.inl v) S1) (hC : aCOk own idx y cb nl none n) (hl : Cond.methodLinkNest own idx y "KernelGym" ∈ aNG) (hi : Cond.instanceMethod y ∈ aTB) (hnm : y.name = "<init>") (hn : As.length = n)
    (hW : (rest.map fun v => v.category).sum ≤ 8) (hd : decode cc pc = .ok (.invokespecial idx, 3)) (hrm : R.frames = 8 + (d + 1) ∧ R.locals = 200 + 40 * (d + 1)) (hf : cl + (S1.2.2.1 - S.2.2.1) ≤ R.cells ∧ sl + (S1.2.2.2 - S.2.2.2) ≤ R.slots) :
    vx_Run p l e R s m args below meth c H locs cl sl (S1.2.2.1 - S.2.2.1) (S1.2.2.2 - S.2.2.2) (F0 m pc ls (As.reverse ++ .ref q :: rest)) rest (aQc D S S1 H.size (.inl v) (Value.ref q :: As).toArray) (aXC D S S1 H.size (.inl v)) (aA S.1 H.size) := by
  have hX := X0
  obtain ⟨hx, hb, hown, hts, hKn, hKF, hA, -⟩ := X0
  obtain ⟨h1, h2, h3, h4, h5⟩ := hC
  have hG : GoodIn aTB (Cond.code y cb nl none :: aTB) := aTB_GoodIn (fun w hw => by
    rcases List.mem_cons.mp hw with rfl | hw
    · exact h1
    · exact hw)
  refine vx_run_of (va_runIN (nL := c.maxLocals) ⟨hx, hb, rfl, hown, hts⟩ (vx_met (hM D H.size rfl) (fun E st t h => by cases h.1)) ⟨va_cnB n hts hG rfl rfl rfl (hKF.2.1.2.1 _ hl) (hts _ h3) ⟨h4.1, h4.2, h5⟩ ⟨?_, ?_⟩, hnm, hts _ hi⟩ ⟨aPc_blind D S H.size _, aPc_at hX hR⟩ rfl hn hls rfl (by show 2 * 0 + _ ≤ 8; omega) hd hf)
  · rw [hrm.1]
    show 8 + d + 1 ≤ _
    omega
  · rw [hrm.2]
    show 8 + (nl + 11) + (200 + 40 * d) ≤ _
    omega
end RUNIN
section INITC
variable {l : Launch} {kad : Nat → Nat} {d1 mi mj : Nat} {y z : AMeth} {S S2 S9 : ASt} {r : ARes} {lv : ALv} {st : List Value} {pc idx q : Nat}
/-- a constructor's call -/
theorem cs_init (hy : aMS[mi]? = some y) (hz : aMS[mj]? = some z) (hq : aFind (aPs y) pc = some (.invokespecial idx, 3)) (hl : Cond.methodLink y.1.cls idx z.1 ∈ aTB ∨ Cond.methodLinkNest y.1.cls idx z.1 "KernelGym" ∈ aNG) (hi : Cond.instanceMethod z.1 ∈ aTB) (hnm : z.1.name = "<init>") (hrt : aRt z = none) (hpar : (parseMethodDescriptor z.1.desc).map (fun d => d.parameters.length) = some 0) (hnl : 1 ≤ aNl z) (hcat : (st.map fun v => v.category).sum ≤ 8)
    (hst : aStm l kad d1 z (0, ([(0, .ref q)], [])) S (.inl none) S2) (g : aStm l kad (d1 + 1) y (pc + 3, (lv, st)) S2 r S9) : aStm l kad (d1 + 1) y (pc, (lv, .ref q :: st)) S r S9 := by
  obtain ⟨hd, -⟩ := cs_dec hy hq
  obtain ⟨c1, c2⟩ := hst.1
  have hgz : aMGood z := aMSg z (List.mem_of_getElem? hz)
  refine aStm.step hst.1 g fun p e R s m args below meth c D A b Q X0 hkad hnm' hml hRm hRc hbS H locs ls hR hl' k => ?_
  subst hkad
  have hM : aMet l D.2.2 d1 z.1 z.2.1 (aNl z) none (.ref q :: []) S (.inl none) S2 := fun D' sz hk => by
    have := aStm.met (argv := [.ref q]) hgz hnl hst D' sz hk
    rw [hrt] at this
    exact this
  obtain ⟨-, z2, z3, z4, z5, z6, -⟩ := hgz
  rw [show z.2.2.2.1 = none from hrt] at z2
  have hC : aCOk y.1.cls idx z.1 z.2.1 (aNl z) none 0 := ⟨z2, z3, z4, z5, hpar⟩
  have hroom : S.2.2.1 - b.1 + (S2.2.2.1 - S.2.2.1) ≤ R.cells ∧ S.2.2.2 - b.2 + (S2.2.2.2 - S.2.2.2) ≤ R.slots := by omega
  have w1 : S.2.2.1 - b.1 + (S2.2.2.1 - S.2.2.1) = S2.2.2.1 - b.1 := by omega
  have w2 : S.2.2.2 - b.2 + (S2.2.2.2 - S.2.2.2) = S2.2.2.2 - b.2 := by omega
  have hA := X0.2.2.2.2.2.2.1
  rcases hl with hl | hl
  · exact a_callW hA hR (a_runI (As := []) (rest := st) X0 hR hl'.1 hM hC hl hi hnm rfl hcat hd hRm hroom) (fun v hv H1 locs1 h1 => by cases hv; exact W.cs2 w1 w2 (k H1 locs1 ls h1 hl')) (fun E q ce H1 locs1 hE => by cases hE)
  · exact a_callW hA hR (a_runIN (As := []) (rest := st) X0 hR hl'.1 hM hC hl hi hnm rfl hcat hd hRm hroom) (fun v hv H1 locs1 h1 => by cases hv; exact W.cs2 w1 w2 (k H1 locs1 ls h1 hl')) (fun E q ce H1 locs1 hE => by cases hE)
end INITC
