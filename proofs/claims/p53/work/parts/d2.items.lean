/-! what a constructor does, field by field -/
section ITEMS
variable {l : Launch} {kad : Nat → Nat} {d mi mj : Nat} {y z : AMeth} {S9 : ASt} {r : ARes} {M : AMem} {L : List AEnt} {LC : Nat → List AEnt} {pc pc1 idx i1 i2 i j ci cj N Nj k k0 kd len n a c s cc ss : Nat} {x : Int32} {f : Nat → Value} {C C' : String} {T : u_T}
theorem bM_nil : bM M a [] = M := by
  funext q
  unfold bM
  split
  · rfl
  · rfl
theorem bM_one {e : AEnt} : aMw M a e = bM M a [e] := by
  have h := bM_push (M := M) (a := a) (l := []) (e := e)
  rw [bM_nil] at h
  exact h
theorem cSt_eq {M1 M2 : AMem} {z1 z2 c1 c2 s1 s2 : Nat} (h1 : M1 = M2) (h2 : z1 = z2) (h3 : c1 = c2) (h4 : s1 = s2) : ((M1, (some z1, (c1, s1))) : ASt) = (M2, (some z2, (c2, s2))) := by
  subst h1; subst h2; subst h3; subst h4; rfl
theorem cs_putf {lv : ALv} {v : Value} {st : List Value} (hy : aMS[mi]? = some y) (h3 : aFind (aPs y) pc = some (.putfield idx, 3)) (hF : aFind (aFT (aOc y)) idx = some (ci, (k, i))) (hfit : aFitB (aTyF ci k) v = true) (hown : y.1.name = "<init>" ∧ aOwn ci = y.1.cls)
    (g : aStm l kad d y (pc + 3, (lv, st)) (cSt M a ((ci, (N, updV f k v)) :: L) c s) r S9) : aStm l kad d y (pc, (lv, v :: .ref a :: st)) (cSt M a ((ci, (N, f)) :: L) c s) r S9 := by
  refine cs_mo (f1 := (pc + 3, (lv, st))) (S1 := cSt M a ((ci, (N, updV f k v)) :: L) c s) hy h3 ?_ g
  simp only [aMo, aPf, bM_own, hF]
  rw [if_pos ⟨trivial, hfit, Or.inr hown⟩, bM_put]
  rfl
theorem it_arr {t : ArrayType} (hy : aMS[mi]? = some y) (h1 : aOpsN y 2 (pc, ([(0, .ref a)], [])) = some (pc1, ([(0, .ref a)], [.int x, .ref a]))) (h2 : aFind (aPs y) pc1 = some (.newarray t, 2)) (h3 : aFind (aPs y) (pc1 + 2) = some (.putfield idx, 3)) (ht : (t = .int ∧ kd = 100) ∨ (t = .boolean ∧ kd = 101)) (hx : ¬ x < 0 ∧ x.toNatClampNeg = len ∧ len ≤ 4096)
    (hF : aFind (aFT (aOc y)) idx = some (ci, (k, i))) (hfit : ∀ q, aFitB (aTyF ci k) (.ref q) = true) (hown : y.1.name = "<init>" ∧ aOwn ci = y.1.cls) (hn : L.length + 1 = n)
    (g : aStm l kad d y (pc1 + 5, ([(0, .ref a)], [])) (cSt M a ((ci, (N, updV f k (.ref (a + n)))) :: (L ++ [(kd, (len, fun _ => .int 0))])) (c + 1) (s + len)) r S9) : aStm l kad d y (pc, ([(0, .ref a)], [])) (cSt M a ((ci, (N, f)) :: L) c s) r S9 := by
  subst hn
  refine cs_ops hy 2 _ h1 ?_
  refine cs_ex (f1 := (pc1 + 2, ([(0, .ref a)], [.ref (a + (L.length + 1)), .ref a]))) (S1 := cSt M a (((ci, (N, f)) :: L) ++ [(kd, (len, fun _ => .int 0))]) (c + 1) (s + len)) hy h2 ?_ (cs_putf hy h3 hF (hfit _) hown g)
  obtain ⟨q1, q2, q3⟩ := hx
  subst q2
  simp only [aEx, aNa]
  rw [if_pos ⟨q1, q3⟩]
  have e : aNa1 kd x.toNatClampNeg (pc1, ([(0, .ref a)], [.int x, .ref a])) (cSt M a ((ci, (N, f)) :: L) c s) [.ref a] = some ((pc1 + 2, ([(0, .ref a)], [.ref (a + (L.length + 1)), .ref a])), cSt M a (((ci, (N, f)) :: L) ++ [(kd, (x.toNatClampNeg, fun _ => .int 0))]) (c + 1) (s + x.toNatClampNeg)) := by
    show some ((pc1 + 2, ([(0, Value.ref a)], [Value.ref (a + (L.length + 1)), Value.ref a])), ((aMw _ _ _, (some _, (_, _))) : ASt)) = _
    rw [show a + (L.length + 1) = a + ((ci, (N, f)) :: L).length from rfl, bM_push]
    refine congrArg some (congrArg (fun w => (_, w)) (cSt_eq rfl ?_ rfl rfl))
    rw [List.length_append]
    rfl
  rcases ht with ⟨rfl, rfl⟩ | ⟨rfl, rfl⟩
  · exact e
  · exact e
theorem it_refs (hy : aMS[mi]? = some y) (h1 : aOpsN y 2 (pc, ([(0, .ref a)], [])) = some (pc1, ([(0, .ref a)], [.int x, .ref a]))) (h2 : aFind (aPs y) pc1 = some (.anewarray i1, 3)) (h3 : aFind (aPs y) (pc1 + 3) = some (.putfield idx, 3)) (ht : aTys[k0]? = some (.object C)) (hC : C ∈ aAO) (hw : Cond.classLink y.1.cls i1 C ∈ aTB) (hx : ¬ x < 0 ∧ x.toNatClampNeg = len ∧ len ≤ 4096)
    (hF : aFind (aFT (aOc y)) idx = some (ci, (k, i))) (hfit : ∀ q, aFitB (aTyF ci k) (.ref q) = true) (hown : y.1.name = "<init>" ∧ aOwn ci = y.1.cls) (hn : L.length + 1 = n)
    (g : aStm l kad d y (pc1 + 6, ([(0, .ref a)], [])) (cSt M a ((ci, (N, updV f k (.ref (a + n)))) :: (L ++ [(100 + k0, (len, fun _ => .null))])) (c + 1) (s + len)) r S9) : aStm l kad d y (pc, ([(0, .ref a)], [])) (cSt M a ((ci, (N, f)) :: L) c s) r S9 := by
  subst hn
  refine cs_ops hy 2 _ h1 ?_
  refine cs_anew hy h2 ht hC hw hx.1 hx.2.1 hx.2.2 ?_
  rw [bM_push, show a + ((ci, (N, f)) :: L).length + 1 = a + (((ci, (N, f)) :: L) ++ [(100 + k0, (len, fun _ => Value.null))]).length by rw [List.length_append]; rfl]
  exact cs_putf hy h3 hF (hfit _) hown g
/-- a new object with its constructor, on a stack -/
theorem cs_make {lv : ALv} {st : List Value} {P : List AEnt} (hy : aMS[mi]? = some y) (hz : aMS[mj]? = some z) (h2 : aFind (aPs y) pc = some (.new i1, 3)) (h3 : aFind (aPs y) (pc + 3) = some (.dup, 1)) (h4 : aFind (aPs y) (pc + 4) = some (.invokespecial i2, 3)) (hc : vwCl[cj]? = some (C, T, Nj)) (hw : ∀ w ∈ [Cond.classLink y.1.cls i1 C, Cond.instantiable C Nj, Cond.initialized C], w ∈ aTB)
    (hl : Cond.methodLink y.1.cls i2 z.1 ∈ aTB ∨ Cond.methodLinkNest y.1.cls i2 z.1 "KernelGym" ∈ aNG) (hi : Cond.instanceMethod z.1 ∈ aTB) (hnm : z.1.name = "<init>" ∧ aRt z = none ∧ (parseMethodDescriptor z.1.desc).map (fun d => d.parameters.length) = some 0 ∧ 1 ≤ aNl z) (hcat : ∀ q, (((Value.ref q) :: st).map fun v => v.category).sum ≤ 8)
    (hch : ∀ (M : AMem) (b c s : Nat), aStm l kad d z (0, ([(0, .ref b)], [])) (cSt M b [(cj, (Nj, dfl cj))] c s) (.inl none) (cSt M b (LC b) (c + cc) (s + ss))) (hn : P.length = n)
    (g : aStm l kad (d + 1) y (pc + 7, (lv, .ref (a + n) :: st)) (cSt M a (P ++ LC (a + n)) (c + (1 + cc)) (s + (Nj + ss))) r S9) : aStm l kad (d + 1) y (pc, (lv, st)) (cSt M a P c s) r S9 := by
  subst hn
  refine cs_new hy h2 hc hw ?_
  rw [bM_one]
  refine cs_op (f1 := (pc + 4, (lv, .ref (a + P.length) :: .ref (a + P.length) :: st))) hy h3 rfl ?_
  refine cs_init (S2 := cSt M a (P ++ LC (a + P.length)) (c + (1 + cc)) (s + (Nj + ss))) hy hz h4 hl hi hnm.1 hnm.2.1 hnm.2.2.1 hnm.2.2.2 (hcat _) ?_ g
  have h := hch (bM M a P) (a + P.length) (c + 1) (s + Nj)
  have e : cSt (bM M a P) (a + P.length) (LC (a + P.length)) (c + 1 + cc) (s + Nj + ss) = cSt M a (P ++ LC (a + P.length)) (c + (1 + cc)) (s + (Nj + ss)) := cSt_eq bM_app (by rw [List.length_append]; omega) (by omega) (by omega)
  rw [e] at h
  exact h
theorem it_obj (hy : aMS[mi]? = some y) (hz : aMS[mj]? = some z) (h1 : aOpsN y 1 (pc, ([(0, .ref a)], [])) = some (pc + 1, ([(0, .ref a)], [.ref a]))) (h2 : aFind (aPs y) (pc + 1) = some (.new i1, 3)) (h3 : aFind (aPs y) (pc + 4) = some (.dup, 1)) (h4 : aFind (aPs y) (pc + 5) = some (.invokespecial i2, 3)) (h5 : aFind (aPs y) (pc + 8) = some (.putfield idx, 3)) (hc : vwCl[cj]? = some (C, T, Nj)) (hw : ∀ w ∈ [Cond.classLink y.1.cls i1 C, Cond.instantiable C Nj, Cond.initialized C], w ∈ aTB)
    (hl : Cond.methodLink y.1.cls i2 z.1 ∈ aTB ∨ Cond.methodLinkNest y.1.cls i2 z.1 "KernelGym" ∈ aNG) (hi : Cond.instanceMethod z.1 ∈ aTB) (hnm : z.1.name = "<init>" ∧ aRt z = none ∧ (parseMethodDescriptor z.1.desc).map (fun d => d.parameters.length) = some 0 ∧ 1 ≤ aNl z)
    (hch : ∀ (M : AMem) (b c s : Nat), aStm l kad d z (0, ([(0, .ref b)], [])) (cSt M b [(cj, (Nj, dfl cj))] c s) (.inl none) (cSt M b (LC b) (c + cc) (s + ss)))
    (hF : aFind (aFT (aOc y)) idx = some (ci, (k, i))) (hfit : ∀ q, aFitB (aTyF ci k) (.ref q) = true) (hown : y.1.name = "<init>" ∧ aOwn ci = y.1.cls) (hn : L.length + 1 = n)
    (g : aStm l kad (d + 1) y (pc + 11, ([(0, .ref a)], [])) (cSt M a ((ci, (N, updV f k (.ref (a + n)))) :: (L ++ LC (a + n))) (c + (1 + cc)) (s + (Nj + ss))) r S9) : aStm l kad (d + 1) y (pc, ([(0, .ref a)], [])) (cSt M a ((ci, (N, f)) :: L) c s) r S9 := by
  refine cs_ops hy 1 _ h1 ?_
  refine cs_make (P := (ci, (N, f)) :: L) (n := n) hy hz h2 h3 h4 hc hw hl hi hnm (fun q => Nat.le_of_ble_eq_true rfl) hch hn ?_
  exact cs_putf (L := L ++ LC (a + n)) hy h5 hF (hfit _) hown g
theorem it_int (hy : aMS[mi]? = some y) (h1 : aOpsN y 2 (pc, ([(0, .ref a)], [])) = some (pc1, ([(0, .ref a)], [.int x, .ref a]))) (h3 : aFind (aPs y) pc1 = some (.putfield idx, 3)) (hF : aFind (aFT (aOc y)) idx = some (ci, (k, i))) (hfit : aFitB (aTyF ci k) (.int x) = true) (hown : y.1.name = "<init>" ∧ aOwn ci = y.1.cls)
    (g : aStm l kad d y (pc1 + 3, ([(0, .ref a)], [])) (cSt M a ((ci, (N, updV f k (.int x))) :: L) c s) r S9) : aStm l kad d y (pc, ([(0, .ref a)], [])) (cSt M a ((ci, (N, f)) :: L) c s) r S9 :=
  cs_ops hy 2 _ h1 (cs_putf hy h3 hF hfit hown g)
/-- the head of each -/
theorem it_head {S : ASt} (hy : aMS[mi]? = some y) (h0 : aFind (aPs y) 0 = some (.aload_n 0, 1)) (h1 : aFind (aPs y) 1 = some (.invokespecial idx, 3)) (hX : aFind (aXT (aOc y)) idx = some (3, j)) (g : aStm l kad d y (4, ([(0, .ref a)], [])) S r S9) : aStm l kad d y (0, ([(0, .ref a)], [])) S r S9 := by
  refine cs_op (f1 := (1, ([(0, .ref a)], [.ref a]))) hy h0 rfl (cs_ex (f1 := (4, ([(0, .ref a)], []))) (S1 := S) hy h1 ?_ g)
  simp only [aEx, hX]
  rw [if_pos trivial, if_pos (show aCat [] by decide)]
end ITEMS
