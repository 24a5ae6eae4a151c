/-! constructors: what lies behind the own cell, as a list of cells -/
def bM (M : AMem) (a : Nat) (l : List AEnt) : AMem := fun q => if q < a then M q else match l[q - a]? with
  | some e => some e
  | none => M q
section BL
variable {M : AMem} {a j q : Nat} {l lc : List AEnt} {e e0 : AEnt}
theorem bM_lo (h : q < a) : bM M a l q = M q := by simp only [bM, if_pos h]
theorem bM_at (h : l[j]? = some e) : bM M a l (a + j) = some e := by
  simp only [bM, if_neg (show ¬ a + j < a by omega), Nat.add_sub_cancel_left, h]
theorem bM_own : bM M a (e :: l) a = some e := bM_at (j := 0) rfl
theorem bM_hi (h : a + l.length ≤ q) : bM M a l q = M q := by
  simp only [bM, if_neg (show ¬ q < a by omega), List.getElem?_eq_none (show l.length ≤ q - a by omega)]
theorem bM_push : aMw (bM M a l) (a + l.length) e = bM M a (l ++ [e]) := by
  funext q
  by_cases h1 : q < a
  · simp only [aMw, if_neg (show ¬ q = a + l.length by omega), bM_lo h1]
  · obtain ⟨j, rfl⟩ : ∃ j, q = a + j := ⟨q - a, by omega⟩
    by_cases h2 : j < l.length
    · rw [bM_at (e := l[j]) (by rw [List.getElem?_append_left h2]; exact List.getElem?_eq_getElem h2)]
      simp only [aMw, if_neg (show ¬ a + j = a + l.length by omega)]
      exact bM_at (List.getElem?_eq_getElem h2)
    · by_cases h3 : j = l.length
      · subst h3
        rw [bM_at (e := e) (by rw [List.getElem?_append_right (Nat.le_refl _), Nat.sub_self]; rfl)]
        simp only [aMw, if_true]
      · rw [bM_hi (show a + (l ++ [e]).length ≤ a + j by rw [List.length_append]; show a + (l.length + 1) ≤ a + j; omega)]
        simp only [aMw, if_neg (show ¬ a + j = a + l.length by omega)]
        exact bM_hi (by omega)
theorem bM_set (h : j < l.length) : aMw (bM M a l) (a + j) e = bM M a (l.set j e) := by
  funext q
  by_cases h1 : q < a
  · simp only [aMw, if_neg (show ¬ q = a + j by omega), bM_lo h1]
  · obtain ⟨i, rfl⟩ : ∃ i, q = a + i := ⟨q - a, by omega⟩
    by_cases h3 : i = j
    · subst h3
      rw [bM_at (e := e) (by rw [List.getElem?_set_self h])]
      simp only [aMw, if_true]
    · simp only [aMw, if_neg (show ¬ a + i = a + j by omega)]
      by_cases h2 : i < l.length
      · rw [bM_at (List.getElem?_eq_getElem h2), bM_at (e := l[i]) (by rw [List.getElem?_set_ne (Ne.symm h3)]; exact List.getElem?_eq_getElem h2)]
      · rw [bM_hi (by omega), bM_hi (by rw [List.length_set]; omega)]
theorem bM_put : aMw (bM M a (e0 :: l)) a e = bM M a (e :: l) := bM_set (j := 0) (Nat.succ_pos _)
theorem bM_app : bM (bM M a l) (a + l.length) lc = bM M a (l ++ lc) := by
  funext q
  by_cases h1 : q < a
  · rw [bM_lo (show q < a + l.length by omega), bM_lo h1, bM_lo h1]
  · obtain ⟨j, rfl⟩ : ∃ j, q = a + j := ⟨q - a, by omega⟩
    by_cases h2 : j < l.length
    · rw [bM_lo (show a + j < a + l.length by omega), bM_at (List.getElem?_eq_getElem h2), bM_at (e := l[j]) (by rw [List.getElem?_append_left h2]; exact List.getElem?_eq_getElem h2)]
    · obtain ⟨i, rfl⟩ : ∃ i, j = l.length + i := ⟨j - l.length, by omega⟩
      by_cases h3 : i < lc.length
      · rw [← Nat.add_assoc, bM_at (List.getElem?_eq_getElem h3), Nat.add_assoc, bM_at (e := lc[i]) (by rw [List.getElem?_append_right (by omega), Nat.add_sub_cancel_left]; exact List.getElem?_eq_getElem h3)]
      · rw [bM_hi (show a + l.length + lc.length ≤ a + (l.length + i) by omega), bM_hi (by omega), bM_hi (by rw [List.length_append]; omega)]
end BL
/-- a constructor's state: the cells from a on -/
abbrev cSt (M : AMem) (a : Nat) (l : List AEnt) (c n : Nat) : ASt := (bM M a l, (some (a + l.length), (c, n)))
section CST
variable {l : Launch} {kad : Nat → Nat} {d mi : Nat} {y : AMeth} {f f1 : AFr} {S S1 S9 : ASt} {r : ARes}
/-- a step of a frame, and what comes behind it -/
theorem aStm.step (hc : S.2.2.1 ≤ S1.2.2.1 ∧ S.2.2.2 ≤ S1.2.2.2) (g : aStm l kad d y f1 S1 r S9)
    (hstep : ∀ (p : Program) (e : Env) (R : Room) (s : State) (m : MethodId) (args : Array Value) (below : List Frame) (meth : Method) (c : Code) (D : AG) (A : Nat → Prop) (b : Nat × Nat) (Q : State → Prop),
      aCtx p l R s m args meth c D A y.1.cls y.2.1 → D.2.2 = kad → meth.name = y.1.name → c.maxLocals = aNl y → (R.frames = 8 + d ∧ R.locals = 200 + 40 * d) → (S1.2.2.1 - b.1 ≤ R.cells ∧ S1.2.2.2 - b.2 ≤ R.slots) → (b.1 ≤ S.2.2.1 ∧ b.2 ≤ S.2.2.2) →
      ∀ (H : Heap) (locs : List Loc) (ls : Array Slot), aR D A s.heap S H locs → lv_has ls c.maxLocals f.2.1 → aKM p l e R s m args below meth c D A Q (S1.2.2.1 - b.1) (S1.2.2.2 - b.2) f1 S1 →
      W p l e R s m args below meth c H locs (S.2.2.1 - b.1) (S.2.2.2 - b.2) Q (F0 m f.1 ls f.2.2)) : aStm l kad d y f S r S9 := by
  obtain ⟨g1, g2⟩ := g
  refine ⟨⟨Nat.le_trans hc.1 g1.1, Nat.le_trans hc.2 g1.2⟩, fun p e R s m args below meth c D S0 b X0 hkad hnm hrt hml hRm hRc hbS H locs ls hR hl => ?_⟩
  refine hstep p e R s m args below meth c D _ b _ X0 hkad hnm hml hRm ⟨Nat.le_trans (Nat.sub_le_sub_right g1.1 _) hRc.1, Nat.le_trans (Nat.sub_le_sub_right g1.2 _) hRc.2⟩ hbS H locs ls hR hl fun H1 locs1 ls1 hR1 hl1 => ?_
  exact g2 p e R s m args below meth c D S0 b X0 hkad hnm hrt hml hRm hRc ⟨Nat.le_trans hbS.1 hc.1, Nat.le_trans hbS.2 hc.2⟩ H1 locs1 ls1 hR1 hl1
theorem cs_dec (hy : aMS[mi]? = some y) {pc len : Nat} {ins : Instr} (hq : aFind (aPs y) pc = some (ins, len)) : decode y.2.1 pc = .ok (ins, len) ∧ (aLen ins = 0 ∨ len = aLen ins) :=
  (aMSg y (List.mem_of_getElem? hy)).2.2.2.2.2.2 (pc, (ins, len)) (aFind_mem hq)
theorem cs_op {ins : Instr} {len : Nat} (hy : aMS[mi]? = some y) (hq : aFind (aPs y) f.1 = some (ins, len)) (ho : aOp (aNl y) ins f.1 f.2.1 f.2.2 = some f1) (g : aStm l kad d y f1 S r S9) : aStm l kad d y f S r S9 := by
  obtain ⟨hd, hn⟩ := cs_dec hy hq
  refine aStm.step ⟨Nat.le_refl _, Nat.le_refl _⟩ g fun p e R s m args below meth c D A b Q X0 hkad hnm hml hRm hRc hbS H locs ls hR hl k => ?_
  exact ao_all (S := (S.1, (S.2.1, (S.2.2.1 - b.1, S.2.2.2 - b.2)))) X0.1 X0.2.1 hd hn hl (by rw [hml]; exact ho) (fun ls1 hl1 => k H locs ls1 hR hl1)
theorem cs_ops (hy : aMS[mi]? = some y) : ∀ (k : Nat) (f : AFr), aOpsN y k f = some f1 → aStm l kad d y f1 S r S9 → aStm l kad d y f S r S9 := by
  intro k
  induction k with
  | zero => intro f h g; cases h; exact g
  | succ k ih =>
    intro f h g
    unfold aOpsN at h
    split at h
    · cases h
    · rename_i q hq
      split at h
      · cases h
      · split at h
        · cases h
        · rename_i f2 ho
          exact cs_op (ins := q.1) (len := q.2) hy hq ho (ih f2 h g)
theorem cs_mo {ins : Instr} {len : Nat} (hy : aMS[mi]? = some y) (hq : aFind (aPs y) f.1 = some (ins, len)) (hm : aMo y ins f S = some (f1, S1)) (g : aStm l kad d y f1 S1 r S9) : aStm l kad d y f S r S9 := by
  obtain ⟨hd, hn⟩ := cs_dec hy hq
  have hcnt := aMo_cnt hm
  have hcn := (aMSg y (List.mem_of_getElem? hy)).2.2.2.2.2.1
  refine aStm.step (by rw [show S1.2 = S.2 from hcnt]; exact ⟨Nat.le_refl _, Nat.le_refl _⟩) g fun p e R s m args below meth c D A b Q X0 hkad hnm hml hRm hRc hbS H locs ls hR hl k => ?_
  rw [show S1.2 = S.2 from hcnt] at k
  exact aMo_ok (f1 := f1) (S1 := S1) X0 hcn hnm hR hl hd hn hm k
theorem cs_ex {ins : Instr} {len : Nat} (hy : aMS[mi]? = some y) (hq : aFind (aPs y) f.1 = some (ins, len)) (hm : aEx kad y ins f S = some (f1, S1)) (g : aStm l kad d y f1 S1 r S9) : aStm l kad d y f S r S9 := by
  obtain ⟨hd, hn⟩ := cs_dec hy hq
  have hcn := (aMSg y (List.mem_of_getElem? hy)).2.2.2.2.2.1
  refine aStm.step (aEx_cnt hm) g fun p e R s m args below meth c D A b Q X0 hkad hnm hml hRm hRc hbS H locs ls hR hl k => ?_
  exact aEx_ok (z := (f1, S1)) X0 hkad hcn hRm hRc hbS hR hl hd hn hm k
theorem cs_ret {v : Option Value} {ins : Instr} {len : Nat} (hy : aMS[mi]? = some y) (hq : aFind (aPs y) f.1 = some (ins, len)) (hr : aRet (aRt y) ins f.2.2 = some v) : aStm l kad d y f S (.inl v) S := by
  obtain ⟨hd, hn⟩ := cs_dec hy hq
  exact ⟨⟨Nat.le_refl _, Nat.le_refl _⟩, fun p e R s m args below meth c D S0 b X0 hkad hnm hrt hml hRm hRc hbS H locs ls hR hl => aRet_ok (b := b) X0 hrt hR hd hn hr⟩
end CST
