/-! the other instructions: constants, the library's own -/
section AEX
variable {p : Program} {l : Launch} {e : Env} {R : Room} {s : State} {m : MethodId} {args : Array Value} {below : List Frame} {meth : Method} {c : Code} {D : AG} {A : Nat → Prop} {Q : State → Prop} {H : Heap} {locs : List Loc} {ls : Array Slot} {cells slots : Nat} {y : AMeth} {S : ASt} {cc : ByteArray} {own : String} {pc idx : Nat} {r : List Value}
theorem ax_gets {ref n d : String} {v : Value} (X0 : aCtx p l R s m args meth c D A own cc) (hR : aR D A s.heap S H locs) (hZ : va_Z ref n d v A s s.heap) (hlink : Cond.fieldLink own idx ref n d ∈ aTB) (hd : decode cc pc = .ok (.getstatic idx, 3)) (k : W p l e R s m args below meth c H locs cells slots Q (F0 m (pc + 3) ls (v :: r))) : W p l e R s m args below meth c H locs cells slots Q (F0 m pc ls r) :=
  va_gets X0.1 X0.2.1 hZ hR.2.2.1 X0.2.2.1 (X0.2.2.2.1 _ hlink) (fun _ h => h) hd k
theorem ax_swm {i : Int32} (X0 : aCtx p l R s m args meth c D A own cc) (hR : aR D A s.heap S H locs) (hi : ¬ (i < 0 ∨ 9 ≤ i.toNatClampNeg)) (hd : decode cc pc = .ok (.iaload, 1)) (k : W p l e R s m args below meth c H locs cells slots Q (F0 m (pc + 1) ls (.int (aSm i.toNatClampNeg) :: r))) : W p l e R s m args below meth c H locs cells slots Q (F0 m pc ls (.int i :: .ref (D.2.2 9) :: r)) := by
  obtain ⟨hx, hb, hown, hts, hKn, hKF, hA, -⟩ := X0
  obtain ⟨h1, h2, cell, h3, h4, h5, h6, h7⟩ := hKF.2.2.2.2
  have hlt : i.toNatClampNeg < 9 := Nat.not_le.mp fun q => hi (Or.inr q)
  exact W.iald (v := .int (aSm i.toNatClampNeg)) hx hb (by rw [hR.2.2.1.2.1 _ h2 h1]; exact h3) h4 h5 (fun hq => hi (hq.imp id (fun hq => Nat.le_trans h6 hq))) (h7 _ hlt) rfl rfl hd k
theorem ax_max {x w : Int32} (X0 : aCtx p l R s m args meth c D A own cc) (hls : ls.size = c.maxLocals) (h1 : Cond.methodLink own idx Lib.Math.max.name ∈ aTB) (h2 : Cond.static Lib.Math.max.name ∈ aTB) (h3 : Cond.initialized "java/lang/Math" ∈ aTB) (h4 : Cond.code Lib.Math.max.name Lib.Math.max.code 2 (some .int) ∈ aTB) (hcat : (r.map fun v => v.category).sum ≤ 8) {d : Nat} (hrm : R.frames = 8 + d ∧ R.locals = 200 + 40 * d) (hc : cells ≤ R.cells ∧ slots ≤ R.slots) (hd : decode cc pc = .ok (.invokestatic idx, 3)) (k : W p l e R s m args below meth c H locs cells slots Q (F0 m (pc + 3) ls (.int (if x < w then w else x) :: r))) : W p l e R s m args below meth c H locs cells slots Q (F0 m pc ls (.int w :: .int x :: r)) := by
  obtain ⟨hx, hb, hown, hts, hKn, hKF, hA, -⟩ := X0
  exact va_mmax hx hb hls.symm hown (hts _ h1) (hts _ h2) (hts _ h3) (hts _ h4) (by omega) (by omega) hc.1 hc.2 hd k
theorem ax_min {x w : Int32} (X0 : aCtx p l R s m args meth c D A own cc) (hls : ls.size = c.maxLocals) (h1 : Cond.methodLink own idx Lib.Math.min.name ∈ aTB) (h2 : Cond.static Lib.Math.min.name ∈ aTB) (h3 : Cond.initialized "java/lang/Math" ∈ aTB) (h4 : Cond.code Lib.Math.min.name Lib.Math.min.code 2 (some .int) ∈ aTB) (hcat : (r.map fun v => v.category).sum ≤ 8) {d : Nat} (hrm : R.frames = 8 + d ∧ R.locals = 200 + 40 * d) (hc : cells ≤ R.cells ∧ slots ≤ R.slots) (hd : decode cc pc = .ok (.invokestatic idx, 3)) (k : W p l e R s m args below meth c H locs cells slots Q (F0 m (pc + 3) ls (.int (if w < x then w else x) :: r))) : W p l e R s m args below meth c H locs cells slots Q (F0 m pc ls (.int w :: .int x :: r)) := by
  obtain ⟨hx, hb, hown, hts, hKn, hKF, hA, -⟩ := X0
  exact va_mmin hx hb hls.symm hown (hts _ h1) (hts _ h2) (hts _ h3) (hts _ h4) (by omega) (by omega) hc.1 hc.2 hd k
theorem ax_copy {a0 a1 : Nat} {e0 e1 : AEnt} {sp dp n : Int32} (X0 : aCtx p l R s m args meth c D A own cc) (hls : ls.size = c.maxLocals) (hR : aR D A s.heap S H locs) (w1 : Cond.methodLink own idx arraycopyName ∈ aTB) (w2 : Cond.native arraycopyName ∈ aTB) (w3 : Cond.static arraycopyName ∈ aTB) (w4 : Cond.initialized "java/lang/System" ∈ aTB)
    (h0 : S.1 a0 = some e0) (h1 : S.1 a1 = some e1) (k0 : e0.1 = 100) (k1 : e1.1 = 100) (q1 : ¬ sp < 0) (q2 : ¬ dp < 0) (q3 : ¬ n < 0) (q4 : sp.toNatClampNeg + n.toNatClampNeg ≤ e0.2.1) (q5 : dp.toNatClampNeg + n.toNatClampNeg ≤ e1.2.1) (hcat : (r.map fun v => v.category).sum ≤ 8) {d : Nat} (hrm : R.frames = 8 + d ∧ R.locals = 200 + 40 * d) (hd : decode cc pc = .ok (.invokestatic idx, 3))
    (kk : ∀ (H1 : Heap) (locs1 : List Loc), aR D A s.heap (aMw S.1 a1 (100, (e1.2.1, va_cpy e0.2.2 e1.2.2 sp.toNatClampNeg dp.toNatClampNeg n.toNatClampNeg)), S.2) H1 locs1 → W p l e R s m args below meth c H1 locs1 cells slots Q (F0 m (pc + 3) ls r)) : W p l e R s m args below meth c H locs cells slots Q (F0 m pc ls (.int n :: .int dp :: .ref a1 :: .int sp :: .ref a0 :: r)) := by
  obtain ⟨hx, hb, hown, hts, hKn, hKF, hA, -⟩ := X0
  obtain ⟨hH, hI, hS, hz⟩ := hR
  have nn : ∀ z : Int32, ¬ z < 0 → z.toInt = (z.toNatClampNeg : Int) := by
    intro z hz
    have hz0 : (0 : Int) ≤ z.toInt := by
      have := Int32.not_lt.mp hz
      simpa using Int32.le_iff_toInt_le.mp this
    show z.toInt = ((z.toInt.toNat : Nat) : Int)
    omega
  obtain ⟨hc0, i0⟩ := (hH a0 e0 h0).arr (by omega)
  obtain ⟨hc1, i1⟩ := (hH a1 e1 h1).arr (by omega)
  rw [k0] at hc0
  rw [k1] at hc1
  have hI0 := hKn.2 0 .int rfl
  obtain ⟨-, kk0, hk0, cm0, hkk0⟩ := hI0.1 e0.2.1 e0.2.2
  obtain ⟨-, kk1, hk1, cm1, hkk1⟩ := hI0.1 e1.2.1 e1.2.2
  intro T hT X
  obtain ⟨vm', X', step⟩ := X.arraycopy hx hown (hts _ w1) (hts _ w2) (hts _ w3) (hts _ w4) (src := a0) (dst := a1) (cs := arrV (D.2.1 0) e0.2.1 e0.2.2) (cd := arrV (D.2.1 0) e1.2.1 e1.2.2) (srcPos := sp) (destPos := dp) (n := n) (by rw [hT]; exact hc0) (by rw [hT]; exact hc1)
    (fun _ h => by cases h) (fun _ h => by cases h) (fun h => by cases h) (fun h => by cases h) hk0 hk1 hkk0 hkk1 (by simp [refKind]) q1 q2 q3
    (by rw [nn sp q1, nn n q3, arrV_size]; omega)
    (by rw [nn dp q2, nn n q3, arrV_size]; omega)
    (fun vm₁ _ i hi => by
      obtain ⟨x, hxv⟩ := i0 k0 (sp.toNatClampNeg + i)
      have e : (arrV (D.2.1 0) e0.2.1 e0.2.2).slots.getD (sp.toNatClampNeg + i) .null = .int x := by
        rw [Array.getD_eq_getD_getElem?, arrV_read _ _ (by omega), hxv]
        rfl
      refine ⟨?_, ?_⟩
      · rw [e]
        rfl
      · rw [e]
        exact trivial)
    (g := F0 m pc ls (.int n :: .int dp :: .ref a1 :: .int sp :: .ref a0 :: r)) rfl hls (rest := r) rfl (by rw [hb]; exact hd) (by omega) (by
      have h9 : nativeFrameWords "java/lang/System" "arraycopy" 5 + 11 ≤ 150 := by decide +kernel
      show 2 * 0 + _ + _ ≤ _
      omega)
  have e1' : copied (arrV (D.2.1 0) e0.2.1 e0.2.2) (arrV (D.2.1 0) e1.2.1 e1.2.2) sp dp n = arrV (D.2.1 0) e1.2.1 (va_cpy e0.2.2 e1.2.2 sp.toNatClampNeg dp.toNatClampNeg n.toNatClampNeg) := va_copied (fun z => z) (D.2.1 0) (D.2.1 0) e0.2.2 e1.2.2 q4
  rw [e1'] at X' step
  have hlt : a1 < H.size := (Array.getElem?_eq_some_iff.mp hc1).1
  generalize hcell : arrV (D.2.1 0) e1.2.1 (va_cpy e0.2.2 e1.2.2 sp.toNatClampNeg dp.toNatClampNeg n.toNatClampNeg) = cell at X' step
  have hheap : ((T.setVm vm').setCell a1 cell).heap = H.setIfInBounds a1 cell := by rw [← hT]; rfl
  have oq : ∀ q : Nat, q ≠ a1 → (H.setIfInBounds a1 cell)[q]? = H[q]? := fun q hq => by simp [Array.getElem?_setIfInBounds, Ne.symm hq]
  have og : (H.setIfInBounds a1 cell)[a1]? = some cell := by simp [Array.getElem?_setIfInBounds, hlt]
  have hint : ∀ j : Nat, ∃ x : Int32, va_cpy e0.2.2 e1.2.2 sp.toNatClampNeg dp.toNatClampNeg n.toNatClampNeg j = .int x := by
    intro j
    unfold va_cpy
    split
    · exact i0 k0 _
    · exact i1 k1 _
  obtain ⟨t, b1, b2⟩ := kk (H.setIfInBounds a1 cell) _ ⟨hH.put (Or.inr ⟨Nat.le_refl _, by rw [og, ← hcell]; rfl, fun _ j => hint j⟩) oq, hI.put (hI a1 e1 h1), ⟨by simp; exact hS.1, fun q g1 g2 => by
      rw [oq q (fun e => g2 (by rw [e]; exact hI a1 e1 h1))]
      exact hS.2.1 q g1 g2, fun q hq => by
      rcases List.mem_append.mp hq with h | h
      · exact hS.2.2 q h
      · obtain ⟨z, -, hz⟩ := List.mem_map.mp h
        rw [← hz]
        exact hI a1 e1 h1⟩, fun z hz' => by simp; exact hz z hz'⟩ _ hheap X'
  exact ⟨t, step t b1, b2⟩
theorem c_ord (l : Launch) (q sz : Nat) (x : Int32) : Met l yJx29ce0_ordinal_8abf5 (Cond.code yJx29ce0_ordinal_8abf5 cJx29ce0_ordinal_8abf5 1 (some .int) :: [.fieldLink RJx29ce0 7 "java/lang/Enum" "ordinal" "I"]) ({ frames := 0, cells := 0, slots := 0, locals := 0 }) (va_Pc [.ref q] (fun U => U.heap.size = sz ∧ ∃ (cell : Cell) (i : Nat), U.heap[q]? = some cell ∧ (cell.vm.isStatics = false ∧ cell.vm ≠ .unknown) ∧ aOI U i ∧ cell.slots[i]? = some (.int x)))
    (va_Qi (fun (r : Int32) (_ : Unit) => r = x) (fun _ t => t.heap.size = sz) (fun _ => False)) 0 0 (fun _ => False) := by
  refine Met.ofW (cc := cJx29ce0_ordinal_8abf5) (maxL := 1) (ret := some .int) (by decide) rfl ?_
  intro p e s m args below meth c s₁ B hml hv
  obtain ⟨rfl, hsz, cell, i, h1, h2, ⟨cf, kf, fi, fd, h3, h4, h5⟩, h6⟩ := hv
  have hx := B.exec
  have hb := B.bytes
  have hr := B.returns
  have hts := atoms_spec (ws := Cond.code yJx29ce0_ordinal_8abf5 cJx29ce0_ordinal_8abf5 1 (some .int) :: [.fieldLink RJx29ce0 7 "java/lang/Enum" "ordinal" "I"]) B.pre
  have hown : s.vm.findClass RJx29ce0 = some m.cls := findClass_of_methodNamed B.named
  have hlocks := B.notSynchronized
  have hl := lv_entry ([.ref q]) (n := 1) (Nat.le_of_ble_eq_true rfl)
  rw [lg_entry_eq]
  generalize (lg_sl ([.ref q]) ++ List.replicate (1 - (lg_sl ([.ref q])).length) Slot.unset).toArray = ls at hl ⊢
  have hl : lv_has ls 1 [(0, .ref q)] := hl
  refine lv_aload_n hx hb (by decide +kernel : decode cJx29ce0_ordinal_8abf5 0 = .ok (.aload_n 0, 1)) rfl (lv_at hl 0 rfl) ?_
  refine W.getf (v := .int x) hx hb hown (hts (.fieldLink RJx29ce0 7 "java/lang/Enum" "ordinal" "I") (List.mem_cons_of_mem _ List.mem_cons_self)) h3 h4 h1 h2.2 (by rw [h5]; exact h6) rfl rfl (by decide +kernel : decode cJx29ce0_ordinal_8abf5 1 = .ok (.getfield 7, 3)) ?_
  exact W.iret (v := x) hx hb hr (fun t ht hW => ⟨⟨x, (), rfl, rfl, by show t.heap.size = sz; rw [ht]; exact hsz⟩, ⟨by rw [ht]; exact Nat.le_refl _, fun q _ _ => by rw [ht]⟩⟩) (fun q h => by cases h) (by decide +kernel : decode cJx29ce0_ordinal_8abf5 4 = .ok (.ireturn, 1))
theorem ax_ord {j : Nat} (X0 : aCtx p l R s m args meth c D A own cc) (hls : ls.size = c.maxLocals) (hR : aR D A s.heap S H locs) (hj : j < 9) (hG : GoodIn aTB (va_wsU own idx "KernelGym$Does" "java/lang/Enum" ⟨"KernelGym$Does", "ordinal", "()I"⟩ yJx29ce0_ordinal_8abf5 (Cond.code yJx29ce0_ordinal_8abf5 cJx29ce0_ordinal_8abf5 1 (some .int) :: [.fieldLink RJx29ce0 7 "java/lang/Enum" "ordinal" "I"])))
    (hcat : (r.map fun v => v.category).sum ≤ 8) {d : Nat} (hrm : R.frames = 8 + d ∧ R.locals = 200 + 40 * d) (hc : cells ≤ R.cells ∧ slots ≤ R.slots) (hd : decode cc pc = .ok (.invokevirtual idx, 3))
    (kk : ∀ (H1 : Heap) (locs1 : List Loc), aR D A s.heap S H1 locs1 → W p l e R s m args below meth c H1 locs1 cells slots Q (F0 m (pc + 3) ls (.int (nI j) :: r))) : W p l e R s m args below meth c H locs cells slots Q (F0 m pc ls (.ref (D.2.2 j) :: r)) := by
  obtain ⟨hx, hb, hown, hts, hKn, hKF, hA, -⟩ := X0
  obtain ⟨nm, hnm⟩ : ∃ nm, aEn[j]? = some nm := ⟨_, List.getElem?_eq_getElem hj⟩
  have hKF' := hKF.kept hR.2.2.1.2.1 hR.2.2.1.1
  obtain ⟨-, g2, g3, cell, i, g4, g5, g6, g7, g8⟩ := hKF'.2.2.1 j nm hnm
  refine va_calli (va_runU (C := "KernelGym$Does") (owner := "java/lang/Enum") (nL := c.maxLocals) (As := []) (rest := r) ⟨hx, hb, rfl, hown, hts⟩ (c_ord l (D.2.2 j) H.size (nI j)) (va_cwU 0 hts hG rfl rfl rfl rfl ⟨by decide, by decide, by decide +kernel⟩ ⟨by rw [hrm.1]; show 0 + 1 ≤ 8 + d; omega, by rw [hrm.2]; show 8 + (1 + 11) + 0 ≤ 200 + 40 * d; omega⟩)
    ⟨fun a U g mk q => by obtain ⟨q0, q1, cell, i, q2, q3, q4, q5⟩ := q; exact ⟨q0, q1, cell, i, q2, q3, aOI.moved (u := U) (E := U.calling g mk a) (Vm.Alike.refl U.vm) q4, q5⟩, ⟨cell, g4, g6.1, g5⟩, fun U hU hW => ⟨rfl, by rw [hU], cell, i, by rw [hU]; exact g4, g6, g7.moved hW.alike, g8⟩⟩ rfl rfl hls rfl (by show 2 * 0 + _ ≤ 8; omega) hd ⟨hc.1, hc.2⟩) hR.2.2.1 (fun q _ h => h.elim) (fun q h => h.elim) (fun r0 u t H1 locs1 ht hvm hp hB hz hk hS1 => ?_)
  subst hp
  refine kk H1 locs1 ⟨fun a f hf => (hR.1 a f hf).kept (hk a (hR.1 a f hf).lt (fun h => h)), hR.2.1, hS1, fun n hn => ?_⟩
  rw [← ht, hB]
  exact hR.2.2.2 n hn
end AEX
theorem W.cs2 {p : Program} {l : Launch} {e : Env} {R : Room} {s : State} {m : MethodId} {args : Array Value} {below : List Frame} {meth : Method} {c : Code} {H : Heap} {locs : List Loc} {cells slots cells' slots' : Nat} {Q : State → Prop} {g : JFrame} (hc : cells = cells') (hs : slots = slots') (k : W p l e R s m args below meth c H locs cells' slots' Q g) : W p l e R s m args below meth c H locs cells slots Q g := by
  subst hc; subst hs; exact k
