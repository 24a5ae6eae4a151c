/-! the two forms of a case -/
def lvi (i o m g b : Nat) : ALv := [(4, .int (nI i)), (3, .ref o), (2, .ref m), (1, .ref g), (0, .ref b)]
section ONE
variable {g m : Nat} {X : AI} {es : List Nat}
theorem OUQ.one {cls : Option (Int32 × AI)} {mdl : AI → Option (Int32 × AI)} (h : ∀ J, MIr g m X J → OUQ g m X J cls (mdl J)) (H : MIr g m X X) (hd : g + 1997 ≤ m) : ∃ v I1 J', cls = some (v, I1) ∧ mdl I1 = some (v, J') ∧ MIr g m J' J' := by
  obtain ⟨v, I1, -, e1, -, f1, -, -⟩ := h X H
  obtain ⟨v2, I2, J', e2, e3, f2, f3, H2⟩ := h I1 (H.cong (fun b _ _ => rfl) (fun b h1 h2 => f1 b (by omega)))
  cases e1.symm.trans e2
  exact ⟨v, I1, J', e1, e3, H2.cong (fun b h1 h2 => f3 b (by omega)) (fun _ _ _ => rfl)⟩
theorem OUT.one {cls : Option ((Int32 ⊕ String) × AI)} {mdl : AI → Option (Int32 × AI)} (h : ∀ J, MIr g m X J → OUT g m es X J cls (mdl J)) (H : MIr g m X X) (hd : g + 1997 ≤ m) : ∃ th v y I1 J', th ≤ es.length ∧ cls = some (rx es th v, I1) ∧ mdl I1 = some (y, J') ∧ (th = 0 → y = v) ∧ J' m 0 = Int32.ofNat th ∧ MIr g m J' J' := by
  obtain ⟨th1, v1, y1, I1, -, -, e1, -, -, -, f1, -, -⟩ := h X H
  obtain ⟨th, v, y, I2, J', k0, e2, e3, k1, k2, f2, f3, H2⟩ := h I1 (H.cong (fun b _ _ => rfl) (fun b h1 h2 => f1 b (by omega)))
  have e4 : I1 = I2 := congrArg Prod.snd (Option.some.inj (e1.symm.trans e2))
  subst e4
  exact ⟨th, v, y, I1, J', k0, e2, e3, k1, k2, H2.cong (fun b h1 h2 => f3 b (by omega)) (fun _ _ _ => rfl)⟩
end ONE
section CASES2
variable {p : Program} {l : Launch} {e : Env} {R : Room} {s : State} {ml : MethodId} {args : Array Value} {below : List Frame} {meth : Method} {c : Code} {D : AG} {A : Nat → Prop} {Q : State → Prop} {S : ASt} {yC z1 z2 : AMeth} {P Q1 Q2 n1 n2 np i1 i2 it pc i k b L N : Nat} {lv lv' : ALv} {st ints : List Value} {o g m th : Nat} {w w' : Int64} {z0 : Option Nat} {cc nn : Nat} {Z : AZ} {X I1 J' : AI} {v yv : Int32} {xs : Nat → Int32}
theorem aw_le (h : ∀ q ∈ lv', q ∈ lv) (kk : aW p l e R s ml args below meth c D A Q (pc, (lv', st)) S) : aW p l e R s ml args below meth c D A Q (pc, (lv, st)) S := fun H locs ls hR hl => kk H locs ls hR ⟨hl.1, hl.2.1, fun q hq => hl.2.2 q (h q hq)⟩
theorem x_ld {kk : Int32} (hT : okT yC) (X0 : aCx p s ml args c D A RL yC.2.1) (hml : c.maxLocals = aNl yC) (hX : va_X b L xs s s.heap) (hbl : b < s.heap.size) (hbA : ¬ A b) (hL : L ≤ 3072) (h : aOpsN yC 4 (pc, (lv, st)) = some (pc + 5, (lv, .int (nI i + kk) :: .ref b :: st))) (hk : kk = nI k) (h5 : aFind (aPs yC) (pc + 5) = some (.iaload, 1)) (hi : i + k < L) (kq : aW p l e R s ml args below meth c D A Q (pc + 6, (lv, .int (xs (i + k)) :: st)) S) : aW p l e R s ml args below meth c D A Q (pc, (lv, st)) S := by
  refine aw_ops hT X0 hml 4 _ h ?_
  intro H locs ls hR hl
  rw [hk, nI_add]
  have e1 : (nI (i + k)).toNatClampNeg = i + k := nI_clamp (by omega)
  refine va_sld X0.1 X0.2.1 hX hbl hbA hR.2.2.1 (i := nI (i + k)) (nI_in hi (by omega)) (hT.at h5).1 ?_
  rw [e1]
  exact kq H locs ls hR hl
theorem case_q (hl0 : l.stackTraces = false) (hT : okT yC) (X0 : aCx p s ml args c D A RL yC.2.1) (hml : c.maxLocals = aNl yC) (hRm : 49 ≤ R.frames ∧ 1840 ≤ R.locals) (hRc : cc ≤ R.cells ∧ nn ≤ R.slots) (ha : Z.1 g = some (10, 13)) (hm : Z.1 m = some (11, 74)) (ho : Z.1 o = none)
    (a1 : aOpsN yC 1 (P, (lvi i o m g b, [])) = some (P + 1, (lvi i o m g b, [.ref g]))) (a2 : aFind (aPs yC) (P + 1) = some (.invokevirtual i1, 3)) (a3 : ∀ v : Int32, aOpsN yC 1 (P + 4, (lvi i o m g b, [.int v])) = some (P + 5, (lvi i o m g b, [.ref m, .int v]))) (a4 : aFind (aPs yC) (P + 5) = some (.invokevirtual i2, 3)) {off : Int} (a5 : aFind (aPs yC) (P + 8) = some (.if_icmp .eq off, 3)) (a6 : ((P + 8 : Nat) : Int) + off = .ofNat 2371)
    (hz1 : aMS[n1]? = some z1) (hz2 : aMS[n2]? = some z2) (hlk : ∀ x ∈ [Cond.methodLink RL i1 z1.1, Cond.instanceMethod z1.1, Cond.selects z1.1.cls z1.1 z1.1, Cond.methodLink RL i2 z2.1, Cond.instanceMethod z2.1, Cond.selects z2.1.cls z2.1 z2.1], x ∈ aTB) (hp1 : (parseMethodDescriptor z1.1.desc).map (fun d => d.parameters.length) = some 0) (hp2 : (parseMethodDescriptor z2.1.desc).map (fun d => d.parameters.length) = some 0) (hs1 : 1 ≤ aNl z1) (hs2 : 1 ≤ aNl z2) (ho1 : aOc z1 = 10) (ho2 : aOc z2 = 11) (hn1 : z1.1.cls = RX12) (hn2 : z2.1.cls = RX13)
    (hgo1 : aGo D.2.2 40 n1 (0, ([(0, .ref g)], [])) (aMem Z X, (z0, (0, 0))) (qI Z (z0, (0, 0)) (v, I1))) (hgo2 : aGo D.2.2 40 n2 (0, ([(0, .ref m)], [])) (aMem Z I1, (z0, (0, 0))) (qI Z (z0, (0, 0)) (v, J')))
    (kk : aW p l e R s ml args below meth c D A Q (2371, (lvi i o m g b, [])) (wo (aMem Z J') o w, (z0, (cc, nn)))) : aW p l e R s ml args below meth c D A Q (P, (lvi i o m g b, [])) (wo (aMem Z X) o w, (z0, (cc, nn))) := by
  refine aw_ops hT X0 hml 1 _ a1 ?_
  refine aw_virt (As := []) (rest := []) (T := TX12) (len := 13) hl0 hT X0 hRm a2 hz1 (fun x hx => hlk x ?_) hp1 rfl hs1 (by rw [ho1, hn1]; rfl) (by omega) (by rw [ho1]; exact ha) ho (Nat.le_of_ble_eq_true rfl) hRc hgo1 ?_
  · simp only [List.mem_cons, List.not_mem_nil, or_false] at hx ⊢
    rcases hx with h | h | h
    · exact Or.inl h
    · exact Or.inr (Or.inl h)
    · exact Or.inr (Or.inr (Or.inl h))
  refine aw_ops hT X0 hml 1 _ (a3 v) ?_
  refine aw_virt (As := []) (rest := [.int v]) (T := TX13) (len := 74) hl0 hT X0 hRm a4 hz2 (fun x hx => hlk x ?_) hp2 rfl hs2 (by rw [ho2, hn2]; rfl) (by omega) (by rw [ho2]; exact hm) ho (Nat.le_of_ble_eq_true rfl) hRc hgo2 ?_
  · simp only [List.mem_cons, List.not_mem_nil, or_false] at hx ⊢
    rcases hx with h | h | h
    · exact Or.inr (Or.inr (Or.inr (Or.inl h)))
    · exact Or.inr (Or.inr (Or.inr (Or.inr (Or.inl h))))
    · exact Or.inr (Or.inr (Or.inr (Or.inr (Or.inr h))))
  exact aw_eqv hT X0 hml a5 a6 kk
theorem ofth (h : th ≤ 3) (h0 : ¬ th = 0) : ¬ Int32.ofNat th = 0 := by
  match th, h, h0 with
  | 0, _, h0 => exact absurd rfl h0
  | 1, _, _ => decide
  | 2, _, _ => decide
  | 3, _, _ => decide
theorem case_h {y : MethodName} {cb : ByteArray} {nl : Nat} {hh : List (Nat × Nat × Nat × Nat)} (hl0 : l.stackTraces = false) (hT : okT yC) (X0 : aCx p s ml args c D A RL yC.2.1) (hml : c.maxLocals = aNl yC) (hNC : NC s) (hRm : 50 ≤ R.frames ∧ 1880 ≤ R.locals) (hRc : cc + 1 ≤ R.cells ∧ nn + 6 ≤ R.slots) (hm : Z.1 m = some (11, 74)) (hsm : sh11 D.2.2 Z m) (ho : Z.1 o = none) (hth : th ≤ 3)
    (hw : ∀ q ∈ [Cond.codeWith y cb nl (some .int) hh, Cond.initialized y.cls, Cond.methodLink RL i1 y, Cond.static y], q ∈ aTB) (h2 : nl ≤ 21) (h4 : y.cls ≠ "java/lang/invoke/MethodHandle" ∧ y.cls ≠ "java/lang/invoke/VarHandle") (hpar : (parseMethodDescriptor y.desc).map (fun d => d.parameters.length) = some (np + 2)) (hAs : ints.length = np)
    (a1 : aOpsN yC 1 (P, (lvi i o m g b, [])) = some (P + 1, (lvi i o m g b, [.ref g]))) (hL1 : ∀ S : ASt, aW p l e R s ml args below meth c D A Q (Q1, (lvi i o m g b, ints.reverse ++ [.ref g])) S → aW p l e R s ml args below meth c D A Q (P + 1, (lvi i o m g b, [.ref g])) S) (a2 : aOpsN yC 1 (Q1, (lvi i o m g b, ints.reverse ++ [.ref g])) = some (Q1 + 1, (lvi i o m g b, .ref o :: (ints.reverse ++ [.ref g])))) (a3 : aFind (aPs yC) (Q1 + 1) = some (.invokestatic i1, 3))
    (a4 : ∀ k : Int32, aOpsN yC 2 (Q1 + 4, (lvi i o m g b, [.int k])) = some (Q1 + 7, ((5, .int k) :: lvi i o m g b, [.ref m]))) (hL2 : ∀ (k : Int32) (S : ASt), aW p l e R s ml args below meth c D A Q (Q2, ((5, .int k) :: lvi i o m g b, ints.reverse ++ [.ref m])) S → aW p l e R s ml args below meth c D A Q (Q1 + 7, ((5, .int k) :: lvi i o m g b, [.ref m])) S) (a5 : aFind (aPs yC) Q2 = some (.invokevirtual i2, 3))
    (a6 : ∀ k y : Int32, aOpsN yC 2 (Q2 + 3, ((5, .int k) :: lvi i o m g b, [.int y])) = some (Q2 + 6, ((6, .int y) :: (5, .int k) :: lvi i o m g b, [.ref m]))) (a7 : aFind (aPs yC) (Q2 + 6) = some (.invokevirtual 134, 3)) (a8 : ∀ k y x : Int32, aOpsN yC 1 (Q2 + 9, ((6, .int y) :: (5, .int k) :: lvi i o m g b, [.int x])) = some (Q2 + 11, ((6, .int y) :: (5, .int k) :: lvi i o m g b, [.int k, .int x]))) (a9 : aFind (aPs yC) (Q2 + 11) = some (.if_icmp .eq 5, 3))
    (a10 : ∀ k y : Int32, aOpsN yC 1 (Q2 + 16, ((6, .int y) :: (5, .int k) :: lvi i o m g b, [])) = some (Q2 + 18, ((6, .int y) :: (5, .int k) :: lvi i o m g b, [.int k]))) (a11 : aFind (aPs yC) (Q2 + 18) = some (.ifCond .ne 15, 3)) (a12 : ∀ k y : Int32, aOpsN yC 2 (Q2 + 21, ((6, .int y) :: (5, .int k) :: lvi i o m g b, [])) = some (Q2 + 23, ((6, .int y) :: (5, .int k) :: lvi i o m g b, [.int 0, .ref o]))) (a13 : aFind (aPs yC) (Q2 + 23) = some (.laload, 1))
    (a14 : ∀ (k y : Int32) (ww : Int64), aOpsN yC 3 (Q2 + 24, ((6, .int y) :: (5, .int k) :: lvi i o m g b, [.long ww])) = some (Q2 + 28, ((6, .int y) :: (5, .int k) :: lvi i o m g b, [.int (lg_cmp ww y.toInt64)]))) (a15 : aFind (aPs yC) (Q2 + 28) = some (.ifCond .eq 5, 3)) (a16 : ∀ k y : Int32, aOpsN yC 1 (Q2 + 33, ((6, .int y) :: (5, .int k) :: lvi i o m g b, [])) = some (2371, ((6, .int y) :: (5, .int k) :: lvi i o m g b, [])))
    (hM : hMet l D.2.2 41 y cb nl (some .int) hh (.ref g :: (ints ++ [.ref o])) (wo (aMem Z X) o w, (z0, (cc, nn))) (.inl (some (.int (Int32.ofNat th)))) (wo (aMem Z I1) o (if th = 0 then v.toInt64 else w), tH th z0 cc nn)) (hz2 : aMS[n2]? = some z2) (hlk : ∀ x ∈ [Cond.methodLink RL i2 z2.1, Cond.instanceMethod z2.1, Cond.selects z2.1.cls z2.1 z2.1], x ∈ aTB) (hlt : ∀ x ∈ [Cond.methodLink RL 134 aM184.1, Cond.instanceMethod aM184.1, Cond.selects aM184.1.cls aM184.1 aM184.1], x ∈ aTB) (hp2 : (parseMethodDescriptor z2.1.desc).map (fun d => d.parameters.length) = some np) (hs2 : (lg_sl (.ref m :: ints)).length ≤ aNl z2) (ho2 : aOc z2 = 11) (hn2 : z2.1.cls = RX13)
    (hgo2 : ∀ zz, aGo D.2.2 40 n2 (0, (lv_args 0 (.ref m :: ints), [])) (aMem Z I1, (zz, (0, 0))) (qI Z (zz, (0, 0)) (yv, J'))) (hyv : th = 0 → yv = v) (hJ : J' m 0 = Int32.ofNat th)
    (kk : ∀ w', aW p l e R s ml args below meth c D A Q (2371, (lvi i o m g b, [])) (wo (aMem Z J') o w', tH th z0 cc nn)) : aW p l e R s ml args below meth c D A Q (P, (lvi i o m g b, [])) (wo (aMem Z X) o w, (z0, (cc, nn))) := by
  have hRq : 49 ≤ R.frames ∧ 1840 ≤ R.locals := ⟨by omega, by omega⟩
  have hcA : (tH th z0 cc nn).2.1 ≤ R.cells ∧ (tH th z0 cc nn).2.2 ≤ R.slots := by
    unfold tH
    dsimp only
    split <;> omega
  refine aw_ops hT X0 hml 1 _ a1 (hL1 _ (aw_ops hT X0 hml 1 _ a2 ?_))
  have hrev : (Value.ref o :: (ints.reverse ++ [.ref g]) : List Value) = (Value.ref g :: (ints ++ [.ref o])).reverse ++ [] := by simp
  rw [hrev]
  refine aw_help hT X0 hNC hRm a3 hM hw h2 h4 hpar (by simp [hAs]) (Nat.le_of_ble_eq_true rfl) ⟨Nat.le_add_right _ _, Nat.le_add_right _ _⟩ hcA ?_
  refine aw_ops hT X0 hml 2 _ (a4 _) (hL2 _ _ ?_)
  refine aw_virt (As := ints) (rest := []) (T := TX13) (len := 74) hl0 hT X0 hRq a5 hz2 hlk hp2 hAs hs2 (by rw [ho2, hn2]; rfl) (by omega) (by rw [ho2]; exact hm) ho (Nat.le_of_ble_eq_true rfl) hcA (hgo2 _) ?_
  refine aw_ops hT X0 hml 2 _ (a6 _ _) ?_
  refine aw_virt (As := []) (rest := []) (z := aM184) (v := J' m 0) (I' := J') (T := TX13) (len := 74) hl0 hT X0 hRq a7 aMi184 hlt (by decide +kernel) rfl (Nat.le_of_ble_eq_true rfl) rfl (by decide) hm ho (Nat.le_of_ble_eq_true rfl) hcA (Tf184 (kad := D.2.2) (N := 0) (by omega) m hsm J' _ rfl) ?_
  rw [hJ]
  refine aw_ops hT X0 hml 1 _ (a8 _ _ _) (aw_eqv (t := Q2 + 16) hT X0 hml a9 rfl ?_)
  refine aw_ops hT X0 hml 1 _ (a10 _ _) ?_
  have hend : ∀ w', aW p l e R s ml args below meth c D A Q (Q2 + 33, ((6, .int yv) :: (5, .int (Int32.ofNat th)) :: lvi i o m g b, [])) (wo (aMem Z J') o w', tH th z0 cc nn) := fun w' => aw_ops hT X0 hml 1 _ (a16 _ _) (aw_le (fun q hq => List.mem_cons_of_mem _ (List.mem_cons_of_mem _ hq)) (kk w'))
  refine aw_if (off := 15) (bb := decide (¬ Int32.ofNat th = 0)) (t := Q2 + 33) hT X0 hml a11 rfl rfl (fun _ => hend _) (fun hb => ?_)
  have h0 : th = 0 := by
    by_cases h0 : th = 0
    · exact h0
    · exact absurd (ofth hth h0) (of_decide_eq_false hb)
  refine aw_ops hT X0 hml 2 _ (a12 _ _) (aw_lald hT X0 a13 (aw_ops hT X0 hml 3 _ (a14 _ _ _) ?_))
  rw [if_pos h0, hyv h0]
  refine aw_if (off := 5) (bb := decide (lg_cmp v.toInt64 v.toInt64 = 0)) (t := Q2 + 33) hT X0 hml a15 rfl rfl (fun _ => ?_) (fun hb => ?_)
  · have := hend v.toInt64
    rw [hyv h0] at this
    exact this
  · exact absurd (by unfold lg_cmp; simp) (of_decide_eq_false hb)
end CASES2
