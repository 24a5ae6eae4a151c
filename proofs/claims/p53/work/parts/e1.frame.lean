/-! p53: the law's frame; its calls; a word of the script -/
def yP0 : List (Nat × (Instr × Nat)) := [(0, (.new 9, 3)), (3, (.dup, 1)), (4, (.invokespecial 187, 3)), (7, (.astore_n 1, 1)), (8, (.new 9, 3)), (11, (.dup, 1)), (12, (.invokespecial 187, 3)), (15, (.astore_n 2, 1)), (16, (.iconst 1, 1)), (17, (.istore_n 3, 1)), (18, (.iconst 0, 1)), (19, (.istore 4, 2)), (21, (.iload 4, 2)), (23, (.bipush 80, 2)), (25, (.if_icmp .ge 227, 3)), (28, (.iload_n 3, 1)), (29, (.ifCond .eq 223, 3)), (32, (.aload_n 0, 1)), (33, (.iload 4, 2)), (35, (.bipush 61, 2)), (37, (.irem, 1)), (38, (.invokestatic 188, 3)), (41, (.sipush 1373, 3)), (44, (.iload 4, 2)), (46, (.bipush 61, 2)), (48, (.idiv, 1)), (49, (.imul, 1)), (50, (.iadd, 1))]
def yQ0 : AMeth := (yL_law, (code, (7, (some .boolean, (11, yP0)))))
theorem okQ0 : okT yQ0 := okT_of (by decide +kernel)
def yP1 : List (Nat × (Instr × Nat)) := [(51, (.istore 5, 2)), (53, (.iload 4, 2)), (55, (.bipush 12, 2)), (57, (.if_icmp .ge 22, 3)), (60, (.iload 5, 2)), (62, (.bipush 46, 2)), (64, (.idiv, 1)), (65, (.bipush 46, 2)), (67, (.imul, 1)), (68, (.iload 5, 2)), (70, (.bipush 18, 2)), (72, (.invokestatic 97, 3)), (75, (.iadd, 1)), (76, (.goto 5, 3)), (79, (.iload 5, 2)), (81, (.istore 5, 2)), (83, (.aload_n 1, 1)), (84, (.iload 5, 2)), (86, (.invokestatic 192, 3)), (89, (.istore 6, 2)), (91, (.iload 6, 2)), (93, (.ldc 44, 2)), (95, (.if_icmp .eq 14, 3)), (98, (.aload_n 2, 1)), (99, (.iload 5, 2)), (101, (.invokestatic 192, 3)), (104, (.iload 6, 2)), (106, (.if_icmp .ne 43, 3))]
def yQ1 : AMeth := (yL_law, (code, (7, (some .boolean, (11, yP1)))))
theorem okQ1 : okT yQ1 := okT_of (by decide +kernel)
def yP2 : List (Nat × (Instr × Nat)) := [(109, (.iload 4, 2)), (111, (.bipush 6, 2)), (113, (.irem, 1)), (114, (.iconst 3, 1)), (115, (.if_icmp .ne 11, 3)), (118, (.aload_n 1, 1)), (119, (.aload_n 2, 1)), (120, (.invokestatic 195, 3)), (123, (.ifCond .eq 26, 3)), (126, (.iload 4, 2)), (128, (.iconst 3, 1)), (129, (.irem, 1)), (130, (.iconst 1, 1)), (131, (.if_icmp .ne 14, 3)), (134, (.aload_n 1, 1)), (135, (.iload 5, 2)), (137, (.iconst 5, 1)), (138, (.ishr, 1)), (139, (.invokestatic 199, 3)), (142, (.ifCond .eq 7, 3)), (145, (.iconst 1, 1)), (146, (.goto 4, 3)), (149, (.iconst 0, 1)), (150, (.istore_n 3, 1)), (151, (.iload 4, 2)), (153, (.bipush 8, 2)), (155, (.irem, 1)), (156, (.iconst 5, 1))]
def yQ2 : AMeth := (yL_law, (code, (7, (some .boolean, (11, yP2)))))
theorem okQ2 : okT yQ2 := okT_of (by decide +kernel)
def yP3 : List (Nat × (Instr × Nat)) := [(157, (.if_icmp .ne 33, 3)), (160, (.iload_n 3, 1)), (161, (.ifCond .eq 27, 3)), (164, (.aload_n 1, 1)), (165, (.aload_n 2, 1)), (166, (.iconst 1, 1)), (167, (.iload 5, 2)), (169, (.bipush 6, 2)), (171, (.ishr, 1)), (172, (.bipush 20, 2)), (174, (.invokestatic 97, 3)), (177, (.iadd, 1)), (178, (.invokestatic 203, 3)), (181, (.ifCond .eq 7, 3)), (184, (.iconst 1, 1)), (185, (.goto 4, 3)), (188, (.iconst 0, 1)), (189, (.istore_n 3, 1)), (190, (.iload 4, 2)), (192, (.bipush 11, 2)), (194, (.irem, 1)), (195, (.bipush 9, 2)), (197, (.if_icmp .ne 21, 3)), (200, (.iload_n 3, 1)), (201, (.ifCond .eq 15, 3)), (204, (.aload_n 1, 1)), (205, (.aload_n 2, 1)), (206, (.invokestatic 207, 3))]
def yQ3 : AMeth := (yL_law, (code, (7, (some .boolean, (11, yP3)))))
theorem okQ3 : okT yQ3 := okT_of (by decide +kernel)
def yP4 : List (Nat × (Instr × Nat)) := [(209, (.ifCond .eq 7, 3)), (212, (.iconst 1, 1)), (213, (.goto 4, 3)), (216, (.iconst 0, 1)), (217, (.istore_n 3, 1)), (218, (.iload 4, 2)), (220, (.bipush 13, 2)), (222, (.irem, 1)), (223, (.bipush 10, 2)), (225, (.if_icmp .ne 21, 3)), (228, (.iload_n 3, 1)), (229, (.ifCond .eq 15, 3)), (232, (.aload_n 1, 1)), (233, (.aload_n 2, 1)), (234, (.invokestatic 210, 3)), (237, (.ifCond .eq 7, 3)), (240, (.iconst 1, 1)), (241, (.goto 4, 3)), (244, (.iconst 0, 1)), (245, (.istore_n 3, 1)), (246, (.iinc 4 1, 3)), (249, (.goto (-228), 3)), (252, (.iload_n 3, 1)), (253, (.ifCond .eq 23, 3)), (256, (.aload_n 1, 1)), (257, (.aload_n 2, 1)), (258, (.invokestatic 195, 3)), (261, (.ifCond .eq 15, 3))]
def yQ4 : AMeth := (yL_law, (code, (7, (some .boolean, (11, yP4)))))
theorem okQ4 : okT yQ4 := okT_of (by decide +kernel)
def yP5 : List (Nat × (Instr × Nat)) := [(264, (.aload_n 1, 1)), (265, (.iconst 0, 1)), (266, (.invokestatic 199, 3)), (269, (.ifCond .eq 7, 3)), (272, (.iconst 1, 1)), (273, (.goto 4, 3)), (276, (.iconst 0, 1)), (277, (.ireturn, 1))]
def yQ5 : AMeth := (yL_law, (code, (7, (some .boolean, (11, yP5)))))
theorem okQ5 : okT yQ5 := okT_of (by decide +kernel)
def yHd : AMeth := (yL_law, (code, (7, (some .boolean, (11, yP0 ++ (yP1 ++ (yP2 ++ (yP3 ++ (yP4 ++ (yP5))))))))))
theorem okHd : okT yHd := fun q hq => by
  have hq : q ∈ yP0 ++ (yP1 ++ (yP2 ++ (yP3 ++ (yP4 ++ (yP5))))) := hq
  rcases List.mem_append.mp hq with hq | hq
  · exact okQ0 q hq
  rcases List.mem_append.mp hq with hq | hq
  · exact okQ1 q hq
  rcases List.mem_append.mp hq with hq | hq
  · exact okQ2 q hq
  rcases List.mem_append.mp hq with hq | hq
  · exact okQ3 q hq
  rcases List.mem_append.mp hq with hq | hq
  · exact okQ4 q hq
  exact okQ5 q hq
theorem okCell : okT aM183 := fun q hq => (aMSg aM183 (List.mem_of_getElem? aMi183)).2.2.2.2.2.2 q hq
theorem met_go {l : Launch} {kad : Nat → Nat} {d n : Nat} {y : AMeth} {argv : List Value} {S : ASt} {Q : ARes → ASt → Prop} (hl0 : l.stackTraces = false) (hy : aMS[n]? = some y) (hsl : (lg_sl argv).length ≤ aNl y) (h : aGo kad d n (0, (lv_args 0 argv, [])) S Q) : ∃ r S1, Q r S1 ∧ (S.2.2.1 ≤ S1.2.2.1 ∧ S.2.2.2 ≤ S1.2.2.2) ∧ aMet l kad d y.1 y.2.1 (aNl y) (aRt y) argv S r S1 := by
  obtain ⟨k, r, S1, h1, h2⟩ := h
  have hst := aRun_ok l hl0 kad k d n _ _ S1 r y hy h1
  exact ⟨r, S1, h2, hst.1, fun D sz hk => aStm.met (aMSg y (List.mem_of_getElem? hy)) hsl hst D sz hk⟩
theorem tB.four {c : Nat} {t t1 : Option Nat × (Nat × Nat)} (h : tB c t t1) : (t.2.1 ≤ t1.2.1 ∧ t.2.2 ≤ t1.2.2) ∧ t1.2.1 ≤ t.2.1 + c ∧ t1.2.2 ≤ t.2.2 + 6 * c := by
  obtain ⟨k, hk, rfl⟩ := h
  unfold tk
  dsimp only
  omega
section LFR
variable {p : Program} {l : Launch} {e : Env} {R : Room} {s : State} {m : MethodId} {args : Array Value} {below : List Frame} {meth : Method} {c : Code} {D : AG} {A : Nat → Prop} {Q : State → Prop} {cc : ByteArray} {pc : Nat} {H : Heap} {locs : List Loc} {ls : Array Slot} {own : String} {S S1 : ASt} {r : ARes} {rest As argv st st1 : List Value} {y : MethodName} {cb : ByteArray} {nl n np idx d cx : Nat} {rt : Option FieldType} {lv lv' : ALv} {yC z : AMeth} {t : Option Nat × (Nat × Nat)} {Z : AZ} {I I' : AI} {v : Int32}
theorem aw_le (h : ∀ q ∈ lv', q ∈ lv) (kk : aW p l e R s m args below meth c D A Q (pc, (lv', st)) S) : aW p l e R s m args below meth c D A Q (pc, (lv, st)) S := fun H locs ls hR hl => kk H locs ls hR ⟨hl.1, hl.2.1, fun q hq => hl.2.2 q (h q hq)⟩
theorem aw_br {ins : Instr} {off : Int} {tg : Nat} {bb : Bool} (hT : okT yC) (X0 : aCx p s m args c D A RL yC.2.1) (hml : c.maxLocals = aNl yC) (hq : aFind (aPs yC) pc = some (ins, 3)) (hb : aOp (aNl yC) ins pc lv st = aIf bb pc off lv st1) (hoff : (pc : Int) + off = .ofNat tg) (k1 : bb = true → aW p l e R s m args below meth c D A Q (tg, (lv, st1)) S) (k0 : bb = false → aW p l e R s m args below meth c D A Q (pc + 3, (lv, st1)) S) : aW p l e R s m args below meth c D A Q (pc, (lv, st)) S := by
  intro H locs ls hR hl
  cases bb with
  | true =>
    refine ao_all (S := S) (fr := (tg, (lv, st1))) X0.1 X0.2.1 (hT.at hq).1 (hT.at hq).2 hl ?_ (fun ls1 hl1 => k1 rfl H locs ls1 hR hl1)
    rw [hml, hb]
    unfold aIf
    rw [hoff]
    rfl
  | false =>
    refine ao_all (S := S) (fr := (pc + 3, (lv, st1))) X0.1 X0.2.1 (hT.at hq).1 (hT.at hq).2 hl ?_ (fun ls1 hl1 => k0 rfl H locs ls1 hR hl1)
    rw [hml, hb]
    unfold aIf
    rw [hoff]
    rfl
theorem x_runS {cl sl : Nat} (X0 : aCx p s m args c D A own cc) (hR : aR D A s.heap S H locs) (hls : ls.size = c.maxLocals)
    (hM : aMet l D.2.2 d y cb nl rt As S r S1) (hC : aCOk own idx y cb nl rt n) (hl : Cond.methodLink own idx y ∈ aTB) (hi : Cond.static y ∈ aTB) (hn : As.length = n)
    (hW : (rest.map fun v => v.category).sum ≤ 8) (hd : decode cc pc = .ok (.invokestatic idx, 3)) (hrm : 8 + (d + 1) ≤ R.frames ∧ 200 + 40 * (d + 1) ≤ R.locals) (hf : cl + (S1.2.2.1 - S.2.2.1) ≤ R.cells ∧ sl + (S1.2.2.2 - S.2.2.2) ≤ R.slots) :
    vx_Run p l e R s m args below meth c H locs cl sl (S1.2.2.1 - S.2.2.1) (S1.2.2.2 - S.2.2.2) (F0 m pc ls (As.reverse ++ rest)) rest (aQc D S S1 H.size r As.toArray) (aXC D S S1 H.size r) (aA S.1 H.size) := by
  have hX := X0
  obtain ⟨hx, hb, hown, hts, hKn, hKF, hA⟩ := X0
  exact vx_runS (nL := c.maxLocals) ⟨hx, hb, rfl, hown, hts⟩ (hM D H.size rfl) ⟨hC.Bx hts hl hrm, hts _ hi⟩ ⟨aPc_blind D S H.size _, x_at hX hR⟩ rfl hn hls rfl (by show 2 * 0 + _ ≤ 8; omega) hd hf
theorem x_runI {q : Addr} {cl sl : Nat} {w : Option Value} (X0 : aCx p s m args c D A own cc) (hR : aR D A s.heap S H locs) (hls : ls.size = c.maxLocals)
    (hM : aMet l D.2.2 d y cb nl none (.ref q :: As) S (.inl w) S1) (hC : aCOk own idx y cb nl none n) (hl : Cond.methodLink own idx y ∈ aTB) (hi : Cond.instanceMethod y ∈ aTB) (hnm : y.name = "<init>") (hn : As.length = n)
    (hW : (rest.map fun v => v.category).sum ≤ 8) (hd : decode cc pc = .ok (.invokespecial idx, 3)) (hrm : 8 + (d + 1) ≤ R.frames ∧ 200 + 40 * (d + 1) ≤ R.locals) (hf : cl + (S1.2.2.1 - S.2.2.1) ≤ R.cells ∧ sl + (S1.2.2.2 - S.2.2.2) ≤ R.slots) :
    vx_Run p l e R s m args below meth c H locs cl sl (S1.2.2.1 - S.2.2.1) (S1.2.2.2 - S.2.2.2) (F0 m pc ls (As.reverse ++ .ref q :: rest)) rest (aQc D S S1 H.size (.inl w) (Value.ref q :: As).toArray) (aXC D S S1 H.size (.inl w)) (aA S.1 H.size) := by
  have hX := X0
  obtain ⟨hx, hb, hown, hts, hKn, hKF, hA⟩ := X0
  exact vx_run_of (va_runI (nL := c.maxLocals) ⟨hx, hb, rfl, hown, hts⟩ (vx_met (hM D H.size rfl) (fun E st t h => by cases h.1)) ⟨hC.Bx hts hl hrm, hnm, hts _ hi⟩ ⟨aPc_blind D S H.size _, x_at hX hR⟩ rfl hn hls rfl (by show 2 * 0 + _ ≤ 8; omega) hd hf)
/-- a static call that answers, by its run -/
theorem aw_stat (hl0 : l.stackTraces = false) (hT : okT yC) (X0 : aCx p s m args c D A RL yC.2.1) (hRm : 50 ≤ R.frames ∧ 1880 ≤ R.locals) (hq : aFind (aPs yC) pc = some (.invokestatic idx, 3)) (hz : aMS[n]? = some z) (hw : ∀ w ∈ [Cond.methodLink RL idx z.1, Cond.static z.1], w ∈ aTB) (hpar : (parseMethodDescriptor z.1.desc).map (fun d => d.parameters.length) = some np) (hAs : argv.length = np) (hsl : (lg_sl argv).length ≤ aNl z) (hcat : (rest.map fun v => v.category).sum ≤ 8) (hRc : t.2.1 + cx ≤ R.cells ∧ t.2.2 + 6 * cx ≤ R.slots)
    (hgo : aGo D.2.2 40 n (0, (lv_args 0 argv, [])) (aMem Z I, t) (fun r S1 => r = .inl (some (.int v)) ∧ ∃ t1, tB cx t t1 ∧ S1 = (aMem Z I', t1))) (k : ∀ t1, tB cx t t1 → aW p l e R s m args below meth c D A Q (pc + 3, (lv, .int v :: rest)) (aMem Z I', t1)) : aW p l e R s m args below meth c D A Q (pc, (lv, argv.reverse ++ rest)) (aMem Z I, t) := by
  obtain ⟨r, S1, ⟨rfl, t1, ht, rfl⟩, hcnt, hM⟩ := met_go hl0 hz hsl hgo
  obtain ⟨-, q2, q3, q4, q5, q6, -⟩ := aMSg z (List.mem_of_getElem? hz)
  obtain ⟨h1, h2, h3⟩ := ht.four
  refine aw_call (S1 := (aMem Z I', t1)) (r := .inl (some (.int v))) (rest := rest) X0.2.2.2.2.2.2 hcnt (fun H locs ls hR hl => x_runS (d := 40) X0 hR hl.1 hM ⟨q2, q3, q4, q5, hpar⟩ (hw _ (by simp)) (hw _ (by simp)) hAs hcat (hT.at hq).1 ⟨by omega, by omega⟩ ?_) (fun v' hv => ?_) (fun E q ce H1 locs1 ls hE => by cases hE)
  · show t.2.1 + (t1.2.1 - t.2.1) ≤ _ ∧ t.2.2 + (t1.2.2 - t.2.2) ≤ _
    omega
  · cases hv
    exact k t1 ht
end LFR
/-! a word of the script -/
def cellV (xs : Nat → Int32) (L j : Nat) : Int32 := if j < L then xs j else 7919 * (Int32.ofNat j + 997) * (Int32.ofNat j + 3433)
def cPc (D : AG) (S : ASt) (sz b L : Nat) (xs : Nat → Int32) (argv : List Value) : Array Value → State → Prop := fun a U => aPc D S sz argv a U ∧ va_X b L xs U U.heap ∧ b < U.heap.size ∧ ¬ aA S.1 sz b
theorem cPc_blind (D : AG) (S : ASt) (sz b L : Nat) (xs : Nat → Int32) (argv : List Value) : FrameBlind (cPc D S sz b L xs argv) := fun a U g mk q => ⟨aPc_blind D S sz argv a U g mk q.1, q.2.1.moved (u := U) (U := U.calling g mk a) (Vm.Alike.refl U.vm), q.2.2⟩
theorem met_cell {l : Launch} {D : AG} {S : ASt} {sz b L j d : Nat} {xs : Nat → Int32} (hj : j < 61) (hL : L ≤ 260) : vx_Met l yL_cell (Cond.code yL_cell cL_cell 2 (some .int) :: aTB) (aRm d 0 0) (cPc D S sz b L xs [.ref b, .int (Int32.ofNat j)]) (aQc D S S sz (.inl (some (.int (cellV xs L j))))) (aXC D S S sz (.inl (some (.int (cellV xs L j))))) 0 0 (aA S.1 sz) := by
  refine vx_ofW (cc := cL_cell) (maxL := 2) (ret := some .int) (by decide) rfl fun p e s m args below meth c s₁ B hml hxt hP => ?_
  obtain ⟨⟨rfl, hsz, ⟨hH, hz⟩, hKn, hKF⟩, hX, hbl, hbA⟩ := hP
  subst hsz
  have hts := atoms_spec (ws := Cond.code yL_cell cL_cell 2 (some .int) :: aTB) B.pre
  have hown : s.vm.findClass RL = some m.cls := findClass_of_methodNamed B.named
  obtain ⟨S0, hS0⟩ : ∃ S0 : ASt, S0 = (S.1, (S.2.1, (0, 0))) := ⟨_, rfl⟩
  have e1 : S0.1 = S.1 := by rw [hS0]
  have X0 : aCx p s m ([.ref b, .int (Int32.ofNat j)] : List Value).toArray c D (aA S0.1 s.heap.size) RL aM183.2.1 := ⟨B.exec, B.bytes, hown, fun w hw => hts w (List.mem_cons_of_mem _ hw), hKn, by rw [e1]; exact hKF, fun q hq => Or.inr hq⟩
  have hml' : c.maxLocals = aNl aM183 := hml
  have hret : meth.sig.returnType = some .int := B.returns
  have hl := lv_entry [.ref b, .int (Int32.ofNat j)] (n := 2) (Nat.le_of_ble_eq_true rfl)
  have hfin : aW p l e (headSpec (Cond.code yL_cell cL_cell 2 (some .int) :: aTB) (aRm d 0 0)).room s m ([.ref b, .int (Int32.ofNat j)] : List Value).toArray below meth c D (aA S0.1 s.heap.size) (vx_MQ below (aQc D S0 S0 s.heap.size (.inl (some (.int (cellV xs L j))))) (aXC D S0 S0 s.heap.size (.inl (some (.int (cellV xs L j))))) ([.ref b, .int (Int32.ofNat j)] : List Value).toArray s S0.2.2.1 S0.2.2.2 (aA S0.1 s.heap.size)) (0, ([(0, .ref b), (1, .int (Int32.ofNat j))], [])) S0 := by
    refine aw_ops okCell X0 hml' 2 _ (f1 := (2, ([(0, .ref b), (1, .int (Int32.ofNat j))], [.ref b, .int (Int32.ofNat j)]))) rfl ?_
    intro H locs ls hR hl
    refine va_slen X0.1 X0.2.1 hX hbl (by rw [e1]; exact hbA) hR.2.2.1 (okCell.at (pc := 2) (ins := .arraylength) (len := 1) rfl).1 ?_
    revert hl; revert hR; revert ls; revert locs; revert H
    show aW p l e _ s m _ below meth c D (aA S0.1 s.heap.size) _ (3, ([(0, .ref b), (1, .int (Int32.ofNat j))], [.int (Int32.ofNat L), .int (Int32.ofNat j)])) S0
    refine aw_br (st1 := []) (bb := decide (Int32.ofNat L ≤ Int32.ofNat j)) (off := 9) (tg := 12) okCell X0 hml' rfl rfl rfl (fun h => ?_) (fun h => ?_)
    · have hjL : ¬ j < L := by
        have := (of_le (m := L) (n := j) (by omega) (by omega)).mp (of_decide_eq_true h)
        omega
      refine aw_ops okCell X0 hml' 9 _ (f1 := (27, ([(0, .ref b), (1, .int (Int32.ofNat j))], [.int (7919 * (Int32.ofNat j + 997) * (Int32.ofNat j + 3433))]))) rfl ?_
      have ev : cellV xs L j = 7919 * (Int32.ofNat j + 997) * (Int32.ofNat j + 3433) := if_neg hjL
      rw [ev]
      exact aw_ret okCell X0 B.notSynchronized hret rfl
    · have hjL : j < L := by
        refine Nat.lt_of_not_le fun hh => ?_
        exact absurd ((of_le (m := L) (n := j) (by omega) (by omega)).mpr hh) (of_decide_eq_false h)
      refine aw_ops okCell X0 hml' 2 _ (f1 := (8, ([(0, .ref b), (1, .int (Int32.ofNat j))], [.int (Int32.ofNat j), .ref b]))) rfl ?_
      intro H locs ls hR hl
      refine va_sld X0.1 X0.2.1 hX hbl (by rw [e1]; exact hbA) hR.2.2.1 (i := nI j) (nI_in hjL (by omega)) (okCell.at (pc := 8) (ins := .iaload) (len := 1) rfl).1 ?_
      rw [nI_clamp (by omega)]
      revert hl; revert hR; revert ls; revert locs; revert H
      show aW p l e _ s m _ below meth c D (aA S0.1 s.heap.size) _ (9, ([(0, .ref b), (1, .int (Int32.ofNat j))], [.int (xs j)])) S0
      refine aw_ops okCell X0 hml' 1 _ (f1 := (27, ([(0, .ref b), (1, .int (Int32.ofNat j))], [.int (xs j)]))) rfl ?_
      have ev : cellV xs L j = xs j := if_pos hjL
      rw [ev]
      exact aw_ret okCell X0 B.notSynchronized hret rfl
  have hW := hfin s.heap [] ((lg_sl [.ref b, .int (Int32.ofNat j)] ++ List.replicate (2 - (lg_sl [.ref b, .int (Int32.ofNat j)]).length) Slot.unset).toArray) ⟨by rw [e1]; exact hH, fun a f hf => Or.inl ⟨f, hf⟩, va_S.rf, by rw [hS0]; exact hz⟩ (by rw [hml]; exact hl)
  rw [lg_entry_eq]
  subst hS0
  exact hW
theorem wCell : ∀ w ∈ [Cond.code yL_cell cL_cell 2 (some .int), Cond.initialized yL_cell.cls, Cond.methodLink RL 188 yL_cell, Cond.static yL_cell], w ∈ aTB := aTB_all (by decide +kernel)
section LCE
variable {p : Program} {l : Launch} {e : Env} {R : Room} {s : State} {m : MethodId} {args : Array Value} {below : List Frame} {meth : Method} {c : Code} {D : AG} {A : Nat → Prop} {Q : State → Prop} {pc : Nat} {S : ASt} {rest : List Value} {lv : ALv} {yC : AMeth} {b L j : Nat} {xs : Nat → Int32}
/-- a word of the script is asked -/
theorem aw_cell (hT : okT yC) (X0 : aCx p s m args c D A RL yC.2.1) (hRm : 50 ≤ R.frames ∧ 1880 ≤ R.locals) (hq : aFind (aPs yC) pc = some (.invokestatic 188, 3)) (hX : va_X b L xs s s.heap) (hbl : b < s.heap.size) (hbA : ¬ A b) (hj : j < 61) (hL : L ≤ 260) (hcat : (rest.map fun v => v.category).sum ≤ 8) (hRc : S.2.2.1 ≤ R.cells ∧ S.2.2.2 ≤ R.slots)
    (k : aW p l e R s m args below meth c D A Q (pc + 3, (lv, .int (cellV xs L j) :: rest)) S) : aW p l e R s m args below meth c D A Q (pc, (lv, .int (Int32.ofNat j) :: .ref b :: rest)) S := by
  refine aw_call (S1 := S) (r := .inl (some (.int (cellV xs L j)))) (rest := rest) (a0 := ([.ref b, .int (Int32.ofNat j)] : List Value).toArray) X0.2.2.2.2.2.2 ⟨Nat.le_refl _, Nat.le_refl _⟩ (fun H locs ls hR hl => ?_) (fun v' hv => ?_) (fun E q ce H1 locs1 ls hE => by cases hE)
  · have hX0 := X0
    obtain ⟨hx, hb, hown, hts, hKn, hKF, hA⟩ := X0
    rw [Nat.sub_self, Nat.sub_self]
    have hC : aCOk RL 188 yL_cell cL_cell 2 (some .int) 2 := ⟨wCell _ (by simp), by decide, wCell _ (by simp), by decide, by decide +kernel⟩
    have hb1 : b < H.size := Nat.lt_of_lt_of_le hbl hR.2.2.1.1
    refine vx_runS (nL := c.maxLocals) (As := [.ref b, .int (Int32.ofNat j)]) (rest := rest) ⟨hx, hb, rfl, hown, hts⟩ (met_cell (l := l) (D := D) (S := S) (sz := H.size) (b := b) (L := L) (xs := xs) (d := 40) hj hL) ⟨hC.Bx hts (wCell _ (by simp)) ⟨by omega, by omega⟩, hts _ (wCell _ (by simp))⟩ ⟨cPc_blind D S H.size b L xs _, fun U hU hW => ⟨x_at hX0 hR U hU hW, ?_, by rw [hU]; exact hb1, fun hh => ?_⟩⟩ rfl rfl hl.1 rfl (by show 2 * 0 + _ ≤ 8; omega) (hT.at hq).1 ⟨hRc.1, hRc.2⟩
    · rw [hU]
      exact (hX.kept (hR.2.2.1.2.1 b hbl hbA)).moved hW.alike
    · rcases hh with ⟨e', he'⟩ | hh
      · exact hbA (hR.2.1 b e' he')
      · omega
  · cases hv
    exact k
end LCE
