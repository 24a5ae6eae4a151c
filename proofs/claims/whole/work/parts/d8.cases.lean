/-! the law's loop: one call in both, and what is compared -/
section CASES
variable {p : Program} {l : Launch} {e : Env} {R : Room} {s : State} {ml : MethodId} {args : Array Value} {below : List Frame} {meth : Method} {c : Code} {D : AG} {A : Nat → Prop} {Q : State → Prop} {own : String} {S S1 : ASt} {rest As argv : List Value} {yC z z1 z2 : AMeth} {n n1 n2 np idx i1 i2 it pc off : Nat} {lv : ALv} {o g m len : Nat} {w : Int64} {z0 : Option Nat} {cc nn : Nat} {Z : AZ} {I I' X : AI} {v : Int32} {kad : Nat → Nat} {T : u_T}
/-- a class's, a model's method: its contract beside the cell of the answers -/
theorem met_q (hl0 : l.stackTraces = false) (hz : aMS[n]? = some z) (hsl : (lg_sl argv).length ≤ aNl z) (ho : Z.1 o = none) (hgo : aGo kad 40 n (0, (lv_args 0 argv, [])) (aMem Z I, (z0, (0, 0))) (qI Z (z0, (0, 0)) (v, I'))) : aMet l kad 40 z.1 z.2.1 (aNl z) (aRt z) argv (wo (aMem Z I) o w, (z0, (cc, nn))) (.inl (some (.int v))) (wo (aMem Z I') o w, (z0, (cc, nn))) := by
  obtain ⟨r, S1, q1, -, q3⟩ := met_go hl0 hz hsl hgo
  obtain ⟨rfl, rfl⟩ : r = .inl (some (.int v)) ∧ S1 = (aMem Z I', (z0, (0, 0))) := q1
  exact aMet.shift (mc := 0) (ms := 0) (c1 := cc) (n1' := nn) (q3.fr (w := w) (show aMem Z I o = none by simp only [aMem, ho]))
theorem aw_virt (hl0 : l.stackTraces = false) (hT : okT yC) (X0 : aCx p s ml args c D A RL yC.2.1) (hRm : 49 ≤ R.frames ∧ 1840 ≤ R.locals) (hq : aFind (aPs yC) pc = some (.invokevirtual idx, 3)) (hz : aMS[n]? = some z) (hlk : ∀ x ∈ [Cond.methodLink RL idx z.1, Cond.instanceMethod z.1, Cond.selects z.1.cls z.1 z.1], x ∈ aTB) (hpar : (parseMethodDescriptor z.1.desc).map (fun d => d.parameters.length) = some np) (hAs : As.length = np) (hsl : (lg_sl (.ref g :: As)).length ≤ aNl z) (hc : vwCl[aOc z]? = some (z.1.cls, T, len)) (h12 : aOc z < 12) (hg : Z.1 g = some (aOc z, len)) (ho : Z.1 o = none) (hcat : (rest.map fun v => v.category).sum ≤ 8) (hRc : cc ≤ R.cells ∧ nn ≤ R.slots)
    (hgo : aGo D.2.2 40 n (0, (lv_args 0 (.ref g :: As), [])) (aMem Z I, (z0, (0, 0))) (qI Z (z0, (0, 0)) (v, I'))) (k : aW p l e R s ml args below meth c D A Q (pc + 3, (lv, .int v :: rest)) (wo (aMem Z I') o w, (z0, (cc, nn)))) : aW p l e R s ml args below meth c D A Q (pc, (lv, As.reverse ++ .ref g :: rest)) (wo (aMem Z I) o w, (z0, (cc, nn))) := by
  have hM := met_q (w := w) (cc := cc) (nn := nn) hl0 hz hsl ho hgo
  obtain ⟨-, q2, q3, q4, q5, q6, -⟩ := aMSg z (List.mem_of_getElem? hz)
  have hgo' : ¬ g = o := fun hh => by rw [hh, ho] at hg; cases hg
  refine aw_call (S1 := (wo (aMem Z I') o w, (z0, (cc, nn)))) (r := .inl (some (.int v))) (rest := rest) X0.2.2.2.2.2.2 ⟨Nat.le_refl _, Nat.le_refl _⟩ (fun H locs ls hR hl => x_runV (d := 40) (f := aEnt Z I g (aOc z, len)) (T := T) (N := len) X0 hR hl.1 hM ⟨q2, q3, q4, q5, hpar⟩ (hlk _ (by simp)) (hlk _ (by simp)) (hlk _ (by simp)) ((wo_ne hgo').trans (aMem_eq hg)) hc rfl (by show aOc z < 100; omega) hAs hcat (hT.at hq).1 hRm ?_) (fun v' hv => ?_) (fun E q ce H1 locs1 ls hE => by cases hE)
  · show cc + (cc - cc) ≤ _ ∧ nn + (nn - nn) ≤ _
    omega
  · cases hv
    exact k
theorem aw_help {y : MethodName} {cb : ByteArray} {nl : Nat} {hh : List (Nat × Nat × Nat × Nat)} {x : Int32} (hT : okT yC) (X0 : aCx p s ml args c D A RL yC.2.1) (hNC : NC s) (hRm : 50 ≤ R.frames ∧ 1880 ≤ R.locals) (hq : aFind (aPs yC) pc = some (.invokestatic idx, 3)) (hM : hMet l D.2.2 41 y cb nl (some .int) hh argv S (.inl (some (.int x))) S1) (hw : ∀ q ∈ [Cond.codeWith y cb nl (some .int) hh, Cond.initialized y.cls, Cond.methodLink RL idx y, Cond.static y], q ∈ aTB) (h2 : nl ≤ 21) (h4 : y.cls ≠ "java/lang/invoke/MethodHandle" ∧ y.cls ≠ "java/lang/invoke/VarHandle") (hpar : (parseMethodDescriptor y.desc).map (fun d => d.parameters.length) = some np) (hAs : argv.length = np) (hcat : (rest.map fun v => v.category).sum ≤ 8) (hcnt : S.2.2.1 ≤ S1.2.2.1 ∧ S.2.2.2 ≤ S1.2.2.2) (hRc : S1.2.2.1 ≤ R.cells ∧ S1.2.2.2 ≤ R.slots)
    (k : aW p l e R s ml args below meth c D A Q (pc + 3, (lv, .int x :: rest)) S1) : aW p l e R s ml args below meth c D A Q (pc, (lv, argv.reverse ++ rest)) S := by
  refine aw_call (S1 := S1) (r := .inl (some (.int x))) (rest := rest) X0.2.2.2.2.2.2 hcnt (fun H locs ls hR hl => x_runH (d := 41) X0 hNC hR hl.1 hM (hw _ (by simp)) h2 (hw _ (by simp)) h4 hpar (hw _ (by simp)) (hw _ (by simp)) hAs hcat (hT.at hq).1 hRm ?_) (fun v' hv => ?_) (fun E q ce H1 locs1 ls hE => by cases hE)
  · omega
  · cases hv
    exact k
theorem aw_eqv {off : Int} {t : Nat} (hT : okT yC) (X0 : aCx p s ml args c D A RL yC.2.1) (hml : c.maxLocals = aNl yC) (hq : aFind (aPs yC) pc = some (.if_icmp .eq off, 3)) (hoff : (pc : Int) + off = .ofNat t) (k : aW p l e R s ml args below meth c D A Q (t, (lv, rest)) S) : aW p l e R s ml args below meth c D A Q (pc, (lv, .int v :: .int v :: rest)) S := by
  intro H locs ls hR hl
  refine ao_all (S := S) (fr := (t, (lv, rest))) X0.1 X0.2.1 (hT.at hq).1 (hT.at hq).2 hl ?_ (fun ls1 hl1 => k H locs ls1 hR hl1)
  show aIf (decide (v = v)) pc off lv rest = _
  rw [decide_eq_true rfl]
  unfold aIf
  rw [hoff]
  rfl
theorem aw_if {ins : Instr} {off : Int} {t : Nat} {x : Int32} {bb : Bool} (hT : okT yC) (X0 : aCx p s ml args c D A RL yC.2.1) (hml : c.maxLocals = aNl yC) (hq : aFind (aPs yC) pc = some (ins, 3)) (hb : aOp (aNl yC) ins pc lv (.int x :: rest) = aIf bb pc off lv rest) (hoff : (pc : Int) + off = .ofNat t) (k1 : bb = true → aW p l e R s ml args below meth c D A Q (t, (lv, rest)) S) (k0 : bb = false → aW p l e R s ml args below meth c D A Q (pc + 3, (lv, rest)) S) : aW p l e R s ml args below meth c D A Q (pc, (lv, .int x :: rest)) S := by
  intro H locs ls hR hl
  cases bb with
  | true =>
    refine ao_all (S := S) (fr := (t, (lv, rest))) X0.1 X0.2.1 (hT.at hq).1 (hT.at hq).2 hl ?_ (fun ls1 hl1 => k1 rfl H locs ls1 hR hl1)
    rw [hml, hb]
    unfold aIf
    rw [hoff]
    rfl
  | false =>
    refine ao_all (S := S) (fr := (pc + 3, (lv, rest))) X0.1 X0.2.1 (hT.at hq).1 (hT.at hq).2 hl ?_ (fun ls1 hl1 => k0 rfl H locs ls1 hR hl1)
    rw [hml, hb]
    unfold aIf
    rw [hoff]
    rfl
end CASES
