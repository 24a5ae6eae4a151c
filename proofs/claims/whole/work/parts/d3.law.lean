/-! frames of the law: calls out of them -/
def aCx (p : Program) (s : State) (m : MethodId) (args : Array Value) (c : Code) (D : AG) (A : Nat → Prop) (own : String) (cc : ByteArray) : Prop :=
  p.tables.exec = Jvm.exec ∧ c.code = cc ∧ s.vm.findClass own = some m.cls ∧ (∀ w ∈ aTB, w.before args s = true) ∧ aKn D s ∧ aKF D.2.2 A s s.heap ∧ ∀ q : Nat, s.heap.size ≤ q → A q
/-- which exceptions are not which -/
def NC (U : State) : Prop := ∀ i j, i < 4 → j < 4 → ¬ i = j → va_Nc (aEC i) (aEC j) U
theorem NC.moved {u U : State} (hvm : u.vm.Alike U.vm) (h : NC u) : NC U := fun i j hi hj hn => (h i j hi hj hn).moved hvm
def wo (M : AMem) (o : Nat) (w : Int64) : AMem := aMw M o (102, (1, fun _ => .long w))
section LCALL
variable {p : Program} {l : Launch} {e : Env} {R : Room} {s : State} {m : MethodId} {args : Array Value} {below : List Frame} {meth : Method} {c : Code} {D : AG} {A : Nat → Prop} {Q : State → Prop} {cc : ByteArray} {pc : Nat} {H : Heap} {locs : List Loc} {ls : Array Slot} {own : String} {S S1 : ASt} {r : ARes} {rest As argv : List Value} {y : MethodName} {cb : ByteArray} {nl n idx d : Nat} {rt : Option FieldType} {lv : ALv}
theorem aCOk.Bx (hts : ∀ w ∈ aTB, w.before args s = true) (h : aCOk own idx y cb nl rt n) (hl : Cond.methodLink own idx y ∈ aTB) {k j : Nat} (hR : 8 + (d + 1) ≤ R.frames ∧ 200 + 40 * (d + 1) ≤ R.locals) : CallB R s args own idx y cb nl rt (Cond.code y cb nl rt :: aTB) (aRm d k j) k j n := by
  obtain ⟨h1, h2, h3, h4, h5⟩ := h
  refine callB_of n hts (aTB_GoodIn (fun w hw => ?_)) rfl rfl rfl (hts _ h3) (hts _ hl) ⟨h4.1, h4.2, h5⟩ ⟨?_, ?_⟩
  · rcases List.mem_cons.mp hw with rfl | hw
    · exact h1
    · exact hw
  · show 8 + d + 1 ≤ _
    omega
  · show 8 + (nl + 11) + (200 + 40 * d) ≤ _
    omega
theorem x_at (X0 : aCx p s m args c D A own cc) (hR : aR D A s.heap S H locs) : ∀ U : State, U.heap = H → s.WarmedH U.vm → aPc D S H.size argv argv.toArray U := fun U hU hW => by
  obtain ⟨hx, hb, hown, hts, hKn, hKF, hA⟩ := X0
  have hsub := hR.sub hA
  obtain ⟨h1, h2, h3, h4⟩ := hR
  exact ⟨rfl, by rw [hU], ⟨by rw [hU]; exact h1, by rw [hU]; exact h4⟩, aKn.moved hW.alike hKn, by rw [hU]; exact ((hKF.kept h3.2.1 h3.1).narrow hsub).warm hW⟩
theorem x_runV {q : Addr} {f : AEnt} {C : String} {T : u_T} {N : Nat} {cl sl : Nat} (X0 : aCx p s m args c D A own cc) (hR : aR D A s.heap S H locs) (hls : ls.size = c.maxLocals)
    (hM : aMet l D.2.2 d y cb nl rt (.ref q :: As) S r S1) (hC : aCOk own idx y cb nl rt n) (hl : Cond.methodLink own idx y ∈ aTB) (hi : Cond.instanceMethod y ∈ aTB) (hs : Cond.selects y.cls y y ∈ aTB) (hq : S.1 q = some f) (hc : vwCl[f.1]? = some (C, T, N)) (hy : C = y.cls) (h100 : f.1 < 100) (hn : As.length = n)
    (hW : (rest.map fun v => v.category).sum ≤ 8) (hd : decode cc pc = .ok (.invokevirtual idx, 3)) (hrm : 8 + (d + 1) ≤ R.frames ∧ 200 + 40 * (d + 1) ≤ R.locals) (hf : cl + (S1.2.2.1 - S.2.2.1) ≤ R.cells ∧ sl + (S1.2.2.2 - S.2.2.2) ≤ R.slots) :
    vx_Run p l e R s m args below meth c H locs cl sl (S1.2.2.1 - S.2.2.1) (S1.2.2.2 - S.2.2.2) (F0 m pc ls (As.reverse ++ .ref q :: rest)) rest (aQc D S S1 H.size r (Value.ref q :: As).toArray) (aXC D S S1 H.size r) (aA S.1 H.size) := by
  subst hy
  have hX := X0
  obtain ⟨hx, hb, hown, hts, hKn, hKF, hA⟩ := X0
  obtain ⟨cell, q1, q2, q3, q4⟩ := (hR.1 q f hq).obj hc h100
  refine vx_runV (C := y.cls) (nL := c.maxLocals) ⟨hx, hb, rfl, hown, hts⟩ (hM D H.size rfl) ⟨hC.Bx hts hl hrm, hts _ hi, hts _ hs⟩ ⟨aPc_blind D S H.size _, ⟨cell, q1, by rw [q3]; rfl, ?_⟩, x_at hX hR⟩ rfl hn hls rfl (by show 2 * 0 + _ ≤ 8; omega) hd hf
  rw [q2]
  exact (hKn.1 f.1 _ hc).2.1
theorem x_runI {q : Addr} {cl sl : Nat} {v : Option Value} (X0 : aCx p s m args c D A own cc) (hR : aR D A s.heap S H locs) (hls : ls.size = c.maxLocals)
    (hM : aMet l D.2.2 d y cb nl none (.ref q :: As) S (.inl v) S1) (hC : aCOk own idx y cb nl none n) (hl : Cond.methodLink own idx y ∈ aTB) (hi : Cond.instanceMethod y ∈ aTB) (hnm : y.name = "<init>") (hn : As.length = n)
    (hW : (rest.map fun v => v.category).sum ≤ 8) (hd : decode cc pc = .ok (.invokespecial idx, 3)) (hrm : 8 + (d + 1) ≤ R.frames ∧ 200 + 40 * (d + 1) ≤ R.locals) (hf : cl + (S1.2.2.1 - S.2.2.1) ≤ R.cells ∧ sl + (S1.2.2.2 - S.2.2.2) ≤ R.slots) :
    vx_Run p l e R s m args below meth c H locs cl sl (S1.2.2.1 - S.2.2.1) (S1.2.2.2 - S.2.2.2) (F0 m pc ls (As.reverse ++ .ref q :: rest)) rest (aQc D S S1 H.size (.inl v) (Value.ref q :: As).toArray) (aXC D S S1 H.size (.inl v)) (aA S.1 H.size) := by
  have hX := X0
  obtain ⟨hx, hb, hown, hts, hKn, hKF, hA⟩ := X0
  exact vx_run_of (va_runI (nL := c.maxLocals) ⟨hx, hb, rfl, hown, hts⟩ (vx_met (hM D H.size rfl) (fun E st t h => by cases h.1)) ⟨hC.Bx hts hl hrm, hnm, hts _ hi⟩ ⟨aPc_blind D S H.size _, x_at hX hR⟩ rfl hn hls rfl (by show 2 * 0 + _ ≤ 8; omega) hd hf)
/-- the helpers' start: the cells, and which exceptions are not which -/
def hPc (D : AG) (S : ASt) (sz : Nat) (argv : List Value) : Array Value → State → Prop := fun a U => aPc D S sz argv a U ∧ NC U
def hMet (l : Launch) (kad : Nat → Nat) (d : Nat) (y : MethodName) (cb : ByteArray) (nl : Nat) (rt : Option FieldType) (hh : List (Nat × Nat × Nat × Nat)) (argv : List Value) (S0 : ASt) (r : ARes) (S1 : ASt) : Prop :=
  ∀ (D : AG) (sz : Nat), D.2.2 = kad → vx_Met l y (Cond.codeWith y cb nl rt hh :: aTB) (aRm d (S1.2.2.1 - S0.2.2.1) (S1.2.2.2 - S0.2.2.2)) (hPc D S0 sz argv) (aQc D S0 S1 sz r) (aXC D S0 S1 sz r) (S1.2.2.1 - S0.2.2.1) (S1.2.2.2 - S0.2.2.2) (aA S0.1 sz)
theorem hPc_blind (D : AG) (S : ASt) (sz : Nat) (argv : List Value) : FrameBlind (hPc D S sz argv) := fun a U g mk q => ⟨aPc_blind D S sz argv a U g mk q.1, q.2.moved (u := U) (U := U.calling g mk a) (Vm.Alike.refl U.vm)⟩
theorem x_runH {hh : List (Nat × Nat × Nat × Nat)} {cl sl : Nat} (X0 : aCx p s m args c D A own cc) (hNC : NC s) (hR : aR D A s.heap S H locs) (hls : ls.size = c.maxLocals)
    (hM : hMet l D.2.2 d y cb nl rt hh As S r S1) (h1 : Cond.codeWith y cb nl rt hh ∈ aTB) (h2 : nl ≤ 21) (h3 : Cond.initialized y.cls ∈ aTB) (h4 : y.cls ≠ "java/lang/invoke/MethodHandle" ∧ y.cls ≠ "java/lang/invoke/VarHandle") (h5 : (parseMethodDescriptor y.desc).map (fun d => d.parameters.length) = some n) (hl : Cond.methodLink own idx y ∈ aTB) (hst : Cond.static y ∈ aTB) (hn : As.length = n)
    (hW : (rest.map fun v => v.category).sum ≤ 8) (hd : decode cc pc = .ok (.invokestatic idx, 3)) (hrm : 8 + (d + 1) ≤ R.frames ∧ 200 + 40 * (d + 1) ≤ R.locals) (hf : cl + (S1.2.2.1 - S.2.2.1) ≤ R.cells ∧ sl + (S1.2.2.2 - S.2.2.2) ≤ R.slots) :
    vx_Run p l e R s m args below meth c H locs cl sl (S1.2.2.1 - S.2.2.1) (S1.2.2.2 - S.2.2.2) (F0 m pc ls (As.reverse ++ rest)) rest (aQc D S S1 H.size r As.toArray) (aXC D S S1 H.size r) (aA S.1 H.size) := by
  have hX := X0
  obtain ⟨hx, hb, hown, hts, hKn, hKF, hA⟩ := X0
  refine vx_runSX (nL := c.maxLocals) ⟨hx, hb, rfl, hown, hts⟩ (hM D H.size rfl) (vx_cwSW n hts (aTB_GoodIn (fun w hw => ?_)) rfl rfl rfl ⟨h4.1, h4.2, h5⟩ ⟨?_, ?_⟩) ⟨hPc_blind D S H.size _, fun U hU hW => ⟨x_at hX hR U hU hW, hNC.moved hW.alike⟩⟩ rfl hn hls rfl (by show 2 * 0 + _ ≤ 8; omega) hd hf
  · simp only [va_wsS, List.cons_append, List.nil_append, List.mem_cons] at hw
    rcases hw with rfl | rfl | rfl | rfl | hw
    · exact hl
    · exact hst
    · exact h3
    · exact h1
    · exact hw
  · show 8 + d + 1 ≤ _
    omega
  · show 8 + (nl + 11) + (200 + 40 * d) ≤ _
    omega
end LCALL
