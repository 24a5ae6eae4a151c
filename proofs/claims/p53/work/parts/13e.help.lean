/-! frames of the law that call and catch; a helper of the law: one call of the class, its exceptions caught -/
def aCx (p : Program) (s : State) (m : MethodId) (args : Array Value) (c : Code) (D : AG) (A : Nat → Prop) (own : String) (cc : ByteArray) : Prop :=
  p.tables.exec = Jvm.exec ∧ c.code = cc ∧ s.vm.findClass own = some m.cls ∧ (∀ w ∈ aTB, w.before args s = true) ∧ aKn D s ∧ aKF D.2.2 A s s.heap ∧ ∀ q : Nat, s.heap.size ≤ q → A q

section LCALL
variable {p : Program} {l : Launch} {e : Env} {R : Room} {s : State} {m : MethodId} {args : Array Value} {below : List Frame} {meth : Method} {c : Code} {D : AG} {A : Nat → Prop} {Q : State → Prop} {cc : ByteArray} {pc : Nat} {H : Heap} {locs : List Loc} {ls : Array Slot} {own : String} {S S1 : ASt} {r : ARes} {rest As argv : List Value} {y : MethodName} {cb : ByteArray} {nl n idx d : Nat} {rt : Option FieldType} {lv : ALv}
theorem aCOk.Bx (hts : ∀ w ∈ aTB, w.before args s = true) (h : aCOk own idx y cb nl rt n) (hl : Cond.methodLink own idx y ∈ aTB) {k j : Nat} (hR : 8 + (d + 1) ≤ R.frames ∧ 200 + 40 * (d + 1) ≤ R.locals) : CallB R s args own idx y cb nl rt (Cond.code y cb nl rt :: aTB) (aRm d k j) k j n := by
  obtain ⟨h1, h2, h3, h4, h5⟩ := h
  refine callB_of n hts (aTB_GoodIn (fun w hw => ?_)) rfl rfl rfl (hts _ h3) (hts _ hl) ⟨h4.1, h4.2, h5⟩ ⟨?_, ?_⟩
  · rcases List.mem_cons.mp hw with rfl | hw
    · exact h1
    · exact hw
  · show 8 + d + 1 ≤ _
    omega
  · show 8 + (nl + 11) + (200 + 40 * d) ≤ _
    omega
theorem x_at (X0 : aCx p s m args c D A own cc) (hR : aR D A s.heap S H locs) : ∀ U : State, U.heap = H → s.WarmedH U.vm → aPc D S H.size argv argv.toArray U := fun U hU hW => by
  obtain ⟨hx, hb, hown, hts, hKn, hKF, hA⟩ := X0
  have hsub := hR.sub hA
  obtain ⟨h1, h2, h3, h4⟩ := hR
  exact ⟨rfl, by rw [hU], ⟨by rw [hU]; exact h1, by rw [hU]; exact h4⟩, aKn.moved hW.alike hKn, by rw [hU]; exact ((hKF.kept h3.2.1 h3.1).narrow hsub).warm hW⟩
theorem x_runV {q : Addr} {f : AEnt} {C : String} {T : u_T} {N : Nat} {cl sl : Nat} (X0 : aCx p s m args c D A own cc) (hR : aR D A s.heap S H locs) (hls : ls.size = c.maxLocals)
    (hM : aMet l D.2.2 d y cb nl rt (.ref q :: As) S r S1) (hC : aCOk own idx y cb nl rt n) (hl : Cond.methodLink own idx y ∈ aTB) (hi : Cond.instanceMethod y ∈ aTB) (hs : Cond.selects y.cls y y ∈ aTB) (hq : S.1 q = some f) (hc : vwCl[f.1]? = some (C, T, N)) (hy : C = y.cls) (h100 : f.1 < 100) (hn : As.length = n)
    (hW : (rest.map fun v => v.category).sum ≤ 8) (hd : decode cc pc = .ok (.invokevirtual idx, 3)) (hrm : 8 + (d + 1) ≤ R.frames ∧ 200 + 40 * (d + 1) ≤ R.locals) (hf : cl + (S1.2.2.1 - S.2.2.1) ≤ R.cells ∧ sl + (S1.2.2.2 - S.2.2.2) ≤ R.slots) :
    vx_Run p l e R s m args below meth c H locs cl sl (S1.2.2.1 - S.2.2.1) (S1.2.2.2 - S.2.2.2) (F0 m pc ls (As.reverse ++ .ref q :: rest)) rest (aQc D S S1 H.size r (Value.ref q :: As).toArray) (aXC D S S1 H.size r) (aA S.1 H.size) := by
  subst hy
  have hX := X0
  obtain ⟨hx, hb, hown, hts, hKn, hKF, hA⟩ := X0
  obtain ⟨cell, q1, q2, q3, q4⟩ := (hR.1 q f hq).obj hc h100
  refine vx_runV (C := y.cls) (nL := c.maxLocals) ⟨hx, hb, rfl, hown, hts⟩ (hM D H.size rfl) ⟨hC.Bx hts hl hrm, hts _ hi, hts _ hs⟩ ⟨aPc_blind D S H.size _, ⟨cell, q1, by rw [q3]; rfl, ?_⟩, x_at hX hR⟩ rfl hn hls rfl (by show 2 * 0 + _ ≤ 8; omega) hd hf
  rw [q2]
  exact (hKn.1 f.1 _ hc).2.1

def hMet (l : Launch) (kad : Nat → Nat) (d : Nat) (y : MethodName) (cb : ByteArray) (nl : Nat) (rt : Option FieldType) (hh : List (Nat × Nat × Nat × Nat)) (argv : List Value) (S0 : ASt) (r : ARes) (S1 : ASt) : Prop :=
  ∀ (D : AG) (sz : Nat), D.2.2 = kad → vx_Met l y (Cond.codeWith y cb nl rt hh :: aTB) (aRm d (S1.2.2.1 - S0.2.2.1) (S1.2.2.2 - S0.2.2.2)) (aPc D S0 sz argv) (aQc D S0 S1 sz r) (aXC D S0 S1 sz r) (S1.2.2.1 - S0.2.2.1) (S1.2.2.2 - S0.2.2.2) (aA S0.1 sz)

theorem x_runH {hh : List (Nat × Nat × Nat × Nat)} {cl sl : Nat} (X0 : aCx p s m args c D A own cc) (hR : aR D A s.heap S H locs) (hls : ls.size = c.maxLocals)
    (hM : hMet l D.2.2 d y cb nl rt hh As S r S1) (h1 : Cond.codeWith y cb nl rt hh ∈ aTB) (h2 : nl ≤ 21) (h3 : Cond.initialized y.cls ∈ aTB) (h4 : y.cls ≠ "java/lang/invoke/MethodHandle" ∧ y.cls ≠ "java/lang/invoke/VarHandle") (h5 : (parseMethodDescriptor y.desc).map (fun d => d.parameters.length) = some n) (hl : Cond.methodLink own idx y ∈ aTB) (hst : Cond.static y ∈ aTB) (hn : As.length = n)
    (hW : (rest.map fun v => v.category).sum ≤ 8) (hd : decode cc pc = .ok (.invokestatic idx, 3)) (hrm : 8 + (d + 1) ≤ R.frames ∧ 200 + 40 * (d + 1) ≤ R.locals) (hf : cl + (S1.2.2.1 - S.2.2.1) ≤ R.cells ∧ sl + (S1.2.2.2 - S.2.2.2) ≤ R.slots) :
    vx_Run p l e R s m args below meth c H locs cl sl (S1.2.2.1 - S.2.2.1) (S1.2.2.2 - S.2.2.2) (F0 m pc ls (As.reverse ++ rest)) rest (aQc D S S1 H.size r As.toArray) (aXC D S S1 H.size r) (aA S.1 H.size) := by
  have hX := X0
  obtain ⟨hx, hb, hown, hts, hKn, hKF, hA⟩ := X0
  refine vx_runSX (nL := c.maxLocals) ⟨hx, hb, rfl, hown, hts⟩ (hM D H.size rfl) (vx_cwSW n hts (aTB_GoodIn (fun w hw => ?_)) rfl rfl rfl ⟨h4.1, h4.2, h5⟩ ⟨?_, ?_⟩) ⟨aPc_blind D S H.size _, x_at hX hR⟩ rfl hn hls rfl (by show 2 * 0 + _ ≤ 8; omega) hd hf
  · simp only [va_wsS, List.cons_append, List.nil_append, List.mem_cons] at hw
    rcases hw with rfl | rfl | rfl | rfl | hw
    · exact hl
    · exact hst
    · exact h3
    · exact h1
    · exact hw
  · show 8 + d + 1 ≤ _
    omega
  · show 8 + (nl + 11) + (200 + 40 * d) ≤ _
    omega
end LCALL
def aOpsN (y : AMeth) : Nat → AFr → Option AFr
  | 0, f => some f
  | k + 1, f => match aFind (aPs y) f.1 with
    | none => none
    | some q => match aRet (aRt y) q.1 f.2.2 with
      | some _ => none
      | none => match aOp (aNl y) q.1 f.1 f.2.1 f.2.2 with
        | none => none
        | some f1 => aOpsN y k f1

theorem vx_W.cs2 {p : Program} {l : Launch} {e : Env} {R : Room} {s : State} {m : MethodId} {args : Array Value} {below : List Frame} {meth : Method} {c : Code} {H : Heap} {locs : List Loc} {cells slots cells' slots' : Nat} {Q : State → Prop} {g : JFrame} {q : Addr} (hc : cells = cells') (hs : slots = slots') (k : vx_W p l e R s m args below meth c H locs cells' slots' Q g q) : vx_W p l e R s m args below meth c H locs cells slots Q g q := by
  subst hc; subst hs; exact k
section AWR
variable {p : Program} {l : Launch} {e : Env} {R : Room} {s : State} {m : MethodId} {args : Array Value} {below : List Frame} {meth : Method} {c : Code} {D : AG} {A : Nat → Prop} {Q : State → Prop} {own : String} {f f1 : AFr} {S S1 : ASt} {r : ARes} {rest As st : List Value} {y yh : AMeth} {n idx d pc : Nat} {lv : ALv} {M : AMem} {o : Nat} {w x : Int64} {t : Option Nat × (Nat × Nat)}
/-- a table of instructions is right -/
def okT (y : AMeth) : Prop := ∀ q ∈ aPs y, decode y.2.1 q.1 = .ok q.2 ∧ (aLen q.2.1 = 0 ∨ q.2.2 = aLen q.2.1)
theorem okT_of (h : (aPs y).all (fun q => decide (decode y.2.1 q.1 = .ok q.2 ∧ (aLen q.2.1 = 0 ∨ q.2.2 = aLen q.2.1))) = true) : okT y := fun q hq => of_decide_eq_true (List.all_eq_true.mp h q hq)
theorem okT.at (h : okT y) {ins : Instr} {len : Nat} (hq : aFind (aPs y) pc = some (ins, len)) : decode y.2.1 pc = .ok (ins, len) ∧ (aLen ins = 0 ∨ len = aLen ins) := h (pc, (ins, len)) (aFind_mem hq)
theorem aw_ops (hT : okT yh) (X0 : aCx p s m args c D A own yh.2.1) (hml : c.maxLocals = aNl yh) : ∀ (k : Nat) (f : AFr), aOpsN yh k f = some f1 → aW p l e R s m args below meth c D A Q f1 S → aW p l e R s m args below meth c D A Q f S := by
  intro k
  induction k with
  | zero => intro f h g; cases h; exact g
  | succ k ih =>
    intro f h g
    unfold aOpsN at h
    split at h
    · cases h
    · rename_i q hq
      split at h
      · cases h
      · split at h
        · cases h
        · rename_i f2 ho
          obtain ⟨hd, hn⟩ := hT.at (ins := q.1) (len := q.2) hq
          have g2 := ih f2 h g
          intro H locs ls hR hl
          exact ao_all (S := S) X0.1 X0.2.1 hd hn hl (by rw [hml]; exact ho) (fun ls1 hl1 => g2 H locs ls1 hR hl1)
/-- a call, by its run -/
theorem aw_call (hA : ∀ q : Nat, s.heap.size ≤ q → A q) (hcnt : S.2.2.1 ≤ S1.2.2.1 ∧ S.2.2.2 ≤ S1.2.2.2) {a0 : Array Value}
    (hr : ∀ (H : Heap) (locs : List Loc) (ls : Array Slot), aR D A s.heap S H locs → lv_has ls c.maxLocals lv → vx_Run p l e R s m args below meth c H locs S.2.2.1 S.2.2.2 (S1.2.2.1 - S.2.2.1) (S1.2.2.2 - S.2.2.2) (F0 m pc ls st) rest (aQc D S S1 H.size r a0) (aXC D S S1 H.size r) (aA S.1 H.size))
    (kn : ∀ v, r = .inl v → aW p l e R s m args below meth c D A Q (pc + 3, (lv, v.toList ++ rest)) S1)
    (kx : ∀ (E : String) (q : Addr) (ce : Cell) (H1 : Heap) (locs1 : List Loc) (ls : Array Slot), r = .inr E → aR D A s.heap S1 H1 locs1 → lv_has ls c.maxLocals lv → H1[q]? = some ce → ce.vm = .none → s.vm.findClass E = some ce.cls → vx_W p l e R s m args below meth c H1 locs1 S1.2.2.1 S1.2.2.2 Q (F0 m pc ls rest) q) : aW p l e R s m args below meth c D A Q (pc, (lv, st)) S := by
  intro H locs ls hR hl
  have w1 : S.2.2.1 + (S1.2.2.1 - S.2.2.1) = S1.2.2.1 := by omega
  have w2 : S.2.2.2 + (S1.2.2.2 - S.2.2.2) = S1.2.2.2 := by omega
  exact a_callW hA hR (hr H locs ls hR hl) (fun v hv H1 locs1 h1 => W.cs2 w1 w2 (kn v hv H1 locs1 ls h1 hl)) (fun E q ce H1 locs1 hE h1 h2 h3 h4 => vx_W.cs2 w1 w2 (kx E q ce H1 locs1 ls hE h1 hl h2 h3 h4))
end AWR
theorem aCl_e {ci : Nat} (h : ci < 11) : ∃ (C : String) (T : u_T) (N : Nat), vwCl[ci]? = some (C, T, N) := by
  match ci, h with
  | 0, _ => exact ⟨_, _, _, rfl⟩
  | 1, _ => exact ⟨_, _, _, rfl⟩
  | 2, _ => exact ⟨_, _, _, rfl⟩
  | 3, _ => exact ⟨_, _, _, rfl⟩
  | 4, _ => exact ⟨_, _, _, rfl⟩
  | 5, _ => exact ⟨_, _, _, rfl⟩
  | 6, _ => exact ⟨_, _, _, rfl⟩
  | 7, _ => exact ⟨_, _, _, rfl⟩
  | 8, _ => exact ⟨_, _, _, rfl⟩
  | 9, _ => exact ⟨_, _, _, rfl⟩
  | 10, _ => exact ⟨_, _, _, rfl⟩
  | n + 11, h => omega
/-- this exception is caught there, and x comes back -/
def hCp (yh : AMeth) (hh : List (Nat × Nat × Nat × Nat)) (E : String) (pcI : Nat) (x : Int32) : Prop := ∃ (i : Nat) (pre : List ExceptionTableEntry) (x0 : ExceptionTableEntry) (suf : List ExceptionTableEntry) (pcL idx : Nat), i < 4 ∧ E = aEC i ∧ tableOf hh = pre ++ x0 :: suf ∧ (∀ z ∈ pre, z.catchType ≠ 0 ∧ ∃ j, j < 4 ∧ ¬ i = j ∧ Cond.classLink RL z.catchType (aEC j) ∈ aTB) ∧ covers x0 pcI = true ∧ x0.catchType ≠ 0 ∧ Cond.classLink RL x0.catchType (aEC i) ∈ aTB ∧ (∀ (q : Nat) (lv : ALv), ∃ lv' : ALv, aOpsN yh 1 (x0.handlerPc, (lv, [.ref q])) = some (pcL, (lv', []))) ∧ aFind (aPs yh) pcL = some (.ldc idx, 2) ∧ Cond.constant RL idx x ∈ aTB ∧ aFind (aPs yh) (pcL + 2) = some (.ireturn, 1)
theorem NG_E {k : Nat} (h : k < 4) : Cond.castable (aEC k) (aEC k) ∈ aNG := by
  match k, h with
  | 0, _ => simp [aNG, aEC]
  | 1, _ => simp [aNG, aEC]
  | 2, _ => simp [aNG, aEC]
  | 3, _ => simp [aNG, aEC]
theorem NC.at {U : State} (h : NC U) {i j : Nat} (hi : i < 4) (hj : j < 4) (hn : ¬ i = j) : va_Nc (aEC i) (aEC j) U := by
  have e : ∀ k, k < 4 → aEL4.getD k "" = aEC k := fun k hk => by
    match k, hk with
    | 0, _ => rfl
    | 1, _ => rfl
    | 2, _ => rfl
    | 3, _ => rfl
  have := h i j hi hj hn
  rwa [e i hi, e j hj] at this
section HELP
variable {l : Launch} {kad : Nat → Nat} {d g kp pcI n idx : Nat} {yh z : AMeth} {hh : List (Nat × Nat × Nat × Nat)} {argv As rst : List Value} {lv : ALv} {z0 z1 : Option Nat} {x : Int32} {mc ms : Nat} {M0 M1 : AMem} {r2 : ARes} {e0 : AEnt}
theorem aw_ldc {p : Program} {e : Env} {R : Room} {s : State} {m : MethodId} {args : Array Value} {below : List Frame} {meth : Method} {c : Code} {D : AG} {A : Nat → Prop} {Q : State → Prop} {S : ASt} {own : String} {pc ix : Nat} {v : Int32} {lv1 : ALv} {st : List Value} (hT : okT yh) (X0 : aCx p s m args c D A own yh.2.1) (hq : aFind (aPs yh) pc = some (.ldc ix, 2)) (hw : Cond.constant own ix v ∈ aTB) (k : aW p l e R s m args below meth c D A Q (pc + 2, (lv1, .int v :: st)) S) : aW p l e R s m args below meth c D A Q (pc, (lv1, st)) S := by
  intro H locs ls hR hl
  exact lv_ldc X0.1 X0.2.1 X0.2.2.1 (X0.2.2.2.1 _ hw) (hT.at hq).1 (k H locs ls hR hl)

theorem aw_ret {p : Program} {e : Env} {R : Room} {s : State} {m : MethodId} {args : Array Value} {below : List Frame} {meth : Method} {c : Code} {D : AG} {S0 S : ASt} {own : String} {pc : Nat} {x : Int32} (hT : okT yh) (X0 : aCx p s m args c D (aA S0.1 s.heap.size) own yh.2.1) (hlocks : meth.locks = false) (hrt : meth.sig.returnType = some .int) (hq : aFind (aPs yh) pc = some (.ireturn, 1)) :
    aW p l e R s m args below meth c D (aA S0.1 s.heap.size) (vx_MQ below (aQc D S0 S s.heap.size (.inl (some (.int x)))) (aXC D S0 S s.heap.size (.inl (some (.int x)))) args s S.2.2.1 S.2.2.2 (aA S0.1 s.heap.size)) (pc, (lv, [.int x])) S := by
  intro H locs ls hR hl
  obtain ⟨hx, hb, hown, hts, hKn, hKF, hA⟩ := X0
  exact vx_ret (W.zret hx hb hrt rfl (fun t ht hW => ⟨⟨_, rfl, rfl⟩, ⟨by rw [ht]; exact hR.1, by rw [ht]; exact hR.2.2.2, hR.2.1⟩, hR.2.2.1.F ht⟩) hR.2.2.1.2.2 (hT.at hq).1 hlocks)

theorem help_p (hT : okT yh) (hpl : plainName yh.1.cls = true) (hcls : yh.1.cls = RL) (hrt : aRt yh = some .int) (hnl : (lg_sl argv).length ≤ aNl yh) (hgz : aMGood z) (hlk : Cond.methodLink RL idx z.1 ∈ aTB) (hin : Cond.instanceMethod z.1 ∈ aTB) (hse : Cond.selects z.1.cls z.1 z.1 ∈ aTB) (hpar : (parseMethodDescriptor z.1.desc).map (fun d => d.parameters.length) = some n) (hAs : As.length = n)
    (hg : M0 g = some e0) (he0 : e0.1 = aOc z) (h11 : e0.1 < 11) (hcat : (rst.map fun v => v.category).sum ≤ 8) (h1 : aOpsN yh kp (0, (lv_args 0 argv, [])) = some (pcI, (lv, As.reverse ++ .ref g :: rst))) (h2 : aFind (aPs yh) pcI = some (.invokevirtual idx, 3))
    (hM : aMet l kad d z.1 z.2.1 (aNl z) (aRt z) (.ref g :: As) (M0, (z0, (0, 0))) r2 (M1, (z1, (mc, ms))))
    (hou : ∀ v, r2 = .inl v → ∃ (k pcE : Nat) (lvE : ALv), aOpsN yh k (pcI + 3, (lv, v.toList ++ rst)) = some (pcE, (lvE, [.int x])) ∧ aFind (aPs yh) pcE = some (.ireturn, 1)) (hca : ∀ E, r2 = .inr E → hCp yh hh E pcI x) :
    hMet l kad (d + 1) yh.1 yh.2.1 (aNl yh) (aRt yh) hh argv (M0, (z0, (0, 0))) (.inl (some (.int x))) (M1, (z1, (mc, ms))) := by
  intro D sz hkad
  subst hkad
  refine vx_ofWH (hh := hh) (cc := yh.2.1) hpl rfl fun p e s m args below meth c s₁ B hml hP => ?_
  obtain ⟨rfl, hsz, ⟨hH, hz⟩, hKn, hKF⟩ := hP
  subst hsz
  have hts := atoms_spec (ws := Cond.codeWith yh.1 yh.2.1 (aNl yh) (aRt yh) hh :: aTB) B.pre
  have htab := vx_table (x := yh.1) B (hts _ List.mem_cons_self)
  have hown : s.vm.findClass RL = some m.cls := by rw [← hcls]; exact findClass_of_methodNamed B.named
  generalize hS0 : ((M0, (z0, (0, 0))) : ASt) = S0 at *
  generalize hS1 : ((M1, (z1, (mc, ms))) : ASt) = S1 at *
  have X0 : aCx p s m argv.toArray c D (aA S0.1 s.heap.size) RL yh.2.1 := ⟨B.exec, B.bytes, hown, fun w hw => hts w (List.mem_cons_of_mem _ hw), hKn, hKF, fun q hq => Or.inr hq⟩
  have hret : meth.sig.returnType = some .int := B.returns.trans hrt
  have hA := X0.2.2.2.2.2.2
  obtain ⟨-, q2, q3, q4, q5, q6, -⟩ := id hgz
  obtain ⟨C, T, N, hc⟩ := aCl_e h11
  have hcz : C = z.1.cls := by
    have hCn := aCn_ci hc
    rw [he0] at hCn
    exact Option.some.inj (hCn.symm.trans q6)
  have hfin : aW p l e (headSpec (Cond.codeWith yh.1 yh.2.1 (aNl yh) (aRt yh) hh :: aTB) (aRm (d + 1) (S1.2.2.1 - S0.2.2.1) (S1.2.2.2 - S0.2.2.2))).room s m argv.toArray below meth c D (aA S0.1 s.heap.size) (vx_MQ below (aQc D S0 S1 s.heap.size (.inl (some (.int x)))) (aXC D S0 S1 s.heap.size (.inl (some (.int x)))) argv.toArray s S1.2.2.1 S1.2.2.2 (aA S0.1 s.heap.size)) (0, (lv_args 0 argv, [])) S0 := by
    refine aw_ops hT X0 hml kp _ h1 ?_
    refine aw_call (S1 := S1) (r := r2) (rest := rst) hA (by subst hS0; exact ⟨Nat.zero_le _, Nat.zero_le _⟩) (fun H locs ls hR hl => x_runV (d := d) (f := e0) X0 hR hl.1 hM ⟨q2, q3, q4, q5, hpar⟩ hlk hin hse (by subst hS0; exact hg) hc hcz (by omega) hAs hcat (hT.at h2).1 ⟨Nat.le_refl _, Nat.le_refl _⟩ ?_) (fun v' hv => ?_) (fun E q ce H1 locs1 ls hE hR hl hcell hv hcl => ?_)
    · subst hS0
      show 0 + (S1.2.2.1 - 0) ≤ S1.2.2.1 - 0 ∧ 0 + (S1.2.2.2 - 0) ≤ S1.2.2.2 - 0
      omega
    · obtain ⟨k, pcE, lvE, g1, g2⟩ := hou v' hv
      exact aw_ops hT X0 hml k _ g1 (aw_ret hT X0 B.notSynchronized hret g2)
    · obtain ⟨i, pre, x0, suf, pcL, ix, c0, c0', c1, c2, c3, c4, c5, c6, c7, c8, c9⟩ := hca E hE
      subst c0'
      refine vx_catch (own := RL) (name := aEC i) hown pre x0 suf (htab.trans c1) (fun z hz => Or.inr ?_) c3 c4 (X0.2.2.2.1 _ c5) (va_Nw.use rfl (hKF.2.1.2.1 _ (NG_E c0))) hcell hv hcl ?_
      · obtain ⟨k1, j, k2, k3, k4⟩ := c2 z hz
        exact ⟨k1, _, X0.2.2.2.1 _ k4, hKF.2.1.2.2.2.at c0 k2 k3⟩
      · obtain ⟨lv', c6'⟩ := c6 q lv
        exact aw_ops hT X0 hml 1 _ c6' (aw_ldc hT X0 c7 c8 (aw_ret hT X0 B.notSynchronized hret c9)) H1 locs1 ls hR hl
  have hl := lv_entry argv (n := aNl yh) hnl
  have hW := hfin s.heap [] ((lg_sl argv ++ List.replicate (aNl yh - (lg_sl argv).length) Slot.unset).toArray) ⟨hH, fun a f hf => Or.inl ⟨f, hf⟩, va_S.rf, hz⟩ (by rw [hml]; exact hl)
  rw [lg_entry_eq]
  subst hS0
  subst hS1
  exact hW
theorem aMet.un {y : MethodName} {cb : ByteArray} {nl : Nat} {rt : Option FieldType} {r : ARes} {c0 n0 : Nat} (h : aMet l kad d y cb nl rt argv (M0, (z0, (c0, n0))) r (M1, (z1, (mc, ms)))) : aMet l kad d y cb nl rt argv (M0, (z0, (0, 0))) r (M1, (z1, (mc - c0, ms - n0))) := by
  intro D sz hk
  have h := h D sz hk
  show vx_Met l y _ (aRm d (mc - c0 - 0) (ms - n0 - 0)) _ _ _ (mc - c0 - 0) (ms - n0 - 0) _
  rw [Nat.sub_zero, Nat.sub_zero]
  exact h
theorem hMet.un {y : MethodName} {cb : ByteArray} {nl : Nat} {rt : Option FieldType} {r : ARes} {c0 n0 : Nat} (h : hMet l kad d y cb nl rt hh argv (M0, (z0, (0, 0))) r (M1, (z1, (mc - c0, ms - n0)))) : hMet l kad d y cb nl rt hh argv (M0, (z0, (c0, n0))) r (M1, (z1, (mc, ms))) := by
  intro D sz hk
  have h := h D sz hk
  have h2 : vx_Met l y _ (aRm d (mc - c0 - 0) (ms - n0 - 0)) _ _ _ (mc - c0 - 0) (ms - n0 - 0) _ := h
  rw [Nat.sub_zero, Nat.sub_zero] at h2
  exact h2
end HELP
