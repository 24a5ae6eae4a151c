/-! what lies outside of the cells and is never written: constants of the enum, its table for switches, the statics and texts of throws -/
def aEn : List String := ["SECTION", "LABEL", "CODE", "WORD", "SPACE", "VECTOR", "MACRO", "END_MACRO", "USE"]
def aSmL : List Int32 := [1, 2, 3, 4, 5, 9, 6, 7, 8]
def aSm (j : Nat) : Int32 := aSmL.getD j 0
def aStr : List (String × (Nat × String)) := [("KernelGym", (143, "a parameter is out of range")), ("KernelGym", (325, "no entry has this name")), ("KernelGym", (149, "the source has 100 lines")), ("KernelGym", (119, "the source has an error")), ("KernelGym", (147, "nothing was assembled")), ("KernelGym", (163, "the machine is on")), ("KernelGym", (286, "the machine is off")), ("KernelGym", (217, "the machine does not run")), ("KernelGym", (222, "20 keys were told since the start")), ("KernelGym", (325, "no entry has this name")), ("KernelGym", (331, "the draft has 6 keys")), ("KernelGym", (339, "the draft has 6 words")), ("KernelGym", (347, "there are 5 tests")), ("KernelGym", (364, "there is no such test"))]
def aOI (U : State) (i : Nat) : Prop := ∃ cf kf fi fd, U.fieldFound? "java/lang/Enum" "ordinal" "I" = some (cf, kf, fi, fd) ∧ fd.isStatic = false ∧ fd.slot = i
theorem aOI.moved {u E : State} {i : Nat} (hvm : u.vm.Alike E.vm) (h : aOI u i) : aOI E i := by
  obtain ⟨cf, kf, fi, fd, hi, hs⟩ := h
  obtain ⟨kf', hi', -⟩ := State.fieldFound?_setVm (s := u) hvm hi
  exact ⟨cf, kf', fi, fd, by simpa only [State.fieldFound?, State.vm_setVm] using hi', hs⟩
def aEO (kad : Nat → Nat) (A : Nat → Prop) (U : State) (H : Heap) (j : Nat) : Prop := ¬ A (kad j) ∧ kad j < H.size ∧ ∃ (cell : Cell) (i : Nat), H[kad j]? = some cell ∧ U.vm.findClass "KernelGym$Does" = some cell.cls ∧ (cell.vm.isStatics = false ∧ cell.vm ≠ .unknown) ∧ aOI U i ∧ cell.slots[i]? = some (.int (nI j))
def aSW (kad : Nat → Nat) (A : Nat → Prop) (U : State) (H : Heap) : Prop := ¬ A (kad 9) ∧ kad 9 < H.size ∧ ∃ cell : Cell, H[kad 9]? = some cell ∧ U.isArrayOf cell .int ∧ cell.vm ≠ .unknown ∧ 9 ≤ cell.slots.size ∧ ∀ j : Nat, j < 9 → cell.slots[j]? = some (.int (aSm j))
def aZE (kad : Nat → Nat) (A : Nat → Prop) (U : State) (H : Heap) : Prop := ∀ (j : Nat) (nm : String), aEn[j]? = some nm → va_Z "KernelGym$Does" nm "LKernelGym$Does;" (.ref (kad j)) A U H ∧ aEO kad A U H j
def aNG : List Cond := [.declares ⟨"java/lang/RuntimeException", "<init>", "(Ljava/lang/String;)V"⟩, .declares ⟨"java/lang/Exception", "<init>", "(Ljava/lang/String;)V"⟩, .declares ⟨"java/lang/Throwable", "<init>", "(Ljava/lang/String;)V"⟩, .castable "java/lang/IllegalArgumentException" "java/lang/IllegalArgumentException", .castable "java/lang/IllegalStateException" "java/lang/IllegalStateException", .castable "java/lang/IndexOutOfBoundsException" "java/lang/IndexOutOfBoundsException", .castable "java/util/NoSuchElementException" "java/util/NoSuchElementException", .methodLinkNest "KernelGym$Assembler" 49 yX9_init "KernelGym", .methodLinkNest "KernelGym" 22 yX10_init "KernelGym", .methodLinkNest "KernelGym$Machine" 11 yX3_init "KernelGym", .methodLinkNest "KernelGym$Core" 17 yX6_init "KernelGym", .methodLinkNest "KernelGym$Machine" 34 yX8_init "KernelGym", .methodLinkNest "KernelGym$Machine" 41 yX2_init "KernelGym", .methodLinkNest "KernelGym$Machine" 51 yX7_init "KernelGym", .methodLinkNest "KernelGym$Kept" 11 yX3_init "KernelGym", .methodLinkNest "KernelGym" 42 yX7_init "KernelGym", .methodLinkNest "KernelGym" 49 yX11_init "KernelGym"]
theorem aNG_all {P : Cond → Prop} (h0 : P (.declares ⟨"java/lang/RuntimeException", "<init>", "(Ljava/lang/String;)V"⟩)) (h1 : P (.declares ⟨"java/lang/Exception", "<init>", "(Ljava/lang/String;)V"⟩)) (h2 : P (.declares ⟨"java/lang/Throwable", "<init>", "(Ljava/lang/String;)V"⟩)) (h3 : P (.castable "java/lang/IllegalArgumentException" "java/lang/IllegalArgumentException")) (h4 : P (.castable "java/lang/IllegalStateException" "java/lang/IllegalStateException")) (h5 : P (.castable "java/lang/IndexOutOfBoundsException" "java/lang/IndexOutOfBoundsException")) (h6 : P (.castable "java/util/NoSuchElementException" "java/util/NoSuchElementException")) (h7 : P (.methodLinkNest "KernelGym$Assembler" 49 yX9_init "KernelGym")) (h8 : P (.methodLinkNest "KernelGym" 22 yX10_init "KernelGym")) (h9 : P (.methodLinkNest "KernelGym$Machine" 11 yX3_init "KernelGym")) (h10 : P (.methodLinkNest "KernelGym$Core" 17 yX6_init "KernelGym")) (h11 : P (.methodLinkNest "KernelGym$Machine" 34 yX8_init "KernelGym")) (h12 : P (.methodLinkNest "KernelGym$Machine" 41 yX2_init "KernelGym")) (h13 : P (.methodLinkNest "KernelGym$Machine" 51 yX7_init "KernelGym")) (h14 : P (.methodLinkNest "KernelGym$Kept" 11 yX3_init "KernelGym")) (h15 : P (.methodLinkNest "KernelGym" 42 yX7_init "KernelGym")) (h16 : P (.methodLinkNest "KernelGym" 49 yX11_init "KernelGym")) : ∀ w ∈ aNG, P w := List.forall_mem_cons.mpr ⟨h0, List.forall_mem_cons.mpr ⟨h1, List.forall_mem_cons.mpr ⟨h2, List.forall_mem_cons.mpr ⟨h3, List.forall_mem_cons.mpr ⟨h4, List.forall_mem_cons.mpr ⟨h5, List.forall_mem_cons.mpr ⟨h6, List.forall_mem_cons.mpr ⟨h7, List.forall_mem_cons.mpr ⟨h8, List.forall_mem_cons.mpr ⟨h9, List.forall_mem_cons.mpr ⟨h10, List.forall_mem_cons.mpr ⟨h11, List.forall_mem_cons.mpr ⟨h12, List.forall_mem_cons.mpr ⟨h13, List.forall_mem_cons.mpr ⟨h14, List.forall_mem_cons.mpr ⟨h15, List.forall_mem_cons.mpr ⟨h16, fun _ h => absurd h List.not_mem_nil⟩⟩⟩⟩⟩⟩⟩⟩⟩⟩⟩⟩⟩⟩⟩⟩⟩
theorem aNG_warm {s U : State} (hW : s.WarmedH U.vm) (h : ∀ w ∈ aNG, va_Nw w s) : ∀ w ∈ aNG, va_Nw w U := aNG_all (va_Nw.warmD hW (h _ (by simp [aNG]))) (va_Nw.warmD hW (h _ (by simp [aNG]))) (va_Nw.warmD hW (h _ (by simp [aNG]))) (va_Nw.warmC hW (h _ (by simp [aNG]))) (va_Nw.warmC hW (h _ (by simp [aNG]))) (va_Nw.warmC hW (h _ (by simp [aNG]))) (va_Nw.warmC hW (h _ (by simp [aNG]))) (va_Nw.warmM hW (h _ (by simp [aNG]))) (va_Nw.warmM hW (h _ (by simp [aNG]))) (va_Nw.warmM hW (h _ (by simp [aNG]))) (va_Nw.warmM hW (h _ (by simp [aNG]))) (va_Nw.warmM hW (h _ (by simp [aNG]))) (va_Nw.warmM hW (h _ (by simp [aNG]))) (va_Nw.warmM hW (h _ (by simp [aNG]))) (va_Nw.warmM hW (h _ (by simp [aNG]))) (va_Nw.warmM hW (h _ (by simp [aNG]))) (va_Nw.warmM hW (h _ (by simp [aNG])))
theorem aNG_on : ∀ w ∈ aNG, w.onTables = true := aNG_all rfl rfl rfl rfl rfl rfl rfl rfl rfl rfl rfl rfl rfl rfl rfl rfl rfl
def aAO : List String := ["KernelGym$Kept", "KernelGym$Line", "KernelGym$Trial"]
def aEL4 : List String := ["java/lang/IllegalArgumentException", "java/lang/IllegalStateException", "java/lang/IndexOutOfBoundsException", "java/util/NoSuchElementException"]
/-- which exceptions are not which -/
def NC (U : State) : Prop := ∀ i j, i < 4 → j < 4 → ¬ i = j → va_Nc (aEL4.getD i "") (aEL4.getD j "") U
theorem NC.moved {u U : State} (hvm : u.vm.Alike U.vm) (h : NC u) : NC U := fun i j hi hj hn => (h i j hi hj hn).moved hvm
def aKF (kad : Nat → Nat) (A : Nat → Prop) (U : State) (H : Heap) : Prop :=
  (vx_Zq Bundle.tN "UNASSIGNED_STACK" Bundle.steD A U H ∧ vx_Zq Bundle.tN "SUPPRESSED_SENTINEL" Bundle.listD A U H) ∧ ((∀ q ∈ aStr, ∃ a, vk_R q.1 q.2.1 q.2.2 a U) ∧ (∀ w ∈ aNG, va_Nw w U) ∧ ((∀ C ∈ aAO, va_AO C U) ∧ NC U)) ∧ aZE kad A U H ∧ va_Z "KernelGym$1" "$SwitchMap$KernelGym$Does" "[I" (.ref (kad 9)) A U H ∧ aSW kad A U H
theorem aKF.kept {kad : Nat → Nat} {A : Nat → Prop} {U : State} {H H1 : Heap} (h : aKF kad A U H) (hq : ∀ a : Nat, a < H.size → ¬ A a → H1[a]? = H[a]?) (hz : H.size ≤ H1.size) : aKF kad A U H1 := by
  obtain ⟨⟨h1, h2⟩, h3, h4, h5, h6, h7, cell, h8, h9⟩ := h
  refine ⟨⟨h1.kept hq, h2.kept hq⟩, h3, fun j nm hj => ?_, h5.kept hq, h6, Nat.lt_of_lt_of_le h7 hz, cell, (hq _ h7 h6).trans h8, h9⟩
  obtain ⟨g1, g2, g3, cell, i, g4, g5⟩ := h4 j nm hj
  exact ⟨g1.kept hq, g2, Nat.lt_of_lt_of_le g3 hz, cell, i, (hq _ g3 g2).trans g4, g5⟩
theorem aKF.narrow {kad : Nat → Nat} {A B : Nat → Prop} {U : State} {H : Heap} (h : aKF kad A U H) (hAB : ∀ q, B q → A q) : aKF kad B U H := by
  obtain ⟨⟨h1, h2⟩, h3, h4, h5, h6, h7⟩ := h
  refine ⟨⟨h1.narrow hAB, h2.narrow hAB⟩, h3, fun j nm hj => ?_, h5.narrow hAB, fun q => h6 (hAB _ q), h7⟩
  obtain ⟨g1, g2, g3⟩ := h4 j nm hj
  exact ⟨g1.narrow hAB, fun q => g2 (hAB _ q), g3⟩
theorem aKF.moved {kad : Nat → Nat} {A : Nat → Prop} {u U : State} {H : Heap} (hvm : u.vm.Alike U.vm) (hs : ∀ q ∈ aStr, ∃ a, vk_R q.1 q.2.1 q.2.2 a U) (hn : ∀ w ∈ aNG, va_Nw w U) (h : aKF kad A u H) : aKF kad A U H := by
  obtain ⟨⟨h1, h2⟩, ⟨-, -, h3, h3n⟩, h4, h5, h6, h7, cell, h8, h9, h10⟩ := h
  refine ⟨⟨h1.moved hvm, h2.moved hvm⟩, ⟨hs, hn, fun C hC => (h3 C hC).moved hvm, h3n.moved hvm⟩, fun j nm hj => ?_, h5.moved hvm, h6, h7, cell, h8, State.isArrayOf_alike hvm h9, h10⟩
  obtain ⟨g1, g2, g3, cell, i, g4, g5, g6, g7, g8⟩ := h4 j nm hj
  exact ⟨g1.moved hvm, g2, g3, cell, i, g4, by rw [hvm.findClass]; exact g5, g6, g7.moved hvm, g8⟩
theorem aKF.warm {kad : Nat → Nat} {A : Nat → Prop} {s U : State} {H : Heap} (hW : s.WarmedH U.vm) (h : aKF kad A s H) : aKF kad A U H :=
  aKF.moved hW.alike (fun q hq => by obtain ⟨a, ha⟩ := h.2.1.1 q hq; exact ⟨a, vk_R.warm hW ha⟩) (aNG_warm hW h.2.1.2.1) h
theorem aKF.calling {kad : Nat → Nat} {A : Nat → Prop} {U : State} {H : Heap} {g : JFrame} {mk : MethodId} {a : Array Value} (h : aKF kad A U H) : aKF kad A (U.calling g mk a) H :=
  aKF.moved (u := U) (U := U.calling g mk a) (Vm.Alike.refl U.vm) (fun q hq => by obtain ⟨b, hb⟩ := h.2.1.1 q hq; exact ⟨b, vk_R.same (u := U) (U := U.calling g mk a) rfl hb⟩) (fun w hw => va_Nw.same (aNG_on w hw) (u := U) (U := U.calling g mk a) rfl (h.2.1.2.1 w hw)) h
/-! the contract of a method: from these cells it comes to those -/
abbrev ARes : Type := Option Value ⊕ String
def aRm (d k n : Nat) : Room := { frames := 8 + d, cells := k, slots := n, locals := 200 + 40 * d }
def aPc (D : AG) (S : ASt) (sz : Nat) (argv : List Value) : Array Value → State → Prop := va_Pc argv (fun U => U.heap.size = sz ∧ (aHas D S.1 U.heap ∧ aSz S.2.1 U.heap) ∧ aKn D U ∧ aKF D.2.2 (aA S.1 sz) U U.heap)
def aB (D : AG) (S0 S1 : ASt) (sz : Nat) (t : State) : Prop := aHas D S1.1 t.heap ∧ aSz S1.2.1 t.heap ∧ aInn (aA S0.1 sz) S1.1
def aQc (D : AG) (S0 S1 : ASt) (sz : Nat) (r : ARes) : Array Value → State → Outcome → State → Prop := fun _ st o t => (∃ v, r = .inl v ∧ o = .returned v) ∧ aB D S0 S1 sz t ∧ va_F (aA S0.1 sz) st t
def aXC (D : AG) (S0 S1 : ASt) (sz : Nat) (r : ARes) : String → State → State → Prop := fun E st t => r = .inr E ∧ aB D S0 S1 sz t ∧ va_F (aA S0.1 sz) st t
def aMet (l : Launch) (kad : Nat → Nat) (d : Nat) (y : MethodName) (cb : ByteArray) (nl : Nat) (rt : Option FieldType) (argv : List Value) (S0 : ASt) (r : ARes) (S1 : ASt) : Prop :=
  ∀ (D : AG) (sz : Nat), D.2.2 = kad → vx_Met l y (Cond.code y cb nl rt :: aTB) (aRm d (S1.2.2.1 - S0.2.2.1) (S1.2.2.2 - S0.2.2.2)) (aPc D S0 sz argv) (aQc D S0 S1 sz r) (aXC D S0 S1 sz r) (S1.2.2.1 - S0.2.2.1) (S1.2.2.2 - S0.2.2.2) (aA S0.1 sz)
theorem aPc_blind (D : AG) (S : ASt) (sz : Nat) (argv : List Value) : FrameBlind (aPc D S sz argv) := fun a U g mk q => by
  obtain ⟨q0, q1, q2, q3, q4⟩ := q
  exact ⟨q0, q1, q2, aKn.moved (u := U) (U := U.calling g mk a) (Vm.Alike.refl U.vm) q3, aKF.calling q4⟩
/-- the fixed things of a body -/
def aCtx (p : Program) (l : Launch) (R : Room) (s : State) (m : MethodId) (args : Array Value) (meth : Method) (c : Code) (D : AG) (A : Nat → Prop) (own : String) (cc : ByteArray) : Prop :=
  p.tables.exec = Jvm.exec ∧ c.code = cc ∧ s.vm.findClass own = some m.cls ∧ (∀ w ∈ aTB, w.before args s = true) ∧ aKn D s ∧ aKF D.2.2 A s s.heap ∧ (∀ q : Nat, s.heap.size ≤ q → A q) ∧ meth.locks = false ∧ (∀ x ∈ c.exceptionTable.toList, False)
section ACALL
variable {p : Program} {l : Launch} {e : Env} {R : Room} {s : State} {m : MethodId} {args : Array Value} {below : List Frame} {meth : Method} {c : Code} {D : AG} {A : Nat → Prop} {Q : State → Prop} {cc : ByteArray} {pc : Nat} {H : Heap} {locs : List Loc} {ls : Array Slot} {own : String} {S S1 S9 : ASt} {r : ARes} {rest As : List Value} {y : MethodName} {cb : ByteArray} {nl n idx d : Nat} {rt : Option FieldType} {b : Nat × Nat}
/-- the pieces of a call that returns or throws, put together: what comes back beside what was here -/
theorem aR.call {t : State} {T' : State} {L : List Loc} {st0 : State} (hR : aR D A s.heap S H locs) (hA : ∀ q : Nat, s.heap.size ≤ q → A q) (h0 : st0.heap = H) (e1 : T'.heap = t.heap) (hL : ∀ q ∈ L, aA S.1 H.size q.base) (hB : aB D S S1 H.size t) (hF : va_F (aA S.1 H.size) st0 t) : aR D A s.heap S1 T'.heap (locs ++ L) := by
  obtain ⟨hH, hI, hS, hz⟩ := hR
  have hAA : ∀ q : Nat, aA S.1 H.size q → A q := fun q h => by
    rcases h with ⟨f, h⟩ | h
    · exact hI q f h
    · exact hA q (Nat.le_trans hS.1 h)
  obtain ⟨k1, k2, k3⟩ := vx_keep (A0 := A) (A1 := aA S.1 H.size) (free := aA S.1 H.size) h0 e1 hS (fun q _ h => hAA q h) hAA hL hF
  exact ⟨by rw [e1]; exact hB.1, fun a f h => hAA a (hB.2.2 a f h), k3, by rw [e1]; exact hB.2.1⟩
theorem aR.sub (hR : aR D A s.heap S H locs) (hA : ∀ q : Nat, s.heap.size ≤ q → A q) : ∀ q : Nat, aA S.1 H.size q → A q := fun q h => by
  rcases h with ⟨f, h⟩ | h
  · exact hR.2.1 q f h
  · exact hA q (Nat.le_trans hR.2.2.1.1 h)
theorem a_callW {cl sl mc ms : Nat} {st : List Value} {a0 : Array Value} (hA : ∀ q : Nat, s.heap.size ≤ q → A q) (hR : aR D A s.heap S H locs)
    (hr : vx_Run p l e R s m args below meth c H locs cl sl mc ms (F0 m pc ls st) rest (aQc D S S1 H.size r a0) (aXC D S S1 H.size r) (aA S.1 H.size))
    (kn : ∀ v, r = .inl v → ∀ (H1 : Heap) (locs1 : List Loc), aR D A s.heap S1 H1 locs1 → W p l e R s m args below meth c H1 locs1 (cl + mc) (sl + ms) Q (F0 m (pc + 3) ls (v.toList ++ rest)))
    (kx : ∀ (E : String) (q : Addr) (ce : Cell) (H1 : Heap) (locs1 : List Loc), r = .inr E → aR D A s.heap S1 H1 locs1 → H1[q]? = some ce → ce.vm = .none → s.vm.findClass E = some ce.cls → vx_W p l e R s m args below meth c H1 locs1 (cl + mc) (sl + ms) Q (F0 m pc ls rest) q) :
    W p l e R s m args below meth c H locs cl sl Q (F0 m pc ls st) := by
  intro T hT X
  rcases hr T hT X with ⟨v, st0, t, T', L, h0, X', hL, e1, e2, ⟨⟨v', hv', ho⟩, hB, hF⟩, go⟩ | ⟨q, st0, t, T', L, E, ce, h0, X', hL, e1, e2, ⟨hrE, hB, hF⟩, hce, hcv, hcl, go⟩
  · cases ho
    obtain ⟨t2, a1, b1⟩ := kn v hv' T'.heap (locs ++ L) (hR.call hA h0 e1 hL hB hF) T' rfl X'
    exact ⟨t2, go t2 a1, b1⟩
  · obtain ⟨t2, a1, b1⟩ := kx E q ce T'.heap (locs ++ L) hrE (hR.call hA h0 e1 hL hB hF) (by rw [e1]; exact hce) hcv hcl T' rfl X'
    exact ⟨t2, go.trans a1, b1⟩
/-- what a call needs of the tables, and of the room -/
def aCOk (own : String) (idx : Nat) (y : MethodName) (cb : ByteArray) (nl : Nat) (rt : Option FieldType) (n : Nat) : Prop :=
  Cond.code y cb nl rt ∈ aTB ∧ nl ≤ 21 ∧ Cond.initialized y.cls ∈ aTB ∧ (y.cls ≠ "java/lang/invoke/MethodHandle" ∧ y.cls ≠ "java/lang/invoke/VarHandle") ∧ (parseMethodDescriptor y.desc).map (fun d => d.parameters.length) = some n
theorem aCOk.B (hts : ∀ w ∈ aTB, w.before args s = true) (h : aCOk own idx y cb nl rt n) (hl : Cond.methodLink own idx y ∈ aTB) {k j : Nat} (hR : R.frames = 8 + (d + 1) ∧ R.locals = 200 + 40 * (d + 1)) : CallB R s args own idx y cb nl rt (Cond.code y cb nl rt :: aTB) (aRm d k j) k j n := by
  obtain ⟨h1, h2, h3, h4, h5⟩ := h
  refine callB_of n hts (aTB_GoodIn (fun w hw => ?_)) rfl rfl rfl (hts _ h3) (hts _ hl) ⟨h4.1, h4.2, h5⟩ ⟨?_, ?_⟩
  · rcases List.mem_cons.mp hw with rfl | hw
    · exact h1
    · exact hw
  · rw [hR.1]
    show 8 + d + 1 ≤ _
    omega
  · rw [hR.2]
    show 8 + (nl + 11) + (200 + 40 * d) ≤ _
    omega
theorem aPc_at {argv : List Value} (X0 : aCtx p l R s m args meth c D A own cc) (hR : aR D A s.heap S H locs) : ∀ U : State, U.heap = H → s.WarmedH U.vm → aPc D S H.size argv argv.toArray U := fun U hU hW => by
  obtain ⟨hx, hb, hown, hts, hKn, hKF, hA, -⟩ := X0
  have hsub := hR.sub hA
  obtain ⟨h1, h2, h3, h4⟩ := hR
  exact ⟨rfl, by rw [hU], ⟨by rw [hU]; exact h1, by rw [hU]; exact h4⟩, aKn.moved hW.alike hKn, by rw [hU]; exact ((hKF.kept h3.2.1 h3.1).narrow hsub).warm hW⟩
theorem a_runV {q : Addr} {f : AEnt} {C : String} {T : u_T} {N : Nat} {cl sl : Nat} (X0 : aCtx p l R s m args meth c D A own cc) (hR : aR D A s.heap S H locs) (hls : ls.size = c.maxLocals)
    (hM : aMet l D.2.2 d y cb nl rt (.ref q :: As) S r S1) (hC : aCOk own idx y cb nl rt n) (hl : Cond.methodLink own idx y ∈ aTB) (hi : Cond.instanceMethod y ∈ aTB) (hs : Cond.selects y.cls y y ∈ aTB) (hq : S.1 q = some f) (hc : vwCl[f.1]? = some (C, T, N)) (hy : C = y.cls) (h100 : f.1 < 100) (hn : As.length = n)
    (hW : (rest.map fun v => v.category).sum ≤ 8) (hd : decode cc pc = .ok (.invokevirtual idx, 3)) (hrm : R.frames = 8 + (d + 1) ∧ R.locals = 200 + 40 * (d + 1)) (hf : cl + (S1.2.2.1 - S.2.2.1) ≤ R.cells ∧ sl + (S1.2.2.2 - S.2.2.2) ≤ R.slots) :
    vx_Run p l e R s m args below meth c H locs cl sl (S1.2.2.1 - S.2.2.1) (S1.2.2.2 - S.2.2.2) (F0 m pc ls (As.reverse ++ .ref q :: rest)) rest (aQc D S S1 H.size r (Value.ref q :: As).toArray) (aXC D S S1 H.size r) (aA S.1 H.size) := by
  subst hy
  have hX := X0
  obtain ⟨hx, hb, hown, hts, hKn, hKF, hA, -⟩ := X0
  obtain ⟨cell, q1, q2, q3, q4⟩ := (hR.1 q f hq).obj hc h100
  refine vx_runV (C := y.cls) (nL := c.maxLocals) ⟨hx, hb, rfl, hown, hts⟩ (hM D H.size rfl) ⟨hC.B hts hl hrm, hts _ hi, hts _ hs⟩ ⟨aPc_blind D S H.size _, ⟨cell, q1, by rw [q3]; rfl, ?_⟩, aPc_at hX hR⟩ rfl hn hls rfl (by show 2 * 0 + _ ≤ 8; omega) hd hf
  rw [q2]
  exact (hKn.1 f.1 _ hc).2.1
theorem a_runS {cl sl : Nat} (X0 : aCtx p l R s m args meth c D A own cc) (hR : aR D A s.heap S H locs) (hls : ls.size = c.maxLocals)
    (hM : aMet l D.2.2 d y cb nl rt As S r S1) (hC : aCOk own idx y cb nl rt n) (hl : Cond.methodLink own idx y ∈ aTB) (hi : Cond.static y ∈ aTB) (hn : As.length = n)
    (hW : (rest.map fun v => v.category).sum ≤ 8) (hd : decode cc pc = .ok (.invokestatic idx, 3)) (hrm : R.frames = 8 + (d + 1) ∧ R.locals = 200 + 40 * (d + 1)) (hf : cl + (S1.2.2.1 - S.2.2.1) ≤ R.cells ∧ sl + (S1.2.2.2 - S.2.2.2) ≤ R.slots) :
    vx_Run p l e R s m args below meth c H locs cl sl (S1.2.2.1 - S.2.2.1) (S1.2.2.2 - S.2.2.2) (F0 m pc ls (As.reverse ++ rest)) rest (aQc D S S1 H.size r As.toArray) (aXC D S S1 H.size r) (aA S.1 H.size) := by
  have hX := X0
  obtain ⟨hx, hb, hown, hts, hKn, hKF, hA, -⟩ := X0
  exact vx_runS (nL := c.maxLocals) ⟨hx, hb, rfl, hown, hts⟩ (hM D H.size rfl) ⟨hC.B hts hl hrm, hts _ hi⟩ ⟨aPc_blind D S H.size _, aPc_at hX hR⟩ rfl hn hls rfl (by show 2 * 0 + _ ≤ 8; omega) hd hf
/-- a callee that can't throw -/
theorem vx_met {ws : List Cond} {rm : Room} {Pc : Array Value → State → Prop} {Qc : Array Value → State → Outcome → State → Prop} {XC : String → State → State → Prop} {mc ms : Nat} {free : Addr → Prop} (h : vx_Met l y ws rm Pc Qc XC mc ms free) (hX : ∀ E st t, ¬ XC E st t) : Met l y ws rm Pc Qc mc ms free := by
  intro p e ha hc hk s m args below hf happ hP hK
  obtain ⟨n, o, h1, h2, h3, h4⟩ := h p e ha hc hk s m args below hf happ hP hK
  refine ⟨n, o, h1, h2, h3, ?_⟩
  rcases h4 with h4 | ⟨q, -, E, ce, L, hx, -⟩
  · exact h4
  · exact absurd hx (hX _ _ _)
theorem vx_run_of {cl sl mc ms : Nat} {g : JFrame} {Qa : State → Outcome → State → Prop} {XC : String → State → State → Prop} {free : Addr → Prop} (h : va_Run p l e R s m args below meth c H locs cl sl mc ms g rest Qa free) : vx_Run p l e R s m args below meth c H locs cl sl mc ms g rest Qa XC free := fun T hT X => Or.inl (h T hT X)
theorem a_runI {q : Addr} {cl sl : Nat} {v : Option Value} (X0 : aCtx p l R s m args meth c D A own cc) (hR : aR D A s.heap S H locs) (hls : ls.size = c.maxLocals)
    (hM : aMet l D.2.2 d y cb nl none (.ref q :: As) S (.inl v) S1) (hC : aCOk own idx y cb nl none n) (hl : Cond.methodLink own idx y ∈ aTB) (hi : Cond.instanceMethod y ∈ aTB) (hnm : y.name = "<init>") (hn : As.length = n)
    (hW : (rest.map fun v => v.category).sum ≤ 8) (hd : decode cc pc = .ok (.invokespecial idx, 3)) (hrm : R.frames = 8 + (d + 1) ∧ R.locals = 200 + 40 * (d + 1)) (hf : cl + (S1.2.2.1 - S.2.2.1) ≤ R.cells ∧ sl + (S1.2.2.2 - S.2.2.2) ≤ R.slots) :
    vx_Run p l e R s m args below meth c H locs cl sl (S1.2.2.1 - S.2.2.1) (S1.2.2.2 - S.2.2.2) (F0 m pc ls (As.reverse ++ .ref q :: rest)) rest (aQc D S S1 H.size (.inl v) (Value.ref q :: As).toArray) (aXC D S S1 H.size (.inl v)) (aA S.1 H.size) := by
  have hX := X0
  obtain ⟨hx, hb, hown, hts, hKn, hKF, hA, -⟩ := X0
  exact vx_run_of (va_runI (nL := c.maxLocals) ⟨hx, hb, rfl, hown, hts⟩ (vx_met (hM D H.size rfl) (fun E st t h => by cases h.1)) ⟨hC.B hts hl hrm, hnm, hts _ hi⟩ ⟨aPc_blind D S H.size _, aPc_at hX hR⟩ rfl hn hls rfl (by show 2 * 0 + _ ≤ 8; omega) hd hf)
end ACALL
