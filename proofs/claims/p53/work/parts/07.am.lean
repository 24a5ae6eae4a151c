/-! THE ABSTRACT MACHINE: cells as functions, frames as lists; what it says is carried over to the machine by the rows of the kit -/
abbrev AEnt : Type := Nat × (Nat × (Nat → Value))
abbrev AMem : Type := Nat → Option AEnt
/-- cells; how large the heap is, where that is known; cells and slots made so far -/
abbrev ASt : Type := AMem × (Option Nat × (Nat × Nat))
/-- the classes and their slots; the classes of arrays; where the constants lie -/
abbrev AG : Type := va_G × ((Nat → ClassId) × (Nat → Nat))
abbrev ALv : Type := List (Nat × Value)
abbrev AFr : Type := Nat × (ALv × List Value)
def aTys : List FieldType := [.int, .boolean, .byte, .object "KernelGym$Kept", .object "KernelGym$Line", .object "KernelGym$Trial"]
def aAt (D : AG) (a : Nat) (e : AEnt) (H : Heap) : Prop :=
  (e.1 < 100 ∧ ∃ r : vw_C, vwCl[e.1]? = some r ∧ t_OB a (D.1.1 e.1) r.2.2 (D.1.2 e.1) H e.2.2) ∨ (100 ≤ e.1 ∧ H[a]? = some (arrV (D.2.1 (e.1 - 100)) e.2.1 e.2.2) ∧ (e.1 = 100 → ∀ j, ∃ x : Int32, e.2.2 j = .int x))
theorem aAt.lt {D : AG} {a : Nat} {e : AEnt} {H : Heap} (h : aAt D a e H) : a < H.size := by
  rcases h with ⟨-, r, -, cell, h, -⟩ | ⟨-, h, -⟩
  · exact (Array.getElem?_eq_some_iff.mp h).1
  · exact (Array.getElem?_eq_some_iff.mp h).1
theorem aAt.kept {D : AG} {a : Nat} {e : AEnt} {H H1 : Heap} (h : aAt D a e H) (hq : H1[a]? = H[a]?) : aAt D a e H1 := by
  rcases h with ⟨h0, r, h1, h2⟩ | ⟨h0, h, h3⟩
  · exact Or.inl ⟨h0, r, h1, h2.kept hq⟩
  · exact Or.inr ⟨h0, hq.trans h, h3⟩
def aMw (M : AMem) (a : Nat) (e : AEnt) : AMem := fun q => if q = a then some e else M q
def aHas (D : AG) (M : AMem) (H : Heap) : Prop := ∀ (a : Nat) (e : AEnt), M a = some e → aAt D a e H
theorem aHas.put {D : AG} {M : AMem} {H H1 : Heap} {a : Nat} {e : AEnt} (h : aHas D M H) (he : aAt D a e H1) (ho : ∀ q : Nat, q ≠ a → H1[q]? = H[q]?) : aHas D (aMw M a e) H1 := by
  intro b f hb
  by_cases hab : b = a
  · subst hab
    simp only [aMw, if_true] at hb
    cases hb
    exact he
  · simp only [aMw, if_neg hab] at hb
    exact (h b f hb).kept (ho b hab)
/-- which cells a method may change: its own, and new ones -/
def aA (M : AMem) (sz : Nat) : Nat → Prop := fun q => (∃ e, M q = some e) ∨ sz ≤ q
def aInn (A : Nat → Prop) (M : AMem) : Prop := ∀ (a : Nat) (e : AEnt), M a = some e → A a
theorem aInn.put {A : Nat → Prop} {M : AMem} {a : Nat} {e : AEnt} (h : aInn A M) (ha : A a) : aInn A (aMw M a e) := by
  intro b f hb
  by_cases hab : b = a
  · subst hab; exact ha
  · simp only [aMw, if_neg hab] at hb
    exact h b f hb
def aSz (z : Option Nat) (H : Heap) : Prop := ∀ n : Nat, z = some n → H.size = n
def aKn (D : AG) (s : State) : Prop := (∀ (c : Nat) (q : vw_C), vwCl[c]? = some q → u_Kn s q.1 q.2.1 q.2.2 (D.1.1 c) (D.1.2 c)) ∧ ∀ (k : Nat) (ty : FieldType), aTys[k]? = some ty → ArrOfT s (D.2.1 k) ty ∧ va_RA s (D.2.1 k) ty
theorem aKn.moved {D : AG} {u U : State} (hvm : u.vm.Alike U.vm) (h : aKn D u) : aKn D U := ⟨fun c q hq => u_Kn_moved hvm (h.1 c q hq), fun k q hk => ⟨arrOfT_moved hvm (h.2 k q hk).1, (h.2 k q hk).2.moved hvm⟩⟩
def aR (D : AG) (A : Nat → Prop) (H0 : Heap) (S : ASt) (H : Heap) (locs : List Loc) : Prop := aHas D S.1 H ∧ aInn A S.1 ∧ va_S A H0 H locs ∧ aSz S.2.1 H
/-- the machine from an abstract frame on -/
def aW (p : Program) (l : Launch) (e : Env) (R : Room) (s : State) (m : MethodId) (args : Array Value) (below : List Frame) (meth : Method) (c : Code) (D : AG) (A : Nat → Prop) (Q : State → Prop) (f : AFr) (S : ASt) : Prop :=
  ∀ (H : Heap) (locs : List Loc) (ls : Array Slot), aR D A s.heap S H locs → lv_has ls c.maxLocals f.2.1 → W p l e R s m args below meth c H locs S.2.2.1 S.2.2.2 Q (F0 m f.1 ls f.2.2)
/-! plain instructions -/
def aGet : ALv → Nat → Option Value
  | [], _ => none
  | q :: r, i => if q.1 = i then some q.2 else aGet r i
theorem aGet_mem {i : Nat} {v : Value} : ∀ {lv : ALv}, aGet lv i = some v → (i, v) ∈ lv
  | [], h => by cases h
  | q :: r, h => by
    by_cases hq : q.1 = i
    · simp only [aGet, if_pos hq] at h
      cases h
      subst hq
      exact List.mem_cons_self
    · simp only [aGet, if_neg hq] at h
      exact List.mem_cons_of_mem _ (aGet_mem h)
def aPut1 (lv : ALv) (i : Nat) (v : Value) : ALv := (i, v) :: lv.filter (fun q => !(q.1 == i) && !(q.1 + 1 == i && q.2.category == 2))
def aPut2 (lv : ALv) (i : Nat) (v : Value) : ALv := (i, v) :: lv.filter (fun q => !(q.1 == i) && (!(q.1 == i + 1) && !(q.1 + 1 == i && q.2.category == 2)))
def aJump (pc : Nat) (off : Int) (lv : ALv) (st : List Value) : Option AFr := match (pc : Int) + off with
  | .ofNat t => some (t, (lv, st))
  | .negSucc _ => none
def aS0 (n : Nat) (pc : Nat) (lv : ALv) (st : List Value) (v : Value) : Option AFr := some (pc + n, (lv, v :: st))
def aS1 (st : List Value) (k : Int32 → List Value → Option AFr) : Option AFr := match st with
  | .int x :: r => k x r
  | _ => none
def aS2 (st : List Value) (k : Int32 → Int32 → List Value → Option AFr) : Option AFr := match st with
  | .int y :: .int x :: r => k x y r
  | _ => none
def aS1L (st : List Value) (k : Int64 → List Value → Option AFr) : Option AFr := match st with
  | .long x :: r => k x r
  | _ => none
def aS2L (st : List Value) (k : Int64 → Int64 → List Value → Option AFr) : Option AFr := match st with
  | .long y :: .long x :: r => k x y r
  | _ => none
def aSLI (st : List Value) (k : Int64 → Int32 → List Value → Option AFr) : Option AFr := match st with
  | .int y :: .long x :: r => k x y r
  | _ => none
theorem aS1_eq {st : List Value} {k : Int32 → List Value → Option AFr} {z : AFr} (h : aS1 st k = some z) : ∃ x r, st = .int x :: r ∧ k x r = some z := by
  unfold aS1 at h; split at h
  · exact ⟨_, _, rfl, h⟩
  · cases h
theorem aS2_eq {st : List Value} {k : Int32 → Int32 → List Value → Option AFr} {z : AFr} (h : aS2 st k = some z) : ∃ x y r, st = .int y :: .int x :: r ∧ k x y r = some z := by
  unfold aS2 at h; split at h
  · exact ⟨_, _, _, rfl, h⟩
  · cases h
theorem aS1L_eq {st : List Value} {k : Int64 → List Value → Option AFr} {z : AFr} (h : aS1L st k = some z) : ∃ x r, st = .long x :: r ∧ k x r = some z := by
  unfold aS1L at h; split at h
  · exact ⟨_, _, rfl, h⟩
  · cases h
theorem aS2L_eq {st : List Value} {k : Int64 → Int64 → List Value → Option AFr} {z : AFr} (h : aS2L st k = some z) : ∃ x y r, st = .long y :: .long x :: r ∧ k x y r = some z := by
  unfold aS2L at h; split at h
  · exact ⟨_, _, _, rfl, h⟩
  · cases h
theorem aSLI_eq {st : List Value} {k : Int64 → Int32 → List Value → Option AFr} {z : AFr} (h : aSLI st k = some z) : ∃ x y r, st = .int y :: .long x :: r ∧ k x y r = some z := by
  unfold aSLI at h; split at h
  · exact ⟨_, _, _, rfl, h⟩
  · cases h
theorem aJump_eq {pc : Nat} {off : Int} {lv : ALv} {st : List Value} {z : AFr} (h : aJump pc off lv st = some z) : ∃ t : Nat, (pc : Int) + off = (t : Int) ∧ z = (t, (lv, st)) := by
  unfold aJump at h; split at h
  · rename_i t ht
    exact ⟨t, ht, (Option.some.inj h).symm⟩
  · cases h
def aLdI (lv : ALv) (i n pc : Nat) (st : List Value) : Option AFr := match aGet lv i with
  | some (.int x) => some (pc + n, (lv, .int x :: st))
  | _ => none
def aLdL (lv : ALv) (i n pc : Nat) (st : List Value) : Option AFr := match aGet lv i with
  | some (.long x) => some (pc + n, (lv, .long x :: st))
  | _ => none
def aLdA (lv : ALv) (i n pc : Nat) (st : List Value) : Option AFr := match aGet lv i with
  | some (.ref x) => some (pc + n, (lv, .ref x :: st))
  | _ => none
def aStI (nL : Nat) (lv : ALv) (i n pc : Nat) (st : List Value) : Option AFr := match st with
  | .int x :: r => if i < nL then some (pc + n, (aPut1 lv i (.int x), r)) else none
  | _ => none
def aStL (nL : Nat) (lv : ALv) (i n pc : Nat) (st : List Value) : Option AFr := match st with
  | .long x :: r => if i + 1 < nL then some (pc + n, (aPut2 lv i (.long x), r)) else none
  | _ => none
def aStA (nL : Nat) (lv : ALv) (i n pc : Nat) (st : List Value) : Option AFr := match st with
  | .ref x :: r => if i < nL then some (pc + n, (aPut1 lv i (.ref x), r)) else none
  | _ => none
def aInc (nL : Nat) (lv : ALv) (i : Nat) (d : Int) (pc : Nat) (st : List Value) : Option AFr := match aGet lv i with
  | some (.int x) => if i < nL then some (pc + 3, (aPut1 lv i (.int (x + Int32.ofInt d)), st)) else none
  | _ => none
def aTab (dflt lo hi : Int) (offs : Array Int) (pc : Nat) (lv : ALv) (x : Int32) (r : List Value) : Option AFr :=
  if x.toInt < lo then aJump pc dflt lv r else if hi < x.toInt then aJump pc dflt lv r else match offs[(x.toInt - lo).toNat]? with
    | some off => aJump pc off lv r
    | none => none
def aDup (pc : Nat) (lv : ALv) (st : List Value) : Option AFr := match st with
  | v :: r => if v.category = 1 then some (pc + 1, (lv, v :: v :: r)) else none
  | _ => none
def aPop (pc : Nat) (lv : ALv) (st : List Value) : Option AFr := match st with
  | v :: r => if v.category = 1 then some (pc + 1, (lv, r)) else none
  | _ => none
def aDup2 (pc : Nat) (lv : ALv) (st : List Value) : Option AFr := match st with
  | v :: w :: r => if v.category = 1 ∧ w.category = 1 then some (pc + 1, (lv, v :: w :: v :: w :: r)) else none
  | _ => none
def aIf (c : Bool) (pc : Nat) (off : Int) (lv : ALv) (r : List Value) : Option AFr := match (pc : Int) + off with
  | .ofNat t => if c = true then some (t, (lv, r)) else some (pc + 3, (lv, r))
  | .negSucc _ => none
theorem aIf_eq {c : Bool} {pc : Nat} {off : Int} {lv : ALv} {r : List Value} {z : AFr} (h : aIf c pc off lv r = some z) : ∃ t : Nat, (pc : Int) + off = (t : Int) ∧ z = if c = true then (t, (lv, r)) else (pc + 3, (lv, r)) := by
  unfold aIf at h
  generalize (pc : Int) + off = q at h ⊢
  cases q with
  | ofNat t =>
    have h : (if c = true then some (t, (lv, r)) else some (pc + 3, (lv, r))) = some z := h
    refine ⟨t, rfl, ?_⟩
    by_cases hc : c = true
    · rw [if_pos hc] at h ⊢
      exact (Option.some.inj h).symm
    · rw [if_neg hc] at h ⊢
      exact (Option.some.inj h).symm
  | negSucc t => cases h
def aSA (st : List Value) (k : Nat → Nat → List Value → Option AFr) : Option AFr := match st with
  | .ref y :: .ref x :: r => k x y r
  | _ => none
theorem aSA_eq {st : List Value} {k : Nat → Nat → List Value → Option AFr} {z : AFr} (h : aSA st k = some z) : ∃ x y r, st = .ref y :: .ref x :: r ∧ k x y r = some z := by
  unfold aSA at h; split at h
  · exact ⟨_, _, _, rfl, h⟩
  · cases h
/-- an instruction that touches frames alone -/
def aOp (nL : Nat) (ins : Instr) (pc : Nat) (lv : ALv) (st : List Value) : Option AFr := match ins with
  | .iconst n => aS0 1 pc lv st (.int (Int32.ofInt n))
  | .bipush n => aS0 2 pc lv st (.int (Int8.ofInt n).toInt32)
  | .sipush n => aS0 3 pc lv st (.int (Int16.ofInt n).toInt32)
  | .lconst n => aS0 1 pc lv st (.long (Int64.ofNat (n : Nat)))
  | .iload_n k => aLdI lv k 1 pc st
  | .iload k => aLdI lv k 2 pc st
  | .lload_n k => aLdL lv k 1 pc st
  | .lload k => aLdL lv k 2 pc st
  | .aload_n k => aLdA lv k 1 pc st
  | .aload k => aLdA lv k 2 pc st
  | .istore_n k => aStI nL lv k 1 pc st
  | .istore k => aStI nL lv k 2 pc st
  | .lstore_n k => aStL nL lv k 1 pc st
  | .lstore k => aStL nL lv k 2 pc st
  | .astore_n k => aStA nL lv k 1 pc st
  | .astore k => aStA nL lv k 2 pc st
  | .iinc k d => aInc nL lv k d pc st
  | .iadd => aS2 st fun x y r => aS0 1 pc lv r (.int (x + y))
  | .isub => aS2 st fun x y r => aS0 1 pc lv r (.int (x - y))
  | .imul => aS2 st fun x y r => aS0 1 pc lv r (.int (x * y))
  | .iand => aS2 st fun x y r => aS0 1 pc lv r (.int (x &&& y))
  | .ior => aS2 st fun x y r => aS0 1 pc lv r (.int (x ||| y))
  | .ixor => aS2 st fun x y r => aS0 1 pc lv r (.int (x ^^^ y))
  | .idiv => aS2 st fun x y r => if y = 0 then none else aS0 1 pc lv r (.int (x / y))
  | .irem => aS2 st fun x y r => if y = 0 then none else aS0 1 pc lv r (.int (x - x / y * y))
  | .ineg => aS1 st fun x r => aS0 1 pc lv r (.int (-x))
  | .ishl => aS2 st fun x y r => aS0 1 pc lv r (.int (x <<< (y &&& 31)))
  | .ishr => aS2 st fun x y r => aS0 1 pc lv r (.int (x >>> (y &&& 31)))
  | .iushr => aS2 st fun x y r => aS0 1 pc lv r (.int ((x.toUInt32 >>> (y.toUInt32 &&& Int32.toUInt32 31)).toInt32))
  | .ladd => aS2L st fun x y r => aS0 1 pc lv r (.long (x + y))
  | .lsub => aS2L st fun x y r => aS0 1 pc lv r (.long (x - y))
  | .lmul => aS2L st fun x y r => aS0 1 pc lv r (.long (x * y))
  | .land => aS2L st fun x y r => aS0 1 pc lv r (.long (x &&& y))
  | .lor => aS2L st fun x y r => aS0 1 pc lv r (.long (x ||| y))
  | .lrem => aS2L st fun x y r => if y = 0 then none else aS0 1 pc lv r (.long (x - x / y * y))
  | .lshl => aSLI st fun x y r => aS0 1 pc lv r (.long (x <<< (y.toInt64 &&& 63)))
  | .lshr => aSLI st fun x y r => aS0 1 pc lv r (.long (x >>> (y.toInt64 &&& 63)))
  | .i2l => aS1 st fun x r => aS0 1 pc lv r (.long x.toInt64)
  | .l2i => aS1L st fun x r => aS0 1 pc lv r (.int x.toInt32)
  | .lcmp => aS2L st fun x y r => aS0 1 pc lv r (.int (lg_cmp x y))
  | .dup => aDup pc lv st
  | .pop => aPop pc lv st
  | .dup2 => aDup2 pc lv st
  | .ifCond .eq off => aS1 st fun x r => aIf (decide (x = 0)) pc off lv r
  | .ifCond .ne off => aS1 st fun x r => aIf (decide (¬ x = 0)) pc off lv r
  | .ifCond .lt off => aS1 st fun x r => aIf (decide (x < 0)) pc off lv r
  | .ifCond .ge off => aS1 st fun x r => aIf (decide (0 ≤ x)) pc off lv r
  | .ifCond .gt off => aS1 st fun x r => aIf (decide (0 < x)) pc off lv r
  | .ifCond .le off => aS1 st fun x r => aIf (decide (x ≤ 0)) pc off lv r
  | .if_icmp .eq off => aS2 st fun x y r => aIf (decide (x = y)) pc off lv r
  | .if_icmp .ne off => aS2 st fun x y r => aIf (decide (¬ x = y)) pc off lv r
  | .if_icmp .lt off => aS2 st fun x y r => aIf (decide (x < y)) pc off lv r
  | .if_icmp .ge off => aS2 st fun x y r => aIf (decide (y ≤ x)) pc off lv r
  | .if_icmp .gt off => aS2 st fun x y r => aIf (decide (y < x)) pc off lv r
  | .if_icmp .le off => aS2 st fun x y r => aIf (decide (x ≤ y)) pc off lv r
  | .if_acmp .eq off => aSA st fun x y r => aIf (decide (x = y)) pc off lv r
  | .if_acmp .ne off => aSA st fun x y r => aIf (decide (¬ x = y)) pc off lv r
  | .goto off => aJump pc off lv st
  | .tableswitch dflt lo hi offs => aS1 st fun x r => aTab dflt lo hi offs pc lv x r
  | _ => none
