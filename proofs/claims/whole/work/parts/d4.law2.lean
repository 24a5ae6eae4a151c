/-! a cell beside the others; a contract out of a run; frames of the law, step by step -/
section FRM
variable {l : Launch} {kad : Nat → Nat} {d o n : Nat} {y : MethodName} {cb : ByteArray} {nl : Nat} {rt : Option FieldType} {argv : List Value} {S S1 : ASt} {r : ARes} {w : Int64}
theorem wo_o {M : AMem} : wo M o w o = some (102, (1, fun _ => .long w)) := by simp only [wo, aMw, if_true]
theorem wo_ne {M : AMem} {q : Nat} (h : ¬ q = o) : wo M o w q = M q := by simp only [wo, aMw, if_neg h]
theorem aMet.fr (h : aMet l kad d y cb nl rt argv S r S1) (h0 : S.1 o = none) : aMet l kad d y cb nl rt argv (wo S.1 o w, S.2) r (wo S1.1 o w, S1.2) := by
  intro D sz hkad p e ha hc hk s m args below hf happ hP hK
  obtain ⟨h1, hsz, ⟨hH, hz⟩, hKn, hKF⟩ := hP
  have hsub : ∀ q, aA S.1 sz q → aA (wo S.1 o w) sz q := fun q hq => by
    rcases hq with ⟨e, he⟩ | hq
    · exact Or.inl ⟨e, by rw [wo_ne (fun hh => by subst hh; rw [h0] at he; cases he)]; exact he⟩
    · exact Or.inr hq
  have hoA := hH o _ wo_o
  have hlt : o < s.heap.size := hoA.lt
  have hno : ¬ aA S.1 sz o := fun hq => by
    rcases hq with ⟨e, he⟩ | hq
    · rw [h0] at he; cases he
    · omega
  have hP' : aPc D S sz argv args s := ⟨h1, hsz, ⟨fun a e he => hH a e (by show wo S.1 o w a = some e; rw [wo_ne (fun hh => by subst hh; rw [h0] at he; cases he)]; exact he), hz⟩, hKn, hKF.narrow hsub⟩
  obtain ⟨k, oc, g1, g2, g3, g4⟩ := h D sz hkad p e ha hc hk s m args below hf happ hP' hK
  refine ⟨k, oc, g1, g2, g3, ?_⟩
  have hB : ∀ t : State, aB D S S1 sz t → va_F (aA S.1 sz) s t → aB D (wo S.1 o w, S.2) (wo S1.1 o w, S1.2) sz t ∧ va_F (aA (wo S.1 o w) sz) s t := fun t hB hF => by
    refine ⟨⟨fun a e he => ?_, hB.2.1, fun a e he => ?_⟩, hF.1, fun q q1 q2 => hF.2 q q1 (fun hq => q2 (hsub q hq))⟩
    · by_cases hao : a = o
      · subst hao
        rw [show (wo S1.1 a w, S1.2).1 a = _ from wo_o] at he
        cases he
        exact hoA.kept (hF.2 a hlt hno)
      · rw [show (wo S1.1 o w, S1.2).1 a = S1.1 a from wo_ne hao] at he
        exact hB.1 a e he
    · by_cases hao : a = o
      · subst hao
        exact Or.inl ⟨_, wo_o⟩
      · rw [show (wo S1.1 o w, S1.2).1 a = S1.1 a from wo_ne hao] at he
        exact hsub a (hB.2.2 a e he)
  rcases g4 with ⟨⟨g5, g6, g7⟩, L, g8, g9⟩ | ⟨q, g5, E, ce, L, ⟨g6, g7, g8⟩, g9, g10, g11, g12, g13, g14⟩
  · obtain ⟨b1, b2⟩ := hB _ g6 g7
    exact Or.inl ⟨⟨g5, b1, b2⟩, L, g8, fun q hq => hsub _ (g9 q hq)⟩
  · obtain ⟨b1, b2⟩ := hB _ g7 g8
    exact Or.inr ⟨q, g5, E, ce, L, ⟨g6, b1, b2⟩, g9, g10, g11, g12, g13, fun q hq => hsub _ (g14 q hq)⟩
/-- a contract, out of a run -/
theorem met_go {y : AMeth} {Q : ARes → ASt → Prop} (hl0 : l.stackTraces = false) (hy : aMS[n]? = some y) (hsl : (lg_sl argv).length ≤ aNl y) (h : aGo kad d n (0, (lv_args 0 argv, [])) S Q) : ∃ r S1, Q r S1 ∧ (S.2.2.1 ≤ S1.2.2.1 ∧ S.2.2.2 ≤ S1.2.2.2) ∧ aMet l kad d y.1 y.2.1 (aNl y) (aRt y) argv S r S1 := by
  obtain ⟨k, r, S1, h1, h2⟩ := h
  have hst := aRun_ok l hl0 kad k d n _ _ S1 r y hy h1
  exact ⟨r, S1, h2, hst.1, fun D sz hk => aStm.met (aMSg y (List.mem_of_getElem? hy)) hsl hst D sz hk⟩
end FRM
section AWR
variable {p : Program} {l : Launch} {e : Env} {R : Room} {s : State} {m : MethodId} {args : Array Value} {below : List Frame} {meth : Method} {c : Code} {D : AG} {A : Nat → Prop} {Q : State → Prop} {own : String} {f f1 : AFr} {S S1 : ASt} {r : ARes} {rest As st : List Value} {y yh : AMeth} {n idx d pc : Nat} {lv : ALv} {M : AMem} {o : Nat} {w x : Int64} {t : Option Nat × (Nat × Nat)}
/-- a table of instructions is right -/
def okT (y : AMeth) : Prop := ∀ q ∈ aPs y, decode y.2.1 q.1 = .ok q.2 ∧ (aLen q.2.1 = 0 ∨ q.2.2 = aLen q.2.1)
theorem okT_of (h : (aPs y).all (fun q => decide (decode y.2.1 q.1 = .ok q.2 ∧ (aLen q.2.1 = 0 ∨ q.2.2 = aLen q.2.1))) = true) : okT y := fun q hq => of_decide_eq_true (List.all_eq_true.mp h q hq)
theorem okT.at (h : okT y) {ins : Instr} {len : Nat} (hq : aFind (aPs y) pc = some (ins, len)) : decode y.2.1 pc = .ok (ins, len) ∧ (aLen ins = 0 ∨ len = aLen ins) := h (pc, (ins, len)) (aFind_mem hq)
theorem aw_ops (hT : okT yh) (X0 : aCx p s m args c D A own yh.2.1) (hml : c.maxLocals = aNl yh) : ∀ (k : Nat) (f : AFr), aOpsN yh k f = some f1 → aW p l e R s m args below meth c D A Q f1 S → aW p l e R s m args below meth c D A Q f S := by
  intro k
  induction k with
  | zero => intro f h g; cases h; exact g
  | succ k ih =>
    intro f h g
    unfold aOpsN at h
    split at h
    · cases h
    · rename_i q hq
      split at h
      · cases h
      · split at h
        · cases h
        · rename_i f2 ho
          obtain ⟨hd, hn⟩ := hT.at (ins := q.1) (len := q.2) hq
          have g2 := ih f2 h g
          intro H locs ls hR hl
          exact ao_all (S := S) X0.1 X0.2.1 hd hn hl (by rw [hml]; exact ho) (fun ls1 hl1 => g2 H locs ls1 hR hl1)
/-- a call, by its run -/
theorem aw_call (hA : ∀ q : Nat, s.heap.size ≤ q → A q) (hcnt : S.2.2.1 ≤ S1.2.2.1 ∧ S.2.2.2 ≤ S1.2.2.2) {a0 : Array Value}
    (hr : ∀ (H : Heap) (locs : List Loc) (ls : Array Slot), aR D A s.heap S H locs → lv_has ls c.maxLocals lv → vx_Run p l e R s m args below meth c H locs S.2.2.1 S.2.2.2 (S1.2.2.1 - S.2.2.1) (S1.2.2.2 - S.2.2.2) (F0 m pc ls st) rest (aQc D S S1 H.size r a0) (aXC D S S1 H.size r) (aA S.1 H.size))
    (kn : ∀ v, r = .inl v → aW p l e R s m args below meth c D A Q (pc + 3, (lv, v.toList ++ rest)) S1)
    (kx : ∀ (E : String) (q : Addr) (ce : Cell) (H1 : Heap) (locs1 : List Loc) (ls : Array Slot), r = .inr E → aR D A s.heap S1 H1 locs1 → lv_has ls c.maxLocals lv → H1[q]? = some ce → ce.vm = .none → s.vm.findClass E = some ce.cls → vx_W p l e R s m args below meth c H1 locs1 S1.2.2.1 S1.2.2.2 Q (F0 m pc ls rest) q) : aW p l e R s m args below meth c D A Q (pc, (lv, st)) S := by
  intro H locs ls hR hl
  have w1 : S.2.2.1 + (S1.2.2.1 - S.2.2.1) = S1.2.2.1 := by omega
  have w2 : S.2.2.2 + (S1.2.2.2 - S.2.2.2) = S1.2.2.2 := by omega
  exact a_callW hA hR (hr H locs ls hR hl) (fun v hv H1 locs1 h1 => W.cs2 w1 w2 (kn v hv H1 locs1 ls h1 hl)) (fun E q ce H1 locs1 hE h1 h2 h3 h4 => vx_W.cs2 w1 w2 (kx E q ce H1 locs1 ls hE h1 hl h2 h3 h4))
theorem aw_lald (hT : okT yh) (X0 : aCx p s m args c D A own yh.2.1) (hq : aFind (aPs yh) pc = some (.laload, 1)) (k : aW p l e R s m args below meth c D A Q (pc + 1, (lv, .long w :: st)) (wo M o w, t)) : aW p l e R s m args below meth c D A Q (pc, (lv, .int 0 :: .ref o :: st)) (wo M o w, t) := by
  intro H locs ls hR hl
  obtain ⟨hx, hb, hown, hts, hKn, hKF, hA⟩ := X0
  refine am_ald (i := 0) (a := o) (f := (102, (1, fun _ => .long w))) hx hb hKn (hR.1 o _ wo_o) (show ¬ ((0 : Int32) < 0 ∨ 1 ≤ (0 : Int32).toNatClampNeg) by decide) (Or.inr (Or.inr (Or.inl ⟨rfl, rfl⟩))) (hT.at hq).1 (k H locs ls hR hl)
theorem aw_last (hT : okT yh) (X0 : aCx p s m args c D A own yh.2.1) (hq : aFind (aPs yh) pc = some (.lastore, 1)) (k : aW p l e R s m args below meth c D A Q (pc + 1, (lv, st)) (wo M o x, t)) : aW p l e R s m args below meth c D A Q (pc, (lv, .long x :: .int 0 :: .ref o :: st)) (wo M o w, t) := by
  intro H locs ls hR hl
  obtain ⟨hx, hb, hown, hts, hKn, hKF, hA⟩ := X0
  obtain ⟨hH, hI, hS, hz⟩ := hR
  have hat := hH o _ wo_o
  obtain ⟨hc, -⟩ := hat.arr (show 100 ≤ 102 by decide)
  refine W.last hx hb hc ((hKn.2 2 .long rfl).1 _ _) (fun q => by cases q) (show ¬ ((0 : Int32) < 0 ∨ (arrV (D.2.1 (102 - 100)) 1 fun _ => Value.long w).slots.size ≤ (0 : Int32).toNatClampNeg) by rw [arrV_size]; decide) rfl rfl (hT.at hq).1 fun H1 e1 z1 o1 => ?_
  have hM : wo M o x = aMw (wo M o w) o (102, (1, fun _ => .long x)) := by
    funext q
    by_cases hq : q = o
    · subst hq
      simp only [wo, aMw, if_true]
    · simp only [wo, aMw, if_neg hq]
  refine k H1 _ ls ⟨?_, ?_, hS.put z1 o1 (hI o _ wo_o), fun n hn => by rw [z1]; exact hz n hn⟩ hl
  · show aHas D (wo M o x) H1
    rw [hM]
    refine hH.put (Or.inr ⟨show 100 ≤ 102 by decide, ?_, fun h => absurd h (show ¬ (102 : Nat) = 100 by decide)⟩) o1
    rw [e1, arrV_store]
    refine congrArg some ?_
    show arrV _ 1 _ = arrV _ 1 _
    unfold arrV
    congr 1
  · show aInn A (wo M o x)
    rw [hM]
    exact hI.put (hI o _ wo_o)
end AWR
