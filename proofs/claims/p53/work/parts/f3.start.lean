/-! p53: the law's start -/
theorem no_tr (l : Launch) (h : l.flags = flags0) : l.stackTraces = false := by
  unfold Launch.stackTraces
  rw [h]
  decide
section AWN
variable {p : Program} {l : Launch} {e : Env} {R : Room} {s : State} {m : MethodId} {args : Array Value} {below : List Frame} {meth : Method} {c : Code} {D : AG} {A : Nat → Prop} {Q : State → Prop} {yh z : AMeth} {S S2 : ASt} {M : AMem} {lv : ALv} {st : List Value} {pc idx ci N zq cn sn q d1 mj : Nat} {C : String} {T : u_T}
theorem aw_new (hT : okT yh) (X0 : aCx p s m args c D A RL yh.2.1) (hq : aFind (aPs yh) pc = some (.new idx, 3)) (hc : vwCl[ci]? = some (C, T, N)) (hw : ∀ w ∈ [Cond.classLink RL idx C, Cond.instantiable C N, Cond.initialized C], w ∈ aTB) (hRc : cn + 1 ≤ R.cells ∧ sn + N ≤ R.slots) (k : aW p l e R s m args below meth c D A Q (pc + 3, (lv, .ref zq :: st)) (aMw M zq (ci, (N, dfl ci)), (some (zq + 1), (cn + 1, sn + N)))) : aW p l e R s m args below meth c D A Q (pc, (lv, st)) (M, (some zq, (cn, sn))) := by
  intro H locs ls hR hl
  have hd := (hT.at hq).1
  obtain ⟨hx, hb, hown, hts, hKn, hKF, hA⟩ := X0
  obtain ⟨hH, hI, hS, hz⟩ := hR
  have hsz := hz zq rfl
  obtain ⟨g1, g2, g3, g4⟩ := aCl ci C T N hc
  have hKc := hKn.1 ci _ hc
  refine W.newcK (n := N) (C := C) hx hb hown (hts _ (hw _ (by simp))) (hts _ (hw _ (by simp))) (hts _ (hw _ (by simp))) rfl hd hRc.1 hRc.2 hKc.2.1 hsz fun H1 kC hkC e1 z1 o1 => ?_
  refine k H1 locs ls ⟨?_, ?_, ⟨by rw [z1, ← hsz]; exact Nat.le_trans hS.1 (Nat.le_succ _), fun q h1 h2 => (o1 q (by rw [← hsz]; exact Nat.lt_of_lt_of_le h1 hS.1)).trans (hS.2.1 q h1 h2), hS.2.2⟩, fun n hn => by cases hn; exact z1⟩ hl
  · intro a f' hf
    by_cases ha : a = zq
    · subst ha
      simp only [aMw, if_true] at hf
      cases hf
      exact Or.inl ⟨g4, _, hc, u_born (aTyF ci) hts g1 hKc hkC e1 g2⟩
    · simp only [aMw, if_neg ha] at hf
      have hat := hH a f' hf
      exact hat.kept (o1 a (by rw [← hsz]; exact hat.lt))
  · exact hI.put (hA zq (by rw [← hsz]; exact hS.1))
theorem aw_init (hT : okT yh) (X0 : aCx p s m args c D A RL yh.2.1) (hz : aMS[mj]? = some z) (hq : aFind (aPs yh) pc = some (.invokespecial idx, 3)) (hw : ∀ w ∈ [Cond.methodLink RL idx z.1, Cond.instanceMethod z.1], w ∈ aTB) (hnm : z.1.name = "<init>") (hrt : aRt z = none) (hpar : (parseMethodDescriptor z.1.desc).map (fun d => d.parameters.length) = some 0) (hnl : 1 ≤ aNl z) (hcat : (st.map fun v => v.category).sum ≤ 8) (hrm : 8 + (d1 + 1) ≤ R.frames ∧ 200 + 40 * (d1 + 1) ≤ R.locals) (hRc : S2.2.2.1 ≤ R.cells ∧ S2.2.2.2 ≤ R.slots)
    (hst : aStm l D.2.2 d1 z (0, ([(0, .ref q)], [])) S (.inl none) S2) (k : aW p l e R s m args below meth c D A Q (pc + 3, (lv, st)) S2) : aW p l e R s m args below meth c D A Q (pc, (lv, .ref q :: st)) S := by
  have hgz : aMGood z := aMSg z (List.mem_of_getElem? hz)
  have hM : aMet l D.2.2 d1 z.1 z.2.1 (aNl z) none (.ref q :: []) S (.inl none) S2 := fun D' sz hk => by
    have := aStm.met (argv := [.ref q]) hgz hnl hst D' sz hk
    rw [hrt] at this
    exact this
  obtain ⟨-, z2, z3, z4, z5, z6, -⟩ := hgz
  rw [show z.2.2.2.1 = none from hrt] at z2
  have hC : aCOk RL idx z.1 z.2.1 (aNl z) none 0 := ⟨z2, z3, z4, z5, hpar⟩
  obtain ⟨c1, c2⟩ := hst.1
  exact aw_call (S1 := S2) (r := .inl none) (rest := st) X0.2.2.2.2.2.2 hst.1 (fun H locs ls hR hl => x_runI (As := []) (rest := st) X0 hR hl.1 hM hC (hw _ (by simp)) (hw _ (by simp)) hnm rfl hcat (hT.at hq).1 hrm ⟨by omega, by omega⟩) (fun v hv => by cases hv; exact k) (fun E q ce H1 locs1 ls hE => by cases hE)
end AWN
section AWV
variable {p : Program} {l : Launch} {e : Env} {R : Room} {s : State} {m : MethodId} {args : Array Value} {below : List Frame} {meth : Method} {c : Code} {D : AG} {A : Nat → Prop} {Q : State → Prop} {f : AFr} {M M' : AMem} {t : Option Nat × (Nat × Nat)}
theorem aw_conv (h : ∀ H : Heap, aHas D M H → aHas D M' H) (hd : ∀ q e, M' q = some e → ∃ e', M q = some e') (k : aW p l e R s m args below meth c D A Q f (M', t)) : aW p l e R s m args below meth c D A Q f (M, t) := fun H locs ls hR hl => k H locs ls ⟨h H hR.1, fun a e ha => by
  obtain ⟨e', he'⟩ := hd a e ha
  exact hR.2.1 a e' he', hR.2.2.1, hR.2.2.2⟩ hl
end AWV
theorem w9 : ∀ w ∈ [Cond.classLink RL 9 RX12, Cond.instantiable RX12 13, Cond.initialized RX12], w ∈ aTB := aTB_all (by decide +kernel)
theorem w187 : ∀ w ∈ [Cond.methodLink RL 187 aM123.1, Cond.instanceMethod aM123.1], w ∈ aTB := aTB_all (by decide +kernel)
set_option maxRecDepth 20000 in
theorem whole_start {p : Program} {e : Env} {s : State} {m : MethodId} {below : List Frame} {meth : Method} {c : Code} (l : Launch) (hflags : l.flags = flags0) {b L : Nat} {xs : Nat → Int32} (hL : L ≤ 260) (C0 : lw_At p s m meth c b L xs) : W p l e room_1 s m #[Value.ref b] below meth c s.heap [] 0 0 (lw_Z below #[Value.ref b] s) (entryFrame m ([Value.ref b] : List Value).toArray 7) := by
  obtain ⟨hx, hb, hr, hml, hown, hts, hX, hbl, hlocks, hgv⟩ := id C0
  have hl0 := no_tr l hflags
  obtain ⟨D, hKn, hKF, hinj, h9⟩ := given_all hts hgv
  have X0 : aCx p s m #[.ref b] c D (fun q => s.heap.size ≤ q) RL yHd.2.1 := ⟨hx, hb, hown, fun w hw => hts w (aTB_tbl hw), hKn, hKF, fun _ h => h⟩
  have hml' : c.maxLocals = aNl yHd := hml
  have hE := zz_E (kad := D.2.2) (g := s.heap.size) (N := 2000) hinj h9 (Nat.le_refl _)
  have C : lwC l p room_1 s m #[.ref b] c D (fun q => s.heap.size ≤ q) (zz D.2.2 s.heap.size) s.heap.size (s.heap.size + 1997) b L xs := ⟨hl0, X0, hml, ⟨Nat.le_of_ble_eq_true rfl, Nat.le_of_ble_eq_true rfl⟩, ⟨hE, hE.1.2.1, hE.2.1.2.1⟩, hX, hbl, Nat.not_le.mpr hbl, hL⟩
  have hR0 : R2 D.2.2 2000 (zz D.2.2 s.heap.size) s.heap.size (s.heap.size + 1997) A0 A0 (xx D.2.2 s.heap.size) := ⟨hE, CI_0 (kad := D.2.2) (fun q h1 h2 => funext fun k => if_pos h2), CI_0 (kad := D.2.2) (fun q h1 h2 => funext fun k => if_neg (by omega))⟩
  have hW0 : wBd (4100 * 0) A0 := ⟨0, Nat.le_refl _, rfl⟩
  have hend : ∀ X J (t : Option Nat × (Nat × Nat)), okA X → wBd 330000 X → R2 D.2.2 2000 (zz D.2.2 s.heap.size) s.heap.size (s.heap.size + 1997) X X J → t.2.1 ≤ 220000 → t.2.2 ≤ 1400000 → aW p l e room_1 s m #[.ref b] below meth c D (fun q => s.heap.size ≤ q) (lw_Z below #[Value.ref b] s) (252, (lvK 80 b s.heap.size (s.heap.size + 1997), [])) (aMem (zz D.2.2 s.heap.size) J, t) := by
    intro X J t h hW hR hc hn
    refine aw_ops okHd X0 hml' 1 _ (f1 := (253, (lvK 80 b s.heap.size (s.heap.size + 1997), [.int 1]))) rfl ?_
    refine aw_br (st1 := []) (bb := decide ((1 : Int32) = 0)) (off := 23) (tg := 276) okHd X0 hml' rfl rfl rfl (fun h => absurd h (by decide)) (fun _ => ?_)
    refine aw_ops okHd X0 hml' 2 _ (f1 := (258, (lvK 80 b s.heap.size (s.heap.size + 1997), [.ref (s.heap.size + 1997), .ref s.heap.size]))) rfl ?_
    refine aw_ali C h hR hc hn ⟨Nat.le_of_ble_eq_true rfl, Nat.le_of_ble_eq_true rfl⟩ rfl (fun J1 t1 R1 c1 n1 => ?_)
    refine aw_br (st1 := []) (bb := decide ((1 : Int32) = 0)) (off := 15) (tg := 276) okHd X0 hml' rfl rfl rfl (fun h => absurd h (by decide)) (fun _ => ?_)
    refine aw_ops okHd X0 hml' 2 _ (f1 := (266, (lvK 80 b s.heap.size (s.heap.size + 1997), [.int 0, .ref s.heap.size]))) rfl ?_
    refine aw_mac C h hW (by decide) R1 c1 n1 ⟨Nat.le_of_ble_eq_true rfl, Nat.le_of_ble_eq_true rfl⟩ rfl (fun J2 t2 R2' c2 n2 => ?_)
    refine aw_br (st1 := []) (bb := decide ((1 : Int32) = 0)) (off := 7) (tg := 276) okHd X0 hml' rfl rfl rfl (fun h => absurd h (by decide)) (fun _ => ?_)
    refine aw_ops okHd X0 hml' 2 _ (f1 := (277, (lvK 80 b s.heap.size (s.heap.size + 1997), [.int 1]))) rfl ?_
    intro H locs ls hR hl
    exact va_forget hR.2.2.1.2.2 (W.widen (k := 600086) (n := 7301442) (Nat.le_trans c2 (Nat.le_of_ble_eq_true rfl)) (Nat.le_trans n2 (Nat.le_of_ble_eq_true rfl)) (lw_ret hx hb hr hlocks (okHd.at (pc := 277) (ins := .ireturn) (len := 1) rfl).1))
  have hW : aW p l e room_1 s m #[.ref b] below meth c D (fun q => s.heap.size ≤ q) (lw_Z below #[Value.ref b] s) (0, ([(0, .ref b)], [])) (fun _ => none, (some s.heap.size, (0, 0))) := by
    refine aw_new (ci := 10) (C := RX12) (T := TX12) (N := 13) (idx := 9) okHd X0 rfl rfl w9 ⟨Nat.le_of_ble_eq_true rfl, Nat.le_of_ble_eq_true rfl⟩ ?_
    refine aw_ops okHd X0 hml' 1 _ (f1 := (4, ([(0, .ref b)], [.ref s.heap.size, .ref s.heap.size]))) rfl ?_
    rw [bM_one]
    refine aw_init (d1 := 40) (mj := 123) (z := aM123) (idx := 187) (S2 := cSt (fun _ => none) s.heap.size (Lc10 D.2.2 s.heap.size) 1997 21106) okHd X0 aMi123 rfl w187 rfl rfl (by decide +kernel) (by decide) (Nat.le_of_ble_eq_true rfl) ⟨Nat.le_of_ble_eq_true rfl, Nat.le_of_ble_eq_true rfl⟩ ⟨Nat.le_of_ble_eq_true rfl, Nat.le_of_ble_eq_true rfl⟩ (Lc10_ok (by decide) _ _ 1 13) ?_
    refine aw_ops okHd X0 hml' 1 _ (f1 := (8, ([(1, .ref s.heap.size), (0, .ref b)], []))) rfl ?_
    have e1 : cSt (fun _ => none) s.heap.size (Lc10 D.2.2 s.heap.size) 1997 21106 = (bM (fun _ => none) s.heap.size (Lc10 D.2.2 s.heap.size), (some (s.heap.size + 1997), (1997, 21106))) := by
      unfold cSt
      rw [Lc10_len]
    rw [e1]
    refine aw_new (ci := 10) (C := RX12) (T := TX12) (N := 13) (idx := 9) okHd X0 rfl rfl w9 ⟨Nat.le_of_ble_eq_true rfl, Nat.le_of_ble_eq_true rfl⟩ ?_
    refine aw_ops okHd X0 hml' 1 _ (f1 := (12, ([(1, .ref s.heap.size), (0, .ref b)], [.ref (s.heap.size + 1997), .ref (s.heap.size + 1997)]))) rfl ?_
    rw [bM_one]
    refine aw_init (d1 := 40) (mj := 123) (z := aM123) (idx := 187) (S2 := cSt (bM (fun _ => none) s.heap.size (Lc10 D.2.2 s.heap.size)) (s.heap.size + 1997) (Lc10 D.2.2 (s.heap.size + 1997)) 3994 42212) okHd X0 aMi123 rfl w187 rfl rfl (by decide +kernel) (by decide) (Nat.le_of_ble_eq_true rfl) ⟨Nat.le_of_ble_eq_true rfl, Nat.le_of_ble_eq_true rfl⟩ ⟨Nat.le_of_ble_eq_true rfl, Nat.le_of_ble_eq_true rfl⟩ (Lc10_ok (by decide) _ _ 1998 21119) ?_
    refine aw_conv (M' := aMem (zz D.2.2 s.heap.size) (xx D.2.2 s.heap.size)) (fun H h => zz_conv h) (fun q e he => zz_dom he) ?_
    refine aw_ops okHd X0 hml' 5 _ (f1 := (21, (lvK 0 b s.heap.size (s.heap.size + 1997), []))) rfl ?_
    exact law_loop C ⟨Nat.le_of_ble_eq_true rfl, Nat.le_of_ble_eq_true rfl⟩ hend 80 0 A0 (xx D.2.2 s.heap.size) _ rfl A0_ok hW0 hR0 (Nat.le_of_ble_eq_true rfl) (Nat.le_of_ble_eq_true rfl)
  have hl := lv_entry [.ref b] (n := 7) (Nat.le_of_ble_eq_true rfl)
  rw [lg_entry_eq]
  exact hW s.heap [] _ ⟨fun a f hf => (by cases hf), fun a f hf => (by cases hf), va_S.rf, fun n hn => (by cases hn; rfl)⟩ (by rw [hml]; exact hl)
