/-! the law's start -/
theorem no_tr (l : Launch) (h : l.flags = flags0) : l.stackTraces = false := by
  unfold Launch.stackTraces
  rw [h]
  decide
section AWN
variable {p : Program} {l : Launch} {e : Env} {R : Room} {s : State} {m : MethodId} {args : Array Value} {below : List Frame} {meth : Method} {c : Code} {D : AG} {A : Nat → Prop} {Q : State → Prop} {yh z : AMeth} {S S2 : ASt} {M : AMem} {lv : ALv} {st : List Value} {pc idx ci N zq cn sn q d1 mj : Nat} {C : String} {T : u_T}
theorem aw_new (hT : okT yh) (X0 : aCx p s m args c D A RL yh.2.1) (hq : aFind (aPs yh) pc = some (.new idx, 3)) (hc : vwCl[ci]? = some (C, T, N)) (hw : ∀ w ∈ [Cond.classLink RL idx C, Cond.instantiable C N, Cond.initialized C], w ∈ aTB) (hRc : cn + 1 ≤ R.cells ∧ sn + N ≤ R.slots) (k : aW p l e R s m args below meth c D A Q (pc + 3, (lv, .ref zq :: st)) (aMw M zq (ci, (N, dfl ci)), (some (zq + 1), (cn + 1, sn + N)))) : aW p l e R s m args below meth c D A Q (pc, (lv, st)) (M, (some zq, (cn, sn))) := by
  intro H locs ls hR hl
  have hd := (hT.at hq).1
  obtain ⟨hx, hb, hown, hts, hKn, hKF, hA⟩ := X0
  obtain ⟨hH, hI, hS, hz⟩ := hR
  have hsz := hz zq rfl
  obtain ⟨g1, g2, g3, g4⟩ := aCl ci C T N hc
  have hKc := hKn.1 ci _ hc
  refine W.newcK (n := N) (C := C) hx hb hown (hts _ (hw _ (by simp))) (hts _ (hw _ (by simp))) (hts _ (hw _ (by simp))) rfl hd hRc.1 hRc.2 hKc.2.1 hsz fun H1 kC hkC e1 z1 o1 => ?_
  refine k H1 locs ls ⟨?_, ?_, ⟨by rw [z1, ← hsz]; exact Nat.le_trans hS.1 (Nat.le_succ _), fun q h1 h2 => (o1 q (by rw [← hsz]; exact Nat.lt_of_lt_of_le h1 hS.1)).trans (hS.2.1 q h1 h2), hS.2.2⟩, fun n hn => by cases hn; exact z1⟩ hl
  · intro a f' hf
    by_cases ha : a = zq
    · subst ha
      simp only [aMw, if_true] at hf
      cases hf
      exact Or.inl ⟨g4, _, hc, u_born (aTyF ci) hts g1 hKc hkC e1 g2⟩
    · simp only [aMw, if_neg ha] at hf
      have hat := hH a f' hf
      exact hat.kept (o1 a (by rw [← hsz]; exact hat.lt))
  · exact hI.put (hA zq (by rw [← hsz]; exact hS.1))
theorem aw_init (hT : okT yh) (X0 : aCx p s m args c D A RL yh.2.1) (hz : aMS[mj]? = some z) (hq : aFind (aPs yh) pc = some (.invokespecial idx, 3)) (hw : ∀ w ∈ [Cond.methodLink RL idx z.1, Cond.instanceMethod z.1], w ∈ aTB) (hnm : z.1.name = "<init>") (hrt : aRt z = none) (hpar : (parseMethodDescriptor z.1.desc).map (fun d => d.parameters.length) = some 0) (hnl : 1 ≤ aNl z) (hcat : (st.map fun v => v.category).sum ≤ 8) (hrm : 8 + (d1 + 1) ≤ R.frames ∧ 200 + 40 * (d1 + 1) ≤ R.locals) (hRc : S2.2.2.1 ≤ R.cells ∧ S2.2.2.2 ≤ R.slots)
    (hst : aStm l D.2.2 d1 z (0, ([(0, .ref q)], [])) S (.inl none) S2) (k : aW p l e R s m args below meth c D A Q (pc + 3, (lv, st)) S2) : aW p l e R s m args below meth c D A Q (pc, (lv, .ref q :: st)) S := by
  have hgz : aMGood z := aMSg z (List.mem_of_getElem? hz)
  have hM : aMet l D.2.2 d1 z.1 z.2.1 (aNl z) none (.ref q :: []) S (.inl none) S2 := fun D' sz hk => by
    have := aStm.met (argv := [.ref q]) hgz hnl hst D' sz hk
    rw [hrt] at this
    exact this
  obtain ⟨-, z2, z3, z4, z5, z6, -⟩ := hgz
  rw [show z.2.2.2.1 = none from hrt] at z2
  have hC : aCOk RL idx z.1 z.2.1 (aNl z) none 0 := ⟨z2, z3, z4, z5, hpar⟩
  obtain ⟨c1, c2⟩ := hst.1
  exact aw_call (S1 := S2) (r := .inl none) (rest := st) X0.2.2.2.2.2.2 hst.1 (fun H locs ls hR hl => x_runI (As := []) (rest := st) X0 hR hl.1 hM hC (hw _ (by simp)) (hw _ (by simp)) hnm rfl hcat (hT.at hq).1 hrm ⟨by omega, by omega⟩) (fun v hv => by cases hv; exact k) (fun E q ce H1 locs1 ls hE => by cases hE)
theorem aw_newl (hT : okT yh) (X0 : aCx p s m args c D A RL yh.2.1) (hq : aFind (aPs yh) pc = some (.newarray .long, 2)) (hw : (Cond.arrayClass .long).before args s = true) (hRc : cn + 1 ≤ R.cells ∧ sn + 1 ≤ R.slots) (k : aW p l e R s m args below meth c D A Q (pc + 2, (lv, .ref zq :: st)) (wo M zq 0, (some (zq + 1), (cn + 1, sn + 1)))) : aW p l e R s m args below meth c D A Q (pc, (lv, .int 1 :: st)) (M, (some zq, (cn, sn))) := by
  intro H locs ls hR hl
  have hd := (hT.at hq).1
  obtain ⟨hx, hb, hown, hts, hKn, hKF, hA⟩ := X0
  obtain ⟨hH, hI, hS, hz⟩ := hR
  have hsz := hz zq rfl
  refine va_newaK (atype := .long) (N := 1) hx hb hw rfl hd rfl (by decide) (by decide) (by decide) hRc.1 hRc.2 hsz fun H1 cA e1 z1 o1 hAr hNm => ?_
  have hcA : cA = D.2.1 2 := Option.some.inj (hNm.symm.trans (hKn.2 2 .long rfl).2)
  subst hcA
  refine k H1 locs ls ⟨?_, ?_, ⟨by rw [z1, ← hsz]; exact Nat.le_trans hS.1 (Nat.le_succ _), fun q h1 h2 => (o1 q (by rw [← hsz]; exact Nat.lt_of_lt_of_le h1 hS.1)).trans (hS.2.1 q h1 h2), hS.2.2⟩, fun n hn => by cases hn; exact z1⟩ hl
  · intro a f' hf
    by_cases ha : a = zq
    · subst ha
      rw [show (wo M a 0, (some (a + 1), (cn + 1, sn + 1))).1 a = _ from wo_o] at hf
      cases hf
      exact Or.inr ⟨show 100 ≤ 102 by decide, e1, fun h => absurd h (show ¬ (102 : Nat) = 100 by decide)⟩
    · rw [show (wo M zq 0, (some (zq + 1), (cn + 1, sn + 1))).1 a = M a from wo_ne ha] at hf
      have hat := hH a f' hf
      exact hat.kept (o1 a (by rw [← hsz]; exact hat.lt))
  · exact hI.put (hA zq (by rw [← hsz]; exact hS.1))
end AWN
theorem zc_end {kad : Nat → Nat} {g : Nat} : (zc kad g).1 (g + 2040) = none := by
  simp only [zc, if_neg (show ¬ g + 2040 < g by omega), Nat.add_sub_cancel_left, List.getElem?_eq_none (show (LL kad g).length ≤ 2040 by rw [LL_len]; exact Nat.le_refl _)]
theorem w8 : ∀ w ∈ [Cond.classLink RL 8 RX12, Cond.instantiable RX12 13, Cond.initialized RX12], w ∈ aTB := aTB_all (by decide +kernel)
theorem w117 : ∀ w ∈ [Cond.classLink RL 117 RX13, Cond.instantiable RX13 74, Cond.initialized RX13], w ∈ aTB := aTB_all (by decide +kernel)
theorem w116 : ∀ w ∈ [Cond.methodLink RL 116 aM123.1, Cond.instanceMethod aM123.1], w ∈ aTB := aTB_all (by decide +kernel)
theorem w119 : ∀ w ∈ [Cond.methodLink RL 119 aM183.1, Cond.instanceMethod aM183.1], w ∈ aTB := aTB_all (by decide +kernel)
set_option maxRecDepth 20000 in
theorem whole_start {p : Program} {e : Env} {s : State} {m : MethodId} {below : List Frame} {meth : Method} {c : Code} (l : Launch) (hflags : l.flags = flags0) {b L : Nat} {xs : Nat → Int32} (hL : L ≤ 3072) (C0 : lw_At p s m meth c b L xs) : W p l e room_1 s m #[Value.ref b] below meth c s.heap [] 0 0 (lw_Z below #[Value.ref b] s) (entryFrame m ([Value.ref b] : List Value).toArray 7) := by
  obtain ⟨hx, hb, hr, hml, hown, hts, hX, hbl, hlocks, hgv⟩ := id C0
  have hl0 := no_tr l hflags
  obtain ⟨D, hKn, hKF, hinj, h9⟩ := given_all hts hgv
  have X0 : aCx p s m #[.ref b] c D (fun q => s.heap.size ≤ q) RL yHd.2.1 := ⟨hx, hb, hown, fun w hw => hts w (aTB_tbl hw), hKn, hKF, fun _ h => h⟩
  have hml' : c.maxLocals = aNl yHd := hml
  obtain ⟨J, HJ, hJ⟩ := Lc11_ok (l := l) (kad := D.2.2) (d := 40) (M := fun _ => none) (g := s.heap.size) (c := 1998) (s := 21180) hl0 hinj h9 (by decide)
  have C : lwC l p room_1 s m #[.ref b] c D (fun q => s.heap.size ≤ q) (zc D.2.2 s.heap.size) s.heap.size (s.heap.size + 1997) (s.heap.size + 2040) b L xs := ⟨hl0, X0, hml, NC_of hgv, ⟨Nat.le_of_ble_eq_true rfl, Nat.le_of_ble_eq_true rfl⟩, zc_E hinj h9 (Nat.le_refl _), Nat.le_refl _, zc_end, hX, hbl, Nat.not_le.mpr hbl, hL⟩
  have hend : ∀ (i : Nat) (S : ASt), S.2.2.1 ≤ 10000 → S.2.2.2 ≤ 60000 → aW p l e room_1 s m #[.ref b] below meth c D (fun q => s.heap.size ≤ q) (lw_Z below #[Value.ref b] s) (2377, (lvi i (s.heap.size + 2040) (s.heap.size + 1997) s.heap.size b, [])) S := by
    intro i S h1 h2
    refine aw_ops okHd X0 hml' 1 _ (f1 := (2378, (lvi i (s.heap.size + 2040) (s.heap.size + 1997) s.heap.size b, [.int 1]))) rfl ?_
    intro H locs ls hR hl
    exact va_forget hR.2.2.1.2.2 (W.widen (k := 601024) (n := 7293034) (by omega) (by omega) (lw_ret hx hb hr hlocks (okHd.at (pc := 2378) (ins := .ireturn) (len := 1) rfl).1))
  have hW : aW p l e room_1 s m #[.ref b] below meth c D (fun q => s.heap.size ≤ q) (lw_Z below #[Value.ref b] s) (0, ([(0, .ref b)], [])) (fun _ => none, (some s.heap.size, (0, 0))) := by
    refine aw_new (ci := 10) (C := RX12) (T := TX12) (N := 13) (idx := 8) okHd X0 rfl rfl w8 ⟨Nat.le_of_ble_eq_true rfl, Nat.le_of_ble_eq_true rfl⟩ ?_
    refine aw_ops okHd X0 hml' 1 _ (f1 := (4, ([(0, .ref b)], [.ref s.heap.size, .ref s.heap.size]))) rfl ?_
    rw [bM_one]
    refine aw_init (d1 := 40) (mj := 123) (z := aM123) (idx := 116) (S2 := cSt (fun _ => none) s.heap.size (Lc10 D.2.2 s.heap.size) 1997 21106) okHd X0 aMi123 rfl w116 rfl rfl (by decide +kernel) (by decide) (Nat.le_of_ble_eq_true rfl) ⟨Nat.le_of_ble_eq_true rfl, Nat.le_of_ble_eq_true rfl⟩ ⟨Nat.le_of_ble_eq_true rfl, Nat.le_of_ble_eq_true rfl⟩ (Lc10_ok (by decide) _ _ 1 13) ?_
    refine aw_ops okHd X0 hml' 1 _ (f1 := (8, ([(1, .ref s.heap.size), (0, .ref b)], []))) rfl ?_
    have e1 : cSt (fun _ => none) s.heap.size (Lc10 D.2.2 s.heap.size) 1997 21106 = (bM (fun _ => none) s.heap.size (Lc10 D.2.2 s.heap.size), (some (s.heap.size + 1997), (1997, 21106))) := by
      unfold cSt
      rw [Lc10_len]
    rw [e1]
    refine aw_new (ci := 11) (C := RX13) (T := TX13) (N := 74) (idx := 117) okHd X0 rfl rfl w117 ⟨Nat.le_of_ble_eq_true rfl, Nat.le_of_ble_eq_true rfl⟩ ?_
    refine aw_ops okHd X0 hml' 1 _ (f1 := (12, ([(1, .ref s.heap.size), (0, .ref b)], [.ref (s.heap.size + 1997), .ref (s.heap.size + 1997)]))) rfl ?_
    rw [bM_one]
    refine aw_init (d1 := 40) (mj := 183) (z := aM183) (idx := 119) (S2 := (aMem (zc D.2.2 s.heap.size) J, (some (s.heap.size + 2040), (2040, 27379)))) okHd X0 aMi183 rfl w119 rfl rfl (by decide +kernel) (by decide) (Nat.le_of_ble_eq_true rfl) ⟨Nat.le_of_ble_eq_true rfl, Nat.le_of_ble_eq_true rfl⟩ ⟨Nat.le_of_ble_eq_true rfl, Nat.le_of_ble_eq_true rfl⟩ hJ ?_
    refine aw_ops okHd X0 hml' 2 _ (f1 := (17, ([(2, .ref (s.heap.size + 1997)), (1, .ref s.heap.size), (0, .ref b)], [.int 1]))) rfl ?_
    refine aw_newl okHd X0 rfl (hts _ (tb_in _ (by simp))) ⟨Nat.le_of_ble_eq_true rfl, Nat.le_of_ble_eq_true rfl⟩ ?_
    refine aw_ops okHd X0 hml' 3 _ (f1 := (23, (lvi 0 (s.heap.size + 2040) (s.heap.size + 1997) s.heap.size b, []))) rfl ?_
    exact law_loop C ⟨Nat.le_of_ble_eq_true rfl, Nat.le_of_ble_eq_true rfl⟩ hend (L + 6) 0 J 0 (some (s.heap.size + 2040 + 1)) 2041 27380 (Nat.zero_le _) (Nat.sub_le _ _) HJ (Nat.le_of_ble_eq_true rfl) (Nat.le_of_ble_eq_true rfl)
  have hl := lv_entry [.ref b] (n := 7) (Nat.le_of_ble_eq_true rfl)
  rw [lg_entry_eq]
  exact hW s.heap [] _ ⟨fun a f hf => (by cases hf), fun a f hf => (by cases hf), va_S.rf, fun n hn => (by cases hn; rfl)⟩ (by rw [hml]; exact hl)
