/-! the constructors without loops (by program, but the disk's) -/
section ITE
variable {l : Launch} {kad : Nat → Nat} {d mi : Nat} {y : AMeth} {S9 : ASt} {r : ARes} {M : AMem} {L L2 : List AEnt} {pc idx i1 i j j0 i0 ci N k n a c s c2 s2 : Nat} {f : Nat → Value}
theorem it_stat (hy : aMS[mi]? = some y) (h1 : aOpsN y 1 (pc, ([(0, .ref a)], [])) = some (pc + 1, ([(0, .ref a)], [.ref a]))) (h2 : aFind (aPs y) (pc + 1) = some (.getstatic i1, 3)) (h3 : aFind (aPs y) (pc + 4) = some (.putfield idx, 3)) (hG : aFind (aGT (aOc y)) i1 = some (j0, i0)) (hF : aFind (aFT (aOc y)) idx = some (ci, (k, i))) (hfit : ∀ q, aFitB (aTyF ci k) (.ref q) = true) (hown : y.1.name = "<init>" ∧ aOwn ci = y.1.cls)
    (g : aStm l kad d y (pc + 7, ([(0, .ref a)], [])) (cSt M a ((ci, (N, updV f k (.ref (kad j0)))) :: L) c s) r S9) : aStm l kad d y (pc, ([(0, .ref a)], [])) (cSt M a ((ci, (N, f)) :: L) c s) r S9 := by
  refine cs_ops hy 1 _ h1 (cs_ex (f1 := (pc + 4, ([(0, .ref a)], [.ref (kad j0), .ref a]))) (S1 := cSt M a ((ci, (N, f)) :: L) c s) hy h2 ?_ (cs_putf hy h3 hF (hfit _) hown g))
  simp only [aEx, hG]
theorem cs_end {lv : ALv} (hy : aMS[mi]? = some y) (hq : aFind (aPs y) pc = some (.return_, 1)) (hrt : aRt y = none) (h1 : L = L2) (h2 : c = c2) (h3 : s = s2) : aStm l kad d y (pc, (lv, [])) (cSt M a L c s) (.inl none) (cSt M a L2 c2 s2) := by
  subst h1; subst h2; subst h3
  exact cs_ret hy hq (by rw [hrt]; rfl)
theorem cs_getf {lv : ALv} {st : List Value} (hy : aMS[mi]? = some y) (h3 : aFind (aPs y) pc = some (.getfield idx, 3)) (hF : aFind (aFT (aOc y)) idx = some (ci, (k, i))) (g : aStm l kad d y (pc + 3, (lv, f k :: st)) (cSt M a ((ci, (N, f)) :: L) c s) r S9) : aStm l kad d y (pc, (lv, .ref a :: st)) (cSt M a ((ci, (N, f)) :: L) c s) r S9 := by
  refine cs_mo (f1 := (pc + 3, (lv, f k :: st))) (S1 := cSt M a ((ci, (N, f)) :: L) c s) hy h3 ?_ g
  simp only [aMo, aGf, bM_own, hF]
  rw [if_pos trivial]
end ITE
def Lc3 (a : Nat) : List AEnt := (3, (2, (updV (dfl 3) 0 (.ref (a + 1))))) :: [(100, (256, updV (fun _ => .int 0) 32 (.int 255)))]
theorem Lc3_len {a : Nat} : (Lc3 a).length = 2 := rfl
theorem Lc3_ok {l : Launch} {kad : Nat → Nat} {d : Nat} (hd : 0 ≤ d) (M : AMem) (b c s : Nat) : aStm l kad d aM41 (0, ([(0, .ref b)], [])) (cSt M b [(3, (2, dfl 3))] c s) (.inl none) (cSt M b (Lc3 b) (c + 1) (s + 256)) := by
  refine it_head aMi41 rfl rfl rfl ?_
  refine it_arr (n := 1) (len := 256) aMi41 rfl rfl rfl (Or.inl ⟨rfl, rfl⟩) (by decide) rfl (fun _ => rfl) ⟨rfl, rfl⟩ rfl ?_
  refine cs_ops aMi41 1 _ rfl ?_
  refine cs_getf aMi41 rfl rfl ?_
  refine cs_ops (f1 := (22, ([(0, .ref b)], [.int 255, .int 32, .ref (b + 1)]))) aMi41 2 _ rfl ?_
  refine cs_mo (f1 := (23, ([(0, .ref b)], []))) (S1 := cSt M b (Lc3 b) (c + 1) (s + 256)) aMi41 rfl ?_ (cs_end aMi41 rfl rfl rfl rfl rfl)
  simp only [aMo, aAs]
  rw [bM_at (j := 1) (e := (100, (256, fun _ => .int 0))) rfl]
  dsimp only
  rw [if_pos ⟨rfl, by decide, fun h => absurd h (by decide)⟩, bM_set (j := 1) (Nat.le_of_ble_eq_true rfl)]
  rfl
theorem nw2_15 : ∀ w ∈ [Cond.classLink RX3 15 RX6, Cond.instantiable RX6 4, Cond.initialized RX6], w ∈ aTB := aTB_all (by decide +kernel)
theorem nl2_17 : Cond.methodLinkNest RX3 17 yX6_init "KernelGym" ∈ aNG := by simp [aNG, RX3]
theorem ni4 : Cond.instanceMethod yX6_init ∈ aTB := aTB_all (L := [Cond.instanceMethod yX6_init]) (by decide +kernel) _ List.mem_cons_self
theorem nw5_9 : ∀ w ∈ [Cond.classLink RX7 9 RX3, Cond.instantiable RX3 16, Cond.initialized RX3], w ∈ aTB := aTB_all (by decide +kernel)
theorem nl5_11 : Cond.methodLinkNest RX7 11 yX3_init "KernelGym" ∈ aNG := by simp [aNG, RX7]
theorem ni2 : Cond.instanceMethod yX3_init ∈ aTB := aTB_all (L := [Cond.instanceMethod yX3_init]) (by decide +kernel) _ List.mem_cons_self
theorem nw8_9 : ∀ w ∈ [Cond.classLink RX10 9 RX3, Cond.instantiable RX3 16, Cond.initialized RX3], w ∈ aTB := aTB_all (by decide +kernel)
theorem nl8_11 : Cond.methodLinkNest RX10 11 yX3_init "KernelGym" ∈ aNG := by simp [aNG, RX10]
theorem nw8_25 : ∀ w ∈ [Cond.classLink RX10 25 RX4, Cond.instantiable RX4 2, Cond.initialized RX4], w ∈ aTB := aTB_all (by decide +kernel)
theorem nl8_27 : Cond.methodLink RX10 27 yX4_init ∈ aTB := aTB_all (L := [Cond.methodLink RX10 27 yX4_init]) (by decide +kernel) _ List.mem_cons_self
theorem ni3 : Cond.instanceMethod yX4_init ∈ aTB := aTB_all (L := [Cond.instanceMethod yX4_init]) (by decide +kernel) _ List.mem_cons_self
theorem nw8_32 : ∀ w ∈ [Cond.classLink RX10 32 RX8, Cond.instantiable RX8 3, Cond.initialized RX8], w ∈ aTB := aTB_all (by decide +kernel)
theorem nl8_34 : Cond.methodLinkNest RX10 34 yX8_init "KernelGym" ∈ aNG := by simp [aNG, RX10]
theorem ni6 : Cond.instanceMethod yX8_init ∈ aTB := aTB_all (L := [Cond.instanceMethod yX8_init]) (by decide +kernel) _ List.mem_cons_self
theorem nw8_39 : ∀ w ∈ [Cond.classLink RX10 39 RX2, Cond.instantiable RX2 2, Cond.initialized RX2], w ∈ aTB := aTB_all (by decide +kernel)
theorem nl8_41 : Cond.methodLinkNest RX10 41 yX2_init "KernelGym" ∈ aNG := by simp [aNG, RX10]
theorem ni1 : Cond.instanceMethod yX2_init ∈ aTB := aTB_all (L := [Cond.instanceMethod yX2_init]) (by decide +kernel) _ List.mem_cons_self
theorem nw8_49 : ∀ w ∈ [Cond.classLink RX10 49 RX7, Cond.instantiable RX7 6, Cond.initialized RX7], w ∈ aTB := aTB_all (by decide +kernel)
theorem nl8_51 : Cond.methodLinkNest RX10 51 yX7_init "KernelGym" ∈ aNG := by simp [aNG, RX10]
theorem ni5 : Cond.instanceMethod yX7_init ∈ aTB := aTB_all (L := [Cond.instanceMethod yX7_init]) (by decide +kernel) _ List.mem_cons_self
def Lc4 (a : Nat) : List AEnt := (4, (4, (updV (updV (dfl 4) 2 (.ref (a + 1))) 3 (.ref (a + 2))))) :: (([] ++ [(100, (3, fun _ => .int 0))]) ++ [(100, (24, fun _ => .int 0))])
theorem Lc4_len {a : Nat} : (Lc4 a).length = 3 := rfl
theorem Lc4_ok {l : Launch} {kad : Nat → Nat} {d : Nat} (hd : 0 ≤ d) (M : AMem) (b c s : Nat) : aStm l kad d aM60 (0, ([(0, .ref b)], [])) (cSt M b [(4, (4, dfl 4))] c s) (.inl none) (cSt M b (Lc4 b) (c + 2) (s + 27)) := by
  refine it_head aMi60 rfl rfl rfl ?_
  refine it_arr (n := 1) (len := 3) aMi60 rfl rfl rfl (Or.inl ⟨rfl, rfl⟩) (by decide) rfl (fun _ => rfl) ⟨rfl, rfl⟩ (by simp [List.length_append, Lc3_len]) ?_
  refine it_arr (n := 2) (len := 24) aMi60 rfl rfl rfl (Or.inl ⟨rfl, rfl⟩) (by decide) rfl (fun _ => rfl) ⟨rfl, rfl⟩ (by simp [List.length_append, Lc3_len]) ?_
  exact cs_end aMi60 rfl rfl rfl (by omega) (by omega)
def Lc2 (a : Nat) : List AEnt := (2, (16, (updV (updV (dfl 2) 14 (.ref (a + 1))) 15 (.ref (a + 2))))) :: (([] ++ [(100, (4, fun _ => .int 0))]) ++ Lc4 (a + 2))
theorem Lc2_len {a : Nat} : (Lc2 a).length = 5 := rfl
theorem Lc2_ok {l : Launch} {kad : Nat → Nat} {d : Nat} (hd : 1 ≤ d) (M : AMem) (b c s : Nat) : aStm l kad d aM36 (0, ([(0, .ref b)], [])) (cSt M b [(2, (16, dfl 2))] c s) (.inl none) (cSt M b (Lc2 b) (c + 4) (s + 35)) := by
  obtain ⟨d, rfl⟩ : ∃ k, d = k + 1 := ⟨d - 1, by omega⟩
  refine it_head aMi36 rfl rfl rfl ?_
  refine it_arr (n := 1) (len := 4) aMi36 rfl rfl rfl (Or.inl ⟨rfl, rfl⟩) (by decide) rfl (fun _ => rfl) ⟨rfl, rfl⟩ (by simp [List.length_append, Lc3_len, Lc4_len]) ?_
  refine it_obj (n := 2) (LC := Lc4) (cc := 2) (ss := 27) aMi36 aMi60 rfl rfl rfl rfl rfl (show vwCl[4]? = some (RX6, TX6, 4) from rfl) nw2_15 (Or.inr nl2_17) ni4 ⟨rfl, rfl, by decide +kernel, by decide⟩ (Lc4_ok (by omega)) rfl (fun _ => rfl) ⟨rfl, rfl⟩ (by simp [List.length_append, Lc3_len, Lc4_len]) ?_
  exact cs_end aMi36 rfl rfl rfl (by omega) (by omega)
def Lc5 (a : Nat) : List AEnt := (5, (6, (updV (updV (updV (updV (updV (dfl 5) 0 (.ref (a + 1))) 2 (.ref (a + 6))) 3 (.ref (a + 7))) 4 (.int (-1))) 5 (.ref (a + 8))))) :: (((([] ++ Lc2 (a + 1)) ++ [(100, (2, fun _ => .int 0))]) ++ [(100, (2, fun _ => .int 0))]) ++ [(100, (8, fun _ => .int 0))])
theorem Lc5_len {a : Nat} : (Lc5 a).length = 9 := rfl
theorem Lc5_ok {l : Launch} {kad : Nat → Nat} {d : Nat} (hd : 2 ≤ d) (M : AMem) (b c s : Nat) : aStm l kad d aM66 (0, ([(0, .ref b)], [])) (cSt M b [(5, (6, dfl 5))] c s) (.inl none) (cSt M b (Lc5 b) (c + 8) (s + 63)) := by
  obtain ⟨d, rfl⟩ : ∃ k, d = k + 1 := ⟨d - 1, by omega⟩
  refine it_head aMi66 rfl rfl rfl ?_
  refine it_obj (n := 1) (LC := Lc2) (cc := 4) (ss := 35) aMi66 aMi36 rfl rfl rfl rfl rfl (show vwCl[2]? = some (RX3, TX3, 16) from rfl) nw5_9 (Or.inr nl5_11) ni2 ⟨rfl, rfl, by decide +kernel, by decide⟩ (Lc2_ok (by omega)) rfl (fun _ => rfl) ⟨rfl, rfl⟩ (by simp [List.length_append, Lc2_len, Lc3_len, Lc4_len]) ?_
  refine it_arr (n := 6) (len := 2) aMi66 rfl rfl rfl (Or.inl ⟨rfl, rfl⟩) (by decide) rfl (fun _ => rfl) ⟨rfl, rfl⟩ (by simp [List.length_append, Lc2_len, Lc3_len, Lc4_len]) ?_
  refine it_arr (n := 7) (len := 2) aMi66 rfl rfl rfl (Or.inl ⟨rfl, rfl⟩) (by decide) rfl (fun _ => rfl) ⟨rfl, rfl⟩ (by simp [List.length_append, Lc2_len, Lc3_len, Lc4_len]) ?_
  refine it_int aMi66 rfl rfl rfl rfl ⟨rfl, rfl⟩ ?_
  refine it_arr (n := 8) (len := 8) aMi66 rfl rfl rfl (Or.inl ⟨rfl, rfl⟩) (by decide) rfl (fun _ => rfl) ⟨rfl, rfl⟩ (by simp [List.length_append, Lc2_len, Lc3_len, Lc4_len]) ?_
  exact cs_end aMi66 rfl rfl rfl (by omega) (by omega)
def Lc6 (a : Nat) : List AEnt := (6, (3, (updV (updV (dfl 6) 1 (.ref (a + 1))) 2 (.ref (a + 2))))) :: (([] ++ [(100, (20, fun _ => .int 0))]) ++ [(100, (20, fun _ => .int 0))])
theorem Lc6_len {a : Nat} : (Lc6 a).length = 3 := rfl
theorem Lc6_ok {l : Launch} {kad : Nat → Nat} {d : Nat} (hd : 0 ≤ d) (M : AMem) (b c s : Nat) : aStm l kad d aM71 (0, ([(0, .ref b)], [])) (cSt M b [(6, (3, dfl 6))] c s) (.inl none) (cSt M b (Lc6 b) (c + 2) (s + 40)) := by
  refine it_head aMi71 rfl rfl rfl ?_
  refine it_arr (n := 1) (len := 20) aMi71 rfl rfl rfl (Or.inl ⟨rfl, rfl⟩) (by decide) rfl (fun _ => rfl) ⟨rfl, rfl⟩ (by simp [List.length_append, Lc2_len, Lc3_len, Lc4_len, Lc5_len]) ?_
  refine it_arr (n := 2) (len := 20) aMi71 rfl rfl rfl (Or.inl ⟨rfl, rfl⟩) (by decide) rfl (fun _ => rfl) ⟨rfl, rfl⟩ (by simp [List.length_append, Lc2_len, Lc3_len, Lc4_len, Lc5_len]) ?_
  exact cs_end aMi71 rfl rfl rfl (by omega) (by omega)
def Lc1 (a : Nat) : List AEnt := (1, (2, (updV (updV (dfl 1) 0 (.ref (a + 1))) 1 (.ref (a + 2))))) :: (([] ++ [(100, (256, fun _ => .int 0))]) ++ [(101, (32, fun _ => .int 0))])
theorem Lc1_len {a : Nat} : (Lc1 a).length = 3 := rfl
theorem Lc1_ok {l : Launch} {kad : Nat → Nat} {d : Nat} (hd : 0 ≤ d) (M : AMem) (b c s : Nat) : aStm l kad d aM25 (0, ([(0, .ref b)], [])) (cSt M b [(1, (2, dfl 1))] c s) (.inl none) (cSt M b (Lc1 b) (c + 2) (s + 288)) := by
  refine it_head aMi25 rfl rfl rfl ?_
  refine it_arr (n := 1) (len := 256) aMi25 rfl rfl rfl (Or.inl ⟨rfl, rfl⟩) (by decide) rfl (fun _ => rfl) ⟨rfl, rfl⟩ (by simp [List.length_append, Lc2_len, Lc3_len, Lc4_len, Lc5_len, Lc6_len]) ?_
  refine it_arr (n := 2) (len := 32) aMi25 rfl rfl rfl (Or.inr ⟨rfl, rfl⟩) (by decide) rfl (fun _ => rfl) ⟨rfl, rfl⟩ (by simp [List.length_append, Lc2_len, Lc3_len, Lc4_len, Lc5_len, Lc6_len]) ?_
  exact cs_end aMi25 rfl rfl rfl (by omega) (by omega)
def Lc7 (kad : Nat → Nat) (a : Nat) : List AEnt := (7, (6, (updV (dfl 7) 0 (.ref (kad 0))))) :: []
theorem Lc7_len {kad : Nat → Nat} {a : Nat} : (Lc7 kad a).length = 1 := rfl
theorem Lc7_ok {l : Launch} {kad : Nat → Nat} {d : Nat} (hd : 0 ≤ d) (M : AMem) (b c s : Nat) : aStm l kad d aM78 (0, ([(0, .ref b)], [])) (cSt M b [(7, (6, dfl 7))] c s) (.inl none) (cSt M b (Lc7 kad b) (c + 0) (s + 0)) := by
  refine it_head aMi78 rfl rfl rfl ?_
  refine it_stat aMi78 rfl rfl rfl rfl rfl (fun _ => rfl) ⟨rfl, rfl⟩ ?_
  exact cs_end aMi78 rfl rfl rfl (by omega) (by omega)
def Lc9 (a : Nat) : List AEnt := (9, (10, (updV (updV (updV (dfl 9) 2 (.int (-1))) 3 (.ref (a + 1))) 4 (.ref (a + 2))))) :: (([] ++ [(100, (6, fun _ => .int 0))]) ++ [(100, (6, fun _ => .int 0))])
theorem Lc9_len {a : Nat} : (Lc9 a).length = 3 := rfl
theorem Lc9_ok {l : Launch} {kad : Nat → Nat} {d : Nat} (hd : 0 ≤ d) (M : AMem) (b c s : Nat) : aStm l kad d aM115 (0, ([(0, .ref b)], [])) (cSt M b [(9, (10, dfl 9))] c s) (.inl none) (cSt M b (Lc9 b) (c + 2) (s + 12)) := by
  refine it_head aMi115 rfl rfl rfl ?_
  refine it_int aMi115 rfl rfl rfl rfl ⟨rfl, rfl⟩ ?_
  refine it_arr (n := 1) (len := 6) aMi115 rfl rfl rfl (Or.inl ⟨rfl, rfl⟩) (by decide) rfl (fun _ => rfl) ⟨rfl, rfl⟩ (by simp [List.length_append, Lc1_len, Lc2_len, Lc3_len, Lc4_len, Lc5_len, Lc6_len, Lc7_len]) ?_
  refine it_arr (n := 2) (len := 6) aMi115 rfl rfl rfl (Or.inl ⟨rfl, rfl⟩) (by decide) rfl (fun _ => rfl) ⟨rfl, rfl⟩ (by simp [List.length_append, Lc1_len, Lc2_len, Lc3_len, Lc4_len, Lc5_len, Lc6_len, Lc7_len]) ?_
  exact cs_end aMi115 rfl rfl rfl (by omega) (by omega)
def Lc8 (a : Nat) : List AEnt := (8, (8, (updV (updV (updV (updV (updV (updV (updV (updV (dfl 8) 0 (.ref (a + 1))) 1 (.ref (a + 6))) 2 (.ref (a + 7))) 3 (.ref (a + 8))) 4 (.ref (a + 10))) 5 (.ref (a + 13))) 6 (.ref (a + 16))) 7 (.ref (a + 17))))) :: (((((((([] ++ Lc2 (a + 1)) ++ [(100, (256, fun _ => .int 0))]) ++ [(100, (60, fun _ => .int 0))]) ++ Lc3 (a + 8)) ++ Lc6 (a + 10)) ++ Lc1 (a + 13)) ++ [(100, (8, fun _ => .int 0))]) ++ Lc5 (a + 17))
theorem Lc8_len {a : Nat} : (Lc8 a).length = 26 := rfl
theorem Lc8_ok {l : Launch} {kad : Nat → Nat} {d : Nat} (hd : 3 ≤ d) (M : AMem) (b c s : Nat) : aStm l kad d aM79 (0, ([(0, .ref b)], [])) (cSt M b [(8, (8, dfl 8))] c s) (.inl none) (cSt M b (Lc8 b) (c + 25) (s + 1035)) := by
  obtain ⟨d, rfl⟩ : ∃ k, d = k + 1 := ⟨d - 1, by omega⟩
  refine it_head aMi79 rfl rfl rfl ?_
  refine it_obj (n := 1) (LC := Lc2) (cc := 4) (ss := 35) aMi79 aMi36 rfl rfl rfl rfl rfl (show vwCl[2]? = some (RX3, TX3, 16) from rfl) nw8_9 (Or.inr nl8_11) ni2 ⟨rfl, rfl, by decide +kernel, by decide⟩ (Lc2_ok (by omega)) rfl (fun _ => rfl) ⟨rfl, rfl⟩ (by simp [List.length_append, Lc1_len, Lc2_len, Lc3_len, Lc4_len, Lc5_len, Lc6_len, Lc7_len, Lc9_len]) ?_
  refine it_arr (n := 6) (len := 256) aMi79 rfl rfl rfl (Or.inl ⟨rfl, rfl⟩) (by decide) rfl (fun _ => rfl) ⟨rfl, rfl⟩ (by simp [List.length_append, Lc1_len, Lc2_len, Lc3_len, Lc4_len, Lc5_len, Lc6_len, Lc7_len, Lc9_len]) ?_
  refine it_arr (n := 7) (len := 60) aMi79 rfl rfl rfl (Or.inl ⟨rfl, rfl⟩) (by decide) rfl (fun _ => rfl) ⟨rfl, rfl⟩ (by simp [List.length_append, Lc1_len, Lc2_len, Lc3_len, Lc4_len, Lc5_len, Lc6_len, Lc7_len, Lc9_len]) ?_
  refine it_obj (n := 8) (LC := Lc3) (cc := 1) (ss := 256) aMi79 aMi41 rfl rfl rfl rfl rfl (show vwCl[3]? = some (RX4, TX4, 2) from rfl) nw8_25 (Or.inl nl8_27) ni3 ⟨rfl, rfl, by decide +kernel, by decide⟩ (Lc3_ok (by omega)) rfl (fun _ => rfl) ⟨rfl, rfl⟩ (by simp [List.length_append, Lc1_len, Lc2_len, Lc3_len, Lc4_len, Lc5_len, Lc6_len, Lc7_len, Lc9_len]) ?_
  refine it_obj (n := 10) (LC := Lc6) (cc := 2) (ss := 40) aMi79 aMi71 rfl rfl rfl rfl rfl (show vwCl[6]? = some (RX8, TX8, 3) from rfl) nw8_32 (Or.inr nl8_34) ni6 ⟨rfl, rfl, by decide +kernel, by decide⟩ (Lc6_ok (by omega)) rfl (fun _ => rfl) ⟨rfl, rfl⟩ (by simp [List.length_append, Lc1_len, Lc2_len, Lc3_len, Lc4_len, Lc5_len, Lc6_len, Lc7_len, Lc9_len]) ?_
  refine it_obj (n := 13) (LC := Lc1) (cc := 2) (ss := 288) aMi79 aMi25 rfl rfl rfl rfl rfl (show vwCl[1]? = some (RX2, TX2, 2) from rfl) nw8_39 (Or.inr nl8_41) ni1 ⟨rfl, rfl, by decide +kernel, by decide⟩ (Lc1_ok (by omega)) rfl (fun _ => rfl) ⟨rfl, rfl⟩ (by simp [List.length_append, Lc1_len, Lc2_len, Lc3_len, Lc4_len, Lc5_len, Lc6_len, Lc7_len, Lc9_len]) ?_
  refine it_arr (n := 16) (len := 8) aMi79 rfl rfl rfl (Or.inl ⟨rfl, rfl⟩) (by decide) rfl (fun _ => rfl) ⟨rfl, rfl⟩ (by simp [List.length_append, Lc1_len, Lc2_len, Lc3_len, Lc4_len, Lc5_len, Lc6_len, Lc7_len, Lc9_len]) ?_
  refine it_obj (n := 17) (LC := Lc5) (cc := 8) (ss := 63) aMi79 aMi66 rfl rfl rfl rfl rfl (show vwCl[5]? = some (RX7, TX7, 6) from rfl) nw8_49 (Or.inr nl8_51) ni5 ⟨rfl, rfl, by decide +kernel, by decide⟩ (Lc5_ok (by omega)) rfl (fun _ => rfl) ⟨rfl, rfl⟩ (by simp [List.length_append, Lc1_len, Lc2_len, Lc3_len, Lc4_len, Lc5_len, Lc6_len, Lc7_len, Lc9_len]) ?_
  exact cs_end aMi79 rfl rfl rfl (by omega) (by omega)
