/-! the constructors with loops (by program) -/
theorem na0_15 : Cond.classLink RX1 15 RX9 ∈ aTB := aTB_all (L := [Cond.classLink RX1 15 RX9]) (by decide +kernel) _ List.mem_cons_self
theorem nw0_15 : ∀ w ∈ [Cond.classLink RX1 15 RX9, Cond.instantiable RX9 6, Cond.initialized RX9], w ∈ aTB := aTB_all (by decide +kernel)
theorem nl0_49 : Cond.methodLinkNest RX1 49 yX9_init "KernelGym" ∈ aNG := by simp [aNG, RX1]
theorem ni7 : Cond.instanceMethod yX9_init ∈ aTB := aTB_all (L := [Cond.instanceMethod yX9_init]) (by decide +kernel) _ List.mem_cons_self
theorem nw10_9 : ∀ w ∈ [Cond.classLink RX12 9 RX1, Cond.instantiable RX1 16, Cond.initialized RX1], w ∈ aTB := aTB_all (by decide +kernel)
theorem nl10_11 : Cond.methodLink RX12 11 yX1_init ∈ aTB := aTB_all (L := [Cond.methodLink RX12 11 yX1_init]) (by decide +kernel) _ List.mem_cons_self
theorem ni0 : Cond.instanceMethod yX1_init ∈ aTB := aTB_all (L := [Cond.instanceMethod yX1_init]) (by decide +kernel) _ List.mem_cons_self
theorem nw10_20 : ∀ w ∈ [Cond.classLink RX12 20 RX10, Cond.instantiable RX10 8, Cond.initialized RX10], w ∈ aTB := aTB_all (by decide +kernel)
theorem nl10_22 : Cond.methodLinkNest RX12 22 yX10_init "KernelGym" ∈ aNG := by simp [aNG, RX12]
theorem ni8 : Cond.instanceMethod yX10_init ∈ aTB := aTB_all (L := [Cond.instanceMethod yX10_init]) (by decide +kernel) _ List.mem_cons_self
theorem na10_27 : Cond.classLink RX12 27 RX7 ∈ aTB := aTB_all (L := [Cond.classLink RX12 27 RX7]) (by decide +kernel) _ List.mem_cons_self
theorem nw10_27 : ∀ w ∈ [Cond.classLink RX12 27 RX7, Cond.instantiable RX7 6, Cond.initialized RX7], w ∈ aTB := aTB_all (by decide +kernel)
theorem nl10_42 : Cond.methodLinkNest RX12 42 yX7_init "KernelGym" ∈ aNG := by simp [aNG, RX12]
theorem nw10_47 : ∀ w ∈ [Cond.classLink RX12 47 RX11, Cond.instantiable RX11 10, Cond.initialized RX11], w ∈ aTB := aTB_all (by decide +kernel)
theorem nl10_49 : Cond.methodLinkNest RX12 49 yX11_init "KernelGym" ∈ aNG := by simp [aNG, RX12]
theorem ni9 : Cond.instanceMethod yX11_init ∈ aTB := aTB_all (L := [Cond.instanceMethod yX11_init]) (by decide +kernel) _ List.mem_cons_self
theorem na10_47 : Cond.classLink RX12 47 RX11 ∈ aTB := aTB_all (L := [Cond.classLink RX12 47 RX11]) (by decide +kernel) _ List.mem_cons_self
def Lf0 (a : Nat) : Nat → Value := (updV (updV (updV (updV (updV (updV (updV (updV (updV (updV (updV (dfl 0) 1 (.ref (a + 1))) 2 (.ref (a + 2))) 3 (.ref (a + 3))) 4 (.ref (a + 4))) 5 (.ref (a + 5))) 6 (.ref (a + 6))) 7 (.ref (a + 7))) 8 (.ref (a + 8))) 9 (.ref (a + 9))) 10 (.ref (a + 10))) 11 (.ref (a + 11)))
def Lr0 : List AEnt := ((((((((((([] ++ [(100, (256, fun _ => .int 0))]) ++ [(104, (100, fun _ => .null))]) ++ [(100, (5, fun _ => .int 0))]) ++ [(100, (5, fun _ => .int 0))]) ++ [(101, (5, fun _ => .int 0))]) ++ [(100, (1220, fun _ => .int 0))]) ++ [(100, (1220, fun _ => .int 0))]) ++ [(100, (301, fun _ => .int 0))]) ++ [(100, (301, fun _ => .int 0))]) ++ [(100, (2, fun _ => .int 0))]) ++ [(100, (2, fun _ => .int 0))])
def Lc0 (kad : Nat → Nat) (a : Nat) : List AEnt := cJ (Lc7 kad) 0 16 (Lf0 a) Lr0 a 12 1 1 4 100 100
theorem Lc0_len {kad : Nat → Nat} {a : Nat} : (Lc0 kad a).length = 112 := by
  show (Lr0.set 1 _ ++ gJ (Lc7 kad) a 12 1 100).length + 1 = 112
  rw [List.length_append, List.length_set, gJ_len (fun b => Lc7_len)]
  rfl
theorem Lc0_ok {l : Launch} {kad : Nat → Nat} {d : Nat} (hd : 1 ≤ d) (M : AMem) (b c s : Nat) : aStm l kad d aM0 (0, ([(0, .ref b)], [])) (cSt M b [(0, (16, dfl 0))] c s) (.inl none) (cSt M b (Lc0 kad b) (c + 111) (s + 4017)) := by
  obtain ⟨d, rfl⟩ : ∃ k, d = k + 1 := ⟨d - 1, by omega⟩
  refine it_head aMi0 rfl rfl rfl ?_
  refine it_arr (n := 1) (len := 256) aMi0 rfl rfl rfl (Or.inl ⟨rfl, rfl⟩) (by decide) rfl (fun _ => rfl) ⟨rfl, rfl⟩ (by simp [List.length_append, Lc1_len, Lc2_len, Lc3_len, Lc4_len, Lc5_len, Lc6_len, Lc7_len, Lc8_len, Lc9_len]) ?_
  refine it_refs (n := 2) (len := 100) (k0 := 4) (C := RX9) aMi0 rfl rfl rfl rfl (by simp [aAO, RX9]) na0_15 (by decide) rfl (fun _ => rfl) ⟨rfl, rfl⟩ (by simp [List.length_append, Lc1_len, Lc2_len, Lc3_len, Lc4_len, Lc5_len, Lc6_len, Lc7_len, Lc8_len, Lc9_len]) ?_
  refine it_arr (n := 3) (len := 5) aMi0 rfl rfl rfl (Or.inl ⟨rfl, rfl⟩) (by decide) rfl (fun _ => rfl) ⟨rfl, rfl⟩ (by simp [List.length_append, Lc1_len, Lc2_len, Lc3_len, Lc4_len, Lc5_len, Lc6_len, Lc7_len, Lc8_len, Lc9_len]) ?_
  refine it_arr (n := 4) (len := 5) aMi0 rfl rfl rfl (Or.inl ⟨rfl, rfl⟩) (by decide) rfl (fun _ => rfl) ⟨rfl, rfl⟩ (by simp [List.length_append, Lc1_len, Lc2_len, Lc3_len, Lc4_len, Lc5_len, Lc6_len, Lc7_len, Lc8_len, Lc9_len]) ?_
  refine it_arr (n := 5) (len := 5) aMi0 rfl rfl rfl (Or.inr ⟨rfl, rfl⟩) (by decide) rfl (fun _ => rfl) ⟨rfl, rfl⟩ (by simp [List.length_append, Lc1_len, Lc2_len, Lc3_len, Lc4_len, Lc5_len, Lc6_len, Lc7_len, Lc8_len, Lc9_len]) ?_
  refine it_arr (n := 6) (len := 1220) aMi0 rfl rfl rfl (Or.inl ⟨rfl, rfl⟩) (by decide) rfl (fun _ => rfl) ⟨rfl, rfl⟩ (by simp [List.length_append, Lc1_len, Lc2_len, Lc3_len, Lc4_len, Lc5_len, Lc6_len, Lc7_len, Lc8_len, Lc9_len]) ?_
  refine it_arr (n := 7) (len := 1220) aMi0 rfl rfl rfl (Or.inl ⟨rfl, rfl⟩) (by decide) rfl (fun _ => rfl) ⟨rfl, rfl⟩ (by simp [List.length_append, Lc1_len, Lc2_len, Lc3_len, Lc4_len, Lc5_len, Lc6_len, Lc7_len, Lc8_len, Lc9_len]) ?_
  refine it_arr (n := 8) (len := 301) aMi0 rfl rfl rfl (Or.inl ⟨rfl, rfl⟩) (by decide) rfl (fun _ => rfl) ⟨rfl, rfl⟩ (by simp [List.length_append, Lc1_len, Lc2_len, Lc3_len, Lc4_len, Lc5_len, Lc6_len, Lc7_len, Lc8_len, Lc9_len]) ?_
  refine it_arr (n := 9) (len := 301) aMi0 rfl rfl rfl (Or.inl ⟨rfl, rfl⟩) (by decide) rfl (fun _ => rfl) ⟨rfl, rfl⟩ (by simp [List.length_append, Lc1_len, Lc2_len, Lc3_len, Lc4_len, Lc5_len, Lc6_len, Lc7_len, Lc8_len, Lc9_len]) ?_
  refine it_arr (n := 10) (len := 2) aMi0 rfl rfl rfl (Or.inl ⟨rfl, rfl⟩) (by decide) rfl (fun _ => rfl) ⟨rfl, rfl⟩ (by simp [List.length_append, Lc1_len, Lc2_len, Lc3_len, Lc4_len, Lc5_len, Lc6_len, Lc7_len, Lc8_len, Lc9_len]) ?_
  refine it_arr (n := 11) (len := 2) aMi0 rfl rfl rfl (Or.inl ⟨rfl, rfl⟩) (by decide) rfl (fun _ => rfl) ⟨rfl, rfl⟩ (by simp [List.length_append, Lc1_len, Lc2_len, Lc3_len, Lc4_len, Lc5_len, Lc6_len, Lc7_len, Lc8_len, Lc9_len]) ?_
  refine cs_ops (f1 := (95, ([(1, .int (nI 0)), (0, .ref b)], []))) aMi0 2 _ rfl ?_
  have h := it_loop (l := l) (kad := kad) (d := d) (a := b) (M := M) (r := .inl none) (S9 := cSt M b (Lc0 kad b) (c + 111) (s + 4017)) (c := c + 11) (s := s + 3417) (LC := Lc7 kad) (cc := 0) (ss := 0) (w := 1) (q := 12) (p' := 1) (k0 := 4) (n := 100) (ci := 0) (N := 16) (f := Lf0 b) (R := Lr0) (k := 2) (p0 := 95) (pb := 98) (pE := 120) aMi0 aMi78 (by decide) (by decide) (fun _ => rfl) rfl rfl (fun _ => rfl) rfl rfl (fun _ _ => rfl) rfl rfl rfl rfl (fun _ => rfl) rfl (show vwCl[7]? = some (RX9, TX9, 6) from rfl) (by decide) nw0_15 (Or.inr nl0_49) ni7 ⟨rfl, rfl, by decide +kernel, by decide⟩ (Lc7_ok (by omega)) (fun _ => Lc7_len) (fun _ => ⟨_, rfl⟩) rfl rfl (by decide) ?_ 100 0 rfl
  · exact h
  exact cs_end aMi0 rfl rfl rfl (by omega) (by omega)
def Lf10 (a : Nat) : Nat → Value := (updV (updV (updV (updV (updV (updV (updV (updV (updV (updV (dfl 10) 0 (.ref (a + 1))) 1 (.ref (a + 113))) 3 (.ref (a + 114))) 4 (.ref (a + 140))) 6 (.ref (a + 141))) 7 (.ref (a + 142))) 8 (.ref (a + 143))) 9 (.ref (a + 169))) 10 (.ref (a + 178))) 11 (.ref (a + 181)))
def Lr10 (kad : Nat → Nat) (a : Nat) : List AEnt := (((((((((([] ++ Lc0 kad (a + 1)) ++ [(100, (256, fun _ => .int 0))]) ++ Lc8 (a + 114)) ++ [(103, (200, fun _ => .null))]) ++ [(100, (256, fun _ => .int 0))]) ++ [(100, (256, fun _ => .int 0))]) ++ Lc8 (a + 143)) ++ Lc5 (a + 169)) ++ Lc9 (a + 178)) ++ [(105, (5, fun _ => .null))])
theorem Lr10_len {kad : Nat → Nat} {a : Nat} : (Lr10 kad a).length = 181 := by
  simp [Lr10, List.length_append, Lc0_len, Lc8_len, Lc5_len, Lc9_len]
/-- .. and the kept steps -/
def Ls10 (kad : Nat → Nat) (a : Nat) : List AEnt := (Lr10 kad a).set 139 (103, (200, aJ a 182 9 200)) ++ gJ Lc5 a 182 9 200
def Lc10 (kad : Nat → Nat) (a : Nat) : List AEnt := cJ Lc9 10 13 (Lf10 a) (Ls10 kad a) a 1982 3 180 5 5 5
theorem Ls10_len {kad : Nat → Nat} {a : Nat} : (Ls10 kad a).length = 1981 := by
  unfold Ls10
  rw [List.length_append, List.length_set, Lr10_len, gJ_len (fun b => Lc5_len)]
theorem Lc10_len {kad : Nat → Nat} {a : Nat} : (Lc10 kad a).length = 1997 := by
  show ((Ls10 kad a).set 180 _ ++ gJ Lc9 a 1982 3 5).length + 1 = 1997
  rw [List.length_append, List.length_set, Ls10_len, gJ_len (fun b => Lc9_len)]
theorem set_same {α : Type} {L : List α} {i : Nat} {v : α} (h : L[i]? = some v) : L.set i v = L := by
  refine List.ext_getElem? fun j => ?_
  by_cases hj : i = j
  · subst hj
    rw [h, List.getElem?_set_self (List.getElem?_eq_some_iff.mp h).1]
  · rw [List.getElem?_set_ne hj]
theorem Lr10_139 {kad : Nat → Nat} {a : Nat} : (Lr10 kad a)[139]? = some (103, (200, fun _ => .null)) := by
  unfold Lr10
  simp [List.getElem?_append, List.getElem_append, List.length_append, Lc0_len, Lc8_len, Lc5_len, Lc9_len]
theorem Lr10_180 {kad : Nat → Nat} {a : Nat} : (Lr10 kad a)[180]? = some (105, (5, fun _ => .null)) := by
  unfold Lr10
  simp [List.getElem?_append, List.getElem_append, List.length_append, Lc0_len, Lc8_len, Lc5_len, Lc9_len]
theorem Ls10_180 {kad : Nat → Nat} {a : Nat} : (Ls10 kad a)[180]? = some (105, (5, fun _ => .null)) := by
  unfold Ls10
  rw [List.getElem?_append_left (by rw [List.length_set, Lr10_len]; decide), List.getElem?_set_ne (by decide)]
  exact Lr10_180
set_option maxHeartbeats 1000000 in
theorem Lc10_ok {l : Launch} {kad : Nat → Nat} {d : Nat} (hd : 4 ≤ d) (M : AMem) (b c s : Nat) : aStm l kad d aM123 (0, ([(0, .ref b)], [])) (cSt M b [(10, (13, dfl 10))] c s) (.inl none) (cSt M b (Lc10 kad b) (c + 1996) (s + 21093)) := by
  obtain ⟨d, rfl⟩ : ∃ k, d = k + 1 := ⟨d - 1, by omega⟩
  refine it_head aMi123 rfl rfl rfl ?_
  refine it_obj (n := 1) (LC := Lc0 kad) (cc := 111) (ss := 4017) aMi123 aMi0 rfl rfl rfl rfl rfl (show vwCl[0]? = some (RX1, TX1, 16) from rfl) nw10_9 (Or.inl nl10_11) ni0 ⟨rfl, rfl, by decide +kernel, by decide⟩ (Lc0_ok (by omega)) rfl (fun _ => rfl) ⟨rfl, rfl⟩ (by simp [List.length_append, Lc0_len, Lc1_len, Lc2_len, Lc3_len, Lc4_len, Lc5_len, Lc6_len, Lc7_len, Lc8_len, Lc9_len]) ?_
  refine it_arr (n := 113) (len := 256) aMi123 rfl rfl rfl (Or.inl ⟨rfl, rfl⟩) (by decide) rfl (fun _ => rfl) ⟨rfl, rfl⟩ (by simp [List.length_append, Lc0_len, Lc1_len, Lc2_len, Lc3_len, Lc4_len, Lc5_len, Lc6_len, Lc7_len, Lc8_len, Lc9_len]) ?_
  refine it_obj (n := 114) (LC := Lc8) (cc := 25) (ss := 1035) aMi123 aMi79 rfl rfl rfl rfl rfl (show vwCl[8]? = some (RX10, TX10, 8) from rfl) nw10_20 (Or.inr nl10_22) ni8 ⟨rfl, rfl, by decide +kernel, by decide⟩ (Lc8_ok (by omega)) rfl (fun _ => rfl) ⟨rfl, rfl⟩ (by simp [List.length_append, Lc0_len, Lc1_len, Lc2_len, Lc3_len, Lc4_len, Lc5_len, Lc6_len, Lc7_len, Lc8_len, Lc9_len]) ?_
  refine it_refs (n := 140) (len := 200) (k0 := 3) (C := RX7) aMi123 rfl rfl rfl rfl (by simp [aAO, RX7]) na10_27 (by decide) rfl (fun _ => rfl) ⟨rfl, rfl⟩ (by simp [List.length_append, Lc0_len, Lc1_len, Lc2_len, Lc3_len, Lc4_len, Lc5_len, Lc6_len, Lc7_len, Lc8_len, Lc9_len]) ?_
  refine it_arr (n := 141) (len := 256) aMi123 rfl rfl rfl (Or.inl ⟨rfl, rfl⟩) (by decide) rfl (fun _ => rfl) ⟨rfl, rfl⟩ (by simp [List.length_append, Lc0_len, Lc1_len, Lc2_len, Lc3_len, Lc4_len, Lc5_len, Lc6_len, Lc7_len, Lc8_len, Lc9_len]) ?_
  refine it_arr (n := 142) (len := 256) aMi123 rfl rfl rfl (Or.inl ⟨rfl, rfl⟩) (by decide) rfl (fun _ => rfl) ⟨rfl, rfl⟩ (by simp [List.length_append, Lc0_len, Lc1_len, Lc2_len, Lc3_len, Lc4_len, Lc5_len, Lc6_len, Lc7_len, Lc8_len, Lc9_len]) ?_
  refine it_obj (n := 143) (LC := Lc8) (cc := 25) (ss := 1035) aMi123 aMi79 rfl rfl rfl rfl rfl (show vwCl[8]? = some (RX10, TX10, 8) from rfl) nw10_20 (Or.inr nl10_22) ni8 ⟨rfl, rfl, by decide +kernel, by decide⟩ (Lc8_ok (by omega)) rfl (fun _ => rfl) ⟨rfl, rfl⟩ (by simp [List.length_append, Lc0_len, Lc1_len, Lc2_len, Lc3_len, Lc4_len, Lc5_len, Lc6_len, Lc7_len, Lc8_len, Lc9_len]) ?_
  refine it_obj (n := 169) (LC := Lc5) (cc := 8) (ss := 63) aMi123 aMi66 rfl rfl rfl rfl rfl (show vwCl[5]? = some (RX7, TX7, 6) from rfl) nw10_27 (Or.inr nl10_42) ni5 ⟨rfl, rfl, by decide +kernel, by decide⟩ (Lc5_ok (by omega)) rfl (fun _ => rfl) ⟨rfl, rfl⟩ (by simp [List.length_append, Lc0_len, Lc1_len, Lc2_len, Lc3_len, Lc4_len, Lc5_len, Lc6_len, Lc7_len, Lc8_len, Lc9_len]) ?_
  refine it_obj (n := 178) (LC := Lc9) (cc := 2) (ss := 12) aMi123 aMi115 rfl rfl rfl rfl rfl (show vwCl[9]? = some (RX11, TX11, 10) from rfl) nw10_47 (Or.inr nl10_49) ni9 ⟨rfl, rfl, by decide +kernel, by decide⟩ (Lc9_ok (by omega)) rfl (fun _ => rfl) ⟨rfl, rfl⟩ (by simp [List.length_append, Lc0_len, Lc1_len, Lc2_len, Lc3_len, Lc4_len, Lc5_len, Lc6_len, Lc7_len, Lc8_len, Lc9_len]) ?_
  refine it_refs (n := 181) (len := 5) (k0 := 5) (C := RX11) aMi123 rfl rfl rfl rfl (by simp [aAO, RX11]) na10_47 (by decide) rfl (fun _ => rfl) ⟨rfl, rfl⟩ (by simp [List.length_append, Lc0_len, Lc1_len, Lc2_len, Lc3_len, Lc4_len, Lc5_len, Lc6_len, Lc7_len, Lc8_len, Lc9_len]) ?_
  refine cs_ops aMi123 2 _ rfl ?_
  have e1 : cJ Lc5 10 13 (Lf10 b) (Lr10 kad b) b 182 9 139 3 200 0 = (10, (13, Lf10 b)) :: Lr10 kad b := by
    unfold cJ
    rw [show aJ b 182 9 0 = fun _ => .null from rfl, show gJ Lc5 b 182 9 0 = [] from rfl, List.append_nil, set_same Lr10_139]
  have e2 : cJ Lc9 10 13 (Lf10 b) (Ls10 kad b) b 1982 3 180 5 5 0 = (10, (13, Lf10 b)) :: Ls10 kad b := by
    unfold cJ
    rw [show aJ b 1982 3 0 = fun _ => .null from rfl, show gJ Lc9 b 1982 3 0 = [] from rfl, List.append_nil, set_same Ls10_180]
  have h := it_loop (l := l) (kad := kad) (d := d) (a := b) (M := M) (r := .inl none) (S9 := cSt M b (Lc10 kad b) (c + 1996) (s + 21093)) (c := c + 181) (s := s + 7183) (LC := Lc5) (cc := 8) (ss := 63) (w := 9) (q := 182) (p' := 139) (k0 := 3) (n := 200) (ci := 10) (N := 13) (f := Lf10 b) (R := Lr10 kad b) (k := 4) (p0 := 106) (pb := 110) (pE := 132) aMi123 aMi66 (by decide) (by decide) (fun _ => rfl) rfl rfl (fun _ => rfl) rfl rfl (fun _ _ => rfl) rfl rfl rfl rfl (fun _ => rfl) rfl (show vwCl[5]? = some (RX7, TX7, 6) from rfl) (by decide) nw10_27 (Or.inr nl10_42) ni5 ⟨rfl, rfl, by decide +kernel, by decide⟩ (Lc5_ok (by omega)) (fun _ => Lc5_len) (fun _ => ⟨_, rfl⟩) rfl (by rw [Lr10_len]) (by rw [Lr10_len]; decide) ?_ 200 0 rfl
  · rw [e1] at h
    exact h
  refine cs_ops (f1 := (134, ([(1, .int (nI 0)), (0, .ref b)], []))) aMi123 2 _ rfl ?_
  have h := it_loop (l := l) (kad := kad) (d := d) (a := b) (M := M) (r := .inl none) (S9 := cSt M b (Lc10 kad b) (c + 1996) (s + 21093)) (c := c + 181 + 200 * (1 + 8)) (s := s + 7183 + 200 * (6 + 63)) (LC := Lc9) (cc := 2) (ss := 12) (w := 3) (q := 1982) (p' := 180) (k0 := 5) (n := 5) (ci := 10) (N := 13) (f := Lf10 b) (R := Ls10 kad b) (k := 11) (p0 := 134) (pb := 136) (pE := 158) aMi123 aMi115 (by decide) (by decide) (fun _ => rfl) rfl rfl (fun _ => rfl) rfl rfl (fun _ _ => rfl) rfl rfl rfl rfl (fun _ => rfl) rfl (show vwCl[9]? = some (RX11, TX11, 10) from rfl) (by decide) nw10_47 (Or.inr nl10_49) ni9 ⟨rfl, rfl, by decide +kernel, by decide⟩ (Lc9_ok (by omega)) (fun _ => Lc9_len) (fun _ => ⟨_, rfl⟩) rfl (by rw [Ls10_len]) (by rw [Ls10_len]; decide) ?_ 5 0 rfl
  · rw [e2] at h
    exact h
  exact cs_end aMi123 rfl rfl rfl (by omega) (by omega)
