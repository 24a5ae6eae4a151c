/-! the helpers of the law: their instructions, their handlers, by program -/
def aHP0 : List (Nat × (Instr × Nat)) := [(0, (.iload_n 1, 1)), (1, (.ifCond .ne 11, 3)), (4, (.aload_n 0, 1)), (5, (.iload_n 2, 1)), (6, (.invokevirtual 8, 3)), (9, (.goto 123, 3)), (12, (.iload_n 1, 1)), (13, (.iconst 1, 1)), (14, (.if_icmp .ne 11, 3)), (17, (.aload_n 0, 1)), (18, (.iload_n 2, 1)), (19, (.invokevirtual 14, 3)), (22, (.goto 110, 3)), (25, (.iload_n 1, 1)), (26, (.iconst 2, 1)), (27, (.if_icmp .ne 11, 3)), (30, (.aload_n 0, 1)), (31, (.iload_n 2, 1)), (32, (.invokevirtual 17, 3)), (35, (.goto 97, 3)), (38, (.iload_n 1, 1)), (39, (.iconst 3, 1)), (40, (.if_icmp .ne 11, 3)), (43, (.aload_n 0, 1)), (44, (.iload_n 2, 1)), (45, (.invokevirtual 20, 3)), (48, (.goto 84, 3)), (51, (.iload_n 1, 1)), (52, (.iconst 4, 1)), (53, (.if_icmp .ne 10, 3)), (56, (.aload_n 0, 1)), (57, (.invokevirtual 23, 3)), (60, (.goto 72, 3)), (63, (.iload_n 1, 1)), (64, (.iconst 5, 1)), (65, (.if_icmp .ne 14, 3)), (68, (.aload_n 0, 1)), (69, (.iload 4, 2)), (71, (.iload 5, 2)), (73, (.invokevirtual 27, 3)), (76, (.goto 56, 3)), (79, (.iload_n 1, 1)), (80, (.bipush 6, 2)), (82, (.if_icmp .ne 15, 3)), (85, (.aload_n 0, 1)), (86, (.iload_n 2, 1)), (87, (.iload 4, 2)), (89, (.iload 5, 2)), (91, (.invokevirtual 31, 3)), (94, (.goto 38, 3)), (97, (.iload_n 1, 1)), (98, (.bipush 7, 2)), (100, (.if_icmp .ne 17, 3)), (103, (.aload_n 0, 1)), (104, (.iload_n 2, 1)), (105, (.iload 4, 2)), (107, (.iload 5, 2)), (109, (.iconst 0, 1)), (110, (.iload_n 3, 1)), (111, (.invokevirtual 35, 3)), (114, (.goto 18, 3)), (117, (.aload_n 0, 1)), (118, (.iload_n 2, 1)), (119, (.iload_n 3, 1)), (120, (.iconst 4, 1)), (121, (.idiv, 1)), (122, (.iload_n 3, 1)), (123, (.iconst 4, 1)), (124, (.irem, 1)), (125, (.iload 4, 2)), (127, (.iload 5, 2)), (129, (.invokevirtual 39, 3)), (132, (.ireturn, 1)), (133, (.astore 6, 2)), (135, (.ldc 44, 2)), (137, (.ireturn, 1)), (138, (.astore 6, 2)), (140, (.ldc 44, 2)), (142, (.ireturn, 1))]
def aHM0 : AMeth := (yL_line, (cL_line, (7, (some .int, (11, aHP0)))))
theorem aHk0 : okT aHM0 := okT_of (by decide +kernel)
def aHE0 : List (Nat × Nat × Nat × Nat) := [(0, 132, 133, 42), (0, 132, 138, 45)]
theorem aHw0 : Cond.codeWith yL_line cL_line 7 (some .int) aHE0 ∈ aTB := aTB_all (L := [Cond.codeWith yL_line cL_line 7 (some .int) aHE0]) (by decide +kernel) _ List.mem_cons_self
theorem aHs0 : ∀ x ∈ [Cond.static yL_line, Cond.initialized RL, Cond.classLink RL 42 (aEC 0), Cond.classLink RL 45 (aEC 1)], x ∈ aTB := aTB_all (by decide +kernel)
def aHP1 : List (Nat × (Instr × Nat)) := [(0, (.iload_n 1, 1)), (1, (.ifCond .ne 10, 3)), (4, (.aload_n 0, 1)), (5, (.invokevirtual 47, 3)), (8, (.goto 159, 3)), (11, (.iload_n 1, 1)), (12, (.iconst 1, 1)), (13, (.if_icmp .ne 10, 3)), (16, (.aload_n 0, 1)), (17, (.invokevirtual 50, 3)), (20, (.goto 147, 3)), (23, (.iload_n 1, 1)), (24, (.iconst 2, 1)), (25, (.if_icmp .ne 10, 3)), (28, (.aload_n 0, 1)), (29, (.invokevirtual 53, 3)), (32, (.goto 135, 3)), (35, (.iload_n 1, 1)), (36, (.iconst 3, 1)), (37, (.if_icmp .ne 10, 3)), (40, (.aload_n 0, 1)), (41, (.invokevirtual 56, 3)), (44, (.goto 123, 3)), (47, (.iload_n 1, 1)), (48, (.iconst 4, 1)), (49, (.if_icmp .ne 11, 3)), (52, (.aload_n 0, 1)), (53, (.iload_n 2, 1)), (54, (.invokevirtual 59, 3)), (57, (.goto 110, 3)), (60, (.iload_n 1, 1)), (61, (.iconst 5, 1)), (62, (.if_icmp .ne 12, 3)), (65, (.aload_n 0, 1)), (66, (.iload_n 2, 1)), (67, (.iload_n 3, 1)), (68, (.invokevirtual 62, 3)), (71, (.goto 96, 3)), (74, (.iload_n 1, 1)), (75, (.bipush 6, 2)), (77, (.if_icmp .ne 11, 3)), (80, (.aload_n 0, 1)), (81, (.iload_n 2, 1)), (82, (.invokevirtual 65, 3)), (85, (.goto 82, 3)), (88, (.iload_n 1, 1)), (89, (.bipush 7, 2)), (91, (.if_icmp .ne 11, 3)), (94, (.aload_n 0, 1)), (95, (.iload_n 2, 1)), (96, (.invokevirtual 68, 3)), (99, (.goto 68, 3)), (102, (.iload_n 1, 1)), (103, (.bipush 8, 2)), (105, (.if_icmp .ne 11, 3)), (108, (.aload_n 0, 1)), (109, (.iload_n 2, 1)), (110, (.invokevirtual 71, 3)), (113, (.goto 54, 3)), (116, (.iload_n 1, 1)), (117, (.bipush 9, 2)), (119, (.if_icmp .ne 11, 3)), (122, (.aload_n 0, 1)), (123, (.iload_n 2, 1)), (124, (.invokevirtual 74, 3)), (127, (.goto 40, 3)), (130, (.iload_n 1, 1)), (131, (.bipush 10, 2)), (133, (.if_icmp .ne 11, 3)), (136, (.aload_n 0, 1)), (137, (.iload_n 2, 1)), (138, (.invokevirtual 77, 3)), (141, (.goto 26, 3)), (144, (.iload_n 1, 1)), (145, (.bipush 11, 2)), (147, (.if_icmp .ne 16, 3)), (150, (.aload_n 0, 1)), (151, (.iload_n 2, 1)), (152, (.iload_n 3, 1)), (153, (.iload 4, 2)), (155, (.iload 5, 2)), (157, (.invokevirtual 80, 3)), (160, (.goto 7, 3)), (163, (.aload_n 0, 1)), (164, (.invokevirtual 84, 3)), (167, (.ireturn, 1)), (168, (.astore 6, 2)), (170, (.ldc 44, 2)), (172, (.ireturn, 1)), (173, (.astore 6, 2)), (175, (.ldc 44, 2)), (177, (.ireturn, 1))]
def aHM1 : AMeth := (yL_does, (cL_does, (7, (some .int, (11, aHP1)))))
theorem aHk1 : okT aHM1 := okT_of (by decide +kernel)
def aHE1 : List (Nat × Nat × Nat × Nat) := [(0, 167, 168, 42), (0, 167, 173, 45)]
theorem aHw1 : Cond.codeWith yL_does cL_does 7 (some .int) aHE1 ∈ aTB := aTB_all (L := [Cond.codeWith yL_does cL_does 7 (some .int) aHE1]) (by decide +kernel) _ List.mem_cons_self
theorem aHs1 : ∀ x ∈ [Cond.static yL_does, Cond.initialized RL, Cond.classLink RL 42 (aEC 0), Cond.classLink RL 45 (aEC 1)], x ∈ aTB := aTB_all (by decide +kernel)
def aHP2 : List (Nat × (Instr × Nat)) := [(0, (.aload_n 0, 1)), (1, (.iload_n 1, 1)), (2, (.invokevirtual 87, 3)), (5, (.ireturn, 1)), (6, (.astore_n 2, 1)), (7, (.ldc 44, 2)), (9, (.ireturn, 1))]
def aHM2 : AMeth := (yL_result, (cL_result, (3, (some .int, (11, aHP2)))))
theorem aHk2 : okT aHM2 := okT_of (by decide +kernel)
def aHE2 : List (Nat × Nat × Nat × Nat) := [(0, 5, 6, 90)]
theorem aHw2 : Cond.codeWith yL_result cL_result 3 (some .int) aHE2 ∈ aTB := aTB_all (L := [Cond.codeWith yL_result cL_result 3 (some .int) aHE2]) (by decide +kernel) _ List.mem_cons_self
theorem aHs2 : ∀ x ∈ [Cond.static yL_result, Cond.initialized RL, Cond.classLink RL 90 (aEC 2)], x ∈ aTB := aTB_all (by decide +kernel)
def aHP3 : List (Nat × (Instr × Nat)) := [(0, (.aload_n 0, 1)), (1, (.iload_n 1, 1)), (2, (.invokevirtual 92, 3)), (5, (.ireturn, 1)), (6, (.astore_n 2, 1)), (7, (.ldc 44, 2)), (9, (.ireturn, 1))]
def aHM3 : AMeth := (yL_size, (cL_size, (3, (some .int, (11, aHP3)))))
theorem aHk3 : okT aHM3 := okT_of (by decide +kernel)
def aHE3 : List (Nat × Nat × Nat × Nat) := [(0, 5, 6, 95)]
theorem aHw3 : Cond.codeWith yL_size cL_size 3 (some .int) aHE3 ∈ aTB := aTB_all (L := [Cond.codeWith yL_size cL_size 3 (some .int) aHE3]) (by decide +kernel) _ List.mem_cons_self
theorem aHs3 : ∀ x ∈ [Cond.static yL_size, Cond.initialized RL, Cond.classLink RL 95 (aEC 3)], x ∈ aTB := aTB_all (by decide +kernel)
def aHM (h : Nat) : AMeth := match h with
  | 0 => aHM0
  | 1 => aHM1
  | 2 => aHM2
  | _ => aHM3
def aHE (h : Nat) : List (Nat × Nat × Nat × Nat) := match h with
  | 0 => aHE0
  | 1 => aHE1
  | 2 => aHE2
  | _ => aHE3
/-- the calls of helpers in the law: which helper, how many arguments -/
def aHT (oc : Nat) : List (Nat × (Nat × Nat)) := match oc with
  | 11 => [(103, (0, 6)), (107, (1, 6)), (146, (2, 2)), (152, (3, 2))]
  | _ => []
theorem aHl : ∀ x ∈ [Cond.methodLink RL 103 yL_line, Cond.methodLink RL 107 yL_does, Cond.methodLink RL 146 yL_result, Cond.methodLink RL 152 yL_size], x ∈ aTB := aTB_all (by decide +kernel)
theorem aHT_spec {oc idx h np : Nat} {own : String} (hq : aFind (aHT oc) idx = some (h, np)) (ho : aCn[oc]? = some own) : own = RL ∧ h < 4 ∧ Cond.methodLink RL idx (aHM h).1 ∈ aTB ∧ (parseMethodDescriptor (aHM h).1.desc).map (fun d => d.parameters.length) = some np := by
  match oc, hq with
  | 0, hq => cases hq
  | 1, hq => cases hq
  | 2, hq => cases hq
  | 3, hq => cases hq
  | 4, hq => cases hq
  | 5, hq => cases hq
  | 6, hq => cases hq
  | 7, hq => cases hq
  | 8, hq => cases hq
  | 9, hq => cases hq
  | 10, hq => cases hq
  | 11, hq =>
    have e : own = RL := (Option.some.inj ho).symm
    have hm := aFind_mem hq
    simp only [aHT, List.mem_cons, List.not_mem_nil, or_false, Prod.mk.injEq] at hm
    rcases hm with ⟨rfl, rfl, rfl⟩ | ⟨rfl, rfl, rfl⟩ | ⟨rfl, rfl, rfl⟩ | ⟨rfl, rfl, rfl⟩
    · exact ⟨e, by decide, aHl _ (by simp [aHM, aHM0]), by decide +kernel⟩
    · exact ⟨e, by decide, aHl _ (by simp [aHM, aHM1]), by decide +kernel⟩
    · exact ⟨e, by decide, aHl _ (by simp [aHM, aHM2]), by decide +kernel⟩
    · exact ⟨e, by decide, aHl _ (by simp [aHM, aHM3]), by decide +kernel⟩
  | n + 12, hq => cases hq
theorem aH_all {h : Nat} (h4 : h < 4) : okT (aHM h) ∧ plainName (aHM h).1.cls = true ∧ (aHM h).1.cls = RL ∧ aRt (aHM h) = some .int ∧ Cond.codeWith (aHM h).1 (aHM h).2.1 (aNl (aHM h)) (aRt (aHM h)) (aHE h) ∈ aTB ∧ Cond.static (aHM h).1 ∈ aTB ∧ Cond.initialized (aHM h).1.cls ∈ aTB ∧ aNl (aHM h) ≤ 21 ∧ ((aHM h).1.cls ≠ "java/lang/invoke/MethodHandle" ∧ (aHM h).1.cls ≠ "java/lang/invoke/VarHandle") ∧ aCn[aOc (aHM h)]? = some (aHM h).1.cls := by
  match h, h4 with
  | 0, _ => exact ⟨aHk0, by decide +kernel, rfl, rfl, aHw0, aHs0 _ (by simp [aHM, aHM0]), aHs0 _ (by simp [aHM, aHM0, yL_line]), by decide, by decide +kernel, rfl⟩
  | 1, _ => exact ⟨aHk1, by decide +kernel, rfl, rfl, aHw1, aHs1 _ (by simp [aHM, aHM1]), aHs1 _ (by simp [aHM, aHM1, yL_does]), by decide, by decide +kernel, rfl⟩
  | 2, _ => exact ⟨aHk2, by decide +kernel, rfl, rfl, aHw2, aHs2 _ (by simp [aHM, aHM2]), aHs2 _ (by simp [aHM, aHM2, yL_result]), by decide, by decide +kernel, rfl⟩
  | 3, _ => exact ⟨aHk3, by decide +kernel, rfl, rfl, aHw3, aHs3 _ (by simp [aHM, aHM3]), aHs3 _ (by simp [aHM, aHM3, yL_size]), by decide, by decide +kernel, rfl⟩
theorem aHq : ∀ x ∈ [Cond.constant RL 44 (Int32.ofInt (-99999999))], x ∈ aTB := aTB_all (by decide +kernel)
def aHxl0 : List (Nat × ExceptionTableEntry) := [(0, ⟨0, 132, 133, 42⟩), (1, ⟨0, 132, 138, 45⟩)]
theorem aHx0_0 {pc : Nat} (hc : covers (⟨0, 132, 133, 42⟩ : ExceptionTableEntry) pc = true) : hCp aHM0 aHE0 (aEC 0) pc (Int32.ofInt (-99999999)) :=
  ⟨0, [], ⟨0, 132, 133, 42⟩, [⟨0, 132, 138, 45⟩], 135, 44, by decide, rfl, rfl, fun z hz => absurd hz List.not_mem_nil, hc, by decide, aHs0 _ (by simp), fun q lv => ⟨_, rfl⟩, rfl, aHq _ List.mem_cons_self, rfl⟩
theorem aHx0_1 {pc : Nat} (hc : covers (⟨0, 132, 138, 45⟩ : ExceptionTableEntry) pc = true) : hCp aHM0 aHE0 (aEC 1) pc (Int32.ofInt (-99999999)) :=
  ⟨1, [⟨0, 132, 133, 42⟩], ⟨0, 132, 138, 45⟩, [], 140, 44, by decide, rfl, rfl, fun z hz => by
      rcases List.mem_singleton.mp hz with rfl
      exact ⟨by decide, 0, by decide, by decide, aHs0 _ (by simp)⟩, hc, by decide, aHs0 _ (by simp), fun q lv => ⟨_, rfl⟩, rfl, aHq _ List.mem_cons_self, rfl⟩
def aHxl1 : List (Nat × ExceptionTableEntry) := [(0, ⟨0, 167, 168, 42⟩), (1, ⟨0, 167, 173, 45⟩)]
theorem aHx1_0 {pc : Nat} (hc : covers (⟨0, 167, 168, 42⟩ : ExceptionTableEntry) pc = true) : hCp aHM1 aHE1 (aEC 0) pc (Int32.ofInt (-99999999)) :=
  ⟨0, [], ⟨0, 167, 168, 42⟩, [⟨0, 167, 173, 45⟩], 170, 44, by decide, rfl, rfl, fun z hz => absurd hz List.not_mem_nil, hc, by decide, aHs1 _ (by simp), fun q lv => ⟨_, rfl⟩, rfl, aHq _ List.mem_cons_self, rfl⟩
theorem aHx1_1 {pc : Nat} (hc : covers (⟨0, 167, 173, 45⟩ : ExceptionTableEntry) pc = true) : hCp aHM1 aHE1 (aEC 1) pc (Int32.ofInt (-99999999)) :=
  ⟨1, [⟨0, 167, 168, 42⟩], ⟨0, 167, 173, 45⟩, [], 175, 44, by decide, rfl, rfl, fun z hz => by
      rcases List.mem_singleton.mp hz with rfl
      exact ⟨by decide, 0, by decide, by decide, aHs1 _ (by simp)⟩, hc, by decide, aHs1 _ (by simp), fun q lv => ⟨_, rfl⟩, rfl, aHq _ List.mem_cons_self, rfl⟩
def aHxl2 : List (Nat × ExceptionTableEntry) := [(2, ⟨0, 5, 6, 90⟩)]
theorem aHx2_0 {pc : Nat} (hc : covers (⟨0, 5, 6, 90⟩ : ExceptionTableEntry) pc = true) : hCp aHM2 aHE2 (aEC 2) pc (Int32.ofInt (-99999999)) :=
  ⟨2, [], ⟨0, 5, 6, 90⟩, [], 7, 44, by decide, rfl, rfl, fun z hz => absurd hz List.not_mem_nil, hc, by decide, aHs2 _ (by simp), fun q lv => ⟨_, rfl⟩, rfl, aHq _ List.mem_cons_self, rfl⟩
def aHxl3 : List (Nat × ExceptionTableEntry) := [(3, ⟨0, 5, 6, 95⟩)]
theorem aHx3_0 {pc : Nat} (hc : covers (⟨0, 5, 6, 95⟩ : ExceptionTableEntry) pc = true) : hCp aHM3 aHE3 (aEC 3) pc (Int32.ofInt (-99999999)) :=
  ⟨3, [], ⟨0, 5, 6, 95⟩, [], 7, 44, by decide, rfl, rfl, fun z hz => absurd hz List.not_mem_nil, hc, by decide, aHs3 _ (by simp), fun q lv => ⟨_, rfl⟩, rfl, aHq _ List.mem_cons_self, rfl⟩
def aHxl (h : Nat) : List (Nat × ExceptionTableEntry) := match h with
  | 0 => aHxl0
  | 1 => aHxl1
  | 2 => aHxl2
  | _ => aHxl3
/-- the helper catches this one there -/
def aHex (h : Nat) (E : String) (pc : Nat) : Bool := (aHxl h).any (fun q => decide (E = aEC q.1) && covers q.2 pc)
theorem aHex_ok {h pc : Nat} {E : String} (h4 : h < 4) (hx : aHex h E pc = true) : hCp (aHM h) (aHE h) E pc (Int32.ofInt (-99999999)) := by
  obtain ⟨q, hq, h2⟩ := List.any_eq_true.mp hx
  rw [Bool.and_eq_true, decide_eq_true_eq] at h2
  obtain ⟨h2, h3⟩ := h2
  subst h2
  match h, h4 with
  | 0, _ =>
    simp only [aHxl, aHxl0, List.mem_cons, List.not_mem_nil, or_false] at hq
    rcases hq with rfl | rfl
    · exact aHx0_0 h3
    · exact aHx0_1 h3
  | 1, _ =>
    simp only [aHxl, aHxl1, List.mem_cons, List.not_mem_nil, or_false] at hq
    rcases hq with rfl | rfl
    · exact aHx1_0 h3
    · exact aHx1_1 h3
  | 2, _ =>
    simp only [aHxl, aHxl2, List.mem_cons, List.not_mem_nil, or_false] at hq
    subst hq
    exact aHx2_0 h3
  | 3, _ =>
    simp only [aHxl, aHxl3, List.mem_cons, List.not_mem_nil, or_false] at hq
    subst hq
    exact aHx3_0 h3
/-- plain instructions, as far as they go -/
def aPl (y : AMeth) : Nat → AFr → AFr
  | 0, f => f
  | n + 1, f => match aFind (aPs y) f.1 with
    | none => f
    | some q => match aRet (aRt y) q.1 f.2.2 with
      | some _ => f
      | none => match aOp (aNl y) q.1 f.1 f.2.1 f.2.2 with
        | none => f
        | some f1 => aPl y n f1
theorem aPl_ops {y : AMeth} : ∀ (n : Nat) (f : AFr), ∃ k, aOpsN y k f = some (aPl y n f) := by
  intro n
  induction n with
  | zero => intro f; exact ⟨0, rfl⟩
  | succ n ih =>
    intro f
    unfold aPl
    split
    · exact ⟨0, rfl⟩
    · rename_i q hq
      split
      · exact ⟨0, rfl⟩
      · rename_i hr
        split
        · exact ⟨0, rfl⟩
        · rename_i f1 hf
          obtain ⟨k, hk⟩ := ih f1
          refine ⟨k + 1, ?_⟩
          unfold aOpsN
          rw [hq]
          dsimp only
          rw [hr]
          dsimp only
          rw [hf]
          exact hk
def aHcl (y : AMeth) (ins : Instr) (st : List Value) : Option (Nat × (List Value × List Value)) := match ins with
  | .invokestatic idx => match aFind (aHT (aOc y)) idx with
    | some q => if (st.take q.2).length = q.2 ∧ ((st.drop q.2).map fun v => v.category).sum ≤ 8 ∧ (lg_sl (st.take q.2).reverse).length ≤ aNl (aHM q.1) then some (q.1, ((st.take q.2).reverse, st.drop q.2)) else none
    | none => none
  | _ => none
def aHin (h : Nat) (argv : List Value) : AFr := aPl (aHM h) 80 (0, (lv_args 0 argv, []))
def aHca (h : Nat) (argv : List Value) (M : AMem) : Option (Nat × (List Value × List Value)) := match aFind (aPs (aHM h)) (aHin h argv).1 with
  | some (.invokevirtual idx, 3) => match aCall (aHM h) (.invokevirtual idx) (aHin h argv).2.2 M with
    | some (mi, (0, (av, r))) => some (mi, (av, r))
    | _ => none
  | _ => none
def aHou (h : Nat) (f : AFr) : Option Int32 := match aFind (aPs (aHM h)) (aPl (aHM h) 20 f).1, (aPl (aHM h) 20 f).2.2 with
  | some (.ireturn, 1), [.int x] => some x
  | _, _ => none
/-- what comes of the helper's call -/
def aHre (h : Nat) (argv rst : List Value) (r : ARes) : Option Int32 := match r with
  | .inl v => aHou h ((aHin h argv).1 + 3, ((aHin h argv).2.1, v.toList ++ rst))
  | .inr E => if aHex h E (aHin h argv).1 = true then some (Int32.ofInt (-99999999)) else none
