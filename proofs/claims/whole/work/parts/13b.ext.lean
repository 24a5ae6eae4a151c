/-! constants, the library's own, throws: tables and function -/
def aGT (oc : Nat) : List (Nat × (Nat × Nat)) := match oc with
  | 0 => [(113, (8, 620)), (121, (6, 658)), (127, (9, 585)), (154, (2, 635)), (157, (3, 641)), (166, (7, 660)), (183, (5, 629))]
  | 7 => [(7, (0, 163))]
  | 10 => [(70, (0, 878)), (80, (1, 914)), (87, (2, 927)), (93, (3, 935)), (96, (4, 943)), (99, (5, 952)), (102, (6, 960)), (105, (7, 968)), (108, (8, 976))]
  | _ => []
def aGN (j : Nat) : String × (String × String) := if j = 9 then ("KernelGym$1", ("$SwitchMap$KernelGym$Does", "[I")) else ("KernelGym$Does", (aEn.getD j "", "LKernelGym$Does;"))
def aGchk (oc : Nat) (q : Nat × (Nat × Nat)) : Bool := match aCn[oc]? with
  | some own => decide (q.2.1 ≤ 9) && decide (lw_tbl[q.2.2]? = some (Cond.fieldLink own q.1 (aGN q.2.1).1 (aGN q.2.1).2.1 (aGN q.2.1).2.2)) && goodWord (Cond.fieldLink own q.1 (aGN q.2.1).1 (aGN q.2.1).2.1 (aGN q.2.1).2.2)
  | none => false
theorem aGT_ok0 : (aGT 0).all (aGchk 0) = true := by decide +kernel
theorem aGT_ok7 : (aGT 7).all (aGchk 7) = true := by decide +kernel
theorem aGT_ok10 : (aGT 10).all (aGchk 10) = true := by decide +kernel
theorem aGT_ok : ∀ oc : Nat, (aGT oc).all (aGchk oc) = true := by
  intro oc
  match oc with
  | 0 => exact aGT_ok0
  | 1 => rfl
  | 2 => rfl
  | 3 => rfl
  | 4 => rfl
  | 5 => rfl
  | 6 => rfl
  | 7 => exact aGT_ok7
  | 8 => rfl
  | 9 => rfl
  | 10 => exact aGT_ok10
  | 11 => rfl
  | 12 => rfl
  | 13 => rfl
  | n + 14 => rfl
def aXT (oc : Nat) : List (Nat × (Nat × Nat)) := match oc with
  | 0 => [(3, (3, 155)), (100, (1, 578)), (132, (0, 587))]
  | 1 => [(3, (3, 389)), (78, (2, 1207))]
  | 2 => [(3, (3, 249)), (75, (2, 1116))]
  | 3 => [(5, (3, 354)), (25, (2, 1034))]
  | 4 => [(3, (3, 255)), (25, (2, 1121))]
  | 5 => [(3, (3, 402))]
  | 6 => [(3, (3, 372)), (22, (2, 1409))]
  | 7 => [(1, (3, 162))]
  | 8 => [(3, (3, 243)), (73, (2, 1044))]
  | 9 => [(3, (3, 471)), (28, (2, 1493))]
  | 10 => [(3, (3, 147)), (125, (2, 989)), (288, (4, 1308)), (369, (1, 796))]
  | 11 => [(1, (3, 1538))]
  | _ => []
def aXN (k : Nat) : MethodName := if k = 0 then ⟨"KernelGym$Does", "ordinal", "()I"⟩ else if k = 1 then Lib.Math.max.name else if k = 2 then arraycopyName else if k = 3 then objectInit else Lib.Math.min.name
def aXchk (oc : Nat) (q : Nat × (Nat × Nat)) : Bool := match aCn[oc]? with
  | some own => decide (q.2.1 ≤ 4) && decide (lw_tbl[q.2.2]? = some (Cond.methodLink own q.1 (aXN q.2.1))) && goodWord (Cond.methodLink own q.1 (aXN q.2.1))
  | none => false
theorem aXT_ok0 : (aXT 0).all (aXchk 0) = true := by decide +kernel
theorem aXT_ok1 : (aXT 1).all (aXchk 1) = true := by decide +kernel
theorem aXT_ok2 : (aXT 2).all (aXchk 2) = true := by decide +kernel
theorem aXT_ok3 : (aXT 3).all (aXchk 3) = true := by decide +kernel
theorem aXT_ok4 : (aXT 4).all (aXchk 4) = true := by decide +kernel
theorem aXT_ok5 : (aXT 5).all (aXchk 5) = true := by decide +kernel
theorem aXT_ok6 : (aXT 6).all (aXchk 6) = true := by decide +kernel
theorem aXT_ok7 : (aXT 7).all (aXchk 7) = true := by decide +kernel
theorem aXT_ok8 : (aXT 8).all (aXchk 8) = true := by decide +kernel
theorem aXT_ok9 : (aXT 9).all (aXchk 9) = true := by decide +kernel
theorem aXT_ok10 : (aXT 10).all (aXchk 10) = true := by decide +kernel
theorem aXT_ok11 : (aXT 11).all (aXchk 11) = true := by decide +kernel
theorem aXT_ok : ∀ oc : Nat, (aXT oc).all (aXchk oc) = true := by
  intro oc
  match oc with
  | 0 => exact aXT_ok0
  | 1 => exact aXT_ok1
  | 2 => exact aXT_ok2
  | 3 => exact aXT_ok3
  | 4 => exact aXT_ok4
  | 5 => exact aXT_ok5
  | 6 => exact aXT_ok6
  | 7 => exact aXT_ok7
  | 8 => exact aXT_ok8
  | 9 => exact aXT_ok9
  | 10 => exact aXT_ok10
  | 11 => exact aXT_ok11
  | 12 => rfl
  | 13 => rfl
  | n + 14 => rfl
theorem aw_max_s : Cond.static Lib.Math.max.name ∈ aTB := aTB_in 579 (by decide +kernel) (by decide +kernel)
theorem aw_max_i : Cond.initialized "java/lang/Math" ∈ aTB := aTB_in 137 (by decide +kernel) (by decide +kernel)
theorem aw_max_c : Cond.code Lib.Math.max.name Lib.Math.max.code 2 (some .int) ∈ aTB := aTB_in 580 (by decide +kernel) (by decide +kernel)
theorem aw_min_s : Cond.static Lib.Math.min.name ∈ aTB := aTB_in 1309 (by decide +kernel) (by decide +kernel)
theorem aw_min_c : Cond.code Lib.Math.min.name Lib.Math.min.code 2 (some .int) ∈ aTB := aTB_in 1310 (by decide +kernel) (by decide +kernel)
theorem aw_cp_n : Cond.native arraycopyName ∈ aTB := aTB_in 991 (by decide +kernel) (by decide +kernel)
theorem aw_cp_s : Cond.static arraycopyName ∈ aTB := aTB_in 990 (by decide +kernel) (by decide +kernel)
theorem aw_cp_i : Cond.initialized "java/lang/System" ∈ aTB := aTB_in 139 (by decide +kernel) (by decide +kernel)
theorem aw_or_m : Cond.sameMethod "KernelGym$Does" "java/lang/Enum" "ordinal" "()I" ∈ aTB := aTB_in 588 (by decide +kernel) (by decide +kernel)
theorem aw_or_s : Cond.selects "KernelGym$Does" ⟨"KernelGym$Does", "ordinal", "()I"⟩ yJx29ce0_ordinal_8abf5 ∈ aTB := aTB_in 590 (by decide +kernel) (by decide +kernel)
theorem aw_or_i : Cond.instanceMethod yJx29ce0_ordinal_8abf5 ∈ aTB := aTB_in 591 (by decide +kernel) (by decide +kernel)
theorem aw_or_z : Cond.initialized "java/lang/Enum" ∈ aTB := aTB_in 120 (by decide +kernel) (by decide +kernel)
theorem aw_or_c : Cond.code yJx29ce0_ordinal_8abf5 cJx29ce0_ordinal_8abf5 1 (some .int) ∈ aTB := aTB_in 592 (by decide +kernel) (by decide +kernel)
theorem aw_or_f : Cond.fieldLink RJx29ce0 7 "java/lang/Enum" "ordinal" "I" ∈ aTB := aTB_in 2260 (by decide +kernel) (by decide +kernel)
theorem aw_ob_i : Cond.instanceMethod objectInit ∈ aTB := aTB_in 148 (by decide +kernel) (by decide +kernel)
theorem aw_ob_c : Cond.code objectInit ⟨#[0xb1]⟩ 1 none ∈ aTB := aTB_in 149 (by decide +kernel) (by decide +kernel)
theorem aw_ai : Cond.arrayClass .int ∈ aTB := aTB_in 185 (by decide +kernel) (by decide +kernel)
theorem aw_az : Cond.arrayClass .boolean ∈ aTB := aTB_in 186 (by decide +kernel) (by decide +kernel)
