/-! constants, the library's own, throws: tables and function -/
def aGT (oc : Nat) : List (Nat × (Nat × Nat)) := match oc with
  | 0 => [(113, (8, 728)), (121, (6, 762)), (127, (9, 693)), (154, (2, 741)), (157, (3, 746)), (166, (7, 763)), (183, (5, 736))]
  | 7 => [(7, (0, 104))]
  | 10 => [(70, (0, 578)), (80, (1, 611)), (87, (2, 661)), (93, (3, 639)), (96, (4, 617)), (99, (5, 645)), (102, (6, 623)), (105, (7, 629)), (108, (8, 651))]
  | _ => []
def aGN (j : Nat) : String × (String × String) := if j = 9 then ("KernelGym$1", ("$SwitchMap$KernelGym$Does", "[I")) else ("KernelGym$Does", (aEn.getD j "", "LKernelGym$Does;"))
def aGchk (oc : Nat) (q : Nat × (Nat × Nat)) : Bool := match aCn[oc]? with
  | some own => decide (q.2.1 ≤ 9) && decide (lw_tbl[q.2.2]? = some (Cond.fieldLink own q.1 (aGN q.2.1).1 (aGN q.2.1).2.1 (aGN q.2.1).2.2)) && goodWord (Cond.fieldLink own q.1 (aGN q.2.1).1 (aGN q.2.1).2.1 (aGN q.2.1).2.2)
  | none => false
theorem aGT_ok0 : (aGT 0).all (aGchk 0) = true := by decide +kernel
theorem aGT_ok7 : (aGT 7).all (aGchk 7) = true := by decide +kernel
theorem aGT_ok10 : (aGT 10).all (aGchk 10) = true := by decide +kernel
theorem aGT_ok : ∀ oc : Nat, (aGT oc).all (aGchk oc) = true := by
  intro oc
  match oc with
  | 0 => exact aGT_ok0
  | 1 => rfl
  | 2 => rfl
  | 3 => rfl
  | 4 => rfl
  | 5 => rfl
  | 6 => rfl
  | 7 => exact aGT_ok7
  | 8 => rfl
  | 9 => rfl
  | 10 => exact aGT_ok10
  | 11 => rfl
  | 12 => rfl
  | 13 => rfl
  | n + 14 => rfl
def aXT (oc : Nat) : List (Nat × (Nat × Nat)) := match oc with
  | 0 => [(3, (3, 96)), (100, (1, 686)), (132, (0, 695))]
  | 1 => [(3, (3, 329)), (78, (2, 998))]
  | 2 => [(3, (3, 190)), (75, (2, 893))]
  | 3 => [(5, (3, 294)), (25, (2, 812))]
  | 4 => [(3, (3, 196)), (25, (2, 898))]
  | 5 => [(3, (3, 342))]
  | 6 => [(3, (3, 312)), (22, (2, 1140))]
  | 7 => [(1, (3, 103))]
  | 8 => [(3, (3, 184)), (73, (2, 822))]
  | 9 => [(3, (3, 410)), (28, (2, 1184))]
  | 10 => [(3, (3, 88)), (125, (2, 773)), (288, (4, 1099)), (369, (1, 1284))]
  | _ => []
def aXN (k : Nat) : MethodName := if k = 0 then ⟨"KernelGym$Does", "ordinal", "()I"⟩ else if k = 1 then Lib.Math.max.name else if k = 2 then arraycopyName else if k = 3 then objectInit else Lib.Math.min.name
def aXchk (oc : Nat) (q : Nat × (Nat × Nat)) : Bool := match aCn[oc]? with
  | some own => decide (q.2.1 ≤ 4) && decide (lw_tbl[q.2.2]? = some (Cond.methodLink own q.1 (aXN q.2.1))) && goodWord (Cond.methodLink own q.1 (aXN q.2.1))
  | none => false
theorem aXT_ok0 : (aXT 0).all (aXchk 0) = true := by decide +kernel
theorem aXT_ok1 : (aXT 1).all (aXchk 1) = true := by decide +kernel
theorem aXT_ok2 : (aXT 2).all (aXchk 2) = true := by decide +kernel
theorem aXT_ok3 : (aXT 3).all (aXchk 3) = true := by decide +kernel
theorem aXT_ok4 : (aXT 4).all (aXchk 4) = true := by decide +kernel
theorem aXT_ok5 : (aXT 5).all (aXchk 5) = true := by decide +kernel
theorem aXT_ok6 : (aXT 6).all (aXchk 6) = true := by decide +kernel
theorem aXT_ok7 : (aXT 7).all (aXchk 7) = true := by decide +kernel
theorem aXT_ok8 : (aXT 8).all (aXchk 8) = true := by decide +kernel
theorem aXT_ok9 : (aXT 9).all (aXchk 9) = true := by decide +kernel
theorem aXT_ok10 : (aXT 10).all (aXchk 10) = true := by decide +kernel
theorem aXT_ok : ∀ oc : Nat, (aXT oc).all (aXchk oc) = true := by
  intro oc
  match oc with
  | 0 => exact aXT_ok0
  | 1 => exact aXT_ok1
  | 2 => exact aXT_ok2
  | 3 => exact aXT_ok3
  | 4 => exact aXT_ok4
  | 5 => exact aXT_ok5
  | 6 => exact aXT_ok6
  | 7 => exact aXT_ok7
  | 8 => exact aXT_ok8
  | 9 => exact aXT_ok9
  | 10 => exact aXT_ok10
  | 11 => rfl
  | 12 => rfl
  | 13 => rfl
  | n + 14 => rfl
theorem aw_max_s : Cond.static Lib.Math.max.name ∈ aTB := aTB_in 687 (by decide +kernel) (by decide +kernel)
theorem aw_max_i : Cond.initialized "java/lang/Math" ∈ aTB := aTB_in 78 (by decide +kernel) (by decide +kernel)
theorem aw_max_c : Cond.code Lib.Math.max.name Lib.Math.max.code 2 (some .int) ∈ aTB := aTB_in 688 (by decide +kernel) (by decide +kernel)
theorem aw_min_s : Cond.static Lib.Math.min.name ∈ aTB := aTB_in 1100 (by decide +kernel) (by decide +kernel)
theorem aw_min_c : Cond.code Lib.Math.min.name Lib.Math.min.code 2 (some .int) ∈ aTB := aTB_in 1101 (by decide +kernel) (by decide +kernel)
theorem aw_cp_n : Cond.native arraycopyName ∈ aTB := aTB_in 775 (by decide +kernel) (by decide +kernel)
theorem aw_cp_s : Cond.static arraycopyName ∈ aTB := aTB_in 774 (by decide +kernel) (by decide +kernel)
theorem aw_cp_i : Cond.initialized "java/lang/System" ∈ aTB := aTB_in 80 (by decide +kernel) (by decide +kernel)
theorem aw_or_m : Cond.sameMethod "KernelGym$Does" "java/lang/Enum" "ordinal" "()I" ∈ aTB := aTB_in 696 (by decide +kernel) (by decide +kernel)
theorem aw_or_s : Cond.selects "KernelGym$Does" ⟨"KernelGym$Does", "ordinal", "()I"⟩ yJx29ce0_ordinal_8abf5 ∈ aTB := aTB_in 698 (by decide +kernel) (by decide +kernel)
theorem aw_or_i : Cond.instanceMethod yJx29ce0_ordinal_8abf5 ∈ aTB := aTB_in 699 (by decide +kernel) (by decide +kernel)
theorem aw_or_z : Cond.initialized "java/lang/Enum" ∈ aTB := aTB_in 62 (by decide +kernel) (by decide +kernel)
theorem aw_or_c : Cond.code yJx29ce0_ordinal_8abf5 cJx29ce0_ordinal_8abf5 1 (some .int) ∈ aTB := aTB_in 700 (by decide +kernel) (by decide +kernel)
theorem aw_or_f : Cond.fieldLink RJx29ce0 7 "java/lang/Enum" "ordinal" "I" ∈ aTB := aTB_in 1424 (by decide +kernel) (by decide +kernel)
theorem aw_ob_i : Cond.instanceMethod objectInit ∈ aTB := aTB_in 89 (by decide +kernel) (by decide +kernel)
theorem aw_ob_c : Cond.code objectInit ⟨#[0xb1]⟩ 1 none ∈ aTB := aTB_in 90 (by decide +kernel) (by decide +kernel)
theorem aw_ai : Cond.arrayClass .int ∈ aTB := aTB_in 126 (by decide +kernel) (by decide +kernel)
theorem aw_az : Cond.arrayClass .boolean ∈ aTB := aTB_in 127 (by decide +kernel) (by decide +kernel)
