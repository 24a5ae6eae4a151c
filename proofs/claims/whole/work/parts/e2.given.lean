/-! what the start gives: constants, the switch table, classes -/
abbrev FL : List Cond := flatC (Jvm.Cond.and given_1 narrow_1)
theorem fl_all {L : List Cond} (h : L.all (fun w => decide (w ∈ FL)) = true) : ∀ w ∈ L, w ∈ FL := fun w hw => of_decide_eq_true (List.all_eq_true.mp h w hw)
theorem tb_all {L : List Cond} (h : L.all (fun w => decide (w ∈ lw_tbl)) = true) : ∀ w ∈ L, w ∈ lw_tbl := fun w hw => of_decide_eq_true (List.all_eq_true.mp h w hw)
abbrev stD (j : Nat) : Term := .static "KernelGym$Does" (aEn.getD j "") "LKernelGym$Does;"
abbrev stS : Term := .static "KernelGym$1" "$SwitchMap$KernelGym$Does" "[I"
theorem fl_ex : ∀ w ∈ (List.range 9).map (fun j => Cond.exactly (stD j) "KernelGym$Does"), w ∈ FL := fl_all (by decide +kernel)
theorem fl_or : ∀ w ∈ (List.range 9).map (fun j => Cond.eq (.field (stD j) "java/lang/Enum" "ordinal" "I") (.int (nI j))), w ∈ FL := fl_all (by decide +kernel)
theorem fl_el : ∀ w ∈ (List.range 9).map (fun j => Cond.eq (.elem stS (.int (Int32.ofNat j))) (.int (aSm j))), w ∈ FL := fl_all (by decide +kernel)
theorem fl_sw : ∀ w ∈ [Cond.arrayOf stS .int, Cond.eq (.length stS) (.int (Int32.ofNat 9)), Cond.isRef (.static Bundle.tN "UNASSIGNED_STACK" Bundle.steD), Cond.isRef (.static Bundle.tN "SUPPRESSED_SENTINEL" Bundle.listD)], w ∈ FL := fl_all (by decide +kernel)
theorem fl_nc : ∀ w ∈ (List.range 4).flatMap (fun i => (List.range 4).filterMap (fun j => if i = j then none else some (Cond.not (.castable (aEC i) (aEC j))))), w ∈ FL := fl_all (by decide +kernel)
theorem fl_ne : ((List.range 9).all fun i => (List.range 9).all fun j => decide (i = j) || decide (Cond.not (.eq (stD i) (stD j)) ∈ FL) || decide (Cond.not (.eq (stD j) (stD i)) ∈ FL)) = true := by decide +kernel
theorem fl_st : ∀ w ∈ aStr.map (fun q => Cond.exactly (.string q.1 q.2.1) "java/lang/String"), w ∈ FL := fl_all (by decide +kernel)
theorem tb_st : ∀ w ∈ aStr.map (fun q => Cond.stringRef q.1 q.2.1 q.2.2), w ∈ lw_tbl := tb_all (by decide +kernel)
theorem tb_ng : ∀ w ∈ aNG, w ∈ lw_tbl := tb_all (by decide +kernel)
theorem tb_ao : ∀ w ∈ aAO.map (fun C => Cond.arrayOver (.object C)), w ∈ lw_tbl := tb_all (by decide +kernel)
theorem tb_ls : ∀ w ∈ (List.range 9).map (fun j => Cond.laysStatic "KernelGym$Does" (aEn.getD j "") "LKernelGym$Does;"), w ∈ lw_tbl := tb_all (by decide +kernel)
theorem tb_in : ∀ w ∈ [Cond.initialized "KernelGym$Does", Cond.initialized "KernelGym$1", Cond.laysStatic "KernelGym$1" "$SwitchMap$KernelGym$Does" "[I", Cond.laysStatic Bundle.tN "UNASSIGNED_STACK" Bundle.steD, Cond.laysStatic Bundle.tN "SUPPRESSED_SENTINEL" Bundle.listD, Cond.initialized Bundle.tN, Cond.arrayClass .int, Cond.arrayClass .boolean, Cond.arrayClass .long], w ∈ lw_tbl := tb_all (by decide +kernel)
theorem tb_is : ∀ w ∈ [Cond.instantiable RX1 16, Cond.instantiable RX2 2, Cond.instantiable RX3 16, Cond.instantiable RX4 2, Cond.instantiable RX6 4, Cond.instantiable RX7 6, Cond.instantiable RX8 3, Cond.instantiable RX9 6, Cond.instantiable RX10 8, Cond.instantiable RX11 10, Cond.instantiable RX12 13, Cond.instantiable RX13 74], w ∈ lw_tbl := tb_all (by decide +kernel)
