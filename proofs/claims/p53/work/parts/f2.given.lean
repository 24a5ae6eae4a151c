/-! what the start gives: constants, the switch table, classes -/
abbrev FL : List Cond := flatC (Jvm.Cond.and given_1 narrow_1)
theorem fl_all {L : List Cond} (h : L.all (fun w => decide (w ∈ FL)) = true) : ∀ w ∈ L, w ∈ FL := fun w hw => of_decide_eq_true (List.all_eq_true.mp h w hw)
theorem tb_all {L : List Cond} (h : L.all (fun w => decide (w ∈ lw_tbl)) = true) : ∀ w ∈ L, w ∈ lw_tbl := fun w hw => of_decide_eq_true (List.all_eq_true.mp h w hw)
abbrev stD (j : Nat) : Term := .static "KernelGym$Does" (aEn.getD j "") "LKernelGym$Does;"
abbrev stS : Term := .static "KernelGym$1" "$SwitchMap$KernelGym$Does" "[I"
theorem fl_ex : ∀ w ∈ (List.range 9).map (fun j => Cond.exactly (stD j) "KernelGym$Does"), w ∈ FL := fl_all (by decide +kernel)
theorem fl_or : ∀ w ∈ (List.range 9).map (fun j => Cond.eq (.field (stD j) "java/lang/Enum" "ordinal" "I") (.int (nI j))), w ∈ FL := fl_all (by decide +kernel)
theorem fl_el : ∀ w ∈ (List.range 9).map (fun j => Cond.eq (.elem stS (.int (Int32.ofNat j))) (.int (aSm j))), w ∈ FL := fl_all (by decide +kernel)
theorem fl_sw : ∀ w ∈ [Cond.arrayOf stS .int, Cond.eq (.length stS) (.int (Int32.ofNat 9)), Cond.isRef (.static Bundle.tN "UNASSIGNED_STACK" Bundle.steD), Cond.isRef (.static Bundle.tN "SUPPRESSED_SENTINEL" Bundle.listD)], w ∈ FL := fl_all (by decide +kernel)
theorem fl_nc : ∀ w ∈ (List.range 4).flatMap (fun i => (List.range 4).filterMap (fun j => if i = j then none else some (Cond.not (.castable (aEC i) (aEC j))))), w ∈ FL := fl_all (by decide +kernel)
theorem fl_ne : ((List.range 9).all fun i => (List.range 9).all fun j => decide (i = j) || decide (Cond.not (.eq (stD i) (stD j)) ∈ FL) || decide (Cond.not (.eq (stD j) (stD i)) ∈ FL)) = true := by decide +kernel
theorem fl_st : ∀ w ∈ aStr.map (fun q => Cond.exactly (.string q.1 q.2.1) "java/lang/String"), w ∈ FL := fl_all (by decide +kernel)
theorem tb_st : ∀ w ∈ aStr.map (fun q => Cond.stringRef q.1 q.2.1 q.2.2), w ∈ lw_tbl := tb_all (by decide +kernel)
theorem tb_ng : ∀ w ∈ aNG, w ∈ lw_tbl := tb_all (by decide +kernel)
theorem tb_ao : ∀ w ∈ aAO.map (fun C => Cond.arrayOver (.object C)), w ∈ lw_tbl := tb_all (by decide +kernel)
theorem tb_ls : ∀ w ∈ (List.range 9).map (fun j => Cond.laysStatic "KernelGym$Does" (aEn.getD j "") "LKernelGym$Does;"), w ∈ lw_tbl := tb_all (by decide +kernel)
theorem tb_in : ∀ w ∈ [Cond.initialized "KernelGym$Does", Cond.initialized "KernelGym$1", Cond.laysStatic "KernelGym$1" "$SwitchMap$KernelGym$Does" "[I", Cond.laysStatic Bundle.tN "UNASSIGNED_STACK" Bundle.steD, Cond.laysStatic Bundle.tN "SUPPRESSED_SENTINEL" Bundle.listD, Cond.initialized Bundle.tN, Cond.arrayClass .int, Cond.arrayClass .boolean, Cond.arrayClass .byte], w ∈ lw_tbl := tb_all (by decide +kernel)
theorem tb_is : ∀ w ∈ [Cond.instantiable RX1 16, Cond.instantiable RX2 2, Cond.instantiable RX3 16, Cond.instantiable RX4 2, Cond.instantiable RX6 4, Cond.instantiable RX7 6, Cond.instantiable RX8 3, Cond.instantiable RX9 6, Cond.instantiable RX10 8, Cond.instantiable RX11 10, Cond.instantiable RX12 13], w ∈ lw_tbl := tb_all (by decide +kernel)
/-! what the start gives, put together -/
section GIVEN
variable {s : State} {args : Array Value}
theorem NC_of (hgv : (Jvm.Cond.and given_1 narrow_1).before args s = true) : NC s := by
  intro i j hi hj hn
  refine va_Nc.of (args := args) (flat_of_before _ hgv _ (fl_nc _ ?_))
  have e : ∀ k, k < 4 → aEL4.getD k "" = aEC k := fun k hk => by
    match k, hk with
    | 0, _ => rfl
    | 1, _ => rfl
    | 2, _ => rfl
    | 3, _ => rfl
  rw [e i hi, e j hj]
  refine List.mem_flatMap.mpr ⟨i, List.mem_range.mpr hi, List.mem_filterMap.mpr ⟨j, List.mem_range.mpr hj, if_neg hn⟩⟩
theorem u_all (hts : ∀ w ∈ lw_tbl, w.before args s = true) : ∀ c : Nat, ∃ D0 : ClassId × (Nat → Nat), ∀ q : vw_C, vwCl[c]? = some q → u_Kn s q.1 q.2.1 q.2.2 D0.1 D0.2 := by
  intro c
  have hT : ∀ w ∈ aTB, w.before args s = true := fun w hw => hts w (aTB_tbl hw)
  have go : ∀ (C : String) (T : u_T) (N : Nat), vwCl[c]? = some (C, T, N) → Cond.instantiable C N ∈ lw_tbl → ∃ D0 : ClassId × (Nat → Nat), ∀ q : vw_C, vwCl[c]? = some q → u_Kn s q.1 q.2.1 q.2.2 D0.1 D0.2 := fun C T N hc hi => by
    obtain ⟨g1, -⟩ := aCl c C T N hc
    obtain ⟨cC, iS, hK⟩ := u_known (C := C) (T := T) (N := N) (n := N) hT g1 (hts _ hi)
    exact ⟨(cC, iS), fun q hq => by cases hc.symm.trans hq; exact hK⟩
  match c with
  | 0 => exact go RX1 TX1 16 rfl (tb_is _ (by simp))
  | 1 => exact go RX2 TX2 2 rfl (tb_is _ (by simp))
  | 2 => exact go RX3 TX3 16 rfl (tb_is _ (by simp))
  | 3 => exact go RX4 TX4 2 rfl (tb_is _ (by simp))
  | 4 => exact go RX6 TX6 4 rfl (tb_is _ (by simp))
  | 5 => exact go RX7 TX7 6 rfl (tb_is _ (by simp))
  | 6 => exact go RX8 TX8 3 rfl (tb_is _ (by simp))
  | 7 => exact go RX9 TX9 6 rfl (tb_is _ (by simp))
  | 8 => exact go RX10 TX10 8 rfl (tb_is _ (by simp))
  | 9 => exact go RX11 TX11 10 rfl (tb_is _ (by simp))
  | 10 => exact go RX12 TX12 13 rfl (tb_is _ (by simp))
  | n + 11 => exact ⟨(0, fun _ => 0), fun q hq => by rw [vw_none (by omega)] at hq; cases hq⟩
theorem arr_of {ty : FieldType} {cA comp : ClassId} {kA : Class} (h2 : s.vm.classes[cA]? = some kA) (h3 : kA.kind = .array comp ty) : ArrOfT s cA ty := fun n z => ⟨fun k h => (by cases h), kA, h2, comp, h3⟩
theorem arr_all (hts : ∀ w ∈ lw_tbl, w.before args s = true) : ∀ k : Nat, ∃ cA : ClassId, ∀ ty : FieldType, aTys[k]? = some ty → ArrOfT s cA ty ∧ va_RA s cA ty := by
  intro k
  have ob : ∀ C : String, C ∈ aAO → aTys[k]? = some (.object C) → ∃ cA : ClassId, ∀ ty : FieldType, aTys[k]? = some ty → ArrOfT s cA ty ∧ va_RA s cA ty := fun C hC hk => by
    obtain ⟨comp, cA, kA, h1, h2, h3, h4, h5⟩ := Cond.arrayOver_spec (hts _ (tb_ao _ (List.mem_map.mpr ⟨C, hC, rfl⟩)))
    exact ⟨cA, fun ty hty => by cases hk.symm.trans hty; exact ⟨arr_of h3 h4, kA, comp, h3, h4, h1, h5⟩⟩
  match k with
  | 0 =>
    obtain ⟨cA, kA, comp, h1, h2, h3⟩ := Cond.arrayClass_spec (hts _ (tb_in (.arrayClass .int) (by simp)))
    exact ⟨cA, fun ty hty => by cases hty; exact ⟨arr_of h2 h3, h1⟩⟩
  | 1 =>
    obtain ⟨cA, kA, comp, h1, h2, h3⟩ := Cond.arrayClass_spec (hts _ (tb_in (.arrayClass .boolean) (by simp)))
    exact ⟨cA, fun ty hty => by cases hty; exact ⟨arr_of h2 h3, h1⟩⟩
  | 2 =>
    obtain ⟨cA, kA, comp, h1, h2, h3⟩ := Cond.arrayClass_spec (hts _ (tb_in (.arrayClass .byte) (by simp)))
    exact ⟨cA, fun ty hty => by cases hty; exact ⟨arr_of h2 h3, h1⟩⟩
  | 3 => exact ob "KernelGym$Kept" (by simp [aAO]) rfl
  | 4 => exact ob "KernelGym$Line" (by simp [aAO]) rfl
  | 5 => exact ob "KernelGym$Trial" (by simp [aAO]) rfl
  | n + 6 => exact ⟨0, fun ty hty => by rw [show aTys[n + 6]? = none from List.getElem?_eq_none (by show 6 ≤ n + 6; omega)] at hty; cases hty⟩
theorem en_ex (hgv : (Jvm.Cond.and given_1 narrow_1).before args s = true) {j : Nat} (hj : j < 9) : ∃ a, (stD j).eval args s none [] s = some (.ref a) ∧ a < s.heap.size ∧ ∃ (cell : Cell) (i : Nat), s.heap[a]? = some cell ∧ s.vm.findClass "KernelGym$Does" = some cell.cls ∧ (cell.vm.isStatics = false ∧ cell.vm ≠ .unknown) ∧ aOI s i ∧ cell.slots[i]? = some (.int (nI j)) := by
  have hex := flat_of_before _ hgv _ (fl_ex _ (List.mem_map.mpr ⟨j, List.mem_range.mpr hj, rfl⟩))
  have hor := va_eqt (flat_of_before _ hgv _ (fl_or _ (List.mem_map.mpr ⟨j, List.mem_range.mpr hj, rfl⟩)))
  obtain ⟨a, c, cell, k, q1, q2, q3, q4, q5, q6, -⟩ := Cond.exactly_spec hex
  refine ⟨a, q1, (Array.getElem?_eq_some_iff.mp q3).1, ?_⟩
  cases hfo : s.fieldFound? "java/lang/Enum" "ordinal" "I" with
  | none =>
    rw [va_fe q1] at hor
    simp [State.fieldOf?, State.fieldNamed?, hfo] at hor
  | some x =>
    obtain ⟨cf, kf, fi, f⟩ := x
    obtain ⟨g1, cell2, g2, g3, -, -, g6⟩ := Term.field_spec hfo q1 hor
    cases q3.symm.trans g2
    exact ⟨cell, f.slot, q3, by rw [q6]; exact q2, ⟨q5, g3⟩, ⟨cf, kf, fi, f, hfo, g1, rfl⟩, g6⟩
/-- all of it -/
theorem given_all (hts : ∀ w ∈ lw_tbl, w.before args s = true) (hgv : (Jvm.Cond.and given_1 narrow_1).before args s = true) : ∃ D : AG, aKn D s ∧ aKF D.2.2 (fun q => s.heap.size ≤ q) s s.heap ∧ (∀ i j, i < 9 → j < 9 → D.2.2 i = D.2.2 j → i = j) ∧ D.2.2 9 < s.heap.size := by
  have hA : ∀ a : Nat, a < s.heap.size → ¬ (fun q : Nat => s.heap.size ≤ q) a := fun a ha => Nat.not_le.mpr ha
  obtain ⟨d0, hd0⟩ := Classical.axiomOfChoice (u_all hts)
  obtain ⟨d1, hd1⟩ := Classical.axiomOfChoice (arr_all hts)
  obtain ⟨t9, e9, hT9⟩ := va_Tof (args := args) (s := s) (tm := stS) (ty := .int) (N := 9) (f := fun j => .int (aSm j)) (A := fun q => s.heap.size ≤ q) (by decide) (flat_of_before _ hgv _ (fl_sw _ (by simp))) (va_eqt (flat_of_before _ hgv _ (fl_sw _ (by simp)))) (fun j hj => va_eqt (flat_of_before _ hgv _ (fl_el _ (List.mem_map.mpr ⟨j, List.mem_range.mpr hj, rfl⟩)))) hA
  have h0 : ∀ j : Nat, ∃ a, (j < 9 → (stD j).eval args s none [] s = some (.ref a) ∧ a < s.heap.size ∧ ∃ (cell : Cell) (i : Nat), s.heap[a]? = some cell ∧ s.vm.findClass "KernelGym$Does" = some cell.cls ∧ (cell.vm.isStatics = false ∧ cell.vm ≠ .unknown) ∧ aOI s i ∧ cell.slots[i]? = some (.int (nI j))) ∧ (j = 9 → a = t9) := by
    intro j
    by_cases hj : j < 9
    · obtain ⟨a, ha⟩ := en_ex hgv hj
      exact ⟨a, fun _ => ha, fun h => by omega⟩
    · exact ⟨t9, fun h => absurd h hj, fun _ => rfl⟩
  obtain ⟨kad, hkad⟩ := Classical.axiomOfChoice h0
  have hk9 : kad 9 = t9 := (hkad 9).2 rfl
  obtain ⟨c9, q1, q2, q3, q4, q5, q6, q7⟩ := hT9
  refine ⟨((fun c => (d0 c).1, fun c => (d0 c).2), (d1, kad)), ⟨fun c q hq => hd0 c q hq, fun k ty hty => hd1 k ty hty⟩, ⟨⟨vx_Zqof (hts _ (tb_in _ (by simp))) (hts _ (tb_in _ (by simp))) (flat_of_before _ hgv _ (fl_sw _ (by simp))) hA, vx_Zqof (hts _ (tb_in _ (by simp))) (hts _ (tb_in _ (by simp))) (flat_of_before _ hgv _ (fl_sw _ (by simp))) hA⟩, ⟨fun q hq => ?_, fun w hw => va_Nw.of (aNG_on w hw) (hts _ (tb_ng w hw)), ⟨fun C hC => va_AO.of (hts _ (tb_ao _ (List.mem_map.mpr ⟨C, hC, rfl⟩))), NC_of hgv⟩⟩, fun j nm hj => ?_, ?_, ?_⟩, fun i j hi hj he => ?_, ?_⟩
  · obtain ⟨a, c, cell, k, r1, -⟩ := Cond.exactly_spec (flat_of_before _ hgv _ (fl_st _ (List.mem_map.mpr ⟨q, hq, rfl⟩)))
    exact ⟨a, vk_R.of (hts _ (tb_st _ (List.mem_map.mpr ⟨q, hq, rfl⟩))) r1⟩
  · have hj9 : j < 9 := (List.getElem?_eq_some_iff.mp hj).1
    have hnm : aEn.getD j "" = nm := by
      rw [List.getD_eq_getElem?_getD, hj]
      rfl
    obtain ⟨r1, r2, r3⟩ := (hkad j).1 hj9
    rw [← hnm]
    exact ⟨va_Zref (hts _ (tb_ls _ (List.mem_map.mpr ⟨j, List.mem_range.mpr hj9, rfl⟩))) (hts _ (tb_in _ (by simp))) r1 hA, hA _ r2, r2, r3⟩
  · show va_Z _ _ _ (.ref (kad 9)) _ _ _
    rw [hk9]
    exact va_Zref (hts _ (tb_in _ (by simp))) (hts _ (tb_in _ (by simp))) e9 hA
  · show aSW kad _ _ _
    unfold aSW
    rw [hk9]
    have hlt : t9 < s.heap.size := (Array.getElem?_eq_some_iff.mp q1).1
    exact ⟨hA _ hlt, hlt, c9, q1, q2, q3, q4, q6⟩
  · have he : kad i = kad j := he
    by_cases hij : i = j
    · exact hij
    · exfalso
      have h1 := List.all_eq_true.mp (List.all_eq_true.mp fl_ne i (List.mem_range.mpr hi)) j (List.mem_range.mpr hj)
      simp only [Bool.or_eq_true, decide_eq_true_eq] at h1
      rcases h1 with (h1 | h1) | h1
      · exact hij h1
      · exact va_neR (flat_of_before _ hgv _ h1) ((hkad i).1 hi).1 ((hkad j).1 hj).1 he
      · exact va_neR (flat_of_before _ hgv _ h1) ((hkad j).1 hj).1 ((hkad i).1 hi).1 he.symm
  · show kad 9 < _
    rw [hk9]
    exact (Array.getElem?_eq_some_iff.mp q1).1
end GIVEN
