/-! the instruction tables (each instruction as the printed decode rows have it), by program; what links them to the words -/
def aTB : List Cond := lw_tbl.filter goodWord
theorem aTB_in {w : Cond} (i : Nat) (h : lw_tbl[i]? = some w) (g : goodWord w = true) : w ∈ aTB := List.mem_filter.mpr ⟨List.mem_of_getElem? h, g⟩
theorem aTB_tbl {w : Cond} (h : w ∈ aTB) : w ∈ lw_tbl := (List.mem_filter.mp h).1
theorem aTB_good : ∀ w ∈ aTB, (w.onTables && w.keeps) = true ∨ ∃ ty, w = .arrayClass ty := fun w h => good_of_word (List.mem_filter.mp h).2
theorem aTB_GoodIn {ws : List Cond} (h : ∀ w ∈ ws, w ∈ aTB) : GoodIn aTB ws := fun w hw => ⟨h w hw, aTB_good w (h w hw)⟩

