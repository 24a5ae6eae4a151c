set_option maxRecDepth 100000 in
theorem aMw187 : lw_tbl[1349]? = some (Cond.code aM187.1 aM187.2.1 aM187.2.2.1 aM187.2.2.2.1) := rfl
