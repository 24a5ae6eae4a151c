set_option maxRecDepth 100000 in
theorem aMw185 : lw_tbl[495]? = some (Cond.code aM185.1 aM185.2.1 aM185.2.2.1 aM185.2.2.2.1) := rfl
