set_option maxRecDepth 100000 in
theorem tb_good : lw_tbl.all goodWord = true := by decide +kernel
theorem tb_t1 : tables_1[30]? = some (.instantiable "LoneAdjective$Reader" 6) := by decide +kernel
