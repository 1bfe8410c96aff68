theorem pr_good : tables_1.all goodWord = true := by decide +kernel
theorem pr_good2 : lw_tbl.all goodWord = true := by decide +kernel
