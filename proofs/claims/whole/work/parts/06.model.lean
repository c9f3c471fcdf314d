theorem lw_tbl_good : lw_tbl.all goodWord = true := by decide +kernel
