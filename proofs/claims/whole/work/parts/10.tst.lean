theorem zq_t1 : lw_tbl.all goodWord = true := by decide +kernel
theorem zq_t2 : lw_tbl.length = 2000 := by decide +kernel
theorem zq_t3 : (lw_tbl.filter (fun w => !goodWord w)).length = 0 := by decide +kernel
theorem zq_t4 : (k2_sels lw_privs).length = 111 := by decide +kernel
