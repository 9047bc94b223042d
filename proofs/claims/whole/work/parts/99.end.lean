theorem zz_probe : lw_tbl.length = lw_tbl.length := rfl
