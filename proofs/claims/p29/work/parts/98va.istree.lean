/-! isTree: its code is a word of the tables -/

set_option maxRecDepth 100000 in
theorem cw_L_isTree : lw_tbl[998]? = some (.code (yN Y_L_isTree) (yB Y_L_isTree) (yL Y_L_isTree) (yR Y_L_isTree)) := rfl
theorem mk_L_isTree : MK Y_L_isTree 6 := ⟨KW.at (i := 35) (by decide +kernel) rfl, KW.at (i := 998) cw_L_isTree rfl, ⟨by decide +kernel, by decide +kernel⟩, by decide +kernel, by decide +kernel, rfl, by decide⟩
