/-! words of the tables -/
set_option maxRecDepth 1000000 in
theorem q_578 : Cond.code yL_begins cL_begins 10 (some .boolean) ∈ tblG := tblG_of 578 rfl rfl
theorem cw_L_128 : CWs RL 128 RL yL_begins cL_begins 10 (some .boolean) 2 := ⟨q_576, q_8, q_578, rfl, by decide +kernel, by decide +kernel⟩
