/-! the law's own frame, log, row -/
theorem q_1065 : Cond.methodLink RL 7 yX10_frame ∈ tblG := tblG_of 1065 (by decide +kernel) rfl
theorem q_1068 : Cond.code yX10_frame cX10_frame 5 (some .int) ∈ tblG := tblG_of 1068 (by decide +kernel) rfl
theorem q_1066 : Cond.instanceMethod yX10_frame ∈ tblG := tblG_of 1066 (by decide +kernel) rfl
theorem q_1067 : Cond.selects RX10 yX10_frame yX10_frame ∈ tblG := tblG_of 1067 (by decide +kernel) rfl
theorem cw_L_7 : CWs RL 7 RX10 yX10_frame cX10_frame 5 (some .int) 3 := ⟨q_1065, q_76, q_1068, rfl, by decide +kernel, by decide +kernel⟩
theorem q_1137 : Cond.methodLink RL 15 yX10_log ∈ tblG := tblG_of 1137 (by decide +kernel) rfl
theorem q_1140 : Cond.code yX10_log cX10_log 3 (some .int) ∈ tblG := tblG_of 1140 (by decide +kernel) rfl
theorem q_1138 : Cond.instanceMethod yX10_log ∈ tblG := tblG_of 1138 (by decide +kernel) rfl
theorem q_1139 : Cond.selects RX10 yX10_log yX10_log ∈ tblG := tblG_of 1139 (by decide +kernel) rfl
theorem cw_L_15 : CWs RL 15 RX10 yX10_log cX10_log 3 (some .int) 2 := ⟨q_1137, q_76, q_1140, rfl, by decide +kernel, by decide +kernel⟩
theorem q_1145 : Cond.methodLink RL 19 yX10_row ∈ tblG := tblG_of 1145 (by decide +kernel) rfl
theorem q_1148 : Cond.code yX10_row cX10_row 2 (some .int) ∈ tblG := tblG_of 1148 (by decide +kernel) rfl
theorem q_1146 : Cond.instanceMethod yX10_row ∈ tblG := tblG_of 1146 (by decide +kernel) rfl
theorem q_1147 : Cond.selects RX10 yX10_row yX10_row ∈ tblG := tblG_of 1147 (by decide +kernel) rfl
theorem cw_L_19 : CWs RL 19 RX10 yX10_row cX10_row 2 (some .int) 1 := ⟨q_1145, q_76, q_1148, rfl, by decide +kernel, by decide +kernel⟩
theorem sh_346 : shc 346 = 23 := by decide +kernel
theorem sl_346 : shl 346 = 1 := by decide +kernel
set_option maxRecDepth 100000 in
set_option maxHeartbeats 4000000 in
theorem c_L_frameR {K : Kt} {l : Launch} (hp : St K) {r : Int32} {M M1 : Mem} {x1 : Int32} {x2 : Int32} {x3 : Int32} (hF : f_X10_frame x1 x2 x3 M = some (r, M1)) : MTW K l yL_frame cL_frame 6 (some .int) [(0, 12, 15, 13)] { frames := 2, cells := 0, slots := 0, locals := 45 } [vr 64, vi x1, vi x2, vi x3, vr 346] M (some (vi 0)) (setL M1 346 0 r.toInt64) 0 0 := by
  refine MTW_of (by decide) (Nat.le_of_ble_eq_true rfl) (fun X _ hB _ => ?_)
  refine w_aload hB 4 dL_frame_0 rfl ?_
  refine w_iconst hB 0 (by decide) dL_frame_2 ?_
  refine w_aload_n hB 0 dL_frame_3 rfl rfl ?_
  refine w_iload_n hB 1 dL_frame_4 rfl rfl ?_
  refine w_iload_n hB 2 dL_frame_5 rfl rfl ?_
  refine w_iload_n hB 3 dL_frame_6 rfl rfl ?_
  refine w_callV hB (ci := 8) (As := [vi x1, vi x2, vi x3]) (st := [vi 0, vr 346]) cw_L_7 q_1066 q_1067 rfl sh_64 (Or.inl hp.1) (c_X10_frame hp hF) ⟨rfl, rfl⟩ (by decide) (by decide) rfl (Nat.le_of_ble_eq_true rfl) dL_frame_7 rfl ?_
  refine w_i2l hB dL_frame_10 ?_
  refine w_last hB sh_346 (Or.inl hp.1) sl_346 (by decide) rfl dL_frame_11 ?_
  refine w_goto hB 19 dL_frame_12 (by decide) ?_
  refine w_iconst hB 0 (by decide) dL_frame_19 ?_
  exact w_iret hB dL_frame_20 rfl
set_option maxRecDepth 100000 in
set_option maxHeartbeats 4000000 in
theorem c_L_frameT {K : Kt} {l : Launch} (hp : St K) (ht : KThr K) (hst : l.stackTraces = false) {r : Int32} {M M1 : Mem} {x1 : Int32} {x2 : Int32} {x3 : Int32} (hF : f_X10_frameT x1 x2 x3 M = some (r, M1)) : MTW K l yL_frame cL_frame 6 (some .int) [(0, 12, 15, 13)] { frames := 7, cells := 1, slots := 6, locals := 106 } [vr 64, vi x1, vi x2, vi x3, vr 346] M (some (vi 1)) M1 1 6 := by
  refine MTW_of (by decide) (Nat.le_of_ble_eq_true rfl) (fun X e hB htab => ?_)
  refine w_aload hB 4 dL_frame_0 rfl ?_
  refine w_iconst hB 0 (by decide) dL_frame_2 ?_
  refine w_aload_n hB 0 dL_frame_3 rfl rfl ?_
  refine w_iload_n hB 1 dL_frame_4 rfl rfl ?_
  refine w_iload_n hB 2 dL_frame_5 rfl rfl ?_
  refine w_iload_n hB 3 dL_frame_6 rfl rfl ?_
  refine w_callX hB (ci := 8) (As := [vi x1, vi x2, vi x3]) (st := [vi 0, vr 346]) (x := ⟨0, 12, 15, 13⟩) cw_L_7 q_1066 q_1067 rfl sh_64 (Or.inl hp.1) (c_X10_frameT hp ht (by rw [e]; exact hst) hF) ⟨rfl, rfl⟩ (by decide) (by decide) rfl (Nat.le_of_ble_eq_true rfl) dL_frame_7 htab rfl rfl hp.1 ht rfl (fun cp H locs ls q a b dd => ?_)
  refine lv_astore hB.1 hB.2.1 dL_frame_15 dd (by decide) rfl (fun ls1 dd1 => ?_)
  have w : Wt K X (QM K X (some (vi 1)) M1 1 6) 1 6 M1 17 [] [] := w_iconst hB 1 (by decide) dL_frame_17 (w_iret hB dL_frame_18 rfl)
  exact w cp H locs ls1 a b (fun h => by rw [hp.1] at h; cases h) (by rw [hB.2.2.1]; exact lv_sub dd1 [] rfl)
set_option maxRecDepth 100000 in
set_option maxHeartbeats 4000000 in
theorem c_L_logR {K : Kt} {l : Launch} (hp : St K) {r : Int32} {M M1 : Mem} {x1 : Int32} {x2 : Int32} (hF : f_X10_log x1 x2 M = some (r, M1)) : MTW K l yL_log cL_log 5 (some .int) [(0, 10, 13, 13)] { frames := 1, cells := 0, slots := 0, locals := 22 } [vr 64, vi x1, vi x2, vr 346] M (some (vi 0)) (setL M1 346 0 r.toInt64) 0 0 := by
  refine MTW_of (by decide) (Nat.le_of_ble_eq_true rfl) (fun X _ hB _ => ?_)
  refine w_aload_n hB 3 dL_log_0 rfl rfl ?_
  refine w_iconst hB 0 (by decide) dL_log_1 ?_
  refine w_aload_n hB 0 dL_log_2 rfl rfl ?_
  refine w_iload_n hB 1 dL_log_3 rfl rfl ?_
  refine w_iload_n hB 2 dL_log_4 rfl rfl ?_
  refine w_callV hB (ci := 8) (As := [vi x1, vi x2]) (st := [vi 0, vr 346]) cw_L_15 q_1138 q_1139 rfl sh_64 (Or.inl hp.1) (c_X10_log hp hF) ⟨rfl, rfl⟩ (by decide) (by decide) rfl (Nat.le_of_ble_eq_true rfl) dL_log_5 rfl ?_
  refine w_i2l hB dL_log_8 ?_
  refine w_last hB sh_346 (Or.inl hp.1) sl_346 (by decide) rfl dL_log_9 ?_
  refine w_goto hB 17 dL_log_10 (by decide) ?_
  refine w_iconst hB 0 (by decide) dL_log_17 ?_
  exact w_iret hB dL_log_18 rfl
set_option maxRecDepth 100000 in
set_option maxHeartbeats 4000000 in
theorem c_L_logT {K : Kt} {l : Launch} (hp : St K) (ht : KThr K) (hst : l.stackTraces = false) {r : Int32} {M M1 : Mem} {x1 : Int32} {x2 : Int32} (hF : f_X10_logT x1 x2 M = some (r, M1)) : MTW K l yL_log cL_log 5 (some .int) [(0, 10, 13, 13)] { frames := 7, cells := 1, slots := 6, locals := 104 } [vr 64, vi x1, vi x2, vr 346] M (some (vi 1)) M1 1 6 := by
  refine MTW_of (by decide) (Nat.le_of_ble_eq_true rfl) (fun X e hB htab => ?_)
  refine w_aload_n hB 3 dL_log_0 rfl rfl ?_
  refine w_iconst hB 0 (by decide) dL_log_1 ?_
  refine w_aload_n hB 0 dL_log_2 rfl rfl ?_
  refine w_iload_n hB 1 dL_log_3 rfl rfl ?_
  refine w_iload_n hB 2 dL_log_4 rfl rfl ?_
  refine w_callX hB (ci := 8) (As := [vi x1, vi x2]) (st := [vi 0, vr 346]) (x := ⟨0, 10, 13, 13⟩) cw_L_15 q_1138 q_1139 rfl sh_64 (Or.inl hp.1) (c_X10_logT hp ht (by rw [e]; exact hst) hF) ⟨rfl, rfl⟩ (by decide) (by decide) rfl (Nat.le_of_ble_eq_true rfl) dL_log_5 htab rfl rfl hp.1 ht rfl (fun cp H locs ls q a b dd => ?_)
  refine lv_astore hB.1 hB.2.1 dL_log_13 dd (by decide) rfl (fun ls1 dd1 => ?_)
  have w : Wt K X (QM K X (some (vi 1)) M1 1 6) 1 6 M1 15 [] [] := w_iconst hB 1 (by decide) dL_log_15 (w_iret hB dL_log_16 rfl)
  exact w cp H locs ls1 a b (fun h => by rw [hp.1] at h; cases h) (by rw [hB.2.2.1]; exact lv_sub dd1 [] rfl)
set_option maxRecDepth 100000 in
set_option maxHeartbeats 4000000 in
theorem c_L_rowR {K : Kt} {l : Launch} (hp : St K) {r : Int32} {M M1 : Mem} {x1 : Int32} (hF : f_X10_row x1 M = some (r, M1)) : MTW K l yL_row cL_row 4 (some .int) [(0, 9, 12, 13)] { frames := 1, cells := 0, slots := 0, locals := 21 } [vr 64, vi x1, vr 346] M (some (vi 0)) (setL M1 346 0 r.toInt64) 0 0 := by
  refine MTW_of (by decide) (Nat.le_of_ble_eq_true rfl) (fun X _ hB _ => ?_)
  refine w_aload_n hB 2 dL_row_0 rfl rfl ?_
  refine w_iconst hB 0 (by decide) dL_row_1 ?_
  refine w_aload_n hB 0 dL_row_2 rfl rfl ?_
  refine w_iload_n hB 1 dL_row_3 rfl rfl ?_
  refine w_callV hB (ci := 8) (As := [vi x1]) (st := [vi 0, vr 346]) cw_L_19 q_1146 q_1147 rfl sh_64 (Or.inl hp.1) (c_X10_row hp hF) ⟨rfl, rfl⟩ (by decide) (by decide) rfl (Nat.le_of_ble_eq_true rfl) dL_row_4 rfl ?_
  refine w_i2l hB dL_row_7 ?_
  refine w_last hB sh_346 (Or.inl hp.1) sl_346 (by decide) rfl dL_row_8 ?_
  refine w_goto hB 15 dL_row_9 (by decide) ?_
  refine w_iconst hB 0 (by decide) dL_row_15 ?_
  exact w_iret hB dL_row_16 rfl
set_option maxRecDepth 100000 in
set_option maxHeartbeats 4000000 in
theorem c_L_rowT {K : Kt} {l : Launch} (hp : St K) (ht : KThr K) (hst : l.stackTraces = false) {r : Int32} {M M1 : Mem} {x1 : Int32} (hF : f_X10_rowT x1 M = some (r, M1)) : MTW K l yL_row cL_row 4 (some .int) [(0, 9, 12, 13)] { frames := 7, cells := 1, slots := 6, locals := 103 } [vr 64, vi x1, vr 346] M (some (vi 1)) M1 1 6 := by
  refine MTW_of (by decide) (Nat.le_of_ble_eq_true rfl) (fun X e hB htab => ?_)
  refine w_aload_n hB 2 dL_row_0 rfl rfl ?_
  refine w_iconst hB 0 (by decide) dL_row_1 ?_
  refine w_aload_n hB 0 dL_row_2 rfl rfl ?_
  refine w_iload_n hB 1 dL_row_3 rfl rfl ?_
  refine w_callX hB (ci := 8) (As := [vi x1]) (st := [vi 0, vr 346]) (x := ⟨0, 9, 12, 13⟩) cw_L_19 q_1146 q_1147 rfl sh_64 (Or.inl hp.1) (c_X10_rowT hp ht (by rw [e]; exact hst) hF) ⟨rfl, rfl⟩ (by decide) (by decide) rfl (Nat.le_of_ble_eq_true rfl) dL_row_4 htab rfl rfl hp.1 ht rfl (fun cp H locs ls q a b dd => ?_)
  refine lv_astore_n hB.1 hB.2.1 dL_row_12 rfl dd (by decide) rfl (fun ls1 dd1 => ?_)
  have w : Wt K X (QM K X (some (vi 1)) M1 1 6) 1 6 M1 13 [] [] := w_iconst hB 1 (by decide) dL_row_13 (w_iret hB dL_row_14 rfl)
  exact w cp H locs ls1 a b (fun h => by rw [hp.1] at h; cases h) (by rw [hB.2.2.1]; exact lv_sub dd1 [] rfl)
