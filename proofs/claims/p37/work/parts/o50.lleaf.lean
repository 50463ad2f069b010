/-! the law's and the JDK's methods that make no cell -/
theorem q_8 : Cond.initialized RL ∈ tblG := tblG_of 8 (by decide +kernel) rfl
theorem q_141 : Cond.fieldLink RX10 210 "ReplayBooth$Play" "camera" "[I" ∈ tblG := tblG_of 141 (by decide +kernel) rfl
theorem q_145 : Cond.fieldLink RX10 213 "ReplayBooth$Play" "tick" "[I" ∈ tblG := tblG_of 145 (by decide +kernel) rfl
theorem q_149 : Cond.fieldLink RX10 216 "ReplayBooth$Play" "there" "[I" ∈ tblG := tblG_of 149 (by decide +kernel) rfl
theorem q_153 : Cond.fieldLink RX10 219 "ReplayBooth$Play" "notYet" "[I" ∈ tblG := tblG_of 153 (by decide +kernel) rfl
theorem q_426 : Cond.methodLink RL 135 yX10_play ∈ tblG := tblG_of 426 (by decide +kernel) rfl
theorem q_427 : Cond.instanceMethod yX10_play ∈ tblG := tblG_of 427 (by decide +kernel) rfl
theorem q_428 : Cond.selects RX10 yX10_play yX10_play ∈ tblG := tblG_of 428 (by decide +kernel) rfl
theorem q_429 : Cond.code yX10_play cX10_play 4 (some .int) ∈ tblG := tblG_of 429 (by decide +kernel) rfl
theorem q_572 : Cond.methodLink RL 112 yX10_count ∈ tblG := tblG_of 572 (by decide +kernel) rfl
theorem q_573 : Cond.instanceMethod yX10_count ∈ tblG := tblG_of 573 (by decide +kernel) rfl
theorem q_574 : Cond.selects RX10 yX10_count yX10_count ∈ tblG := tblG_of 574 (by decide +kernel) rfl
theorem q_575 : Cond.code yX10_count cX10_count 2 (some .int) ∈ tblG := tblG_of 575 (by decide +kernel) rfl
theorem q_633 : Cond.methodLink RJ8 194 yJ9_max_7cf53 ∈ tblG := tblG_of 633 (by decide +kernel) rfl
theorem q_636 : Cond.constant RJ8 200 (2147483639) ∈ tblG := tblG_of 636 (by decide +kernel) rfl
theorem q_752 : Cond.methodLink RL 49 yL_some ∈ tblG := tblG_of 752 (by decide +kernel) rfl
theorem q_753 : Cond.static yL_some ∈ tblG := tblG_of 753 (by decide +kernel) rfl
theorem q_754 : Cond.code yL_some cL_some 3 (some .int) ∈ tblG := tblG_of 754 (by decide +kernel) rfl
theorem q_755 : Cond.methodLink RL 8 yL_cell ∈ tblG := tblG_of 755 (by decide +kernel) rfl
theorem q_756 : Cond.static yL_cell ∈ tblG := tblG_of 756 (by decide +kernel) rfl
theorem q_757 : Cond.code yL_cell cL_cell 2 (some .int) ∈ tblG := tblG_of 757 (by decide +kernel) rfl
theorem q_758 : Cond.constant RL 7 (40503) ∈ tblG := tblG_of 758 (by decide +kernel) rfl
theorem q_759 : Cond.constant RL 14 (65535) ∈ tblG := tblG_of 759 (by decide +kernel) rfl
theorem q_773 : Cond.fieldLink RJ6 83 "java/lang/Integer" "DigitOnes" "[B" ∈ tblG := tblG_of 773 (by decide +kernel) rfl
theorem q_775 : Cond.fieldLink RJ6 87 "java/lang/Integer" "DigitTens" "[B" ∈ tblG := tblG_of 775 (by decide +kernel) rfl
theorem q_1100 : Cond.methodLink RL 165 yX10_frame ∈ tblG := tblG_of 1100 (by decide +kernel) rfl
theorem q_1101 : Cond.instanceMethod yX10_frame ∈ tblG := tblG_of 1101 (by decide +kernel) rfl
theorem q_1102 : Cond.selects RX10 yX10_frame yX10_frame ∈ tblG := tblG_of 1102 (by decide +kernel) rfl
theorem q_1103 : Cond.code yX10_frame cX10_frame 5 (some .int) ∈ tblG := tblG_of 1103 (by decide +kernel) rfl
theorem q_1172 : Cond.methodLink RL 169 yX10_camera ∈ tblG := tblG_of 1172 (by decide +kernel) rfl
theorem q_1173 : Cond.instanceMethod yX10_camera ∈ tblG := tblG_of 1173 (by decide +kernel) rfl
theorem q_1174 : Cond.selects RX10 yX10_camera yX10_camera ∈ tblG := tblG_of 1174 (by decide +kernel) rfl
theorem q_1175 : Cond.code yX10_camera cX10_camera 3 (some .int) ∈ tblG := tblG_of 1175 (by decide +kernel) rfl
theorem q_1192 : Cond.methodLink RL 194 yL_pairs ∈ tblG := tblG_of 1192 (by decide +kernel) rfl
theorem q_1193 : Cond.static yL_pairs ∈ tblG := tblG_of 1193 (by decide +kernel) rfl
theorem q_1194 : Cond.code yL_pairs cL_pairs 2 (some .int) ∈ tblG := tblG_of 1194 (by decide +kernel) rfl
theorem q_1195 : Cond.methodLink RL 197 yL_first ∈ tblG := tblG_of 1195 (by decide +kernel) rfl
theorem q_1196 : Cond.static yL_first ∈ tblG := tblG_of 1196 (by decide +kernel) rfl
theorem q_1197 : Cond.code yL_first cL_first 3 (some .int) ∈ tblG := tblG_of 1197 (by decide +kernel) rfl
theorem q_1198 : Cond.methodLink RL 200 yL_second ∈ tblG := tblG_of 1198 (by decide +kernel) rfl
theorem q_1199 : Cond.static yL_second ∈ tblG := tblG_of 1199 (by decide +kernel) rfl
theorem q_1200 : Cond.code yL_second cL_second 3 (some .int) ∈ tblG := tblG_of 1200 (by decide +kernel) rfl
theorem cw_L_112 : CWs RL 112 RX10 yX10_count cX10_count 2 (some .int) 1 := ⟨q_572, q_9, q_575, rfl, by decide +kernel, by decide +kernel⟩
theorem cw_L_135 : CWs RL 135 RX10 yX10_play cX10_play 4 (some .int) 2 := ⟨q_426, q_9, q_429, rfl, by decide +kernel, by decide +kernel⟩
theorem cw_L_165 : CWs RL 165 RX10 yX10_frame cX10_frame 5 (some .int) 3 := ⟨q_1100, q_9, q_1103, rfl, by decide +kernel, by decide +kernel⟩
theorem cw_L_169 : CWs RL 169 RX10 yX10_camera cX10_camera 3 (some .int) 2 := ⟨q_1172, q_9, q_1175, rfl, by decide +kernel, by decide +kernel⟩
theorem cw_L_194 : CWs RL 194 RL yL_pairs cL_pairs 2 (some .int) 2 := ⟨q_1192, q_8, q_1194, rfl, by decide +kernel, by decide +kernel⟩
theorem cw_L_197 : CWs RL 197 RL yL_first cL_first 3 (some .int) 3 := ⟨q_1195, q_8, q_1197, rfl, by decide +kernel, by decide +kernel⟩
theorem cw_L_200 : CWs RL 200 RL yL_second cL_second 3 (some .int) 3 := ⟨q_1198, q_8, q_1200, rfl, by decide +kernel, by decide +kernel⟩
theorem cw_L_49 : CWs RL 49 RL yL_some cL_some 3 (some .int) 3 := ⟨q_752, q_8, q_754, rfl, by decide +kernel, by decide +kernel⟩
theorem cw_L_8 : CWs RL 8 RL yL_cell cL_cell 2 (some .int) 2 := ⟨q_755, q_8, q_757, rfl, by decide +kernel, by decide +kernel⟩
set_option maxRecDepth 100000 in
set_option maxHeartbeats 4000000 in
theorem b_X10_frame_b37 {K : Kt} {X : Xt} (hp : St K) (hB : Bx K X { frames := 6, cells := 0, slots := 0, locals := 200 } cX10_frame 5 RX10 (some .int)) {r : Int32} {M1 : Mem} {M : Mem} (hF : f_X10_frame_b37 M = some (r, M1)) : Wt K X (QM K X (some (vi r)) M1 0 0) 0 0 M 37 [] [] := by
  unfold f_X10_frame_b37 at hF
  cases hF
set_option maxRecDepth 100000 in
set_option maxHeartbeats 4000000 in
theorem b_X10_frame {K : Kt} {X : Xt} (hp : St K) (hB : Bx K X { frames := 6, cells := 0, slots := 0, locals := 200 } cX10_frame 5 RX10 (some .int)) {r : Int32} {M1 : Mem} {x1 : Int32} {x2 : Int32} {x3 : Int32} {M : Mem} (hF : f_X10_frame x1 x2 x3 M = some (r, M1)) : Wt K X (QM K X (some (vi r)) M1 0 0) 0 0 M 0 [(0, vr 64), (1, vi x1), (2, vi x2), (3, vi x3)] [] := by
  unfold f_X10_frame at hF
  refine w_aload_n hB 0 dX10_frame_0 rfl rfl ?_
  refine w_iload_n hB 1 dX10_frame_1 rfl rfl ?_
  obtain ⟨r1, M1m, hc_M1m, hF⟩ := clS hF
  refine w_callV hB (ci := 8) (As := [vi x1]) (st := []) cw_X10_184 q_432 q_0 rfl (soM hp.1 sh_64 (by decide)) (c_X10_isPlay hp hc_M1m) ⟨rfl, rfl⟩ (by decide) (by decide) rfl (Nat.le_of_ble_eq_true rfl) dX10_frame_2 rfl ?_
  refine w_if_eq hB 37 dX10_frame_5 (by decide) (fun hc => ?_) (fun hc => ?_)
  · replace hF := ifT hc hF
    exact Wt.sub (L' := []) [] rfl (b_X10_frame_b37 hp hB hF)
  · replace hF := ifF hc hF
    refine w_iload_n hB 2 dX10_frame_8 rfl rfl ?_
    refine w_if_lt hB 37 dX10_frame_9 (by decide) (fun hc => ?_) (fun hc => ?_)
    · replace hF := ifT hc hF
      exact Wt.sub (L' := []) [] rfl (b_X10_frame_b37 hp hB hF)
    · replace hF := ifF hc hF
      refine w_iload_n hB 2 dX10_frame_12 rfl rfl ?_
      refine w_aload_n hB 0 dX10_frame_13 rfl rfl ?_
      refine w_getR hB ff_X10_2 (soM hp.1 sh_64 (by decide)) q_385 dX10_frame_14 ?_
      obtain ⟨g1, hF⟩ := gdS hF
      refine w_getC hB (v := cr (M1m.2.2.1 64 2) 12) ff_X9_12 (soM hp.1 g1 (by decide)) hp.1 rfl (shc_ne (crc_8_12 g1).1) q_235 dX10_frame_17 ?_
      refine w_iload_n hB 1 dX10_frame_20 rfl rfl ?_
      obtain ⟨g2, hF⟩ := gdS hF
      refine w_aaldC hB (c := 6) (v := cr (cr (M1m.2.2.1 64 2) 12) x1.toNatClampNeg) (soM hp.1 (crc_8_12 g1).1 (by decide)) rfl (by decide) hp.1 (sl_s (crc_8_12 g1).1 (by decide) (crc_8_12 g1).2) g2 rfl (shc_ne (cre_26 (crc_8_12 g1).1 (by rw [(crc_8_12 g1).2]; exact inb_lt g2))) dX10_frame_21 ?_
      refine w_getI hB ff_X6_5 (soM hp.1 (cre_26 (crc_8_12 g1).1 (by rw [(crc_8_12 g1).2]; exact inb_lt g2)) (by decide)) q_137 dX10_frame_22 ?_
      refine w_icmp_ge hB 37 dX10_frame_25 (by decide) (fun hc => ?_) (fun hc => ?_)
      · replace hF := ifT hc hF
        exact Wt.sub (L' := []) [] rfl (b_X10_frame_b37 hp hB hF)
      · replace hF := ifF hc hF
        refine w_iload_n hB 3 dX10_frame_28 rfl rfl ?_
        refine w_if_lt hB 37 dX10_frame_29 (by decide) (fun hc => ?_) (fun hc => ?_)
        · replace hF := ifT hc hF
          exact Wt.sub (L' := []) [] rfl (b_X10_frame_b37 hp hB hF)
        · replace hF := ifF hc hF
          refine w_iload_n hB 3 dX10_frame_32 rfl rfl ?_
          refine w_iconst hB 3 (by decide) dX10_frame_33 ?_
          refine w_icmp_le hB 47 dX10_frame_34 (by decide) (fun hc => ?_) (fun hc => ?_)
          · replace hF := ifT hc hF
            refine w_aload_n hB 0 dX10_frame_47 rfl rfl ?_
            refine w_getR hB ff_X10_2 (soM hp.1 sh_64 (by decide)) q_385 dX10_frame_48 ?_
            refine w_getC hB (v := cr (M1m.2.2.1 64 2) 12) ff_X9_12 (soM hp.1 g1 (by decide)) hp.1 rfl (shc_ne (crc_8_12 g1).1) q_235 dX10_frame_51 ?_
            refine w_iload_n hB 1 dX10_frame_54 rfl rfl ?_
            refine w_aaldC hB (c := 6) (v := cr (cr (M1m.2.2.1 64 2) 12) x1.toNatClampNeg) (soM hp.1 (crc_8_12 g1).1 (by decide)) rfl (by decide) hp.1 (sl_s (crc_8_12 g1).1 (by decide) (crc_8_12 g1).2) g2 rfl (shc_ne (cre_26 (crc_8_12 g1).1 (by rw [(crc_8_12 g1).2]; exact inb_lt g2))) dX10_frame_55 ?_
            obtain ⟨o1, e_o1, hF⟩ := bndS hF
            rw [← e_o1]
            refine w_astore hB (L' := [(4, vr o1), (0, vr 64), (1, vi x1), (2, vi x2), (3, vi x3)]) dX10_frame_56 (by decide) rfl ?_
            refine w_iload_n hB 4 dX10_frame_58 rfl rfl ?_
            refine w_if_ne hB 70 dX10_frame_59 (by decide) (fun hc => ?_) (fun hc => ?_)
            · replace hF := ifF hc hF
              refine w_iload_n hB 4 dX10_frame_70 rfl rfl ?_
              refine w_iconst hB 1 (by decide) dX10_frame_71 ?_
              refine w_icmp_ne hB 83 dX10_frame_72 (by decide) (fun hc => ?_) (fun hc => ?_)
              · replace hF := ifF hc hF
                refine w_iload_n hB 4 dX10_frame_83 rfl rfl ?_
                refine w_iconst hB 2 (by decide) dX10_frame_84 ?_
                refine w_icmp_ne hB 98 dX10_frame_85 (by decide) (fun hc => ?_) (fun hc => ?_)
                · replace hF := ifF hc hF
                  refine w_aload hB 0 dX10_frame_98 rfl ?_
                  refine w_getC hB (v := cr o1 9) ff_X6_9 (soM hp.1 (by rw [e_o1]; exact (cre_26 (crc_8_12 g1).1 (by rw [(crc_8_12 g1).2]; exact inb_lt g2))) (by decide)) hp.1 rfl (shc_ne (crc_6_9 (by rw [e_o1]; exact (cre_26 (crc_8_12 g1).1 (by rw [(crc_8_12 g1).2]; exact inb_lt g2)))).1) q_153 dX10_frame_100 ?_
                  refine w_iload_n hB 3 dX10_frame_103 rfl rfl ?_
                  obtain ⟨g6, hF⟩ := gdS hF
                  refine w_iald hB (soM hp.1 (crc_6_9 (by rw [e_o1]; exact (cre_26 (crc_8_12 g1).1 (by rw [(crc_8_12 g1).2]; exact inb_lt g2)))).1 (by decide)) (sl_s (crc_6_9 (by rw [e_o1]; exact (cre_26 (crc_8_12 g1).1 (by rw [(crc_8_12 g1).2]; exact inb_lt g2)))).1 (by decide) (crc_6_9 (by rw [e_o1]; exact (cre_26 (crc_8_12 g1).1 (by rw [(crc_8_12 g1).2]; exact inb_lt g2)))).2) g6 dX10_frame_104 ?_
                  obtain ⟨e1, e2⟩ := retS hF
                  subst e2
                  exact w_iret hB dX10_frame_105 e1
                · replace hF := ifT hc hF
                  refine w_aload hB 0 dX10_frame_88 rfl ?_
                  refine w_getC hB (v := cr o1 8) ff_X6_8 (soM hp.1 (by rw [e_o1]; exact (cre_26 (crc_8_12 g1).1 (by rw [(crc_8_12 g1).2]; exact inb_lt g2))) (by decide)) hp.1 rfl (shc_ne (crc_6_8 (by rw [e_o1]; exact (cre_26 (crc_8_12 g1).1 (by rw [(crc_8_12 g1).2]; exact inb_lt g2)))).1) q_149 dX10_frame_90 ?_
                  refine w_iload_n hB 3 dX10_frame_93 rfl rfl ?_
                  obtain ⟨g5, hF⟩ := gdS hF
                  refine w_iald hB (soM hp.1 (crc_6_8 (by rw [e_o1]; exact (cre_26 (crc_8_12 g1).1 (by rw [(crc_8_12 g1).2]; exact inb_lt g2)))).1 (by decide)) (sl_s (crc_6_8 (by rw [e_o1]; exact (cre_26 (crc_8_12 g1).1 (by rw [(crc_8_12 g1).2]; exact inb_lt g2)))).1 (by decide) (crc_6_8 (by rw [e_o1]; exact (cre_26 (crc_8_12 g1).1 (by rw [(crc_8_12 g1).2]; exact inb_lt g2)))).2) g5 dX10_frame_94 ?_
                  refine w_goto hB 105 dX10_frame_95 (by decide) ?_
                  obtain ⟨e1, e2⟩ := retS hF
                  subst e2
                  exact w_iret hB dX10_frame_105 e1
              · replace hF := ifT hc hF
                refine w_aload hB 0 dX10_frame_75 rfl ?_
                refine w_getC hB (v := cr o1 7) ff_X6_7 (soM hp.1 (by rw [e_o1]; exact (cre_26 (crc_8_12 g1).1 (by rw [(crc_8_12 g1).2]; exact inb_lt g2))) (by decide)) hp.1 rfl (shc_ne (crc_6_7 (by rw [e_o1]; exact (cre_26 (crc_8_12 g1).1 (by rw [(crc_8_12 g1).2]; exact inb_lt g2)))).1) q_145 dX10_frame_77 ?_
                refine w_iload_n hB 3 dX10_frame_80 rfl rfl ?_
                obtain ⟨g4, hF⟩ := gdS hF
                refine w_iald hB (soM hp.1 (crc_6_7 (by rw [e_o1]; exact (cre_26 (crc_8_12 g1).1 (by rw [(crc_8_12 g1).2]; exact inb_lt g2)))).1 (by decide)) (sl_s (crc_6_7 (by rw [e_o1]; exact (cre_26 (crc_8_12 g1).1 (by rw [(crc_8_12 g1).2]; exact inb_lt g2)))).1 (by decide) (crc_6_7 (by rw [e_o1]; exact (cre_26 (crc_8_12 g1).1 (by rw [(crc_8_12 g1).2]; exact inb_lt g2)))).2) g4 dX10_frame_81 ?_
                obtain ⟨e1, e2⟩ := retS hF
                subst e2
                exact w_iret hB dX10_frame_82 e1
            · replace hF := ifT hc hF
              refine w_aload hB 0 dX10_frame_62 rfl ?_
              refine w_getC hB (v := cr o1 6) ff_X6_6 (soM hp.1 (by rw [e_o1]; exact (cre_26 (crc_8_12 g1).1 (by rw [(crc_8_12 g1).2]; exact inb_lt g2))) (by decide)) hp.1 rfl (shc_ne (crc_6_6 (by rw [e_o1]; exact (cre_26 (crc_8_12 g1).1 (by rw [(crc_8_12 g1).2]; exact inb_lt g2)))).1) q_141 dX10_frame_64 ?_
              refine w_iload_n hB 3 dX10_frame_67 rfl rfl ?_
              obtain ⟨g3, hF⟩ := gdS hF
              refine w_iald hB (soM hp.1 (crc_6_6 (by rw [e_o1]; exact (cre_26 (crc_8_12 g1).1 (by rw [(crc_8_12 g1).2]; exact inb_lt g2)))).1 (by decide)) (sl_s (crc_6_6 (by rw [e_o1]; exact (cre_26 (crc_8_12 g1).1 (by rw [(crc_8_12 g1).2]; exact inb_lt g2)))).1 (by decide) (crc_6_6 (by rw [e_o1]; exact (cre_26 (crc_8_12 g1).1 (by rw [(crc_8_12 g1).2]; exact inb_lt g2)))).2) g3 dX10_frame_68 ?_
              obtain ⟨e1, e2⟩ := retS hF
              subst e2
              exact w_iret hB dX10_frame_69 e1
          · replace hF := ifF hc hF
            exact Wt.sub (L' := []) [] rfl (b_X10_frame_b37 hp hB hF)
theorem c_X10_frame {K : Kt} {l : Launch} (hp : St K) {r : Int32} {M1 : Mem} {x1 : Int32} {x2 : Int32} {x3 : Int32} {M : Mem} (hF : f_X10_frame x1 x2 x3 M = some (r, M1)) : MT K l yX10_frame cX10_frame 5 (some .int) { frames := 6, cells := 0, slots := 0, locals := 200 } [vr 64, vi x1, vi x2, vi x3] M (some (vi r)) M1 0 0 :=
  MT_of (by decide) rfl (Nat.le_of_ble_eq_true rfl) (fun X _ hB _ => b_X10_frame hp hB hF)
def f_J6_stringSize_0f7a4_b16_s (rec16 : Int32 → Int32 → Int32 → Int32 → Mem → Option (Int32 × Mem)) (x0 : Int32) (x1 : Int32) (x2 : Int32) (x3 : Int32) (M : Mem) : Option (Int32 × Mem) :=
  if 10 ≤ x3 then
    some (10 + x1, M)
  else
    if x0 ≤ x2 then
      bnd (10 * x2) fun a1 =>
      bnd (x3 + 1) fun a2 =>
      rec16 x0 x1 a1 a2 M
    else
      some (x3 + x1, M)
set_option maxRecDepth 100000 in
set_option maxHeartbeats 4000000 in
theorem b_J6_stringSize_0f7a4_b16_s {K : Kt} {X : Xt} (hp : St K) (hB : Bx K X { frames := 0, cells := 0, slots := 0, locals := 0 } cJ6_stringSize_0f7a4 4 RJ6 (some .int)) {r : Int32} {M1 : Mem} {rec16 : Int32 → Int32 → Int32 → Int32 → Mem → Option (Int32 × Mem)}
    (h16 : ∀ x0 x1 x2 x3 M, rec16 x0 x1 x2 x3 M = some (r, M1) → Wt K X (QM K X (some (vi r)) M1 0 0) 0 0 M 16 [(0, vi x0), (1, vi x1), (2, vi x2), (3, vi x3)] []) {x0 : Int32} {x1 : Int32} {x2 : Int32} {x3 : Int32} {M : Mem} (hF : f_J6_stringSize_0f7a4_b16_s rec16 x0 x1 x2 x3 M = some (r, M1)) : Wt K X (QM K X (some (vi r)) M1 0 0) 0 0 M 16 [(0, vi x0), (1, vi x1), (2, vi x2), (3, vi x3)] [] := by
  unfold f_J6_stringSize_0f7a4_b16_s at hF
  refine w_iload_n hB 3 dJ6_stringSize_0f7a4_16 rfl rfl ?_
  refine w_bipush hB 10 (by decide) dJ6_stringSize_0f7a4_17 ?_
  refine w_icmp_ge hB 42 dJ6_stringSize_0f7a4_19 (by decide) (fun hc => ?_) (fun hc => ?_)
  · replace hF := ifT hc hF
    refine w_bipush hB 10 (by decide) dJ6_stringSize_0f7a4_42 ?_
    refine w_iload_n hB 1 dJ6_stringSize_0f7a4_44 rfl rfl ?_
    refine w_iadd hB dJ6_stringSize_0f7a4_45 ?_
    obtain ⟨e1, e2⟩ := retS hF
    subst e2
    exact w_iret hB dJ6_stringSize_0f7a4_46 e1
  · replace hF := ifF hc hF
    refine w_iload_n hB 0 dJ6_stringSize_0f7a4_22 rfl rfl ?_
    refine w_iload_n hB 2 dJ6_stringSize_0f7a4_23 rfl rfl ?_
    refine w_icmp_le hB 31 dJ6_stringSize_0f7a4_24 (by decide) (fun hc => ?_) (fun hc => ?_)
    · replace hF := ifT hc hF
      refine w_bipush hB 10 (by decide) dJ6_stringSize_0f7a4_31 ?_
      refine w_iload_n hB 2 dJ6_stringSize_0f7a4_33 rfl rfl ?_
      refine w_imul hB dJ6_stringSize_0f7a4_34 ?_
      obtain ⟨a1, e_a1, hF⟩ := bndS hF
      refine w_istore_n hB (L' := [(2, vi a1), (0, vi x0), (1, vi x1), (3, vi x3)]) dJ6_stringSize_0f7a4_35 rfl (by decide) e_a1 rfl ?_
      obtain ⟨a2, e_a2, hF⟩ := bndS hF
      refine w_iinc hB 3 (v := 1) (L' := [(3, vi a2), (2, vi a1), (0, vi x0), (1, vi x1)]) dJ6_stringSize_0f7a4_36 rfl (by decide) (by decide) e_a2 rfl ?_
      refine w_goto hB 16 dJ6_stringSize_0f7a4_39 (by decide) ?_
      exact Wt.sub (L' := [(0, vi x0), (1, vi x1), (2, vi a1), (3, vi a2)]) [2, 3, 1, 0] rfl (h16 _ _ _ _ M hF)
    · replace hF := ifF hc hF
      refine w_iload_n hB 3 dJ6_stringSize_0f7a4_27 rfl rfl ?_
      refine w_iload_n hB 1 dJ6_stringSize_0f7a4_28 rfl rfl ?_
      refine w_iadd hB dJ6_stringSize_0f7a4_29 ?_
      obtain ⟨e1, e2⟩ := retS hF
      subst e2
      exact w_iret hB dJ6_stringSize_0f7a4_30 e1
def f_J6_stringSize_0f7a4_b16 (k : Nat) : Int32 → Int32 → Int32 → Int32 → Mem → Option (Int32 × Mem) := lpN (fun _ _ _ _ _ => none) (f_J6_stringSize_0f7a4_b16_s) k
theorem b_J6_stringSize_0f7a4_b16 {K : Kt} {X : Xt} (hp : St K) (hB : Bx K X { frames := 0, cells := 0, slots := 0, locals := 0 } cJ6_stringSize_0f7a4 4 RJ6 (some .int)) {r : Int32} {M1 : Mem} (k : Nat) : ∀ (x0 : Int32) (x1 : Int32) (x2 : Int32) (x3 : Int32) M, f_J6_stringSize_0f7a4_b16 k x0 x1 x2 x3 M = some (r, M1) → Wt K X (QM K X (some (vi r)) M1 0 0) 0 0 M 16 [(0, vi x0), (1, vi x1), (2, vi x2), (3, vi x3)] [] := by
  refine lpN_ind (P := fun (f : Int32 → Int32 → Int32 → Int32 → Mem → Option (Int32 × Mem)) => ∀ (x0 : Int32) (x1 : Int32) (x2 : Int32) (x3 : Int32) M, f x0 x1 x2 x3 M = some (r, M1) → Wt K X (QM K X (some (vi r)) M1 0 0) 0 0 M 16 [(0, vi x0), (1, vi x1), (2, vi x2), (3, vi x3)] []) (fun _ _ _ _ _ h => by cases h) (fun f hf x0 x1 x2 x3 M hF => ?_) k
  exact b_J6_stringSize_0f7a4_b16_s hp hB hf hF
def f_J6_stringSize_0f7a4 (x0 : Int32) (M : Mem) : Option (Int32 × Mem) :=
  if x0 < 0 then
    f_J6_stringSize_0f7a4_b16 fuel x0 1 (-10) 1 M
  else
    bnd (-x0) fun a1 =>
    f_J6_stringSize_0f7a4_b16 fuel a1 0 (-10) 1 M
set_option maxRecDepth 100000 in
set_option maxHeartbeats 4000000 in
theorem b_J6_stringSize_0f7a4 {K : Kt} {X : Xt} (hp : St K) (hB : Bx K X { frames := 0, cells := 0, slots := 0, locals := 0 } cJ6_stringSize_0f7a4 4 RJ6 (some .int)) {r : Int32} {M1 : Mem} {x0 : Int32} {M : Mem} (hF : f_J6_stringSize_0f7a4 x0 M = some (r, M1)) : Wt K X (QM K X (some (vi r)) M1 0 0) 0 0 M 0 [(0, vi x0)] [] := by
  unfold f_J6_stringSize_0f7a4 at hF
  refine w_iconst hB 1 (by decide) dJ6_stringSize_0f7a4_0 ?_
  refine w_istore_n hB (L' := [(1, vi 1), (0, vi x0)]) dJ6_stringSize_0f7a4_1 rfl (by decide) rfl rfl ?_
  refine w_iload_n hB 1 dJ6_stringSize_0f7a4_2 rfl rfl ?_
  refine w_if_lt hB 11 dJ6_stringSize_0f7a4_3 (by decide) (fun hc => ?_) (fun hc => ?_)
  · replace hF := ifT hc hF
    refine w_bipush hB (-10) (by decide) dJ6_stringSize_0f7a4_11 ?_
    refine w_istore_n hB (L' := [(2, vi (-10)), (1, vi 1), (0, vi x0)]) dJ6_stringSize_0f7a4_13 rfl (by decide) rfl rfl ?_
    refine w_iconst hB 1 (by decide) dJ6_stringSize_0f7a4_14 ?_
    refine w_istore_n hB (L' := [(3, vi 1), (2, vi (-10)), (1, vi 1), (0, vi x0)]) dJ6_stringSize_0f7a4_15 rfl (by decide) rfl rfl ?_
    exact Wt.sub (L' := [(0, vi x0), (1, vi 1), (2, vi (-10)), (3, vi 1)]) [3, 2, 1, 0] rfl (b_J6_stringSize_0f7a4_b16 hp hB fuel _ _ _ _ M hF)
  · replace hF := ifF hc hF
    refine w_iconst hB 0 (by decide) dJ6_stringSize_0f7a4_6 ?_
    refine w_istore_n hB (L' := [(1, vi 0), (0, vi x0)]) dJ6_stringSize_0f7a4_7 rfl (by decide) rfl rfl ?_
    refine w_iload_n hB 1 dJ6_stringSize_0f7a4_8 rfl rfl ?_
    refine w_ineg hB dJ6_stringSize_0f7a4_9 ?_
    obtain ⟨a1, e_a1, hF⟩ := bndS hF
    refine w_istore_n hB (L' := [(0, vi a1), (1, vi 0)]) dJ6_stringSize_0f7a4_10 rfl (by decide) e_a1 rfl ?_
    refine w_bipush hB (-10) (by decide) dJ6_stringSize_0f7a4_11 ?_
    refine w_istore_n hB (L' := [(2, vi (-10)), (0, vi a1), (1, vi 0)]) dJ6_stringSize_0f7a4_13 rfl (by decide) rfl rfl ?_
    refine w_iconst hB 1 (by decide) dJ6_stringSize_0f7a4_14 ?_
    refine w_istore_n hB (L' := [(3, vi 1), (2, vi (-10)), (0, vi a1), (1, vi 0)]) dJ6_stringSize_0f7a4_15 rfl (by decide) rfl rfl ?_
    exact Wt.sub (L' := [(0, vi a1), (1, vi 0), (2, vi (-10)), (3, vi 1)]) [2, 3, 1, 0] rfl (b_J6_stringSize_0f7a4_b16 hp hB fuel _ _ _ _ M hF)
theorem c_J6_stringSize_0f7a4 {K : Kt} {l : Launch} (hp : St K) {r : Int32} {M1 : Mem} {x0 : Int32} {M : Mem} (hF : f_J6_stringSize_0f7a4 x0 M = some (r, M1)) : MT K l yJ6_stringSize_0f7a4 cJ6_stringSize_0f7a4 4 (some .int) { frames := 0, cells := 0, slots := 0, locals := 0 } [vi x0] M (some (vi r)) M1 0 0 :=
  MT_of (by decide) rfl (Nat.le_of_ble_eq_true rfl) (fun X _ hB _ => b_J6_stringSize_0f7a4 hp hB hF)
def f_J6_getChars_ba4f3_b104 (n2 : Nat) (x5 : Int32) (x6 : Int32) (M : Mem) : Option (Int32 × Mem) :=
  if x6 = 0 then
    some (x5, M)
  else
    bnd (x5 + (-1)) fun a1 =>
    gd (1000 ≤ n2 ∧ dsc M n2 = 22 ∧ n2 - 753 < M.2.2.2) <|
    gd (inb a1 (dln M n2)) <|
    bnd (setI M n2 (a1.toNatClampNeg) (vp_nar .byte 45)) fun M1m =>
    some (a1, M1m)
set_option maxRecDepth 100000 in
set_option maxHeartbeats 4000000 in
theorem b_J6_getChars_ba4f3_b104 {K : Kt} {X : Xt} (hp : St K) (hB : Bx K X { frames := 0, cells := 0, slots := 0, locals := 0 } cJ6_getChars_ba4f3 7 RJ6 (some .int)) {r : Int32} {M1 : Mem} {n2 : Nat} {x5 : Int32} {x6 : Int32} {M : Mem} (hF : f_J6_getChars_ba4f3_b104 n2 x5 x6 M = some (r, M1)) : Wt K X (QM K X (some (vi r)) M1 0 0) 0 0 M 104 [(2, vr n2), (5, vi x5), (6, vi x6)] [] := by
  unfold f_J6_getChars_ba4f3_b104 at hF
  refine w_iload hB 2 dJ6_getChars_ba4f3_104 rfl ?_
  refine w_if_eq hB 118 dJ6_getChars_ba4f3_106 (by decide) (fun hc => ?_) (fun hc => ?_)
  · replace hF := ifT hc hF
    refine w_iload hB 1 dJ6_getChars_ba4f3_118 rfl ?_
    obtain ⟨e1, e2⟩ := retS hF
    subst e2
    exact w_iret hB dJ6_getChars_ba4f3_120 e1
  · replace hF := ifF hc hF
    refine w_aload_n hB 0 dJ6_getChars_ba4f3_109 rfl rfl ?_
    obtain ⟨a1, e_a1, hF⟩ := bndS hF
    refine w_iinc hB 1 (v := (-1)) (L' := [(5, vi a1), (2, vr n2), (6, vi x6)]) dJ6_getChars_ba4f3_110 rfl (by decide) (by decide) e_a1 rfl ?_
    refine w_iload hB 0 dJ6_getChars_ba4f3_113 rfl ?_
    refine w_bipush hB 45 (by decide) dJ6_getChars_ba4f3_115 ?_
    obtain ⟨g1, hF⟩ := gdS hF
    obtain ⟨g2, hF⟩ := gdS hF
    obtain ⟨M1m, e_M1m, hF⟩ := bndS hF
    refine w_bast hB (dqM g1) (sl_d g1.1 rfl) g2 e_M1m dJ6_getChars_ba4f3_117 ?_
    refine w_iload hB 0 dJ6_getChars_ba4f3_118 rfl ?_
    obtain ⟨e1, e2⟩ := retS hF
    subst e2
    exact w_iret hB dJ6_getChars_ba4f3_120 e1
def f_J6_getChars_ba4f3_b22_s (rec22 : Int32 → Nat → Int32 → Int32 → Mem → Option (Int32 × Mem)) (x0 : Int32) (n2 : Nat) (x5 : Int32) (x6 : Int32) (M : Mem) : Option (Int32 × Mem) :=
  if (-100) < x0 then
    bnd (x5 + (-1)) fun a1 =>
    gd (inb (-x0) 100) <|
    gd (1000 ≤ n2 ∧ dsc M n2 = 22 ∧ n2 - 753 < M.2.2.2) <|
    gd (inb a1 (dln M n2)) <|
    bnd (setI M n2 (a1.toNatClampNeg) (vp_nar .byte (dgt 481 (-x0).toNatClampNeg))) fun M1m =>
    if (-9) ≤ x0 then
      f_J6_getChars_ba4f3_b104 n2 a1 x6 M1m
    else
      bnd (a1 + (-1)) fun a2 =>
      gd (1000 ≤ n2 ∧ dsc M1m n2 = 22 ∧ n2 - 753 < M1m.2.2.2) <|
      gd (inb a2 (dln M1m n2)) <|
      bnd (setI M1m n2 (a2.toNatClampNeg) (vp_nar .byte (dgt 480 (-x0).toNatClampNeg))) fun M2m =>
      f_J6_getChars_ba4f3_b104 n2 a2 x6 M2m
  else
    bnd (x0 / 100) fun a3 =>
    bnd ((a3 * 100) - x0) fun a4 =>
    bnd (x5 + (-1)) fun a5 =>
    gd (inb a4 100) <|
    gd (1000 ≤ n2 ∧ dsc M n2 = 22 ∧ n2 - 753 < M.2.2.2) <|
    gd (inb a5 (dln M n2)) <|
    bnd (setI M n2 (a5.toNatClampNeg) (vp_nar .byte (dgt 481 a4.toNatClampNeg))) fun M3m =>
    bnd (a5 + (-1)) fun a6 =>
    gd (1000 ≤ n2 ∧ dsc M3m n2 = 22 ∧ n2 - 753 < M3m.2.2.2) <|
    gd (inb a6 (dln M3m n2)) <|
    bnd (setI M3m n2 (a6.toNatClampNeg) (vp_nar .byte (dgt 480 a4.toNatClampNeg))) fun M4m =>
    rec22 a3 n2 a6 x6 M4m
set_option maxRecDepth 100000 in
set_option maxHeartbeats 4000000 in
theorem b_J6_getChars_ba4f3_b22_s {K : Kt} {X : Xt} (hp : St K) (hB : Bx K X { frames := 0, cells := 0, slots := 0, locals := 0 } cJ6_getChars_ba4f3 7 RJ6 (some .int)) {r : Int32} {M1 : Mem} {rec22 : Int32 → Nat → Int32 → Int32 → Mem → Option (Int32 × Mem)}
    (h22 : ∀ x0 n2 x5 x6 M, rec22 x0 n2 x5 x6 M = some (r, M1) → Wt K X (QM K X (some (vi r)) M1 0 0) 0 0 M 22 [(0, vi x0), (2, vr n2), (5, vi x5), (6, vi x6)] []) {x0 : Int32} {n2 : Nat} {x5 : Int32} {x6 : Int32} {M : Mem} (hF : f_J6_getChars_ba4f3_b22_s rec22 x0 n2 x5 x6 M = some (r, M1)) : Wt K X (QM K X (some (vi r)) M1 0 0) 0 0 M 22 [(0, vi x0), (2, vr n2), (5, vi x5), (6, vi x6)] [] := by
  unfold f_J6_getChars_ba4f3_b22_s at hF
  refine w_iload_n hB 0 dJ6_getChars_ba4f3_22 rfl rfl ?_
  refine w_bipush hB (-100) (by decide) dJ6_getChars_ba4f3_23 ?_
  refine w_icmp_gt hB 72 dJ6_getChars_ba4f3_25 (by decide) (fun hc => ?_) (fun hc => ?_)
  · replace hF := ifT hc hF
    refine w_aload_n hB 1 dJ6_getChars_ba4f3_72 rfl rfl ?_
    obtain ⟨a1, e_a1, hF⟩ := bndS hF
    refine w_iinc hB 2 (v := (-1)) (L' := [(5, vi a1), (0, vi x0), (2, vr n2), (6, vi x6)]) dJ6_getChars_ba4f3_73 rfl (by decide) (by decide) e_a1 rfl ?_
    refine w_iload hB 0 dJ6_getChars_ba4f3_76 rfl ?_
    refine w_getdg hB hp 481 ⟨by decide, rfl⟩ q_773 dJ6_getChars_ba4f3_78 ?_
    refine w_iload_n hB 1 dJ6_getChars_ba4f3_81 rfl rfl ?_
    refine w_ineg hB dJ6_getChars_ba4f3_82 ?_
    obtain ⟨g1, hF⟩ := gdS hF
    refine w_dgbald hB hp (by decide) g1 dJ6_getChars_ba4f3_83 ?_
    obtain ⟨g2, hF⟩ := gdS hF
    obtain ⟨g3, hF⟩ := gdS hF
    obtain ⟨M1m, e_M1m, hF⟩ := bndS hF
    refine w_bast hB (dqM g2) (sl_d g2.1 rfl) g3 e_M1m dJ6_getChars_ba4f3_84 ?_
    refine w_iload_n hB 1 dJ6_getChars_ba4f3_85 rfl rfl ?_
    refine w_bipush hB (-9) (by decide) dJ6_getChars_ba4f3_86 ?_
    refine w_icmp_ge hB 104 dJ6_getChars_ba4f3_88 (by decide) (fun hc => ?_) (fun hc => ?_)
    · replace hF := ifT hc hF
      exact Wt.sub (L' := [(2, vr n2), (5, vi a1), (6, vi x6)]) [2, 0, 3] rfl (b_J6_getChars_ba4f3_b104 hp hB hF)
    · replace hF := ifF hc hF
      refine w_aload_n hB 2 dJ6_getChars_ba4f3_91 rfl rfl ?_
      obtain ⟨a2, e_a2, hF⟩ := bndS hF
      refine w_iinc hB 0 (v := (-1)) (L' := [(5, vi a2), (0, vi x0), (2, vr n2), (6, vi x6)]) dJ6_getChars_ba4f3_92 rfl (by decide) (by decide) e_a2 rfl ?_
      refine w_iload hB 0 dJ6_getChars_ba4f3_95 rfl ?_
      refine w_getdg hB hp 480 ⟨by decide, rfl⟩ q_775 dJ6_getChars_ba4f3_97 ?_
      refine w_iload_n hB 1 dJ6_getChars_ba4f3_100 rfl rfl ?_
      refine w_ineg hB dJ6_getChars_ba4f3_101 ?_
      refine w_dgbald hB hp (by decide) g1 dJ6_getChars_ba4f3_102 ?_
      obtain ⟨g4, hF⟩ := gdS hF
      obtain ⟨g5, hF⟩ := gdS hF
      obtain ⟨M2m, e_M2m, hF⟩ := bndS hF
      refine w_bast hB (dqM g4) (sl_d g4.1 rfl) g5 e_M2m dJ6_getChars_ba4f3_103 ?_
      exact Wt.sub (L' := [(2, vr n2), (5, vi a2), (6, vi x6)]) [2, 0, 3] rfl (b_J6_getChars_ba4f3_b104 hp hB hF)
  · replace hF := ifF hc hF
    refine w_iload_n hB 0 dJ6_getChars_ba4f3_28 rfl rfl ?_
    refine w_bipush hB 100 (by decide) dJ6_getChars_ba4f3_29 ?_
    refine w_idiv hB (by decide) dJ6_getChars_ba4f3_31 ?_
    obtain ⟨a3, e_a3, hF⟩ := bndS hF
    refine w_istore_n hB (L' := [(3, vi a3), (0, vi x0), (2, vr n2), (5, vi x5), (6, vi x6)]) dJ6_getChars_ba4f3_32 rfl (by decide) e_a3 rfl ?_
    refine w_iload_n hB 0 dJ6_getChars_ba4f3_33 rfl rfl ?_
    refine w_bipush hB 100 (by decide) dJ6_getChars_ba4f3_34 ?_
    refine w_imul hB dJ6_getChars_ba4f3_36 ?_
    refine w_iload_n hB 1 dJ6_getChars_ba4f3_37 rfl rfl ?_
    refine w_isub hB dJ6_getChars_ba4f3_38 ?_
    obtain ⟨a4, e_a4, hF⟩ := bndS hF
    refine w_istore hB (L' := [(4, vi a4), (3, vi a3), (0, vi x0), (2, vr n2), (5, vi x5), (6, vi x6)]) dJ6_getChars_ba4f3_39 (by decide) e_a4 rfl ?_
    refine w_iload_n hB 1 dJ6_getChars_ba4f3_41 rfl rfl ?_
    refine w_istore_n hB (L' := [(0, vi a3), (4, vi a4), (3, vi a3), (2, vr n2), (5, vi x5), (6, vi x6)]) dJ6_getChars_ba4f3_42 rfl (by decide) rfl rfl ?_
    refine w_aload_n hB 3 dJ6_getChars_ba4f3_43 rfl rfl ?_
    obtain ⟨a5, e_a5, hF⟩ := bndS hF
    refine w_iinc hB 4 (v := (-1)) (L' := [(5, vi a5), (0, vi a3), (4, vi a4), (3, vi a3), (2, vr n2), (6, vi x6)]) dJ6_getChars_ba4f3_44 rfl (by decide) (by decide) e_a5 rfl ?_
    refine w_iload hB 0 dJ6_getChars_ba4f3_47 rfl ?_
    refine w_getdg hB hp 481 ⟨by decide, rfl⟩ q_773 dJ6_getChars_ba4f3_49 ?_
    refine w_iload hB 2 dJ6_getChars_ba4f3_52 rfl ?_
    obtain ⟨g6, hF⟩ := gdS hF
    refine w_dgbald hB hp (by decide) g6 dJ6_getChars_ba4f3_54 ?_
    obtain ⟨g7, hF⟩ := gdS hF
    obtain ⟨g8, hF⟩ := gdS hF
    obtain ⟨M3m, e_M3m, hF⟩ := bndS hF
    refine w_bast hB (dqM g7) (sl_d g7.1 rfl) g8 e_M3m dJ6_getChars_ba4f3_55 ?_
    refine w_aload_n hB 4 dJ6_getChars_ba4f3_56 rfl rfl ?_
    obtain ⟨a6, e_a6, hF⟩ := bndS hF
    refine w_iinc hB 0 (v := (-1)) (L' := [(5, vi a6), (0, vi a3), (4, vi a4), (3, vi a3), (2, vr n2), (6, vi x6)]) dJ6_getChars_ba4f3_57 rfl (by decide) (by decide) e_a6 rfl ?_
    refine w_iload hB 0 dJ6_getChars_ba4f3_60 rfl ?_
    refine w_getdg hB hp 480 ⟨by decide, rfl⟩ q_775 dJ6_getChars_ba4f3_62 ?_
    refine w_iload hB 2 dJ6_getChars_ba4f3_65 rfl ?_
    refine w_dgbald hB hp (by decide) g6 dJ6_getChars_ba4f3_67 ?_
    obtain ⟨g9, hF⟩ := gdS hF
    obtain ⟨g10, hF⟩ := gdS hF
    obtain ⟨M4m, e_M4m, hF⟩ := bndS hF
    refine w_bast hB (dqM g9) (sl_d g9.1 rfl) g10 e_M4m dJ6_getChars_ba4f3_68 ?_
    refine w_goto hB 22 dJ6_getChars_ba4f3_69 (by decide) ?_
    exact Wt.sub (L' := [(0, vi a3), (2, vr n2), (5, vi a6), (6, vi x6)]) [1, 4, 0, 5] rfl (h22 _ _ _ _ M4m hF)
def f_J6_getChars_ba4f3_b22 (k : Nat) : Int32 → Nat → Int32 → Int32 → Mem → Option (Int32 × Mem) := lpN (fun _ _ _ _ _ => none) (f_J6_getChars_ba4f3_b22_s) k
theorem b_J6_getChars_ba4f3_b22 {K : Kt} {X : Xt} (hp : St K) (hB : Bx K X { frames := 0, cells := 0, slots := 0, locals := 0 } cJ6_getChars_ba4f3 7 RJ6 (some .int)) {r : Int32} {M1 : Mem} (k : Nat) : ∀ (x0 : Int32) (n2 : Nat) (x5 : Int32) (x6 : Int32) M, f_J6_getChars_ba4f3_b22 k x0 n2 x5 x6 M = some (r, M1) → Wt K X (QM K X (some (vi r)) M1 0 0) 0 0 M 22 [(0, vi x0), (2, vr n2), (5, vi x5), (6, vi x6)] [] := by
  refine lpN_ind (P := fun (f : Int32 → Nat → Int32 → Int32 → Mem → Option (Int32 × Mem)) => ∀ (x0 : Int32) (n2 : Nat) (x5 : Int32) (x6 : Int32) M, f x0 n2 x5 x6 M = some (r, M1) → Wt K X (QM K X (some (vi r)) M1 0 0) 0 0 M 22 [(0, vi x0), (2, vr n2), (5, vi x5), (6, vi x6)] []) (fun _ _ _ _ _ h => by cases h) (fun f hf x0 n2 x5 x6 M hF => ?_) k
  exact b_J6_getChars_ba4f3_b22_s hp hB hf hF
def f_J6_getChars_ba4f3_b12 (x0 : Int32) (n2 : Nat) (x5 : Int32) (xs0 : Int32) (M : Mem) : Option (Int32 × Mem) :=
  if xs0 = 0 then
    bnd (-x0) fun a1 =>
    f_J6_getChars_ba4f3_b22 fuel a1 n2 x5 xs0 M
  else
    f_J6_getChars_ba4f3_b22 fuel x0 n2 x5 xs0 M
set_option maxRecDepth 100000 in
set_option maxHeartbeats 4000000 in
theorem b_J6_getChars_ba4f3_b12 {K : Kt} {X : Xt} (hp : St K) (hB : Bx K X { frames := 0, cells := 0, slots := 0, locals := 0 } cJ6_getChars_ba4f3 7 RJ6 (some .int)) {r : Int32} {M1 : Mem} {x0 : Int32} {n2 : Nat} {x5 : Int32} {xs0 : Int32} {M : Mem} (hF : f_J6_getChars_ba4f3_b12 x0 n2 x5 xs0 M = some (r, M1)) : Wt K X (QM K X (some (vi r)) M1 0 0) 0 0 M 12 [(0, vi x0), (2, vr n2), (5, vi x5)] [vi xs0] := by
  unfold f_J6_getChars_ba4f3_b12 at hF
  refine w_istore hB (L' := [(6, vi xs0), (0, vi x0), (2, vr n2), (5, vi x5)]) dJ6_getChars_ba4f3_12 (by decide) rfl rfl ?_
  refine w_iload hB 0 dJ6_getChars_ba4f3_14 rfl ?_
  refine w_if_ne hB 22 dJ6_getChars_ba4f3_16 (by decide) (fun hc => ?_) (fun hc => ?_)
  · replace hF := ifF hc hF
    exact Wt.sub (L' := [(0, vi x0), (2, vr n2), (5, vi x5), (6, vi xs0)]) [1, 2, 3, 0] rfl (b_J6_getChars_ba4f3_b22 hp hB fuel _ _ _ _ M hF)
  · replace hF := ifT hc hF
    refine w_iload_n hB 1 dJ6_getChars_ba4f3_19 rfl rfl ?_
    refine w_ineg hB dJ6_getChars_ba4f3_20 ?_
    obtain ⟨a1, e_a1, hF⟩ := bndS hF
    refine w_istore_n hB (L' := [(0, vi a1), (6, vi xs0), (2, vr n2), (5, vi x5)]) dJ6_getChars_ba4f3_21 rfl (by decide) e_a1 rfl ?_
    exact Wt.sub (L' := [(0, vi a1), (2, vr n2), (5, vi x5), (6, vi xs0)]) [0, 2, 3, 1] rfl (b_J6_getChars_ba4f3_b22 hp hB fuel _ _ _ _ M hF)
def f_J6_getChars_ba4f3 (x0 : Int32) (x1 : Int32) (n2 : Nat) (M : Mem) : Option (Int32 × Mem) :=
  if 0 ≤ x0 then
    f_J6_getChars_ba4f3_b12 x0 n2 x1 0 M
  else
    f_J6_getChars_ba4f3_b12 x0 n2 x1 1 M
set_option maxRecDepth 100000 in
set_option maxHeartbeats 4000000 in
theorem b_J6_getChars_ba4f3 {K : Kt} {X : Xt} (hp : St K) (hB : Bx K X { frames := 0, cells := 0, slots := 0, locals := 0 } cJ6_getChars_ba4f3 7 RJ6 (some .int)) {r : Int32} {M1 : Mem} {x0 : Int32} {x1 : Int32} {n2 : Nat} {M : Mem} (hF : f_J6_getChars_ba4f3 x0 x1 n2 M = some (r, M1)) : Wt K X (QM K X (some (vi r)) M1 0 0) 0 0 M 0 [(0, vi x0), (1, vi x1), (2, vr n2)] [] := by
  unfold f_J6_getChars_ba4f3 at hF
  refine w_iload_n hB 1 dJ6_getChars_ba4f3_0 rfl rfl ?_
  refine w_istore hB (L' := [(5, vi x1), (0, vi x0), (1, vi x1), (2, vr n2)]) dJ6_getChars_ba4f3_1 (by decide) rfl rfl ?_
  refine w_iload_n hB 1 dJ6_getChars_ba4f3_3 rfl rfl ?_
  refine w_if_ge hB 11 dJ6_getChars_ba4f3_4 (by decide) (fun hc => ?_) (fun hc => ?_)
  · replace hF := ifT hc hF
    refine w_iconst hB 0 (by decide) dJ6_getChars_ba4f3_11 ?_
    exact Wt.sub (L' := [(0, vi x0), (2, vr n2), (5, vi x1)]) [1, 3, 0] rfl (b_J6_getChars_ba4f3_b12 hp hB hF)
  · replace hF := ifF hc hF
    refine w_iconst hB 1 (by decide) dJ6_getChars_ba4f3_7 ?_
    refine w_goto hB 12 dJ6_getChars_ba4f3_8 (by decide) ?_
    exact Wt.sub (L' := [(0, vi x0), (2, vr n2), (5, vi x1)]) [1, 3, 0] rfl (b_J6_getChars_ba4f3_b12 hp hB hF)
theorem c_J6_getChars_ba4f3 {K : Kt} {l : Launch} (hp : St K) {r : Int32} {M1 : Mem} {x0 : Int32} {x1 : Int32} {n2 : Nat} {M : Mem} (hF : f_J6_getChars_ba4f3 x0 x1 n2 M = some (r, M1)) : MT K l yJ6_getChars_ba4f3 cJ6_getChars_ba4f3 7 (some .int) { frames := 0, cells := 0, slots := 0, locals := 0 } [vi x0, vi x1, vr n2] M (some (vi r)) M1 0 0 :=
  MT_of (by decide) rfl (Nat.le_of_ble_eq_true rfl) (fun X _ hB _ => b_J6_getChars_ba4f3 hp hB hF)
def f_J8_newLength_cabcc_b21 (x0 : Int32) (x1 : Int32) (M : Mem) : Option (Int32 × Mem) :=
  none
set_option maxRecDepth 100000 in
set_option maxHeartbeats 4000000 in
theorem b_J8_newLength_cabcc_b21 {K : Kt} {X : Xt} (hp : St K) (hB : Bx K X { frames := 1, cells := 0, slots := 0, locals := 22 } cJ8_newLength_cabcc 4 RJ8 (some .int)) {r : Int32} {M1 : Mem} {x0 : Int32} {x1 : Int32} {M : Mem} (hF : f_J8_newLength_cabcc_b21 x0 x1 M = some (r, M1)) : Wt K X (QM K X (some (vi r)) M1 0 0) 0 0 M 21 [(0, vi x0), (1, vi x1)] [] := by
  unfold f_J8_newLength_cabcc_b21 at hF
  refine w_iload_n hB 0 dJ8_newLength_cabcc_21 rfl rfl ?_
  refine w_iload_n hB 1 dJ8_newLength_cabcc_22 rfl rfl ?_
  cases hF
def f_J8_newLength_cabcc (x0 : Int32) (x1 : Int32) (x2 : Int32) (M : Mem) : Option (Int32 × Mem) :=
  bnd (x0 + (max32 x1 x2)) fun a1 =>
  if a1 ≤ 0 then
    f_J8_newLength_cabcc_b21 x0 x1 M
  else
    if 2147483639 < a1 then
      f_J8_newLength_cabcc_b21 x0 x1 M
    else
      some (a1, M)
set_option maxRecDepth 100000 in
set_option maxHeartbeats 4000000 in
theorem b_J8_newLength_cabcc {K : Kt} {X : Xt} (hp : St K) (hB : Bx K X { frames := 1, cells := 0, slots := 0, locals := 22 } cJ8_newLength_cabcc 4 RJ8 (some .int)) {r : Int32} {M1 : Mem} {x0 : Int32} {x1 : Int32} {x2 : Int32} {M : Mem} (hF : f_J8_newLength_cabcc x0 x1 x2 M = some (r, M1)) : Wt K X (QM K X (some (vi r)) M1 0 0) 0 0 M 0 [(0, vi x0), (1, vi x1), (2, vi x2)] [] := by
  unfold f_J8_newLength_cabcc at hF
  refine w_iload_n hB 0 dJ8_newLength_cabcc_0 rfl rfl ?_
  refine w_iload_n hB 1 dJ8_newLength_cabcc_1 rfl rfl ?_
  refine w_iload_n hB 2 dJ8_newLength_cabcc_2 rfl rfl ?_
  refine w_max hB q_633 (by decide) (Nat.le_of_ble_eq_true rfl) (by decide) dJ8_newLength_cabcc_3 ?_
  refine w_iadd hB dJ8_newLength_cabcc_6 ?_
  obtain ⟨a1, e_a1, hF⟩ := bndS hF
  refine w_istore_n hB (L' := [(3, vi a1), (0, vi x0), (1, vi x1), (2, vi x2)]) dJ8_newLength_cabcc_7 rfl (by decide) e_a1 rfl ?_
  refine w_iconst hB 0 (by decide) dJ8_newLength_cabcc_8 ?_
  refine w_iload_n hB 0 dJ8_newLength_cabcc_9 rfl rfl ?_
  refine w_icmp_ge hB 21 dJ8_newLength_cabcc_10 (by decide) (fun hc => ?_) (fun hc => ?_)
  · replace hF := ifT hc hF
    exact Wt.sub (L' := [(0, vi x0), (1, vi x1)]) [1, 2] rfl (b_J8_newLength_cabcc_b21 hp hB hF)
  · replace hF := ifF hc hF
    refine w_iload_n hB 0 dJ8_newLength_cabcc_13 rfl rfl ?_
    refine w_ldc hB (v := 2147483639) q_636 dJ8_newLength_cabcc_14 ?_
    refine w_icmp_gt hB 21 dJ8_newLength_cabcc_16 (by decide) (fun hc => ?_) (fun hc => ?_)
    · replace hF := ifT hc hF
      exact Wt.sub (L' := [(0, vi x0), (1, vi x1)]) [1, 2] rfl (b_J8_newLength_cabcc_b21 hp hB hF)
    · replace hF := ifF hc hF
      refine w_iload_n hB 0 dJ8_newLength_cabcc_19 rfl rfl ?_
      obtain ⟨e1, e2⟩ := retS hF
      subst e2
      exact w_iret hB dJ8_newLength_cabcc_20 e1
theorem c_J8_newLength_cabcc {K : Kt} {l : Launch} (hp : St K) {r : Int32} {M1 : Mem} {x0 : Int32} {x1 : Int32} {x2 : Int32} {M : Mem} (hF : f_J8_newLength_cabcc x0 x1 x2 M = some (r, M1)) : MT K l yJ8_newLength_cabcc cJ8_newLength_cabcc 4 (some .int) { frames := 1, cells := 0, slots := 0, locals := 22 } [vi x0, vi x1, vi x2] M (some (vi r)) M1 0 0 :=
  MT_of (by decide) rfl (Nat.le_of_ble_eq_true rfl) (fun X _ hB _ => b_J8_newLength_cabcc hp hB hF)
def f_L_cell (N : Nat) (xs : Nat → Int32) (x1 : Int32) (M : Mem) : Option (Int32 × Mem) :=
  if (nI N) = 0 then
    some (0, M)
  else
    gd (¬ (nI N) = 0) <|
    gd (inb (x1 - x1 / (nI N) * (nI N)) N) <|
    some ((xs (x1 - x1 / (nI N) * (nI N)).toNatClampNeg) ^^^ (40503 * (x1 / (nI N))), M)
set_option maxRecDepth 100000 in
set_option maxHeartbeats 4000000 in
theorem b_L_cell {K : Kt} {X : Xt} (hp : St K) {N : Nat} {xs : Nat → Int32} (hq : KScr K N xs) (hB : Bx K X { frames := 0, cells := 0, slots := 0, locals := 0 } cL_cell 2 RL (some .int)) {r : Int32} {M1 : Mem} {x1 : Int32} {M : Mem} (hF : f_L_cell N xs x1 M = some (r, M1)) : Wt K X (QM K X (some (vi r)) M1 0 0) 0 0 M 0 [(0, vr 61), (1, vi x1)] [] := by
  unfold f_L_cell at hF
  refine w_aload_n hB 0 dL_cell_0 rfl rfl ?_
  refine w_slen hB hq dL_cell_1 ?_
  refine w_if_ne hB 9 dL_cell_2 (by decide) (fun hc => ?_) (fun hc => ?_)
  · replace hF := ifF hc hF
    refine w_aload_n hB 0 dL_cell_9 rfl rfl ?_
    refine w_iload_n hB 1 dL_cell_10 rfl rfl ?_
    refine w_aload_n hB 0 dL_cell_11 rfl rfl ?_
    refine w_slen hB hq dL_cell_12 ?_
    obtain ⟨g1, hF⟩ := gdS hF
    refine w_irem hB g1 dL_cell_13 ?_
    obtain ⟨g2, hF⟩ := gdS hF
    refine w_sld hB hq g2 dL_cell_14 ?_
    refine w_ldc hB (v := 40503) q_758 dL_cell_15 ?_
    refine w_iload_n hB 1 dL_cell_17 rfl rfl ?_
    refine w_aload_n hB 0 dL_cell_18 rfl rfl ?_
    refine w_slen hB hq dL_cell_19 ?_
    refine w_idiv hB g1 dL_cell_20 ?_
    refine w_imul hB dL_cell_21 ?_
    refine w_ixor hB dL_cell_22 ?_
    obtain ⟨e1, e2⟩ := retS hF
    subst e2
    exact w_iret hB dL_cell_23 e1
  · replace hF := ifT hc hF
    refine w_iconst hB 0 (by decide) dL_cell_5 ?_
    refine w_goto hB 23 dL_cell_6 (by decide) ?_
    obtain ⟨e1, e2⟩ := retS hF
    subst e2
    exact w_iret hB dL_cell_23 e1
theorem c_L_cell {K : Kt} {l : Launch} (hp : St K) {N : Nat} {xs : Nat → Int32} (hq : KScr K N xs) {r : Int32} {M1 : Mem} {x1 : Int32} {M : Mem} (hF : f_L_cell N xs x1 M = some (r, M1)) : MT K l yL_cell cL_cell 2 (some .int) { frames := 0, cells := 0, slots := 0, locals := 0 } [vr 61, vi x1] M (some (vi r)) M1 0 0 :=
  MT_of (by decide) rfl (Nat.le_of_ble_eq_true rfl) (fun X _ hB _ => b_L_cell hp hq hB hF)
def f_L_some (N : Nat) (xs : Nat → Int32) (x1 : Int32) (x2 : Int32) (M : Mem) : Option (Int32 × Mem) :=
  cl (f_L_cell N xs x1 M) fun r1 M1m =>
  gd (¬ x2 = 0) <|
  some ((r1 &&& 65535) - (r1 &&& 65535) / x2 * x2, M1m)
set_option maxRecDepth 100000 in
set_option maxHeartbeats 4000000 in
theorem b_L_some {K : Kt} {X : Xt} (hp : St K) {N : Nat} {xs : Nat → Int32} (hq : KScr K N xs) (hB : Bx K X { frames := 1, cells := 0, slots := 0, locals := 21 } cL_some 3 RL (some .int)) {r : Int32} {M1 : Mem} {x1 : Int32} {x2 : Int32} {M : Mem} (hF : f_L_some N xs x1 x2 M = some (r, M1)) : Wt K X (QM K X (some (vi r)) M1 0 0) 0 0 M 0 [(0, vr 61), (1, vi x1), (2, vi x2)] [] := by
  unfold f_L_some at hF
  refine w_aload_n hB 0 dL_some_0 rfl rfl ?_
  refine w_iload_n hB 1 dL_some_1 rfl rfl ?_
  obtain ⟨r1, M1m, hc_M1m, hF⟩ := clS hF
  refine w_callS hB (As := [vr 61, vi x1]) (st := []) cw_L_8 q_756 (c_L_cell hp hq hc_M1m) ⟨rfl, rfl⟩ (by decide) (by decide) rfl (Nat.le_of_ble_eq_true rfl) dL_some_2 rfl ?_
  refine w_ldc hB (v := 65535) q_759 dL_some_5 ?_
  refine w_iand hB dL_some_7 ?_
  refine w_iload_n hB 2 dL_some_8 rfl rfl ?_
  obtain ⟨g1, hF⟩ := gdS hF
  refine w_irem hB g1 dL_some_9 ?_
  obtain ⟨e1, e2⟩ := retS hF
  subst e2
  exact w_iret hB dL_some_10 e1
theorem c_L_some {K : Kt} {l : Launch} (hp : St K) {N : Nat} {xs : Nat → Int32} (hq : KScr K N xs) {r : Int32} {M1 : Mem} {x1 : Int32} {x2 : Int32} {M : Mem} (hF : f_L_some N xs x1 x2 M = some (r, M1)) : MT K l yL_some cL_some 3 (some .int) { frames := 1, cells := 0, slots := 0, locals := 21 } [vr 61, vi x1, vi x2] M (some (vi r)) M1 0 0 :=
  MT_of (by decide) rfl (Nat.le_of_ble_eq_true rfl) (fun X _ hB _ => b_L_some hp hq hB hF)
def f_L_first (N : Nat) (xs : Nat → Int32) (x1 : Int32) (x2 : Int32) (M : Mem) : Option (Int32 × Mem) :=
  if x2 = 0 then
    cl (f_L_some N xs (17 + x1) 3 M) fun r1 M1m =>
    some (r1, M1m)
  else
    some (0, M)
set_option maxRecDepth 100000 in
set_option maxHeartbeats 4000000 in
theorem b_L_first {K : Kt} {X : Xt} (hp : St K) {N : Nat} {xs : Nat → Int32} (hq : KScr K N xs) (hB : Bx K X { frames := 2, cells := 0, slots := 0, locals := 43 } cL_first 3 RL (some .int)) {r : Int32} {M1 : Mem} {x1 : Int32} {x2 : Int32} {M : Mem} (hF : f_L_first N xs x1 x2 M = some (r, M1)) : Wt K X (QM K X (some (vi r)) M1 0 0) 0 0 M 0 [(0, vr 61), (1, vi x1), (2, vi x2)] [] := by
  unfold f_L_first at hF
  refine w_iload_n hB 2 dL_first_0 rfl rfl ?_
  refine w_if_ne hB 16 dL_first_1 (by decide) (fun hc => ?_) (fun hc => ?_)
  · replace hF := ifF hc hF
    refine w_iconst hB 0 (by decide) dL_first_16 ?_
    obtain ⟨e1, e2⟩ := retS hF
    subst e2
    exact w_iret hB dL_first_17 e1
  · replace hF := ifT hc hF
    refine w_aload_n hB 0 dL_first_4 rfl rfl ?_
    refine w_bipush hB 17 (by decide) dL_first_5 ?_
    refine w_iload_n hB 1 dL_first_7 rfl rfl ?_
    refine w_iadd hB dL_first_8 ?_
    refine w_iconst hB 3 (by decide) dL_first_9 ?_
    obtain ⟨r1, M1m, hc_M1m, hF⟩ := clS hF
    refine w_callS hB (As := [vr 61, vi (17 + x1), vi 3]) (st := []) cw_L_49 q_753 (c_L_some hp hq hc_M1m) ⟨rfl, rfl⟩ (by decide) (by decide) rfl (Nat.le_of_ble_eq_true rfl) dL_first_10 rfl ?_
    refine w_goto hB 17 dL_first_13 (by decide) ?_
    obtain ⟨e1, e2⟩ := retS hF
    subst e2
    exact w_iret hB dL_first_17 e1
theorem c_L_first {K : Kt} {l : Launch} (hp : St K) {N : Nat} {xs : Nat → Int32} (hq : KScr K N xs) {r : Int32} {M1 : Mem} {x1 : Int32} {x2 : Int32} {M : Mem} (hF : f_L_first N xs x1 x2 M = some (r, M1)) : MT K l yL_first cL_first 3 (some .int) { frames := 2, cells := 0, slots := 0, locals := 43 } [vr 61, vi x1, vi x2] M (some (vi r)) M1 0 0 :=
  MT_of (by decide) rfl (Nat.le_of_ble_eq_true rfl) (fun X _ hB _ => b_L_first hp hq hB hF)
def f_L_second (N : Nat) (xs : Nat → Int32) (x1 : Int32) (x2 : Int32) (M : Mem) : Option (Int32 × Mem) :=
  if x2 = 0 then
    cl (f_L_some N xs (17 + x1) 3 M) fun r1 M1m =>
    cl (f_L_some N xs (25 + x1) 2 M1m) fun r2 M2m =>
    some (((r1 + 1) + r2) - ((r1 + 1) + r2) / 3 * 3, M2m)
  else
    cl (f_L_some N xs (29 + x1) 2 M) fun r3 M3m =>
    some (1 + r3, M3m)
set_option maxRecDepth 100000 in
set_option maxHeartbeats 4000000 in
theorem b_L_second {K : Kt} {X : Xt} (hp : St K) {N : Nat} {xs : Nat → Int32} (hq : KScr K N xs) (hB : Bx K X { frames := 2, cells := 0, slots := 0, locals := 43 } cL_second 3 RL (some .int)) {r : Int32} {M1 : Mem} {x1 : Int32} {x2 : Int32} {M : Mem} (hF : f_L_second N xs x1 x2 M = some (r, M1)) : Wt K X (QM K X (some (vi r)) M1 0 0) 0 0 M 0 [(0, vr 61), (1, vi x1), (2, vi x2)] [] := by
  unfold f_L_second at hF
  refine w_iload_n hB 2 dL_second_0 rfl rfl ?_
  refine w_if_ne hB 30 dL_second_1 (by decide) (fun hc => ?_) (fun hc => ?_)
  · replace hF := ifF hc hF
    refine w_iconst hB 1 (by decide) dL_second_30 ?_
    refine w_aload_n hB 0 dL_second_31 rfl rfl ?_
    refine w_bipush hB 29 (by decide) dL_second_32 ?_
    refine w_iload_n hB 1 dL_second_34 rfl rfl ?_
    refine w_iadd hB dL_second_35 ?_
    refine w_iconst hB 2 (by decide) dL_second_36 ?_
    obtain ⟨r3, M3m, hc_M3m, hF⟩ := clS hF
    refine w_callS hB (As := [vr 61, vi (29 + x1), vi 2]) (st := [vi 1]) cw_L_49 q_753 (c_L_some hp hq hc_M3m) ⟨rfl, rfl⟩ (by decide) (by decide) rfl (Nat.le_of_ble_eq_true rfl) dL_second_37 rfl ?_
    refine w_iadd hB dL_second_40 ?_
    obtain ⟨e1, e2⟩ := retS hF
    subst e2
    exact w_iret hB dL_second_41 e1
  · replace hF := ifT hc hF
    refine w_aload_n hB 0 dL_second_4 rfl rfl ?_
    refine w_bipush hB 17 (by decide) dL_second_5 ?_
    refine w_iload_n hB 1 dL_second_7 rfl rfl ?_
    refine w_iadd hB dL_second_8 ?_
    refine w_iconst hB 3 (by decide) dL_second_9 ?_
    obtain ⟨r1, M1m, hc_M1m, hF⟩ := clS hF
    refine w_callS hB (As := [vr 61, vi (17 + x1), vi 3]) (st := []) cw_L_49 q_753 (c_L_some hp hq hc_M1m) ⟨rfl, rfl⟩ (by decide) (by decide) rfl (Nat.le_of_ble_eq_true rfl) dL_second_10 rfl ?_
    refine w_iconst hB 1 (by decide) dL_second_13 ?_
    refine w_iadd hB dL_second_14 ?_
    refine w_aload_n hB 0 dL_second_15 rfl rfl ?_
    refine w_bipush hB 25 (by decide) dL_second_16 ?_
    refine w_iload_n hB 1 dL_second_18 rfl rfl ?_
    refine w_iadd hB dL_second_19 ?_
    refine w_iconst hB 2 (by decide) dL_second_20 ?_
    obtain ⟨r2, M2m, hc_M2m, hF⟩ := clS hF
    refine w_callS hB (As := [vr 61, vi (25 + x1), vi 2]) (st := [vi (r1 + 1)]) cw_L_49 q_753 (c_L_some hp hq hc_M2m) ⟨rfl, rfl⟩ (by decide) (by decide) rfl (Nat.le_of_ble_eq_true rfl) dL_second_21 rfl ?_
    refine w_iadd hB dL_second_24 ?_
    refine w_iconst hB 3 (by decide) dL_second_25 ?_
    refine w_irem hB (by decide) dL_second_26 ?_
    refine w_goto hB 41 dL_second_27 (by decide) ?_
    obtain ⟨e1, e2⟩ := retS hF
    subst e2
    exact w_iret hB dL_second_41 e1
theorem c_L_second {K : Kt} {l : Launch} (hp : St K) {N : Nat} {xs : Nat → Int32} (hq : KScr K N xs) {r : Int32} {M1 : Mem} {x1 : Int32} {x2 : Int32} {M : Mem} (hF : f_L_second N xs x1 x2 M = some (r, M1)) : MT K l yL_second cL_second 3 (some .int) { frames := 2, cells := 0, slots := 0, locals := 43 } [vr 61, vi x1, vi x2] M (some (vi r)) M1 0 0 :=
  MT_of (by decide) rfl (Nat.le_of_ble_eq_true rfl) (fun X _ hB _ => b_L_second hp hq hB hF)
def f_L_pairs (N : Nat) (xs : Nat → Int32) (x1 : Int32) (M : Mem) : Option (Int32 × Mem) :=
  cl (f_L_some N xs (27 + x1) 3 M) fun r1 M1m =>
  if r1 = 0 then
    some (2, M1m)
  else
    some (1, M1m)
set_option maxRecDepth 100000 in
set_option maxHeartbeats 4000000 in
theorem b_L_pairs {K : Kt} {X : Xt} (hp : St K) {N : Nat} {xs : Nat → Int32} (hq : KScr K N xs) (hB : Bx K X { frames := 2, cells := 0, slots := 0, locals := 43 } cL_pairs 2 RL (some .int)) {r : Int32} {M1 : Mem} {x1 : Int32} {M : Mem} (hF : f_L_pairs N xs x1 M = some (r, M1)) : Wt K X (QM K X (some (vi r)) M1 0 0) 0 0 M 0 [(0, vr 61), (1, vi x1)] [] := by
  unfold f_L_pairs at hF
  refine w_aload_n hB 0 dL_pairs_0 rfl rfl ?_
  refine w_bipush hB 27 (by decide) dL_pairs_1 ?_
  refine w_iload_n hB 1 dL_pairs_3 rfl rfl ?_
  refine w_iadd hB dL_pairs_4 ?_
  refine w_iconst hB 3 (by decide) dL_pairs_5 ?_
  obtain ⟨r1, M1m, hc_M1m, hF⟩ := clS hF
  refine w_callS hB (As := [vr 61, vi (27 + x1), vi 3]) (st := []) cw_L_49 q_753 (c_L_some hp hq hc_M1m) ⟨rfl, rfl⟩ (by decide) (by decide) rfl (Nat.le_of_ble_eq_true rfl) dL_pairs_6 rfl ?_
  refine w_if_ne hB 16 dL_pairs_9 (by decide) (fun hc => ?_) (fun hc => ?_)
  · replace hF := ifF hc hF
    refine w_iconst hB 1 (by decide) dL_pairs_16 ?_
    obtain ⟨e1, e2⟩ := retS hF
    subst e2
    exact w_iret hB dL_pairs_17 e1
  · replace hF := ifT hc hF
    refine w_iconst hB 2 (by decide) dL_pairs_12 ?_
    refine w_goto hB 17 dL_pairs_13 (by decide) ?_
    obtain ⟨e1, e2⟩ := retS hF
    subst e2
    exact w_iret hB dL_pairs_17 e1
theorem c_L_pairs {K : Kt} {l : Launch} (hp : St K) {N : Nat} {xs : Nat → Int32} (hq : KScr K N xs) {r : Int32} {M1 : Mem} {x1 : Int32} {M : Mem} (hF : f_L_pairs N xs x1 M = some (r, M1)) : MT K l yL_pairs cL_pairs 2 (some .int) { frames := 2, cells := 0, slots := 0, locals := 43 } [vr 61, vi x1] M (some (vi r)) M1 0 0 :=
  MT_of (by decide) rfl (Nat.le_of_ble_eq_true rfl) (fun X _ hB _ => b_L_pairs hp hq hB hF)
def f_L_doAll_b3_s (N : Nat) (xs : Nat → Int32) (rec3 : Int32 → Nat → Nat → Int32 → Mem → Option (Int32 × Mem)) (x1 : Int32) (n2 : Nat) (n3 : Nat) (x4 : Int32) (M : Mem) : Option (Int32 × Mem) :=
  cl (f_L_pairs N xs x1 M) fun r1 M1m =>
  if r1 ≤ x4 then
    some (1, M1m)
  else
    cl (f_L_first N xs x1 x4 M1m) fun r2 M2m =>
    gd (1000 ≤ n3 ∧ dsc M2m n3 = 20 ∧ n3 - 753 < M2m.2.2.2) <|
    gd (inb r2 (dln M2m n3)) <|
    cl (f_L_second N xs x1 x4 M2m) fun r3 M3m =>
    gd (1000 ≤ n2 ∧ dsc M3m n2 = 20 ∧ n2 - 753 < M3m.2.2.2) <|
    gd (inb r3 (dln M3m n2)) <|
    if (M2m.1 n3 r2.toNatClampNeg) < (M3m.1 n2 r3.toNatClampNeg) then
      bnd (x4 + 1) fun a1 =>
      rec3 x1 n2 n3 a1 M3m
    else
      some (0, M3m)
set_option maxRecDepth 100000 in
set_option maxHeartbeats 4000000 in
theorem b_L_doAll_b3_s {K : Kt} {X : Xt} (hp : St K) {N : Nat} {xs : Nat → Int32} (hq : KScr K N xs) (hB : Bx K X { frames := 3, cells := 0, slots := 0, locals := 65 } cL_doAll 5 RL (some .boolean)) {r : Int32} {M1 : Mem} {rec3 : Int32 → Nat → Nat → Int32 → Mem → Option (Int32 × Mem)}
    (h3 : ∀ x1 n2 n3 x4 M, rec3 x1 n2 n3 x4 M = some (r, M1) → Wt K X (QM K X (some (vi r)) M1 0 0) 0 0 M 3 [(0, vr 61), (1, vi x1), (2, vr n2), (3, vr n3), (4, vi x4)] []) {x1 : Int32} {n2 : Nat} {n3 : Nat} {x4 : Int32} {M : Mem} (hF : f_L_doAll_b3_s N xs rec3 x1 n2 n3 x4 M = some (r, M1)) : Wt K X (QM K X (some (vi r)) M1 0 0) 0 0 M 3 [(0, vr 61), (1, vi x1), (2, vr n2), (3, vr n3), (4, vi x4)] [] := by
  unfold f_L_doAll_b3_s at hF
  refine w_iload hB 4 dL_doAll_3 rfl ?_
  refine w_aload_n hB 0 dL_doAll_5 rfl rfl ?_
  refine w_iload_n hB 1 dL_doAll_6 rfl rfl ?_
  obtain ⟨r1, M1m, hc_M1m, hF⟩ := clS hF
  refine w_callS hB (As := [vr 61, vi x1]) (st := [vi x4]) cw_L_194 q_1193 (c_L_pairs hp hq hc_M1m) ⟨rfl, rfl⟩ (by decide) (by decide) rfl (Nat.le_of_ble_eq_true rfl) dL_doAll_7 rfl ?_
  refine w_icmp_ge hB 42 dL_doAll_10 (by decide) (fun hc => ?_) (fun hc => ?_)
  · replace hF := ifT hc hF
    refine w_iconst hB 1 (by decide) dL_doAll_42 ?_
    obtain ⟨e1, e2⟩ := retS hF
    subst e2
    exact w_zret hB (by decide) dL_doAll_43 e1
  · replace hF := ifF hc hF
    refine w_aload_n hB 3 dL_doAll_13 rfl rfl ?_
    refine w_aload_n hB 0 dL_doAll_14 rfl rfl ?_
    refine w_iload_n hB 1 dL_doAll_15 rfl rfl ?_
    refine w_iload hB 4 dL_doAll_16 rfl ?_
    obtain ⟨r2, M2m, hc_M2m, hF⟩ := clS hF
    refine w_callS hB (As := [vr 61, vi x1, vi x4]) (st := [vr n3]) cw_L_197 q_1196 (c_L_first hp hq hc_M2m) ⟨rfl, rfl⟩ (by decide) (by decide) rfl (Nat.le_of_ble_eq_true rfl) dL_doAll_18 rfl ?_
    obtain ⟨g1, hF⟩ := gdS hF
    obtain ⟨g2, hF⟩ := gdS hF
    refine w_iald hB (dqM g1) (sl_d g1.1 rfl) g2 dL_doAll_21 ?_
    refine w_aload_n hB 2 dL_doAll_22 rfl rfl ?_
    refine w_aload_n hB 0 dL_doAll_23 rfl rfl ?_
    refine w_iload_n hB 1 dL_doAll_24 rfl rfl ?_
    refine w_iload hB 4 dL_doAll_25 rfl ?_
    obtain ⟨r3, M3m, hc_M3m, hF⟩ := clS hF
    refine w_callS hB (As := [vr 61, vi x1, vi x4]) (st := [vr n2, vi (M2m.1 n3 r2.toNatClampNeg)]) cw_L_200 q_1199 (c_L_second hp hq hc_M3m) ⟨rfl, rfl⟩ (by decide) (by decide) rfl (Nat.le_of_ble_eq_true rfl) dL_doAll_27 rfl ?_
    obtain ⟨g3, hF⟩ := gdS hF
    obtain ⟨g4, hF⟩ := gdS hF
    refine w_iald hB (dqM g3) (sl_d g3.1 rfl) g4 dL_doAll_30 ?_
    refine w_icmp_lt hB 36 dL_doAll_31 (by decide) (fun hc => ?_) (fun hc => ?_)
    · replace hF := ifT hc hF
      obtain ⟨a1, e_a1, hF⟩ := bndS hF
      refine w_iinc hB 4 (v := 1) (L' := [(4, vi a1), (0, vr 61), (1, vi x1), (2, vr n2), (3, vr n3)]) dL_doAll_36 rfl (by decide) (by decide) e_a1 rfl ?_
      refine w_goto hB 3 dL_doAll_39 (by decide) ?_
      exact Wt.sub (L' := [(0, vr 61), (1, vi x1), (2, vr n2), (3, vr n3), (4, vi a1)]) [1, 2, 3, 4, 0] rfl (h3 _ _ _ _ M3m hF)
    · replace hF := ifF hc hF
      refine w_iconst hB 0 (by decide) dL_doAll_34 ?_
      obtain ⟨e1, e2⟩ := retS hF
      subst e2
      exact w_zret hB (by decide) dL_doAll_35 e1
def f_L_doAll_b3 (N : Nat) (xs : Nat → Int32) (k : Nat) : Int32 → Nat → Nat → Int32 → Mem → Option (Int32 × Mem) := lpN (fun _ _ _ _ _ => none) (f_L_doAll_b3_s N xs) k
theorem b_L_doAll_b3 {K : Kt} {X : Xt} (hp : St K) {N : Nat} {xs : Nat → Int32} (hq : KScr K N xs) (hB : Bx K X { frames := 3, cells := 0, slots := 0, locals := 65 } cL_doAll 5 RL (some .boolean)) {r : Int32} {M1 : Mem} (k : Nat) : ∀ (x1 : Int32) (n2 : Nat) (n3 : Nat) (x4 : Int32) M, f_L_doAll_b3 N xs k x1 n2 n3 x4 M = some (r, M1) → Wt K X (QM K X (some (vi r)) M1 0 0) 0 0 M 3 [(0, vr 61), (1, vi x1), (2, vr n2), (3, vr n3), (4, vi x4)] [] := by
  refine lpN_ind (P := fun (f : Int32 → Nat → Nat → Int32 → Mem → Option (Int32 × Mem)) => ∀ (x1 : Int32) (n2 : Nat) (n3 : Nat) (x4 : Int32) M, f x1 n2 n3 x4 M = some (r, M1) → Wt K X (QM K X (some (vi r)) M1 0 0) 0 0 M 3 [(0, vr 61), (1, vi x1), (2, vr n2), (3, vr n3), (4, vi x4)] []) (fun _ _ _ _ _ h => by cases h) (fun f hf x1 n2 n3 x4 M hF => ?_) k
  exact b_L_doAll_b3_s hp hq hB hf hF
def f_L_doAll (N : Nat) (xs : Nat → Int32) (x1 : Int32) (n2 : Nat) (n3 : Nat) (M : Mem) : Option (Int32 × Mem) :=
  f_L_doAll_b3 N xs fuel x1 n2 n3 0 M
set_option maxRecDepth 100000 in
set_option maxHeartbeats 4000000 in
theorem b_L_doAll {K : Kt} {X : Xt} (hp : St K) {N : Nat} {xs : Nat → Int32} (hq : KScr K N xs) (hB : Bx K X { frames := 3, cells := 0, slots := 0, locals := 65 } cL_doAll 5 RL (some .boolean)) {r : Int32} {M1 : Mem} {x1 : Int32} {n2 : Nat} {n3 : Nat} {M : Mem} (hF : f_L_doAll N xs x1 n2 n3 M = some (r, M1)) : Wt K X (QM K X (some (vi r)) M1 0 0) 0 0 M 0 [(0, vr 61), (1, vi x1), (2, vr n2), (3, vr n3)] [] := by
  unfold f_L_doAll at hF
  refine w_iconst hB 0 (by decide) dL_doAll_0 ?_
  refine w_istore hB (L' := [(4, vi 0), (0, vr 61), (1, vi x1), (2, vr n2), (3, vr n3)]) dL_doAll_1 (by decide) rfl rfl ?_
  exact Wt.sub (L' := [(0, vr 61), (1, vi x1), (2, vr n2), (3, vr n3), (4, vi 0)]) [1, 2, 3, 4, 0] rfl (b_L_doAll_b3 hp hq hB fuel _ _ _ _ M hF)
theorem c_L_doAll {K : Kt} {l : Launch} (hp : St K) {N : Nat} {xs : Nat → Int32} (hq : KScr K N xs) {r : Int32} {M1 : Mem} {x1 : Int32} {n2 : Nat} {n3 : Nat} {M : Mem} (hF : f_L_doAll N xs x1 n2 n3 M = some (r, M1)) : MT K l yL_doAll cL_doAll 5 (some .boolean) { frames := 3, cells := 0, slots := 0, locals := 65 } [vr 61, vi x1, vr n2, vr n3] M (some (vi r)) M1 0 0 :=
  MT_of (by decide) rfl (Nat.le_of_ble_eq_true rfl) (fun X _ hB _ => b_L_doAll hp hq hB hF)
def f_L_canBe_b2_s (N : Nat) (xs : Nat → Int32) (rec2 : Nat → Int32 → Mem → Option (Int32 × Mem)) (n2 : Nat) (x3 : Int32) (M : Mem) : Option (Int32 × Mem) :=
  cl (f_X10_count 1 M) fun r1 M1m =>
  if r1 ≤ x3 then
    some (1, M1m)
  else
    cl (f_L_some N xs (7 + x3) 3 M1m) fun r2 M2m =>
    cl (f_L_some N xs (11 + x3) 2 M2m) fun r3 M3m =>
    bnd (((r2 + 1) + r3) - ((r2 + 1) + r3) / 3 * 3) fun a1 =>
    cl (f_L_some N xs (9 + x3) 4 M3m) fun r4 M4m =>
    gd (1000 ≤ n2 ∧ dsc M4m n2 = 20 ∧ n2 - 753 < M4m.2.2.2) <|
    gd (inb r2 (dln M4m n2)) <|
    cl (f_L_some N xs (13 + x3) 4 M4m) fun r5 M5m =>
    gd (1000 ≤ n2 ∧ dsc M5m n2 = 20 ∧ n2 - 753 < M5m.2.2.2) <|
    gd (inb a1 (dln M5m n2)) <|
    if ((10 + r4) - (M4m.1 n2 r2.toNatClampNeg)) = ((10 + r5) - (M5m.1 n2 a1.toNatClampNeg)) then
      bnd (x3 + 1) fun a2 =>
      rec2 n2 a2 M5m
    else
      some (0, M5m)
set_option maxRecDepth 100000 in
set_option maxHeartbeats 4000000 in
theorem b_L_canBe_b2_s {K : Kt} {X : Xt} (hp : St K) {N : Nat} {xs : Nat → Int32} (hq : KScr K N xs) (hB : Bx K X { frames := 2, cells := 0, slots := 0, locals := 43 } cL_canBe 6 RL (some .boolean)) {r : Int32} {M1 : Mem} {rec2 : Nat → Int32 → Mem → Option (Int32 × Mem)}
    (h2 : ∀ n2 x3 M, rec2 n2 x3 M = some (r, M1) → Wt K X (QM K X (some (vi r)) M1 0 0) 0 0 M 2 [(0, vr 64), (1, vr 61), (2, vr n2), (3, vi x3)] []) {n2 : Nat} {x3 : Int32} {M : Mem} (hF : f_L_canBe_b2_s N xs rec2 n2 x3 M = some (r, M1)) : Wt K X (QM K X (some (vi r)) M1 0 0) 0 0 M 2 [(0, vr 64), (1, vr 61), (2, vr n2), (3, vi x3)] [] := by
  unfold f_L_canBe_b2_s at hF
  refine w_iload_n hB 3 dL_canBe_2 rfl rfl ?_
  refine w_aload_n hB 0 dL_canBe_3 rfl rfl ?_
  refine w_iconst hB 1 (by decide) dL_canBe_4 ?_
  obtain ⟨r1, M1m, hc_M1m, hF⟩ := clS hF
  refine w_callV hB (ci := 8) (As := [vi 1]) (st := [vi x3]) cw_L_112 q_573 q_574 rfl (soM hp.1 sh_64 (by decide)) (c_X10_count hp hc_M1m) ⟨rfl, rfl⟩ (by decide) (by decide) rfl (Nat.le_of_ble_eq_true rfl) dL_canBe_5 rfl ?_
  refine w_icmp_ge hB 85 dL_canBe_8 (by decide) (fun hc => ?_) (fun hc => ?_)
  · replace hF := ifT hc hF
    refine w_iconst hB 1 (by decide) dL_canBe_85 ?_
    obtain ⟨e1, e2⟩ := retS hF
    subst e2
    exact w_zret hB (by decide) dL_canBe_86 e1
  · replace hF := ifF hc hF
    refine w_aload_n hB 1 dL_canBe_11 rfl rfl ?_
    refine w_bipush hB 7 (by decide) dL_canBe_12 ?_
    refine w_iload_n hB 3 dL_canBe_14 rfl rfl ?_
    refine w_iadd hB dL_canBe_15 ?_
    refine w_iconst hB 3 (by decide) dL_canBe_16 ?_
    obtain ⟨r2, M2m, hc_M2m, hF⟩ := clS hF
    refine w_callS hB (As := [vr 61, vi (7 + x3), vi 3]) (st := []) cw_L_49 q_753 (c_L_some hp hq hc_M2m) ⟨rfl, rfl⟩ (by decide) (by decide) rfl (Nat.le_of_ble_eq_true rfl) dL_canBe_17 rfl ?_
    refine w_istore hB (L' := [(4, vi r2), (0, vr 64), (1, vr 61), (2, vr n2), (3, vi x3)]) dL_canBe_20 (by decide) rfl rfl ?_
    refine w_iload hB 0 dL_canBe_22 rfl ?_
    refine w_iconst hB 1 (by decide) dL_canBe_24 ?_
    refine w_iadd hB dL_canBe_25 ?_
    refine w_aload_n hB 2 dL_canBe_26 rfl rfl ?_
    refine w_bipush hB 11 (by decide) dL_canBe_27 ?_
    refine w_iload_n hB 4 dL_canBe_29 rfl rfl ?_
    refine w_iadd hB dL_canBe_30 ?_
    refine w_iconst hB 2 (by decide) dL_canBe_31 ?_
    obtain ⟨r3, M3m, hc_M3m, hF⟩ := clS hF
    refine w_callS hB (As := [vr 61, vi (11 + x3), vi 2]) (st := [vi (r2 + 1)]) cw_L_49 q_753 (c_L_some hp hq hc_M3m) ⟨rfl, rfl⟩ (by decide) (by decide) rfl (Nat.le_of_ble_eq_true rfl) dL_canBe_32 rfl ?_
    refine w_iadd hB dL_canBe_35 ?_
    refine w_iconst hB 3 (by decide) dL_canBe_36 ?_
    refine w_irem hB (by decide) dL_canBe_37 ?_
    obtain ⟨a1, e_a1, hF⟩ := bndS hF
    refine w_istore hB (L' := [(5, vi a1), (4, vi r2), (0, vr 64), (1, vr 61), (2, vr n2), (3, vi x3)]) dL_canBe_38 (by decide) e_a1 rfl ?_
    refine w_bipush hB 10 (by decide) dL_canBe_40 ?_
    refine w_aload_n hB 3 dL_canBe_42 rfl rfl ?_
    refine w_bipush hB 9 (by decide) dL_canBe_43 ?_
    refine w_iload_n hB 5 dL_canBe_45 rfl rfl ?_
    refine w_iadd hB dL_canBe_46 ?_
    refine w_iconst hB 4 (by decide) dL_canBe_47 ?_
    obtain ⟨r4, M4m, hc_M4m, hF⟩ := clS hF
    refine w_callS hB (As := [vr 61, vi (9 + x3), vi 4]) (st := [vi 10]) cw_L_49 q_753 (c_L_some hp hq hc_M4m) ⟨rfl, rfl⟩ (by decide) (by decide) rfl (Nat.le_of_ble_eq_true rfl) dL_canBe_48 rfl ?_
    refine w_iadd hB dL_canBe_51 ?_
    refine w_aload_n hB 4 dL_canBe_52 rfl rfl ?_
    refine w_iload hB 1 dL_canBe_53 rfl ?_
    obtain ⟨g1, hF⟩ := gdS hF
    obtain ⟨g2, hF⟩ := gdS hF
    refine w_iald hB (dqM g1) (sl_d g1.1 rfl) g2 dL_canBe_55 ?_
    refine w_isub hB dL_canBe_56 ?_
    refine w_bipush hB 10 (by decide) dL_canBe_57 ?_
    refine w_aload_n hB 3 dL_canBe_59 rfl rfl ?_
    refine w_bipush hB 13 (by decide) dL_canBe_60 ?_
    refine w_iload_n hB 5 dL_canBe_62 rfl rfl ?_
    refine w_iadd hB dL_canBe_63 ?_
    refine w_iconst hB 4 (by decide) dL_canBe_64 ?_
    obtain ⟨r5, M5m, hc_M5m, hF⟩ := clS hF
    refine w_callS hB (As := [vr 61, vi (13 + x3), vi 4]) (st := [vi 10, vi ((10 + r4) - (M4m.1 n2 r2.toNatClampNeg))]) cw_L_49 q_753 (c_L_some hp hq hc_M5m) ⟨rfl, rfl⟩ (by decide) (by decide) rfl (Nat.le_of_ble_eq_true rfl) dL_canBe_65 rfl ?_
    refine w_iadd hB dL_canBe_68 ?_
    refine w_aload_n hB 4 dL_canBe_69 rfl rfl ?_
    refine w_iload hB 0 dL_canBe_70 rfl ?_
    obtain ⟨g3, hF⟩ := gdS hF
    obtain ⟨g4, hF⟩ := gdS hF
    refine w_iald hB (dqM g3) (sl_d g3.1 rfl) g4 dL_canBe_72 ?_
    refine w_isub hB dL_canBe_73 ?_
    refine w_icmp_eq hB 79 dL_canBe_74 (by decide) (fun hc => ?_) (fun hc => ?_)
    · replace hF := ifT hc hF
      obtain ⟨a2, e_a2, hF⟩ := bndS hF
      refine w_iinc hB 5 (v := 1) (L' := [(3, vi a2), (5, vi a1), (4, vi r2), (0, vr 64), (1, vr 61), (2, vr n2)]) dL_canBe_79 rfl (by decide) (by decide) e_a2 rfl ?_
      refine w_goto hB 2 dL_canBe_82 (by decide) ?_
      exact Wt.sub (L' := [(0, vr 64), (1, vr 61), (2, vr n2), (3, vi a2)]) [3, 4, 5, 0] rfl (h2 _ _ M5m hF)
    · replace hF := ifF hc hF
      refine w_iconst hB 0 (by decide) dL_canBe_77 ?_
      obtain ⟨e1, e2⟩ := retS hF
      subst e2
      exact w_zret hB (by decide) dL_canBe_78 e1
def f_L_canBe_b2 (N : Nat) (xs : Nat → Int32) (k : Nat) : Nat → Int32 → Mem → Option (Int32 × Mem) := lpN (fun _ _ _ => none) (f_L_canBe_b2_s N xs) k
theorem b_L_canBe_b2 {K : Kt} {X : Xt} (hp : St K) {N : Nat} {xs : Nat → Int32} (hq : KScr K N xs) (hB : Bx K X { frames := 2, cells := 0, slots := 0, locals := 43 } cL_canBe 6 RL (some .boolean)) {r : Int32} {M1 : Mem} (k : Nat) : ∀ (n2 : Nat) (x3 : Int32) M, f_L_canBe_b2 N xs k n2 x3 M = some (r, M1) → Wt K X (QM K X (some (vi r)) M1 0 0) 0 0 M 2 [(0, vr 64), (1, vr 61), (2, vr n2), (3, vi x3)] [] := by
  refine lpN_ind (P := fun (f : Nat → Int32 → Mem → Option (Int32 × Mem)) => ∀ (n2 : Nat) (x3 : Int32) M, f n2 x3 M = some (r, M1) → Wt K X (QM K X (some (vi r)) M1 0 0) 0 0 M 2 [(0, vr 64), (1, vr 61), (2, vr n2), (3, vi x3)] []) (fun _ _ _ h => by cases h) (fun f hf n2 x3 M hF => ?_) k
  exact b_L_canBe_b2_s hp hq hB hf hF
def f_L_canBe (N : Nat) (xs : Nat → Int32) (n2 : Nat) (M : Mem) : Option (Int32 × Mem) :=
  f_L_canBe_b2 N xs fuel n2 0 M
set_option maxRecDepth 100000 in
set_option maxHeartbeats 4000000 in
theorem b_L_canBe {K : Kt} {X : Xt} (hp : St K) {N : Nat} {xs : Nat → Int32} (hq : KScr K N xs) (hB : Bx K X { frames := 2, cells := 0, slots := 0, locals := 43 } cL_canBe 6 RL (some .boolean)) {r : Int32} {M1 : Mem} {n2 : Nat} {M : Mem} (hF : f_L_canBe N xs n2 M = some (r, M1)) : Wt K X (QM K X (some (vi r)) M1 0 0) 0 0 M 0 [(0, vr 64), (1, vr 61), (2, vr n2)] [] := by
  unfold f_L_canBe at hF
  refine w_iconst hB 0 (by decide) dL_canBe_0 ?_
  refine w_istore_n hB (L' := [(3, vi 0), (0, vr 64), (1, vr 61), (2, vr n2)]) dL_canBe_1 rfl (by decide) rfl rfl ?_
  exact Wt.sub (L' := [(0, vr 64), (1, vr 61), (2, vr n2), (3, vi 0)]) [1, 2, 3, 0] rfl (b_L_canBe_b2 hp hq hB fuel _ _ M hF)
theorem c_L_canBe {K : Kt} {l : Launch} (hp : St K) {N : Nat} {xs : Nat → Int32} (hq : KScr K N xs) {r : Int32} {M1 : Mem} {n2 : Nat} {M : Mem} (hF : f_L_canBe N xs n2 M = some (r, M1)) : MT K l yL_canBe cL_canBe 6 (some .boolean) { frames := 2, cells := 0, slots := 0, locals := 43 } [vr 64, vr 61, vr n2] M (some (vi r)) M1 0 0 :=
  MT_of (by decide) rfl (Nat.le_of_ble_eq_true rfl) (fun X _ hB _ => b_L_canBe hp hq hB hF)
def f_L_goesOn_b2_s (N : Nat) (xs : Nat → Int32) (rec2 : Nat → Int32 → Mem → Option (Int32 × Mem)) (n1 : Nat) (x2 : Int32) (M : Mem) : Option (Int32 × Mem) :=
  if x2 < 0 then
    some (0, M)
  else
    gd (1000 ≤ n1 ∧ dsc M n1 = 20 ∧ n1 - 753 < M.2.2.2) <|
    gd (inb x2 (dln M n1)) <|
    cl (f_X10_camera x2 1 M) fun r1 M1m =>
    if r1 ≤ (M.1 n1 x2.toNatClampNeg) then
      cl (f_X10_camera x2 0 M1m) fun r2 M2m =>
      gd (1000 ≤ n1 ∧ dsc M2m n1 = 20 ∧ n1 - 753 < M2m.2.2.2) <|
      gd (inb x2 (dln M2m n1)) <|
      bnd (setI M2m n1 (x2.toNatClampNeg) r2) fun M3m =>
      bnd (x2 + (-1)) fun a1 =>
      rec2 n1 a1 M3m
    else
      gd (1000 ≤ n1 ∧ dsc M1m n1 = 20 ∧ n1 - 753 < M1m.2.2.2) <|
      gd (inb x2 (dln M1m n1)) <|
      bnd (setI M1m n1 (x2.toNatClampNeg) ((M1m.1 n1 x2.toNatClampNeg) + 1)) fun M4m =>
      some (1, M4m)
set_option maxRecDepth 100000 in
set_option maxHeartbeats 4000000 in
theorem b_L_goesOn_b2_s {K : Kt} {X : Xt} (hp : St K) {N : Nat} {xs : Nat → Int32} (hq : KScr K N xs) (hB : Bx K X { frames := 2, cells := 0, slots := 0, locals := 43 } cL_goesOn 3 RL (some .boolean)) {r : Int32} {M1 : Mem} {rec2 : Nat → Int32 → Mem → Option (Int32 × Mem)}
    (h2 : ∀ n1 x2 M, rec2 n1 x2 M = some (r, M1) → Wt K X (QM K X (some (vi r)) M1 0 0) 0 0 M 2 [(0, vr 64), (1, vr n1), (2, vi x2)] []) {n1 : Nat} {x2 : Int32} {M : Mem} (hF : f_L_goesOn_b2_s N xs rec2 n1 x2 M = some (r, M1)) : Wt K X (QM K X (some (vi r)) M1 0 0) 0 0 M 2 [(0, vr 64), (1, vr n1), (2, vi x2)] [] := by
  unfold f_L_goesOn_b2_s at hF
  refine w_iload_n hB 2 dL_goesOn_2 rfl rfl ?_
  refine w_if_lt hB 42 dL_goesOn_3 (by decide) (fun hc => ?_) (fun hc => ?_)
  · replace hF := ifT hc hF
    refine w_iconst hB 0 (by decide) dL_goesOn_42 ?_
    obtain ⟨e1, e2⟩ := retS hF
    subst e2
    exact w_zret hB (by decide) dL_goesOn_43 e1
  · replace hF := ifF hc hF
    refine w_aload_n hB 1 dL_goesOn_6 rfl rfl ?_
    refine w_iload_n hB 2 dL_goesOn_7 rfl rfl ?_
    obtain ⟨g1, hF⟩ := gdS hF
    obtain ⟨g2, hF⟩ := gdS hF
    refine w_iald hB (dqM g1) (sl_d g1.1 rfl) g2 dL_goesOn_8 ?_
    refine w_aload_n hB 0 dL_goesOn_9 rfl rfl ?_
    refine w_iload_n hB 2 dL_goesOn_10 rfl rfl ?_
    refine w_iconst hB 1 (by decide) dL_goesOn_11 ?_
    obtain ⟨r1, M1m, hc_M1m, hF⟩ := clS hF
    refine w_callV hB (ci := 8) (As := [vi x2, vi 1]) (st := [vi (M.1 n1 x2.toNatClampNeg)]) cw_L_169 q_1173 q_1174 rfl (soM hp.1 sh_64 (by decide)) (c_X10_camera hp hc_M1m) ⟨rfl, rfl⟩ (by decide) (by decide) rfl (Nat.le_of_ble_eq_true rfl) dL_goesOn_12 rfl ?_
    refine w_icmp_ge hB 27 dL_goesOn_15 (by decide) (fun hc => ?_) (fun hc => ?_)
    · replace hF := ifT hc hF
      refine w_aload_n hB 1 dL_goesOn_27 rfl rfl ?_
      refine w_iload_n hB 2 dL_goesOn_28 rfl rfl ?_
      refine w_aload_n hB 0 dL_goesOn_29 rfl rfl ?_
      refine w_iload_n hB 2 dL_goesOn_30 rfl rfl ?_
      refine w_iconst hB 0 (by decide) dL_goesOn_31 ?_
      obtain ⟨r2, M2m, hc_M2m, hF⟩ := clS hF
      refine w_callV hB (ci := 8) (As := [vi x2, vi 0]) (st := [vi x2, vr n1]) cw_L_169 q_1173 q_1174 rfl (soM hp.1 sh_64 (by decide)) (c_X10_camera hp hc_M2m) ⟨rfl, rfl⟩ (by decide) (by decide) rfl (Nat.le_of_ble_eq_true rfl) dL_goesOn_32 rfl ?_
      obtain ⟨g3, hF⟩ := gdS hF
      obtain ⟨g4, hF⟩ := gdS hF
      obtain ⟨M3m, e_M3m, hF⟩ := bndS hF
      refine w_iast hB (dqM g3) (sl_d g3.1 rfl) g4 e_M3m dL_goesOn_35 ?_
      obtain ⟨a1, e_a1, hF⟩ := bndS hF
      refine w_iinc hB 2 (v := (-1)) (L' := [(2, vi a1), (0, vr 64), (1, vr n1)]) dL_goesOn_36 rfl (by decide) (by decide) e_a1 rfl ?_
      refine w_goto hB 2 dL_goesOn_39 (by decide) ?_
      exact Wt.sub (L' := [(0, vr 64), (1, vr n1), (2, vi a1)]) [1, 2, 0] rfl (h2 _ _ M3m hF)
    · replace hF := ifF hc hF
      refine w_aload_n hB 1 dL_goesOn_18 rfl rfl ?_
      refine w_iload_n hB 2 dL_goesOn_19 rfl rfl ?_
      refine w_dup2 hB rfl rfl dL_goesOn_20 ?_
      obtain ⟨g5, hF⟩ := gdS hF
      obtain ⟨g6, hF⟩ := gdS hF
      refine w_iald hB (dqM g5) (sl_d g5.1 rfl) g6 dL_goesOn_21 ?_
      refine w_iconst hB 1 (by decide) dL_goesOn_22 ?_
      refine w_iadd hB dL_goesOn_23 ?_
      obtain ⟨M4m, e_M4m, hF⟩ := bndS hF
      refine w_iast hB (dqM g5) (sl_d g5.1 rfl) g6 e_M4m dL_goesOn_24 ?_
      refine w_iconst hB 1 (by decide) dL_goesOn_25 ?_
      obtain ⟨e1, e2⟩ := retS hF
      subst e2
      exact w_zret hB (by decide) dL_goesOn_26 e1
def f_L_goesOn_b2 (N : Nat) (xs : Nat → Int32) (k : Nat) : Nat → Int32 → Mem → Option (Int32 × Mem) := lpN (fun _ _ _ => none) (f_L_goesOn_b2_s N xs) k
theorem b_L_goesOn_b2 {K : Kt} {X : Xt} (hp : St K) {N : Nat} {xs : Nat → Int32} (hq : KScr K N xs) (hB : Bx K X { frames := 2, cells := 0, slots := 0, locals := 43 } cL_goesOn 3 RL (some .boolean)) {r : Int32} {M1 : Mem} (k : Nat) : ∀ (n1 : Nat) (x2 : Int32) M, f_L_goesOn_b2 N xs k n1 x2 M = some (r, M1) → Wt K X (QM K X (some (vi r)) M1 0 0) 0 0 M 2 [(0, vr 64), (1, vr n1), (2, vi x2)] [] := by
  refine lpN_ind (P := fun (f : Nat → Int32 → Mem → Option (Int32 × Mem)) => ∀ (n1 : Nat) (x2 : Int32) M, f n1 x2 M = some (r, M1) → Wt K X (QM K X (some (vi r)) M1 0 0) 0 0 M 2 [(0, vr 64), (1, vr n1), (2, vi x2)] []) (fun _ _ _ h => by cases h) (fun f hf n1 x2 M hF => ?_) k
  exact b_L_goesOn_b2_s hp hq hB hf hF
def f_L_goesOn (N : Nat) (xs : Nat → Int32) (n1 : Nat) (M : Mem) : Option (Int32 × Mem) :=
  f_L_goesOn_b2 N xs fuel n1 2 M
set_option maxRecDepth 100000 in
set_option maxHeartbeats 4000000 in
theorem b_L_goesOn {K : Kt} {X : Xt} (hp : St K) {N : Nat} {xs : Nat → Int32} (hq : KScr K N xs) (hB : Bx K X { frames := 2, cells := 0, slots := 0, locals := 43 } cL_goesOn 3 RL (some .boolean)) {r : Int32} {M1 : Mem} {n1 : Nat} {M : Mem} (hF : f_L_goesOn N xs n1 M = some (r, M1)) : Wt K X (QM K X (some (vi r)) M1 0 0) 0 0 M 0 [(0, vr 64), (1, vr n1)] [] := by
  unfold f_L_goesOn at hF
  refine w_iconst hB 2 (by decide) dL_goesOn_0 ?_
  refine w_istore_n hB (L' := [(2, vi 2), (0, vr 64), (1, vr n1)]) dL_goesOn_1 rfl (by decide) rfl rfl ?_
  exact Wt.sub (L' := [(0, vr 64), (1, vr n1), (2, vi 2)]) [1, 2, 0] rfl (b_L_goesOn_b2 hp hq hB fuel _ _ M hF)
theorem c_L_goesOn {K : Kt} {l : Launch} (hp : St K) {N : Nat} {xs : Nat → Int32} (hq : KScr K N xs) {r : Int32} {M1 : Mem} {n1 : Nat} {M : Mem} (hF : f_L_goesOn N xs n1 M = some (r, M1)) : MT K l yL_goesOn cL_goesOn 3 (some .boolean) { frames := 2, cells := 0, slots := 0, locals := 43 } [vr 64, vr n1] M (some (vi r)) M1 0 0 :=
  MT_of (by decide) rfl (Nat.le_of_ble_eq_true rfl) (fun X _ hB _ => b_L_goesOn hp hq hB hF)
def f_L_framesOf_b5_s (N : Nat) (xs : Nat → Int32) (rec5 : Int32 → Int32 → Int32 → Int32 → Mem → Option (Int32 × Mem)) (x1 : Int32) (x2 : Int32) (x3 : Int32) (x4 : Int32) (M : Mem) : Option (Int32 × Mem) :=
  cl (f_X10_play x1 5 M) fun r1 M1m =>
  if r1 ≤ x4 then
    some (x3, M1m)
  else
    cl (f_X10_frame x1 x4 0 M1m) fun r2 M2m =>
    bnd (x3 ||| (((x2 >>> (r2 &&& 31)) &&& 1) <<< (x4 &&& 31))) fun a1 =>
    bnd (x4 + 1) fun a2 =>
    rec5 x1 x2 a1 a2 M2m
set_option maxRecDepth 100000 in
set_option maxHeartbeats 4000000 in
theorem b_L_framesOf_b5_s {K : Kt} {X : Xt} (hp : St K) {N : Nat} {xs : Nat → Int32} (hq : KScr K N xs) (hB : Bx K X { frames := 7, cells := 0, slots := 0, locals := 224 } cL_framesOf 5 RL (some .int)) {r : Int32} {M1 : Mem} {rec5 : Int32 → Int32 → Int32 → Int32 → Mem → Option (Int32 × Mem)}
    (h5 : ∀ x1 x2 x3 x4 M, rec5 x1 x2 x3 x4 M = some (r, M1) → Wt K X (QM K X (some (vi r)) M1 0 0) 0 0 M 5 [(0, vr 64), (1, vi x1), (2, vi x2), (3, vi x3), (4, vi x4)] []) {x1 : Int32} {x2 : Int32} {x3 : Int32} {x4 : Int32} {M : Mem} (hF : f_L_framesOf_b5_s N xs rec5 x1 x2 x3 x4 M = some (r, M1)) : Wt K X (QM K X (some (vi r)) M1 0 0) 0 0 M 5 [(0, vr 64), (1, vi x1), (2, vi x2), (3, vi x3), (4, vi x4)] [] := by
  unfold f_L_framesOf_b5_s at hF
  refine w_iload hB 4 dL_framesOf_5 rfl ?_
  refine w_aload_n hB 0 dL_framesOf_7 rfl rfl ?_
  refine w_iload_n hB 1 dL_framesOf_8 rfl rfl ?_
  refine w_iconst hB 5 (by decide) dL_framesOf_9 ?_
  obtain ⟨r1, M1m, hc_M1m, hF⟩ := clS hF
  refine w_callV hB (ci := 8) (As := [vi x1, vi 5]) (st := [vi x4]) cw_L_135 q_427 q_428 rfl (soM hp.1 sh_64 (by decide)) (c_X10_play hp hc_M1m) ⟨rfl, rfl⟩ (by decide) (by decide) rfl (Nat.le_of_ble_eq_true rfl) dL_framesOf_10 rfl ?_
  refine w_icmp_ge hB 40 dL_framesOf_13 (by decide) (fun hc => ?_) (fun hc => ?_)
  · replace hF := ifT hc hF
    refine w_iload_n hB 3 dL_framesOf_40 rfl rfl ?_
    obtain ⟨e1, e2⟩ := retS hF
    subst e2
    exact w_iret hB dL_framesOf_41 e1
  · replace hF := ifF hc hF
    refine w_iload_n hB 3 dL_framesOf_16 rfl rfl ?_
    refine w_iload_n hB 2 dL_framesOf_17 rfl rfl ?_
    refine w_aload_n hB 0 dL_framesOf_18 rfl rfl ?_
    refine w_iload_n hB 1 dL_framesOf_19 rfl rfl ?_
    refine w_iload hB 4 dL_framesOf_20 rfl ?_
    refine w_iconst hB 0 (by decide) dL_framesOf_22 ?_
    obtain ⟨r2, M2m, hc_M2m, hF⟩ := clS hF
    refine w_callV hB (ci := 8) (As := [vi x1, vi x4, vi 0]) (st := [vi x2, vi x3]) cw_L_165 q_1101 q_1102 rfl (soM hp.1 sh_64 (by decide)) (c_X10_frame hp hc_M2m) ⟨rfl, rfl⟩ (by decide) (by decide) rfl (Nat.le_of_ble_eq_true rfl) dL_framesOf_23 rfl ?_
    refine w_ishr hB dL_framesOf_26 ?_
    refine w_iconst hB 1 (by decide) dL_framesOf_27 ?_
    refine w_iand hB dL_framesOf_28 ?_
    refine w_iload hB 4 dL_framesOf_29 rfl ?_
    refine w_ishl hB dL_framesOf_31 ?_
    refine w_ior hB dL_framesOf_32 ?_
    obtain ⟨a1, e_a1, hF⟩ := bndS hF
    refine w_istore_n hB (L' := [(3, vi a1), (0, vr 64), (1, vi x1), (2, vi x2), (4, vi x4)]) dL_framesOf_33 rfl (by decide) e_a1 rfl ?_
    obtain ⟨a2, e_a2, hF⟩ := bndS hF
    refine w_iinc hB 4 (v := 1) (L' := [(4, vi a2), (3, vi a1), (0, vr 64), (1, vi x1), (2, vi x2)]) dL_framesOf_34 rfl (by decide) (by decide) e_a2 rfl ?_
    refine w_goto hB 5 dL_framesOf_37 (by decide) ?_
    exact Wt.sub (L' := [(0, vr 64), (1, vi x1), (2, vi x2), (3, vi a1), (4, vi a2)]) [2, 3, 4, 1, 0] rfl (h5 _ _ _ _ M2m hF)
def f_L_framesOf_b5 (N : Nat) (xs : Nat → Int32) (k : Nat) : Int32 → Int32 → Int32 → Int32 → Mem → Option (Int32 × Mem) := lpN (fun _ _ _ _ _ => none) (f_L_framesOf_b5_s N xs) k
theorem b_L_framesOf_b5 {K : Kt} {X : Xt} (hp : St K) {N : Nat} {xs : Nat → Int32} (hq : KScr K N xs) (hB : Bx K X { frames := 7, cells := 0, slots := 0, locals := 224 } cL_framesOf 5 RL (some .int)) {r : Int32} {M1 : Mem} (k : Nat) : ∀ (x1 : Int32) (x2 : Int32) (x3 : Int32) (x4 : Int32) M, f_L_framesOf_b5 N xs k x1 x2 x3 x4 M = some (r, M1) → Wt K X (QM K X (some (vi r)) M1 0 0) 0 0 M 5 [(0, vr 64), (1, vi x1), (2, vi x2), (3, vi x3), (4, vi x4)] [] := by
  refine lpN_ind (P := fun (f : Int32 → Int32 → Int32 → Int32 → Mem → Option (Int32 × Mem)) => ∀ (x1 : Int32) (x2 : Int32) (x3 : Int32) (x4 : Int32) M, f x1 x2 x3 x4 M = some (r, M1) → Wt K X (QM K X (some (vi r)) M1 0 0) 0 0 M 5 [(0, vr 64), (1, vi x1), (2, vi x2), (3, vi x3), (4, vi x4)] []) (fun _ _ _ _ _ h => by cases h) (fun f hf x1 x2 x3 x4 M hF => ?_) k
  exact b_L_framesOf_b5_s hp hq hB hf hF
def f_L_framesOf (N : Nat) (xs : Nat → Int32) (x1 : Int32) (x2 : Int32) (M : Mem) : Option (Int32 × Mem) :=
  f_L_framesOf_b5 N xs fuel x1 x2 0 0 M
set_option maxRecDepth 100000 in
set_option maxHeartbeats 4000000 in
theorem b_L_framesOf {K : Kt} {X : Xt} (hp : St K) {N : Nat} {xs : Nat → Int32} (hq : KScr K N xs) (hB : Bx K X { frames := 7, cells := 0, slots := 0, locals := 224 } cL_framesOf 5 RL (some .int)) {r : Int32} {M1 : Mem} {x1 : Int32} {x2 : Int32} {M : Mem} (hF : f_L_framesOf N xs x1 x2 M = some (r, M1)) : Wt K X (QM K X (some (vi r)) M1 0 0) 0 0 M 0 [(0, vr 64), (1, vi x1), (2, vi x2)] [] := by
  unfold f_L_framesOf at hF
  refine w_iconst hB 0 (by decide) dL_framesOf_0 ?_
  refine w_istore_n hB (L' := [(3, vi 0), (0, vr 64), (1, vi x1), (2, vi x2)]) dL_framesOf_1 rfl (by decide) rfl rfl ?_
  refine w_iconst hB 0 (by decide) dL_framesOf_2 ?_
  refine w_istore hB (L' := [(4, vi 0), (3, vi 0), (0, vr 64), (1, vi x1), (2, vi x2)]) dL_framesOf_3 (by decide) rfl rfl ?_
  exact Wt.sub (L' := [(0, vr 64), (1, vi x1), (2, vi x2), (3, vi 0), (4, vi 0)]) [2, 3, 4, 1, 0] rfl (b_L_framesOf_b5 hp hq hB fuel _ _ _ _ M hF)
theorem c_L_framesOf {K : Kt} {l : Launch} (hp : St K) {N : Nat} {xs : Nat → Int32} (hq : KScr K N xs) {r : Int32} {M1 : Mem} {x1 : Int32} {x2 : Int32} {M : Mem} (hF : f_L_framesOf N xs x1 x2 M = some (r, M1)) : MT K l yL_framesOf cL_framesOf 5 (some .int) { frames := 7, cells := 0, slots := 0, locals := 224 } [vr 64, vi x1, vi x2] M (some (vi r)) M1 0 0 :=
  MT_of (by decide) rfl (Nat.le_of_ble_eq_true rfl) (fun X _ hB _ => b_L_framesOf hp hq hB hF)
