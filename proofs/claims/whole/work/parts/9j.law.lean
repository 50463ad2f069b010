/-! THE LAW: its rows -/
abbrev lwr : Option FieldType := ret
theorem val61 (K : Kt) : val K (vr 61) = .ref (kA K 61) := by
  show va_rf (rn K 61) = _
  unfold rn
  rw [if_neg (by decide), if_neg (by decide), if_pos (by decide)]
  rfl
/-- the script of L ints lies at the constant 61 -/
def Scr (K : Kt) (X : Xt) (L : Nat) (xs : Nat → Int32) : Prop := va_X (kA K 61) L xs (xS X) (xS X).heap ∧ kA K 61 < (xS X).heap.size ∧ kA K 61 < kZ K
def nz (x : Int32) : Int32 := if x = 0 then 0 else 1
theorem lg_self (x : Int64) : lg_cmp x x = 0 := by
  unfold lg_cmp
  first | (rw [if_neg (Int64.lt_irrefl), if_pos rfl]) | simp
theorem thr_v (M : Mem) (v : Int32) : f_X11_thrown (setI M 311 0 v) = some (v, setI M 311 0 v) := by
  unfold f_X11_thrown
  rw [set_1]
theorem out_r {M : Mem} {v : Int64} : (setI (setL M 346 0 v) 311 0 0).2.1 346 (0 : Int32).toNatClampNeg = v := by
  rw [show (0 : Int32).toNatClampNeg = 0 by decide]
  show (if (346 : Nat) = 346 ∧ (0 : Nat) = 0 then v else M.2.1 346 0) = v
  exact if_pos ⟨rfl, rfl⟩
theorem good_codeW {y : MethodName} {c1 : ByteArray} {n1 : Nat} {r1 : Option FieldType} {hh : List (Nat × Nat × Nat × Nat)} (h : Cond.codeWith y c1 n1 r1 hh ∈ tblG) : GoodIn tblG (.codeWith y c1 n1 r1 hh :: tblG) := by
  intro w hw
  rcases List.mem_cons.mp hw with h1 | h1
  · subst h1; exact ⟨h, Or.inl rfl⟩
  · exact ⟨h1, good_of_word (List.mem_filter.mp h1).2⟩
section LAWR
variable {K : Kt} {X : Xt} {Q : State → Prop} {ce sl : Nat} {M M1 : Mem} {pc : Nat} {L L' : List (Nat × Lv)} {st : List Lv} {rm : Room} {cc : ByteArray} {nL : Nat} {own : String} {rt : Option FieldType}
theorem w_sld (hB : Bx K X rm cc nL own rt) {N : Nat} {xs : Nat → Int32} (hs : Scr K X N xs) {i : Int32} (hin : inb i N) (d : decode cc pc = .ok (.iaload, 1)) (kk : Wt K X Q ce sl M (pc + 1) L (vi (xs i.toNatClampNeg) :: st)) : Wt K X Q ce sl M pc L (vi i :: vr 61 :: st) := by
  intro cp H locs ls a b z dd
  rw [List.map_cons, List.map_cons, val61]
  exact va_sld hB.1 hB.2.1 hs.1 hs.2.1 (fun h => absurd (show kZ K ≤ kA K 61 from h) (Nat.not_le.mpr hs.2.2)) b hin d (kk cp H locs ls a b z dd)
theorem w_slen (hB : Bx K X rm cc nL own rt) {N : Nat} {xs : Nat → Int32} (hs : Scr K X N xs) (d : decode cc pc = .ok (.arraylength, 1)) (kk : Wt K X Q ce sl M (pc + 1) L (vi (nI N) :: st)) : Wt K X Q ce sl M pc L (vr 61 :: st) := by
  intro cp H locs ls a b z dd
  rw [List.map_cons, val61]
  exact va_slen hB.1 hB.2.1 hs.1 hs.2.1 (fun h => absurd (show kZ K ≤ kA K 61 from h) (Nat.not_le.mpr hs.2.2)) b d (kk cp H locs ls a b z dd)
/-- script[i + j] -/
theorem w_arg (hB : Bx K X rm cc nL own rt) {N : Nat} {xs : Nat → Int32} (hs : Scr K X N xs) {i j : Nat} {v : Int32} {n : Int} (hv : nI j = v) (hi : i + j < N) (hN : N ≤ 3072) (p0 p4 : Nat) (h0 : L[p0]? = some (0, vr 61)) (h4 : L[p4]? = some (4, vi (nI i)))
    (d0 : decode cc pc = .ok (.aload_n 0, 1)) (d1 : decode cc (pc + 1) = .ok (.iload 4, 2)) (d3 : decode cc (pc + 3) = .ok (.iconst n, 1)) (hn : Int32.ofInt n = v) (d4 : decode cc (pc + 4) = .ok (.iadd, 1)) (d5 : decode cc (pc + 5) = .ok (.iaload, 1)) (kk : Wt K X Q ce sl M (pc + 6) L (vi (xs (i + j)) :: st)) : Wt K X Q ce sl M pc L st := by
  subst hv
  refine w_aload_n hB p0 d0 rfl h0 ?_
  refine w_iload hB p4 d1 h4 ?_
  refine w_iconst hB (nI j) hn d3 ?_
  refine w_iadd hB d4 ?_
  rw [nI_add]
  refine w_sld hB hs (inb_nI hi (by omega)) d5 ?_
  rw [nI_clamp (by omega)]
  exact kk
/-- .. != 0 -/
theorem w_bool (hB : Bx K X rm cc nL own rt) {x : Int32} (d0 : decode cc pc = .ok (.ifCond .eq 7, 3)) (d1 : decode cc (pc + 3) = .ok (.iconst 1, 1)) (d2 : decode cc (pc + 4) = .ok (.goto 4, 3)) (d3 : decode cc (pc + 7) = .ok (.iconst 0, 1)) (kk : Wt K X Q ce sl M (pc + 8) L (vi (nz x) :: st)) : Wt K X Q ce sl M pc L (vi x :: st) := by
  refine w_if_eq hB (pc + 7) d0 (by omega) (fun hc => ?_) (fun hc => ?_)
  · refine w_iconst hB 0 (by decide) d3 ?_
    rw [show (0 : Int32) = nz x by unfold nz; rw [if_pos hc]]
    exact kk
  · refine w_iconst hB 1 (by decide) d1 ?_
    refine w_goto hB (pc + 8) d2 (by omega) ?_
    rw [show (1 : Int32) = nz x by unfold nz; rw [if_neg hc]]
    exact kk
/-- a call of the law's own methods, which have tables -/
theorem w_callSW (hB : Bx K X rm cc nL own rt) {idx na mc ms n1 : Nat} {y : MethodName} {c1 : ByteArray} {r1 : Option FieldType} {hh : List (Nat × Nat × Nat × Nat)} {r2 : Room} {r : Option Lv} {As : List Lv} (w1 : Cond.methodLink own idx y ∈ tblG) (w2 : Cond.initialized y.cls ∈ tblG) (w3 : Cond.codeWith y c1 n1 r1 hh ∈ tblG) (w5 : (y.cls ≠ "java/lang/invoke/MethodHandle" ∧ y.cls ≠ "java/lang/invoke/VarHandle") ∧ (parseMethodDescriptor y.desc).map (fun d => d.parameters.length) = some na) (hin : Cond.static y ∈ tblG)
    (hM : MTW K X.2.1 y c1 n1 r1 hh r2 As M r M1 mc ms) (hc : r2.cells = mc ∧ r2.slots = ms) (hR : r2.frames + 1 ≤ rm.frames ∧ 8 + (n1 + 11) + r2.locals ≤ rm.locals) (hf : ce + mc ≤ rm.cells ∧ sl + ms ≤ rm.slots) (hn : As.length = na) (hst : (st.map catL).sum ≤ 8) (d : decode cc pc = .ok (.invokestatic idx, 3))
    {sk : List Lv} (hsk : sk = As.reverse ++ st) (kk : Wt K X Q (ce + mc) (sl + ms) M1 (pc + 3) L (r.toList ++ st)) : Wt K X Q ce sl M pc L sk := by
  subst hsk
  intro cp H locs ls a b z dd
  have hts := hB.2.2.2.2.1
  have hRR : X.2.2.2.1 = rm := hB.2.2.2.2.2.2.2.2
  refine w_back (r := r) (M1 := M1) (mc := mc) (ms := ms) (av := (As.map (val K)).toArray) hB b dd ?_ kk
  refine vx_runSW (As := As.map (val K)) (index := idx) (bytes := c1) (maxL := n1) (ret := r1) (hh := hh) (n := na) (Ts := tblG) ⟨hB.1, hB.2.1, hB.2.2.1, hB.2.2.2.1, hts⟩ hM ⟨⟨hc.1, hc.2, by rw [hRR]; exact hR.1, by rw [hRR]; exact hR.2, pay_in hts (good_codeW w3), List.mem_cons_self⟩, hts _ w3, hts _ w2, w5.1, fun sig h => ?_, hts _ w1, hts _ hin⟩
    ⟨world_blind, world_pre hB cp a b z⟩ rfl (by rw [List.length_map]; exact hn) (by rw [dd.1]; exact hB.2.2.1) ?_ (lv_room ?_) d (by rw [hRR]; exact hf)
  · have h2 := w5.2
    rw [h] at h2
    exact (Option.some.inj h2).symm
  · show (As.reverse ++ st).map (val K) = _
    rw [List.map_append, List.map_reverse]
  · rw [List.map_map]
    rw [show (fun v : Value => v.category) ∘ val K = catL from funext (fun v => val_cat K v)]
    exact hst
end LAWR
theorem q_517 : Cond.methodLink RL 27 yX10_feed ∈ tblG := tblG_of 517 (by decide +kernel) rfl
theorem q_520 : Cond.code yX10_feed cX10_feed 6 (some .int) ∈ tblG := tblG_of 520 (by decide +kernel) rfl
theorem cw_L_27 : CWs RL 27 RX10 yX10_feed cX10_feed 6 (some .int) 5 := ⟨q_517, q_76, q_520, rfl, by decide +kernel, by decide +kernel⟩
theorem q_518 : Cond.instanceMethod yX10_feed ∈ tblG := tblG_of 518 (by decide +kernel) rfl
theorem q_519 : Cond.selects RX10 yX10_feed yX10_feed ∈ tblG := tblG_of 519 (by decide +kernel) rfl
theorem q_1307 : Cond.methodLink RL 31 yX11_feed ∈ tblG := tblG_of 1307 (by decide +kernel) rfl
theorem q_1310 : Cond.code yX11_feed cX11_feed 6 (some .int) ∈ tblG := tblG_of 1310 (by decide +kernel) rfl
theorem cw_L_31 : CWs RL 31 RX11 yX11_feed cX11_feed 6 (some .int) 5 := ⟨q_1307, q_88, q_1310, rfl, by decide +kernel, by decide +kernel⟩
theorem q_1308 : Cond.instanceMethod yX11_feed ∈ tblG := tblG_of 1308 (by decide +kernel) rfl
theorem q_1309 : Cond.selects RX11 yX11_feed yX11_feed ∈ tblG := tblG_of 1309 (by decide +kernel) rfl
theorem q_525 : Cond.methodLink RL 32 yX10_text ∈ tblG := tblG_of 525 (by decide +kernel) rfl
theorem q_528 : Cond.code yX10_text cX10_text 4 (some .int) ∈ tblG := tblG_of 528 (by decide +kernel) rfl
theorem cw_L_32 : CWs RL 32 RX10 yX10_text cX10_text 4 (some .int) 1 := ⟨q_525, q_76, q_528, rfl, by decide +kernel, by decide +kernel⟩
theorem q_526 : Cond.instanceMethod yX10_text ∈ tblG := tblG_of 526 (by decide +kernel) rfl
theorem q_527 : Cond.selects RX10 yX10_text yX10_text ∈ tblG := tblG_of 527 (by decide +kernel) rfl
theorem q_1315 : Cond.methodLink RL 35 yX11_text ∈ tblG := tblG_of 1315 (by decide +kernel) rfl
theorem q_1318 : Cond.code yX11_text cX11_text 2 (some .int) ∈ tblG := tblG_of 1318 (by decide +kernel) rfl
theorem cw_L_35 : CWs RL 35 RX11 yX11_text cX11_text 2 (some .int) 1 := ⟨q_1315, q_88, q_1318, rfl, by decide +kernel, by decide +kernel⟩
theorem q_1316 : Cond.instanceMethod yX11_text ∈ tblG := tblG_of 1316 (by decide +kernel) rfl
theorem q_1317 : Cond.selects RX11 yX11_text yX11_text ∈ tblG := tblG_of 1317 (by decide +kernel) rfl
theorem q_731 : Cond.methodLink RL 36 yX10_camera ∈ tblG := tblG_of 731 (by decide +kernel) rfl
theorem q_734 : Cond.code yX10_camera cX10_camera 3 (some .int) ∈ tblG := tblG_of 734 (by decide +kernel) rfl
theorem cw_L_36 : CWs RL 36 RX10 yX10_camera cX10_camera 3 (some .int) 2 := ⟨q_731, q_76, q_734, rfl, by decide +kernel, by decide +kernel⟩
theorem q_732 : Cond.instanceMethod yX10_camera ∈ tblG := tblG_of 732 (by decide +kernel) rfl
theorem q_733 : Cond.selects RX10 yX10_camera yX10_camera ∈ tblG := tblG_of 733 (by decide +kernel) rfl
theorem q_1512 : Cond.methodLink RL 39 yX11_camera ∈ tblG := tblG_of 1512 (by decide +kernel) rfl
theorem q_1515 : Cond.code yX11_camera cX11_camera 3 (some .int) ∈ tblG := tblG_of 1515 (by decide +kernel) rfl
theorem cw_L_39 : CWs RL 39 RX11 yX11_camera cX11_camera 3 (some .int) 2 := ⟨q_1512, q_88, q_1515, rfl, by decide +kernel, by decide +kernel⟩
theorem q_1513 : Cond.instanceMethod yX11_camera ∈ tblG := tblG_of 1513 (by decide +kernel) rfl
theorem q_1514 : Cond.selects RX11 yX11_camera yX11_camera ∈ tblG := tblG_of 1514 (by decide +kernel) rfl
theorem q_743 : Cond.methodLink RL 40 yX10_kind ∈ tblG := tblG_of 743 (by decide +kernel) rfl
theorem q_746 : Cond.code yX10_kind cX10_kind 4 (some .int) ∈ tblG := tblG_of 746 (by decide +kernel) rfl
theorem cw_L_40 : CWs RL 40 RX10 yX10_kind cX10_kind 4 (some .int) 2 := ⟨q_743, q_76, q_746, rfl, by decide +kernel, by decide +kernel⟩
theorem q_744 : Cond.instanceMethod yX10_kind ∈ tblG := tblG_of 744 (by decide +kernel) rfl
theorem q_745 : Cond.selects RX10 yX10_kind yX10_kind ∈ tblG := tblG_of 745 (by decide +kernel) rfl
theorem q_1530 : Cond.methodLink RL 43 yX11_kind ∈ tblG := tblG_of 1530 (by decide +kernel) rfl
theorem q_1533 : Cond.code yX11_kind cX11_kind 3 (some .int) ∈ tblG := tblG_of 1533 (by decide +kernel) rfl
theorem cw_L_43 : CWs RL 43 RX11 yX11_kind cX11_kind 3 (some .int) 2 := ⟨q_1530, q_88, q_1533, rfl, by decide +kernel, by decide +kernel⟩
theorem q_1531 : Cond.instanceMethod yX11_kind ∈ tblG := tblG_of 1531 (by decide +kernel) rfl
theorem q_1532 : Cond.selects RX11 yX11_kind yX11_kind ∈ tblG := tblG_of 1532 (by decide +kernel) rfl
theorem q_747 : Cond.methodLink RL 44 yX10_side ∈ tblG := tblG_of 747 (by decide +kernel) rfl
theorem q_750 : Cond.code yX10_side cX10_side 3 (some .int) ∈ tblG := tblG_of 750 (by decide +kernel) rfl
theorem cw_L_44 : CWs RL 44 RX10 yX10_side cX10_side 3 (some .int) 2 := ⟨q_747, q_76, q_750, rfl, by decide +kernel, by decide +kernel⟩
theorem q_748 : Cond.instanceMethod yX10_side ∈ tblG := tblG_of 748 (by decide +kernel) rfl
theorem q_749 : Cond.selects RX10 yX10_side yX10_side ∈ tblG := tblG_of 749 (by decide +kernel) rfl
theorem q_1534 : Cond.methodLink RL 47 yX11_side ∈ tblG := tblG_of 1534 (by decide +kernel) rfl
theorem q_1537 : Cond.code yX11_side cX11_side 3 (some .int) ∈ tblG := tblG_of 1537 (by decide +kernel) rfl
theorem cw_L_47 : CWs RL 47 RX11 yX11_side cX11_side 3 (some .int) 2 := ⟨q_1534, q_88, q_1537, rfl, by decide +kernel, by decide +kernel⟩
theorem q_1535 : Cond.instanceMethod yX11_side ∈ tblG := tblG_of 1535 (by decide +kernel) rfl
theorem q_1536 : Cond.selects RX11 yX11_side yX11_side ∈ tblG := tblG_of 1536 (by decide +kernel) rfl
theorem q_763 : Cond.methodLink RL 48 yX10_play ∈ tblG := tblG_of 763 (by decide +kernel) rfl
theorem q_766 : Cond.code yX10_play cX10_play 4 (some .int) ∈ tblG := tblG_of 766 (by decide +kernel) rfl
theorem cw_L_48 : CWs RL 48 RX10 yX10_play cX10_play 4 (some .int) 2 := ⟨q_763, q_76, q_766, rfl, by decide +kernel, by decide +kernel⟩
theorem q_764 : Cond.instanceMethod yX10_play ∈ tblG := tblG_of 764 (by decide +kernel) rfl
theorem q_765 : Cond.selects RX10 yX10_play yX10_play ∈ tblG := tblG_of 765 (by decide +kernel) rfl
theorem q_1546 : Cond.methodLink RL 51 yX11_play ∈ tblG := tblG_of 1546 (by decide +kernel) rfl
theorem q_1549 : Cond.code yX11_play cX11_play 3 (some .int) ∈ tblG := tblG_of 1549 (by decide +kernel) rfl
theorem cw_L_51 : CWs RL 51 RX11 yX11_play cX11_play 3 (some .int) 2 := ⟨q_1546, q_88, q_1549, rfl, by decide +kernel, by decide +kernel⟩
theorem q_1547 : Cond.instanceMethod yX11_play ∈ tblG := tblG_of 1547 (by decide +kernel) rfl
theorem q_1548 : Cond.selects RX11 yX11_play yX11_play ∈ tblG := tblG_of 1548 (by decide +kernel) rfl
theorem q_779 : Cond.methodLink RL 62 yX10_verdict ∈ tblG := tblG_of 779 (by decide +kernel) rfl
theorem q_782 : Cond.code yX10_verdict cX10_verdict 3 (some .int) ∈ tblG := tblG_of 782 (by decide +kernel) rfl
theorem cw_L_62 : CWs RL 62 RX10 yX10_verdict cX10_verdict 3 (some .int) 2 := ⟨q_779, q_76, q_782, rfl, by decide +kernel, by decide +kernel⟩
theorem q_780 : Cond.instanceMethod yX10_verdict ∈ tblG := tblG_of 780 (by decide +kernel) rfl
theorem q_781 : Cond.selects RX10 yX10_verdict yX10_verdict ∈ tblG := tblG_of 781 (by decide +kernel) rfl
theorem q_1558 : Cond.methodLink RL 65 yX11_verdict ∈ tblG := tblG_of 1558 (by decide +kernel) rfl
theorem q_1561 : Cond.code yX11_verdict cX11_verdict 3 (some .int) ∈ tblG := tblG_of 1561 (by decide +kernel) rfl
theorem cw_L_65 : CWs RL 65 RX11 yX11_verdict cX11_verdict 3 (some .int) 2 := ⟨q_1558, q_88, q_1561, rfl, by decide +kernel, by decide +kernel⟩
theorem q_1559 : Cond.instanceMethod yX11_verdict ∈ tblG := tblG_of 1559 (by decide +kernel) rfl
theorem q_1560 : Cond.selects RX11 yX11_verdict yX11_verdict ∈ tblG := tblG_of 1560 (by decide +kernel) rfl
theorem q_815 : Cond.methodLink RL 66 yX10_by ∈ tblG := tblG_of 815 (by decide +kernel) rfl
theorem q_818 : Cond.code yX10_by cX10_by 3 (some .int) ∈ tblG := tblG_of 818 (by decide +kernel) rfl
theorem cw_L_66 : CWs RL 66 RX10 yX10_by cX10_by 3 (some .int) 2 := ⟨q_815, q_76, q_818, rfl, by decide +kernel, by decide +kernel⟩
theorem q_816 : Cond.instanceMethod yX10_by ∈ tblG := tblG_of 816 (by decide +kernel) rfl
theorem q_817 : Cond.selects RX10 yX10_by yX10_by ∈ tblG := tblG_of 817 (by decide +kernel) rfl
theorem q_1570 : Cond.methodLink RL 69 yX11_by ∈ tblG := tblG_of 1570 (by decide +kernel) rfl
theorem q_1573 : Cond.code yX11_by cX11_by 3 (some .int) ∈ tblG := tblG_of 1573 (by decide +kernel) rfl
theorem cw_L_69 : CWs RL 69 RX11 yX11_by cX11_by 3 (some .int) 2 := ⟨q_1570, q_88, q_1573, rfl, by decide +kernel, by decide +kernel⟩
theorem q_1571 : Cond.instanceMethod yX11_by ∈ tblG := tblG_of 1571 (by decide +kernel) rfl
theorem q_1572 : Cond.selects RX11 yX11_by yX11_by ∈ tblG := tblG_of 1572 (by decide +kernel) rfl
theorem q_827 : Cond.methodLink RL 70 yX10_gap ∈ tblG := tblG_of 827 (by decide +kernel) rfl
theorem q_830 : Cond.code yX10_gap cX10_gap 7 (some .int) ∈ tblG := tblG_of 830 (by decide +kernel) rfl
theorem cw_L_70 : CWs RL 70 RX10 yX10_gap cX10_gap 7 (some .int) 4 := ⟨q_827, q_76, q_830, rfl, by decide +kernel, by decide +kernel⟩
theorem q_828 : Cond.instanceMethod yX10_gap ∈ tblG := tblG_of 828 (by decide +kernel) rfl
theorem q_829 : Cond.selects RX10 yX10_gap yX10_gap ∈ tblG := tblG_of 829 (by decide +kernel) rfl
theorem q_1578 : Cond.methodLink RL 74 yX11_gap ∈ tblG := tblG_of 1578 (by decide +kernel) rfl
theorem q_1581 : Cond.code yX11_gap cX11_gap 6 (some .int) ∈ tblG := tblG_of 1581 (by decide +kernel) rfl
theorem cw_L_74 : CWs RL 74 RX11 yX11_gap cX11_gap 6 (some .int) 4 := ⟨q_1578, q_88, q_1581, rfl, by decide +kernel, by decide +kernel⟩
theorem q_1579 : Cond.instanceMethod yX11_gap ∈ tblG := tblG_of 1579 (by decide +kernel) rfl
theorem q_1580 : Cond.selects RX11 yX11_gap yX11_gap ∈ tblG := tblG_of 1580 (by decide +kernel) rfl
theorem q_841 : Cond.methodLink RL 75 yX10_fewest ∈ tblG := tblG_of 841 (by decide +kernel) rfl
theorem q_844 : Cond.code yX10_fewest cX10_fewest 2 (some .int) ∈ tblG := tblG_of 844 (by decide +kernel) rfl
theorem cw_L_75 : CWs RL 75 RX10 yX10_fewest cX10_fewest 2 (some .int) 1 := ⟨q_841, q_76, q_844, rfl, by decide +kernel, by decide +kernel⟩
theorem q_842 : Cond.instanceMethod yX10_fewest ∈ tblG := tblG_of 842 (by decide +kernel) rfl
theorem q_843 : Cond.selects RX10 yX10_fewest yX10_fewest ∈ tblG := tblG_of 843 (by decide +kernel) rfl
theorem q_1589 : Cond.methodLink RL 78 yX11_fewest ∈ tblG := tblG_of 1589 (by decide +kernel) rfl
theorem q_1592 : Cond.code yX11_fewest cX11_fewest 5 (some .int) ∈ tblG := tblG_of 1592 (by decide +kernel) rfl
theorem cw_L_78 : CWs RL 78 RX11 yX11_fewest cX11_fewest 5 (some .int) 1 := ⟨q_1589, q_88, q_1592, rfl, by decide +kernel, by decide +kernel⟩
theorem q_1590 : Cond.instanceMethod yX11_fewest ∈ tblG := tblG_of 1590 (by decide +kernel) rfl
theorem q_1591 : Cond.selects RX11 yX11_fewest yX11_fewest ∈ tblG := tblG_of 1591 (by decide +kernel) rfl
theorem q_864 : Cond.methodLink RL 79 yX10_key ∈ tblG := tblG_of 864 (by decide +kernel) rfl
theorem q_867 : Cond.code yX10_key cX10_key 2 (some .int) ∈ tblG := tblG_of 867 (by decide +kernel) rfl
theorem cw_L_79 : CWs RL 79 RX10 yX10_key cX10_key 2 (some .int) 1 := ⟨q_864, q_76, q_867, rfl, by decide +kernel, by decide +kernel⟩
theorem q_865 : Cond.instanceMethod yX10_key ∈ tblG := tblG_of 865 (by decide +kernel) rfl
theorem q_866 : Cond.selects RX10 yX10_key yX10_key ∈ tblG := tblG_of 866 (by decide +kernel) rfl
theorem q_1606 : Cond.methodLink RL 82 yX11_key ∈ tblG := tblG_of 1606 (by decide +kernel) rfl
theorem q_1609 : Cond.code yX11_key cX11_key 4 (some .int) ∈ tblG := tblG_of 1609 (by decide +kernel) rfl
theorem cw_L_82 : CWs RL 82 RX11 yX11_key cX11_key 4 (some .int) 1 := ⟨q_1606, q_88, q_1609, rfl, by decide +kernel, by decide +kernel⟩
theorem q_1607 : Cond.instanceMethod yX11_key ∈ tblG := tblG_of 1607 (by decide +kernel) rfl
theorem q_1608 : Cond.selects RX11 yX11_key yX11_key ∈ tblG := tblG_of 1608 (by decide +kernel) rfl
theorem q_872 : Cond.methodLink RL 83 yX10_enough ∈ tblG := tblG_of 872 (by decide +kernel) rfl
theorem q_875 : Cond.code yX10_enough cX10_enough 2 (some .int) ∈ tblG := tblG_of 875 (by decide +kernel) rfl
theorem cw_L_83 : CWs RL 83 RX10 yX10_enough cX10_enough 2 (some .int) 1 := ⟨q_872, q_76, q_875, rfl, by decide +kernel, by decide +kernel⟩
theorem q_873 : Cond.instanceMethod yX10_enough ∈ tblG := tblG_of 873 (by decide +kernel) rfl
theorem q_874 : Cond.selects RX10 yX10_enough yX10_enough ∈ tblG := tblG_of 874 (by decide +kernel) rfl
theorem q_1610 : Cond.methodLink RL 86 yX11_enough ∈ tblG := tblG_of 1610 (by decide +kernel) rfl
theorem q_1613 : Cond.code yX11_enough cX11_enough 5 (some .int) ∈ tblG := tblG_of 1613 (by decide +kernel) rfl
theorem cw_L_86 : CWs RL 86 RX11 yX11_enough cX11_enough 5 (some .int) 1 := ⟨q_1610, q_88, q_1613, rfl, by decide +kernel, by decide +kernel⟩
theorem q_1611 : Cond.instanceMethod yX11_enough ∈ tblG := tblG_of 1611 (by decide +kernel) rfl
theorem q_1612 : Cond.selects RX11 yX11_enough yX11_enough ∈ tblG := tblG_of 1612 (by decide +kernel) rfl
theorem q_882 : Cond.methodLink RL 87 yX10_mend ∈ tblG := tblG_of 882 (by decide +kernel) rfl
theorem q_885 : Cond.code yX10_mend cX10_mend 2 (some .int) ∈ tblG := tblG_of 885 (by decide +kernel) rfl
theorem cw_L_87 : CWs RL 87 RX10 yX10_mend cX10_mend 2 (some .int) 1 := ⟨q_882, q_76, q_885, rfl, by decide +kernel, by decide +kernel⟩
theorem q_883 : Cond.instanceMethod yX10_mend ∈ tblG := tblG_of 883 (by decide +kernel) rfl
theorem q_884 : Cond.selects RX10 yX10_mend yX10_mend ∈ tblG := tblG_of 884 (by decide +kernel) rfl
theorem q_1614 : Cond.methodLink RL 90 yX11_mend ∈ tblG := tblG_of 1614 (by decide +kernel) rfl
theorem q_1617 : Cond.code yX11_mend cX11_mend 4 (some .int) ∈ tblG := tblG_of 1617 (by decide +kernel) rfl
theorem cw_L_90 : CWs RL 90 RX11 yX11_mend cX11_mend 4 (some .int) 1 := ⟨q_1614, q_88, q_1617, rfl, by decide +kernel, by decide +kernel⟩
theorem q_1615 : Cond.instanceMethod yX11_mend ∈ tblG := tblG_of 1615 (by decide +kernel) rfl
theorem q_1616 : Cond.selects RX11 yX11_mend yX11_mend ∈ tblG := tblG_of 1616 (by decide +kernel) rfl
theorem q_894 : Cond.methodLink RL 91 yX10_look ∈ tblG := tblG_of 894 (by decide +kernel) rfl
theorem q_897 : Cond.code yX10_look cX10_look 4 (some .int) ∈ tblG := tblG_of 897 (by decide +kernel) rfl
theorem cw_L_91 : CWs RL 91 RX10 yX10_look cX10_look 4 (some .int) 2 := ⟨q_894, q_76, q_897, rfl, by decide +kernel, by decide +kernel⟩
theorem q_895 : Cond.instanceMethod yX10_look ∈ tblG := tblG_of 895 (by decide +kernel) rfl
theorem q_896 : Cond.selects RX10 yX10_look yX10_look ∈ tblG := tblG_of 896 (by decide +kernel) rfl
theorem q_1618 : Cond.methodLink RL 94 yX11_look ∈ tblG := tblG_of 1618 (by decide +kernel) rfl
theorem q_1621 : Cond.code yX11_look cX11_look 4 (some .int) ∈ tblG := tblG_of 1621 (by decide +kernel) rfl
theorem cw_L_94 : CWs RL 94 RX11 yX11_look cX11_look 4 (some .int) 2 := ⟨q_1618, q_88, q_1621, rfl, by decide +kernel, by decide +kernel⟩
theorem q_1619 : Cond.instanceMethod yX11_look ∈ tblG := tblG_of 1619 (by decide +kernel) rfl
theorem q_1620 : Cond.selects RX11 yX11_look yX11_look ∈ tblG := tblG_of 1620 (by decide +kernel) rfl
theorem q_906 : Cond.methodLink RL 95 yX10_next ∈ tblG := tblG_of 906 (by decide +kernel) rfl
theorem q_909 : Cond.code yX10_next cX10_next 2 (some .int) ∈ tblG := tblG_of 909 (by decide +kernel) rfl
theorem cw_L_95 : CWs RL 95 RX10 yX10_next cX10_next 2 (some .int) 0 := ⟨q_906, q_76, q_909, rfl, by decide +kernel, by decide +kernel⟩
theorem q_907 : Cond.instanceMethod yX10_next ∈ tblG := tblG_of 907 (by decide +kernel) rfl
theorem q_908 : Cond.selects RX10 yX10_next yX10_next ∈ tblG := tblG_of 908 (by decide +kernel) rfl
theorem q_1635 : Cond.methodLink RL 98 yX11_next ∈ tblG := tblG_of 1635 (by decide +kernel) rfl
theorem q_1638 : Cond.code yX11_next cX11_next 2 (some .int) ∈ tblG := tblG_of 1638 (by decide +kernel) rfl
theorem cw_L_98 : CWs RL 98 RX11 yX11_next cX11_next 2 (some .int) 0 := ⟨q_1635, q_88, q_1638, rfl, by decide +kernel, by decide +kernel⟩
theorem q_1636 : Cond.instanceMethod yX11_next ∈ tblG := tblG_of 1636 (by decide +kernel) rfl
theorem q_1637 : Cond.selects RX11 yX11_next yX11_next ∈ tblG := tblG_of 1637 (by decide +kernel) rfl
theorem q_945 : Cond.methodLink RL 99 yX10_challenge ∈ tblG := tblG_of 945 (by decide +kernel) rfl
theorem q_948 : Cond.code yX10_challenge cX10_challenge 4 (some .int) ∈ tblG := tblG_of 948 (by decide +kernel) rfl
theorem cw_L_99 : CWs RL 99 RX10 yX10_challenge cX10_challenge 4 (some .int) 2 := ⟨q_945, q_76, q_948, rfl, by decide +kernel, by decide +kernel⟩
theorem q_946 : Cond.instanceMethod yX10_challenge ∈ tblG := tblG_of 946 (by decide +kernel) rfl
theorem q_947 : Cond.selects RX10 yX10_challenge yX10_challenge ∈ tblG := tblG_of 947 (by decide +kernel) rfl
theorem q_1659 : Cond.methodLink RL 102 yX11_challenge ∈ tblG := tblG_of 1659 (by decide +kernel) rfl
theorem q_1662 : Cond.code yX11_challenge cX11_challenge 4 (some .int) ∈ tblG := tblG_of 1662 (by decide +kernel) rfl
theorem cw_L_102 : CWs RL 102 RX11 yX11_challenge cX11_challenge 4 (some .int) 2 := ⟨q_1659, q_88, q_1662, rfl, by decide +kernel, by decide +kernel⟩
theorem q_1660 : Cond.instanceMethod yX11_challenge ∈ tblG := tblG_of 1660 (by decide +kernel) rfl
theorem q_1661 : Cond.selects RX11 yX11_challenge yX11_challenge ∈ tblG := tblG_of 1661 (by decide +kernel) rfl
theorem q_958 : Cond.methodLink RL 103 yX10_put ∈ tblG := tblG_of 958 (by decide +kernel) rfl
theorem q_961 : Cond.code yX10_put cX10_put 4 (some .int) ∈ tblG := tblG_of 961 (by decide +kernel) rfl
theorem cw_L_103 : CWs RL 103 RX10 yX10_put cX10_put 4 (some .int) 2 := ⟨q_958, q_76, q_961, rfl, by decide +kernel, by decide +kernel⟩
theorem q_959 : Cond.instanceMethod yX10_put ∈ tblG := tblG_of 959 (by decide +kernel) rfl
theorem q_960 : Cond.selects RX10 yX10_put yX10_put ∈ tblG := tblG_of 960 (by decide +kernel) rfl
theorem q_1667 : Cond.methodLink RL 106 yX11_put ∈ tblG := tblG_of 1667 (by decide +kernel) rfl
theorem q_1670 : Cond.code yX11_put cX11_put 4 (some .int) ∈ tblG := tblG_of 1670 (by decide +kernel) rfl
theorem cw_L_106 : CWs RL 106 RX11 yX11_put cX11_put 4 (some .int) 2 := ⟨q_1667, q_88, q_1670, rfl, by decide +kernel, by decide +kernel⟩
theorem q_1668 : Cond.instanceMethod yX11_put ∈ tblG := tblG_of 1668 (by decide +kernel) rfl
theorem q_1669 : Cond.selects RX11 yX11_put yX11_put ∈ tblG := tblG_of 1669 (by decide +kernel) rfl
theorem q_979 : Cond.methodLink RL 107 yX10_votes ∈ tblG := tblG_of 979 (by decide +kernel) rfl
theorem q_982 : Cond.code yX10_votes cX10_votes 3 (some .int) ∈ tblG := tblG_of 982 (by decide +kernel) rfl
theorem cw_L_107 : CWs RL 107 RX10 yX10_votes cX10_votes 3 (some .int) 2 := ⟨q_979, q_76, q_982, rfl, by decide +kernel, by decide +kernel⟩
theorem q_980 : Cond.instanceMethod yX10_votes ∈ tblG := tblG_of 980 (by decide +kernel) rfl
theorem q_981 : Cond.selects RX10 yX10_votes yX10_votes ∈ tblG := tblG_of 981 (by decide +kernel) rfl
theorem q_1679 : Cond.methodLink RL 110 yX11_votes ∈ tblG := tblG_of 1679 (by decide +kernel) rfl
theorem q_1682 : Cond.code yX11_votes cX11_votes 3 (some .int) ∈ tblG := tblG_of 1682 (by decide +kernel) rfl
theorem cw_L_110 : CWs RL 110 RX11 yX11_votes cX11_votes 3 (some .int) 2 := ⟨q_1679, q_88, q_1682, rfl, by decide +kernel, by decide +kernel⟩
theorem q_1680 : Cond.instanceMethod yX11_votes ∈ tblG := tblG_of 1680 (by decide +kernel) rfl
theorem q_1681 : Cond.selects RX11 yX11_votes yX11_votes ∈ tblG := tblG_of 1681 (by decide +kernel) rfl
theorem q_983 : Cond.methodLink RL 111 yX10_pivot ∈ tblG := tblG_of 983 (by decide +kernel) rfl
theorem q_986 : Cond.code yX10_pivot cX10_pivot 4 (some .int) ∈ tblG := tblG_of 986 (by decide +kernel) rfl
theorem cw_L_111 : CWs RL 111 RX10 yX10_pivot cX10_pivot 4 (some .int) 2 := ⟨q_983, q_76, q_986, rfl, by decide +kernel, by decide +kernel⟩
theorem q_984 : Cond.instanceMethod yX10_pivot ∈ tblG := tblG_of 984 (by decide +kernel) rfl
theorem q_985 : Cond.selects RX10 yX10_pivot yX10_pivot ∈ tblG := tblG_of 985 (by decide +kernel) rfl
theorem q_1683 : Cond.methodLink RL 114 yX11_pivot ∈ tblG := tblG_of 1683 (by decide +kernel) rfl
theorem q_1686 : Cond.code yX11_pivot cX11_pivot 4 (some .int) ∈ tblG := tblG_of 1686 (by decide +kernel) rfl
theorem cw_L_114 : CWs RL 114 RX11 yX11_pivot cX11_pivot 4 (some .int) 2 := ⟨q_1683, q_88, q_1686, rfl, by decide +kernel, by decide +kernel⟩
theorem q_1684 : Cond.instanceMethod yX11_pivot ∈ tblG := tblG_of 1684 (by decide +kernel) rfl
theorem q_1685 : Cond.selects RX11 yX11_pivot yX11_pivot ∈ tblG := tblG_of 1685 (by decide +kernel) rfl
theorem q_987 : Cond.methodLink RL 115 yX10_boards ∈ tblG := tblG_of 987 (by decide +kernel) rfl
theorem q_990 : Cond.code yX10_boards cX10_boards 4 (some .int) ∈ tblG := tblG_of 990 (by decide +kernel) rfl
theorem cw_L_115 : CWs RL 115 RX10 yX10_boards cX10_boards 4 (some .int) 1 := ⟨q_987, q_76, q_990, rfl, by decide +kernel, by decide +kernel⟩
theorem q_988 : Cond.instanceMethod yX10_boards ∈ tblG := tblG_of 988 (by decide +kernel) rfl
theorem q_989 : Cond.selects RX10 yX10_boards yX10_boards ∈ tblG := tblG_of 989 (by decide +kernel) rfl
theorem q_1687 : Cond.methodLink RL 118 yX11_boards ∈ tblG := tblG_of 1687 (by decide +kernel) rfl
theorem q_1690 : Cond.code yX11_boards cX11_boards 4 (some .int) ∈ tblG := tblG_of 1690 (by decide +kernel) rfl
theorem cw_L_118 : CWs RL 118 RX11 yX11_boards cX11_boards 4 (some .int) 1 := ⟨q_1687, q_88, q_1690, rfl, by decide +kernel, by decide +kernel⟩
theorem q_1688 : Cond.instanceMethod yX11_boards ∈ tblG := tblG_of 1688 (by decide +kernel) rfl
theorem q_1689 : Cond.selects RX11 yX11_boards yX11_boards ∈ tblG := tblG_of 1689 (by decide +kernel) rfl
theorem q_991 : Cond.methodLink RL 119 yX10_truth ∈ tblG := tblG_of 991 (by decide +kernel) rfl
theorem q_994 : Cond.code yX10_truth cX10_truth 2 (some .int) ∈ tblG := tblG_of 994 (by decide +kernel) rfl
theorem cw_L_119 : CWs RL 119 RX10 yX10_truth cX10_truth 2 (some .int) 1 := ⟨q_991, q_76, q_994, rfl, by decide +kernel, by decide +kernel⟩
theorem q_992 : Cond.instanceMethod yX10_truth ∈ tblG := tblG_of 992 (by decide +kernel) rfl
theorem q_993 : Cond.selects RX10 yX10_truth yX10_truth ∈ tblG := tblG_of 993 (by decide +kernel) rfl
theorem q_1691 : Cond.methodLink RL 122 yX11_truth ∈ tblG := tblG_of 1691 (by decide +kernel) rfl
theorem q_1694 : Cond.code yX11_truth cX11_truth 4 (some .int) ∈ tblG := tblG_of 1694 (by decide +kernel) rfl
theorem cw_L_122 : CWs RL 122 RX11 yX11_truth cX11_truth 4 (some .int) 1 := ⟨q_1691, q_88, q_1694, rfl, by decide +kernel, by decide +kernel⟩
theorem q_1692 : Cond.instanceMethod yX11_truth ∈ tblG := tblG_of 1692 (by decide +kernel) rfl
theorem q_1693 : Cond.selects RX11 yX11_truth yX11_truth ∈ tblG := tblG_of 1693 (by decide +kernel) rfl
theorem q_1003 : Cond.methodLink RL 123 yX10_range ∈ tblG := tblG_of 1003 (by decide +kernel) rfl
theorem q_1006 : Cond.code yX10_range cX10_range 3 (some .int) ∈ tblG := tblG_of 1006 (by decide +kernel) rfl
theorem cw_L_123 : CWs RL 123 RX10 yX10_range cX10_range 3 (some .int) 2 := ⟨q_1003, q_76, q_1006, rfl, by decide +kernel, by decide +kernel⟩
theorem q_1004 : Cond.instanceMethod yX10_range ∈ tblG := tblG_of 1004 (by decide +kernel) rfl
theorem q_1005 : Cond.selects RX10 yX10_range yX10_range ∈ tblG := tblG_of 1005 (by decide +kernel) rfl
theorem q_1699 : Cond.methodLink RL 127 yX11_range ∈ tblG := tblG_of 1699 (by decide +kernel) rfl
theorem q_1702 : Cond.code yX11_range cX11_range 5 (some .int) ∈ tblG := tblG_of 1702 (by decide +kernel) rfl
theorem cw_L_127 : CWs RL 127 RX11 yX11_range cX11_range 5 (some .int) 2 := ⟨q_1699, q_88, q_1702, rfl, by decide +kernel, by decide +kernel⟩
theorem q_1700 : Cond.instanceMethod yX11_range ∈ tblG := tblG_of 1700 (by decide +kernel) rfl
theorem q_1701 : Cond.selects RX11 yX11_range yX11_range ∈ tblG := tblG_of 1701 (by decide +kernel) rfl
theorem q_1007 : Cond.methodLink RL 128 yX10_wrong ∈ tblG := tblG_of 1007 (by decide +kernel) rfl
theorem q_1010 : Cond.code yX10_wrong cX10_wrong 4 (some .int) ∈ tblG := tblG_of 1010 (by decide +kernel) rfl
theorem cw_L_128 : CWs RL 128 RX10 yX10_wrong cX10_wrong 4 (some .int) 0 := ⟨q_1007, q_76, q_1010, rfl, by decide +kernel, by decide +kernel⟩
theorem q_1008 : Cond.instanceMethod yX10_wrong ∈ tblG := tblG_of 1008 (by decide +kernel) rfl
theorem q_1009 : Cond.selects RX10 yX10_wrong yX10_wrong ∈ tblG := tblG_of 1009 (by decide +kernel) rfl
theorem q_1703 : Cond.methodLink RL 131 yX11_wrong ∈ tblG := tblG_of 1703 (by decide +kernel) rfl
theorem q_1706 : Cond.code yX11_wrong cX11_wrong 3 (some .int) ∈ tblG := tblG_of 1706 (by decide +kernel) rfl
theorem cw_L_131 : CWs RL 131 RX11 yX11_wrong cX11_wrong 3 (some .int) 0 := ⟨q_1703, q_88, q_1706, rfl, by decide +kernel, by decide +kernel⟩
theorem q_1704 : Cond.instanceMethod yX11_wrong ∈ tblG := tblG_of 1704 (by decide +kernel) rfl
theorem q_1705 : Cond.selects RX11 yX11_wrong yX11_wrong ∈ tblG := tblG_of 1705 (by decide +kernel) rfl
theorem q_1011 : Cond.methodLink RL 132 yX10_left ∈ tblG := tblG_of 1011 (by decide +kernel) rfl
theorem q_1014 : Cond.code yX10_left cX10_left 4 (some .int) ∈ tblG := tblG_of 1014 (by decide +kernel) rfl
theorem cw_L_132 : CWs RL 132 RX10 yX10_left cX10_left 4 (some .int) 1 := ⟨q_1011, q_76, q_1014, rfl, by decide +kernel, by decide +kernel⟩
theorem q_1012 : Cond.instanceMethod yX10_left ∈ tblG := tblG_of 1012 (by decide +kernel) rfl
theorem q_1013 : Cond.selects RX10 yX10_left yX10_left ∈ tblG := tblG_of 1013 (by decide +kernel) rfl
theorem q_1707 : Cond.methodLink RL 135 yX11_left ∈ tblG := tblG_of 1707 (by decide +kernel) rfl
theorem q_1710 : Cond.code yX11_left cX11_left 5 (some .int) ∈ tblG := tblG_of 1710 (by decide +kernel) rfl
theorem cw_L_135 : CWs RL 135 RX11 yX11_left cX11_left 5 (some .int) 1 := ⟨q_1707, q_88, q_1710, rfl, by decide +kernel, by decide +kernel⟩
theorem q_1708 : Cond.instanceMethod yX11_left ∈ tblG := tblG_of 1708 (by decide +kernel) rfl
theorem q_1709 : Cond.selects RX11 yX11_left yX11_left ∈ tblG := tblG_of 1709 (by decide +kernel) rfl
theorem q_1019 : Cond.methodLink RL 136 yX10_need ∈ tblG := tblG_of 1019 (by decide +kernel) rfl
theorem q_1022 : Cond.code yX10_need cX10_need 5 (some .int) ∈ tblG := tblG_of 1022 (by decide +kernel) rfl
theorem cw_L_136 : CWs RL 136 RX10 yX10_need cX10_need 5 (some .int) 1 := ⟨q_1019, q_76, q_1022, rfl, by decide +kernel, by decide +kernel⟩
theorem q_1020 : Cond.instanceMethod yX10_need ∈ tblG := tblG_of 1020 (by decide +kernel) rfl
theorem q_1021 : Cond.selects RX10 yX10_need yX10_need ∈ tblG := tblG_of 1021 (by decide +kernel) rfl
theorem q_1711 : Cond.methodLink RL 139 yX11_need ∈ tblG := tblG_of 1711 (by decide +kernel) rfl
theorem q_1714 : Cond.code yX11_need cX11_need 3 (some .int) ∈ tblG := tblG_of 1714 (by decide +kernel) rfl
theorem cw_L_139 : CWs RL 139 RX11 yX11_need cX11_need 3 (some .int) 1 := ⟨q_1711, q_88, q_1714, rfl, by decide +kernel, by decide +kernel⟩
theorem q_1712 : Cond.instanceMethod yX11_need ∈ tblG := tblG_of 1712 (by decide +kernel) rfl
theorem q_1713 : Cond.selects RX11 yX11_need yX11_need ∈ tblG := tblG_of 1713 (by decide +kernel) rfl
theorem q_1030 : Cond.methodLink RL 140 yX10_seconds ∈ tblG := tblG_of 1030 (by decide +kernel) rfl
theorem q_1033 : Cond.code yX10_seconds cX10_seconds 2 (some .int) ∈ tblG := tblG_of 1033 (by decide +kernel) rfl
theorem cw_L_140 : CWs RL 140 RX10 yX10_seconds cX10_seconds 2 (some .int) 1 := ⟨q_1030, q_76, q_1033, rfl, by decide +kernel, by decide +kernel⟩
theorem q_1031 : Cond.instanceMethod yX10_seconds ∈ tblG := tblG_of 1031 (by decide +kernel) rfl
theorem q_1032 : Cond.selects RX10 yX10_seconds yX10_seconds ∈ tblG := tblG_of 1032 (by decide +kernel) rfl
theorem q_1719 : Cond.methodLink RL 143 yX11_seconds ∈ tblG := tblG_of 1719 (by decide +kernel) rfl
theorem q_1722 : Cond.code yX11_seconds cX11_seconds 2 (some .int) ∈ tblG := tblG_of 1722 (by decide +kernel) rfl
theorem cw_L_143 : CWs RL 143 RX11 yX11_seconds cX11_seconds 2 (some .int) 1 := ⟨q_1719, q_88, q_1722, rfl, by decide +kernel, by decide +kernel⟩
theorem q_1720 : Cond.instanceMethod yX11_seconds ∈ tblG := tblG_of 1720 (by decide +kernel) rfl
theorem q_1721 : Cond.selects RX11 yX11_seconds yX11_seconds ∈ tblG := tblG_of 1721 (by decide +kernel) rfl
theorem q_1038 : Cond.methodLink RL 144 yX10_extra ∈ tblG := tblG_of 1038 (by decide +kernel) rfl
theorem q_1041 : Cond.code yX10_extra cX10_extra 4 (some .int) ∈ tblG := tblG_of 1041 (by decide +kernel) rfl
theorem cw_L_144 : CWs RL 144 RX10 yX10_extra cX10_extra 4 (some .int) 0 := ⟨q_1038, q_76, q_1041, rfl, by decide +kernel, by decide +kernel⟩
theorem q_1039 : Cond.instanceMethod yX10_extra ∈ tblG := tblG_of 1039 (by decide +kernel) rfl
theorem q_1040 : Cond.selects RX10 yX10_extra yX10_extra ∈ tblG := tblG_of 1040 (by decide +kernel) rfl
theorem q_1728 : Cond.methodLink RL 147 yX11_extra ∈ tblG := tblG_of 1728 (by decide +kernel) rfl
theorem q_1731 : Cond.code yX11_extra cX11_extra 3 (some .int) ∈ tblG := tblG_of 1731 (by decide +kernel) rfl
theorem cw_L_147 : CWs RL 147 RX11 yX11_extra cX11_extra 3 (some .int) 0 := ⟨q_1728, q_88, q_1731, rfl, by decide +kernel, by decide +kernel⟩
theorem q_1729 : Cond.instanceMethod yX11_extra ∈ tblG := tblG_of 1729 (by decide +kernel) rfl
theorem q_1730 : Cond.selects RX11 yX11_extra yX11_extra ∈ tblG := tblG_of 1730 (by decide +kernel) rfl
theorem q_1042 : Cond.methodLink RL 152 yX10_sheet ∈ tblG := tblG_of 1042 (by decide +kernel) rfl
theorem q_1045 : Cond.code yX10_sheet cX10_sheet 5 (some .int) ∈ tblG := tblG_of 1045 (by decide +kernel) rfl
theorem cw_L_152 : CWs RL 152 RX10 yX10_sheet cX10_sheet 5 (some .int) 3 := ⟨q_1042, q_76, q_1045, rfl, by decide +kernel, by decide +kernel⟩
theorem q_1043 : Cond.instanceMethod yX10_sheet ∈ tblG := tblG_of 1043 (by decide +kernel) rfl
theorem q_1044 : Cond.selects RX10 yX10_sheet yX10_sheet ∈ tblG := tblG_of 1044 (by decide +kernel) rfl
theorem q_1736 : Cond.methodLink RL 155 yX11_sheet ∈ tblG := tblG_of 1736 (by decide +kernel) rfl
theorem q_1739 : Cond.code yX11_sheet cX11_sheet 6 (some .int) ∈ tblG := tblG_of 1739 (by decide +kernel) rfl
theorem cw_L_155 : CWs RL 155 RX11 yX11_sheet cX11_sheet 6 (some .int) 3 := ⟨q_1736, q_88, q_1739, rfl, by decide +kernel, by decide +kernel⟩
theorem q_1737 : Cond.instanceMethod yX11_sheet ∈ tblG := tblG_of 1737 (by decide +kernel) rfl
theorem q_1738 : Cond.selects RX11 yX11_sheet yX11_sheet ∈ tblG := tblG_of 1738 (by decide +kernel) rfl
theorem q_1049 : Cond.methodLink RL 160 yX10_undo ∈ tblG := tblG_of 1049 (by decide +kernel) rfl
theorem q_1052 : Cond.code yX10_undo cX10_undo 1 (some .int) ∈ tblG := tblG_of 1052 (by decide +kernel) rfl
theorem cw_L_160 : CWs RL 160 RX10 yX10_undo cX10_undo 1 (some .int) 0 := ⟨q_1049, q_76, q_1052, rfl, by decide +kernel, by decide +kernel⟩
theorem q_1050 : Cond.instanceMethod yX10_undo ∈ tblG := tblG_of 1050 (by decide +kernel) rfl
theorem q_1051 : Cond.selects RX10 yX10_undo yX10_undo ∈ tblG := tblG_of 1051 (by decide +kernel) rfl
theorem q_1744 : Cond.methodLink RL 163 yX11_undo ∈ tblG := tblG_of 1744 (by decide +kernel) rfl
theorem q_1747 : Cond.code yX11_undo cX11_undo 2 (some .int) ∈ tblG := tblG_of 1747 (by decide +kernel) rfl
theorem cw_L_163 : CWs RL 163 RX11 yX11_undo cX11_undo 2 (some .int) 0 := ⟨q_1744, q_88, q_1747, rfl, by decide +kernel, by decide +kernel⟩
theorem q_1745 : Cond.instanceMethod yX11_undo ∈ tblG := tblG_of 1745 (by decide +kernel) rfl
theorem q_1746 : Cond.selects RX11 yX11_undo yX11_undo ∈ tblG := tblG_of 1746 (by decide +kernel) rfl
theorem q_1053 : Cond.methodLink RL 164 yX10_keep ∈ tblG := tblG_of 1053 (by decide +kernel) rfl
theorem q_1056 : Cond.code yX10_keep cX10_keep 3 (some .boolean) ∈ tblG := tblG_of 1056 (by decide +kernel) rfl
theorem cw_L_164 : CWs RL 164 RX10 yX10_keep cX10_keep 3 (some .boolean) 2 := ⟨q_1053, q_76, q_1056, rfl, by decide +kernel, by decide +kernel⟩
theorem q_1054 : Cond.instanceMethod yX10_keep ∈ tblG := tblG_of 1054 (by decide +kernel) rfl
theorem q_1055 : Cond.selects RX10 yX10_keep yX10_keep ∈ tblG := tblG_of 1055 (by decide +kernel) rfl
theorem q_1748 : Cond.methodLink RL 168 yX11_keep ∈ tblG := tblG_of 1748 (by decide +kernel) rfl
theorem q_1751 : Cond.code yX11_keep cX11_keep 4 (some .boolean) ∈ tblG := tblG_of 1751 (by decide +kernel) rfl
theorem cw_L_168 : CWs RL 168 RX11 yX11_keep cX11_keep 4 (some .boolean) 2 := ⟨q_1748, q_88, q_1751, rfl, by decide +kernel, by decide +kernel⟩
theorem q_1749 : Cond.instanceMethod yX11_keep ∈ tblG := tblG_of 1749 (by decide +kernel) rfl
theorem q_1750 : Cond.selects RX11 yX11_keep yX11_keep ∈ tblG := tblG_of 1750 (by decide +kernel) rfl
theorem q_1057 : Cond.methodLink RL 169 yX10_count ∈ tblG := tblG_of 1057 (by decide +kernel) rfl
theorem q_1060 : Cond.code yX10_count cX10_count 2 (some .int) ∈ tblG := tblG_of 1060 (by decide +kernel) rfl
theorem cw_L_169 : CWs RL 169 RX10 yX10_count cX10_count 2 (some .int) 1 := ⟨q_1057, q_76, q_1060, rfl, by decide +kernel, by decide +kernel⟩
theorem q_1058 : Cond.instanceMethod yX10_count ∈ tblG := tblG_of 1058 (by decide +kernel) rfl
theorem q_1059 : Cond.selects RX10 yX10_count yX10_count ∈ tblG := tblG_of 1059 (by decide +kernel) rfl
theorem q_1752 : Cond.methodLink RL 172 yX11_count ∈ tblG := tblG_of 1752 (by decide +kernel) rfl
theorem q_1755 : Cond.code yX11_count cX11_count 2 (some .int) ∈ tblG := tblG_of 1755 (by decide +kernel) rfl
theorem cw_L_172 : CWs RL 172 RX11 yX11_count cX11_count 2 (some .int) 1 := ⟨q_1752, q_88, q_1755, rfl, by decide +kernel, by decide +kernel⟩
theorem q_1753 : Cond.instanceMethod yX11_count ∈ tblG := tblG_of 1753 (by decide +kernel) rfl
theorem q_1754 : Cond.selects RX11 yX11_count yX11_count ∈ tblG := tblG_of 1754 (by decide +kernel) rfl
theorem q_1063 : Cond.codeWith yL_frame cL_frame 6 (some .int) [(0, 12, 15, 13)] ∈ tblG := tblG_of 1063 (by decide +kernel) rfl
theorem q_1061 : Cond.methodLink RL 52 yL_frame ∈ tblG := tblG_of 1061 (by decide +kernel) rfl
theorem q_1062 : Cond.static yL_frame ∈ tblG := tblG_of 1062 (by decide +kernel) rfl
theorem q_75 : Cond.initialized RL ∈ tblG := tblG_of 75 (by decide +kernel) rfl
theorem q_1554 : Cond.methodLink RL 57 yX11_frame ∈ tblG := tblG_of 1554 (by decide +kernel) rfl
theorem q_1557 : Cond.code yX11_frame cX11_frame 5 (some .int) ∈ tblG := tblG_of 1557 (by decide +kernel) rfl
theorem cw_L_57 : CWs RL 57 RX11 yX11_frame cX11_frame 5 (some .int) 3 := ⟨q_1554, q_88, q_1557, rfl, by decide +kernel, by decide +kernel⟩
theorem q_1555 : Cond.instanceMethod yX11_frame ∈ tblG := tblG_of 1555 (by decide +kernel) rfl
theorem q_1556 : Cond.selects RX11 yX11_frame yX11_frame ∈ tblG := tblG_of 1556 (by decide +kernel) rfl
theorem q_1303 : Cond.methodLink RL 58 yX11_thrown ∈ tblG := tblG_of 1303 (by decide +kernel) rfl
theorem q_1306 : Cond.code yX11_thrown cX11_thrown 1 (some .int) ∈ tblG := tblG_of 1306 (by decide +kernel) rfl
theorem cw_L_58 : CWs RL 58 RX11 yX11_thrown cX11_thrown 1 (some .int) 0 := ⟨q_1303, q_88, q_1306, rfl, by decide +kernel, by decide +kernel⟩
theorem q_1304 : Cond.instanceMethod yX11_thrown ∈ tblG := tblG_of 1304 (by decide +kernel) rfl
theorem q_1305 : Cond.selects RX11 yX11_thrown yX11_thrown ∈ tblG := tblG_of 1305 (by decide +kernel) rfl
theorem q_1136 : Cond.codeWith yL_log cL_log 5 (some .int) [(0, 10, 13, 13)] ∈ tblG := tblG_of 1136 (by decide +kernel) rfl
theorem q_1134 : Cond.methodLink RL 148 yL_log ∈ tblG := tblG_of 1134 (by decide +kernel) rfl
theorem q_1135 : Cond.static yL_log ∈ tblG := tblG_of 1135 (by decide +kernel) rfl
theorem q_1732 : Cond.methodLink RL 151 yX11_log ∈ tblG := tblG_of 1732 (by decide +kernel) rfl
theorem q_1735 : Cond.code yX11_log cX11_log 3 (some .int) ∈ tblG := tblG_of 1735 (by decide +kernel) rfl
theorem cw_L_151 : CWs RL 151 RX11 yX11_log cX11_log 3 (some .int) 2 := ⟨q_1732, q_88, q_1735, rfl, by decide +kernel, by decide +kernel⟩
theorem q_1733 : Cond.instanceMethod yX11_log ∈ tblG := tblG_of 1733 (by decide +kernel) rfl
theorem q_1734 : Cond.selects RX11 yX11_log yX11_log ∈ tblG := tblG_of 1734 (by decide +kernel) rfl
theorem q_1144 : Cond.codeWith yL_row cL_row 4 (some .int) [(0, 9, 12, 13)] ∈ tblG := tblG_of 1144 (by decide +kernel) rfl
theorem q_1142 : Cond.methodLink RL 156 yL_row ∈ tblG := tblG_of 1142 (by decide +kernel) rfl
theorem q_1143 : Cond.static yL_row ∈ tblG := tblG_of 1143 (by decide +kernel) rfl
theorem q_1740 : Cond.methodLink RL 159 yX11_row ∈ tblG := tblG_of 1740 (by decide +kernel) rfl
theorem q_1743 : Cond.code yX11_row cX11_row 2 (some .int) ∈ tblG := tblG_of 1743 (by decide +kernel) rfl
theorem cw_L_159 : CWs RL 159 RX11 yX11_row cX11_row 2 (some .int) 1 := ⟨q_1740, q_88, q_1743, rfl, by decide +kernel, by decide +kernel⟩
theorem q_1741 : Cond.instanceMethod yX11_row ∈ tblG := tblG_of 1741 (by decide +kernel) rfl
theorem q_1742 : Cond.selects RX11 yX11_row yX11_row ∈ tblG := tblG_of 1742 (by decide +kernel) rfl
set_option maxRecDepth 100000 in
set_option maxHeartbeats 4000000 in
theorem lcs_0 {K : Kt} {X : Xt} {Q : State → Prop} {ce sl : Nat} {M : Mem} {i L : Nat} {xs : Nat → Int32} (hp : St K) (hB : Bx K X room_1 cL_law 7 RL lwr) (hs : Scr K X L xs) (hL : i + 6 ≤ L) (hL2 : L ≤ 3072) (hf : ce + 0 ≤ room_1.cells ∧ sl + 0 ≤ room_1.slots) (hI : Inv M) (nx : ∀ M1, Inv M1 → Wt K X Q ce sl M1 1435 [(4, vi (nI i)), (3, vr 346), (2, vr 311), (1, vr 64), (0, vr 61)] []) : Wt K X Q ce sl M 192 [(4, vi (nI i)), (3, vr 346), (2, vr 311), (1, vr 64), (0, vr 61)] [] := by
  obtain ⟨r, M1, M2, e1, e2, hI2, -⟩ := (do_feed (xs (i + 1)) (xs (i + 2)) (xs (i + 3)) (xs (i + 4)) (xs (i + 5))) M hI
  refine w_aload_n hB 3 dL_law_192 rfl rfl ?_
  refine w_arg hB hs (i := i) (j := 1) rfl (by omega) hL2 4 0 rfl rfl dL_law_193 dL_law_194 dL_law_196 (by decide) dL_law_197 dL_law_198 ?_
  refine w_arg hB hs (i := i) (j := 2) rfl (by omega) hL2 4 0 rfl rfl dL_law_199 dL_law_200 dL_law_202 (by decide) dL_law_203 dL_law_204 ?_
  refine w_arg hB hs (i := i) (j := 3) rfl (by omega) hL2 4 0 rfl rfl dL_law_205 dL_law_206 dL_law_208 (by decide) dL_law_209 dL_law_210 ?_
  refine w_arg hB hs (i := i) (j := 4) rfl (by omega) hL2 4 0 rfl rfl dL_law_211 dL_law_212 dL_law_214 (by decide) dL_law_215 dL_law_216 ?_
  refine w_arg hB hs (i := i) (j := 5) rfl (by omega) hL2 4 0 rfl rfl dL_law_217 dL_law_218 dL_law_220 (by decide) dL_law_221 dL_law_222 ?_
  refine w_callV hB (ci := 8) (As := [vi (xs (i + 1)), vi (xs (i + 2)), vi (xs (i + 3)), vi (xs (i + 4)), vi (xs (i + 5))]) (st := []) cw_L_27 q_518 q_519 rfl sh_64 (Or.inl hp.1) (c_X10_feed hp e1) ⟨rfl, rfl⟩ (by decide) hf rfl (Nat.le_of_ble_eq_true rfl) dL_law_223 rfl ?_
  refine w_aload_n hB 2 dL_law_226 rfl rfl ?_
  refine w_arg hB hs (i := i) (j := 1) rfl (by omega) hL2 4 0 rfl rfl dL_law_227 dL_law_228 dL_law_230 (by decide) dL_law_231 dL_law_232 ?_
  refine w_arg hB hs (i := i) (j := 2) rfl (by omega) hL2 4 0 rfl rfl dL_law_233 dL_law_234 dL_law_236 (by decide) dL_law_237 dL_law_238 ?_
  refine w_arg hB hs (i := i) (j := 3) rfl (by omega) hL2 4 0 rfl rfl dL_law_239 dL_law_240 dL_law_242 (by decide) dL_law_243 dL_law_244 ?_
  refine w_arg hB hs (i := i) (j := 4) rfl (by omega) hL2 4 0 rfl rfl dL_law_245 dL_law_246 dL_law_248 (by decide) dL_law_249 dL_law_250 ?_
  refine w_arg hB hs (i := i) (j := 5) rfl (by omega) hL2 4 0 rfl rfl dL_law_251 dL_law_252 dL_law_254 (by decide) dL_law_255 dL_law_256 ?_
  refine w_callV hB (ci := 9) (As := [vi (xs (i + 1)), vi (xs (i + 2)), vi (xs (i + 3)), vi (xs (i + 4)), vi (xs (i + 5))]) (st := [vi r]) cw_L_31 q_1308 q_1309 rfl sh_311 (Or.inl hp.1) (c_X11_feed hp e2) ⟨rfl, rfl⟩ (by decide) hf rfl (Nat.le_of_ble_eq_true rfl) dL_law_257 rfl ?_
  refine w_icmp_eq hB 1435 dL_law_260 (by decide) (fun _ => ?_) (fun hc => absurd rfl hc)
  exact nx M2 hI2
set_option maxRecDepth 100000 in
set_option maxHeartbeats 4000000 in
theorem lcs_1 {K : Kt} {X : Xt} {Q : State → Prop} {ce sl : Nat} {M : Mem} {i L : Nat} {xs : Nat → Int32} (hp : St K) (hB : Bx K X room_1 cL_law 7 RL lwr) (hs : Scr K X L xs) (hL : i + 6 ≤ L) (hL2 : L ≤ 3072) (hf : ce + 0 ≤ room_1.cells ∧ sl + 0 ≤ room_1.slots) (hI : Inv M) (nx : ∀ M1, Inv M1 → Wt K X Q ce sl M1 1435 [(4, vi (nI i)), (3, vr 346), (2, vr 311), (1, vr 64), (0, vr 61)] []) : Wt K X Q ce sl M 265 [(4, vi (nI i)), (3, vr 346), (2, vr 311), (1, vr 64), (0, vr 61)] [] := by
  obtain ⟨r, M1, M2, e1, e2, hI2, -⟩ := (do_text (xs (i + 1))) M hI
  refine w_aload_n hB 3 dL_law_265 rfl rfl ?_
  refine w_arg hB hs (i := i) (j := 1) rfl (by omega) hL2 4 0 rfl rfl dL_law_266 dL_law_267 dL_law_269 (by decide) dL_law_270 dL_law_271 ?_
  refine w_callV hB (ci := 8) (As := [vi (xs (i + 1))]) (st := []) cw_L_32 q_526 q_527 rfl sh_64 (Or.inl hp.1) (c_X10_text hp e1) ⟨rfl, rfl⟩ (by decide) hf rfl (Nat.le_of_ble_eq_true rfl) dL_law_272 rfl ?_
  refine w_aload_n hB 2 dL_law_275 rfl rfl ?_
  refine w_arg hB hs (i := i) (j := 1) rfl (by omega) hL2 4 0 rfl rfl dL_law_276 dL_law_277 dL_law_279 (by decide) dL_law_280 dL_law_281 ?_
  refine w_callV hB (ci := 9) (As := [vi (xs (i + 1))]) (st := [vi r]) cw_L_35 q_1316 q_1317 rfl sh_311 (Or.inl hp.1) (c_X11_text hp e2) ⟨rfl, rfl⟩ (by decide) hf rfl (Nat.le_of_ble_eq_true rfl) dL_law_282 rfl ?_
  refine w_icmp_eq hB 1435 dL_law_285 (by decide) (fun _ => ?_) (fun hc => absurd rfl hc)
  exact nx M2 hI2
set_option maxRecDepth 100000 in
set_option maxHeartbeats 4000000 in
theorem lcs_2 {K : Kt} {X : Xt} {Q : State → Prop} {ce sl : Nat} {M : Mem} {i L : Nat} {xs : Nat → Int32} (hp : St K) (hB : Bx K X room_1 cL_law 7 RL lwr) (hs : Scr K X L xs) (hL : i + 6 ≤ L) (hL2 : L ≤ 3072) (hf : ce + 0 ≤ room_1.cells ∧ sl + 0 ≤ room_1.slots) (hI : Inv M) (nx : ∀ M1, Inv M1 → Wt K X Q ce sl M1 1435 [(4, vi (nI i)), (3, vr 346), (2, vr 311), (1, vr 64), (0, vr 61)] []) : Wt K X Q ce sl M 290 [(4, vi (nI i)), (3, vr 346), (2, vr 311), (1, vr 64), (0, vr 61)] [] := by
  obtain ⟨r, M1, M2, e1, e2, hI2, -⟩ := (ask_do (ask_camera (xs (i + 1)) (xs (i + 2)))) M hI
  refine w_aload_n hB 3 dL_law_290 rfl rfl ?_
  refine w_arg hB hs (i := i) (j := 1) rfl (by omega) hL2 4 0 rfl rfl dL_law_291 dL_law_292 dL_law_294 (by decide) dL_law_295 dL_law_296 ?_
  refine w_arg hB hs (i := i) (j := 2) rfl (by omega) hL2 4 0 rfl rfl dL_law_297 dL_law_298 dL_law_300 (by decide) dL_law_301 dL_law_302 ?_
  refine w_callV hB (ci := 8) (As := [vi (xs (i + 1)), vi (xs (i + 2))]) (st := []) cw_L_36 q_732 q_733 rfl sh_64 (Or.inl hp.1) (c_X10_camera hp e1) ⟨rfl, rfl⟩ (by decide) hf rfl (Nat.le_of_ble_eq_true rfl) dL_law_303 rfl ?_
  refine w_aload_n hB 2 dL_law_306 rfl rfl ?_
  refine w_arg hB hs (i := i) (j := 1) rfl (by omega) hL2 4 0 rfl rfl dL_law_307 dL_law_308 dL_law_310 (by decide) dL_law_311 dL_law_312 ?_
  refine w_arg hB hs (i := i) (j := 2) rfl (by omega) hL2 4 0 rfl rfl dL_law_313 dL_law_314 dL_law_316 (by decide) dL_law_317 dL_law_318 ?_
  refine w_callV hB (ci := 9) (As := [vi (xs (i + 1)), vi (xs (i + 2))]) (st := [vi r]) cw_L_39 q_1513 q_1514 rfl sh_311 (Or.inl hp.1) (c_X11_camera hp e2) ⟨rfl, rfl⟩ (by decide) hf rfl (Nat.le_of_ble_eq_true rfl) dL_law_319 rfl ?_
  refine w_icmp_eq hB 1435 dL_law_322 (by decide) (fun _ => ?_) (fun hc => absurd rfl hc)
  exact nx M2 hI2
set_option maxRecDepth 100000 in
set_option maxHeartbeats 4000000 in
theorem lcs_3 {K : Kt} {X : Xt} {Q : State → Prop} {ce sl : Nat} {M : Mem} {i L : Nat} {xs : Nat → Int32} (hp : St K) (hB : Bx K X room_1 cL_law 7 RL lwr) (hs : Scr K X L xs) (hL : i + 6 ≤ L) (hL2 : L ≤ 3072) (hf : ce + 0 ≤ room_1.cells ∧ sl + 0 ≤ room_1.slots) (hI : Inv M) (nx : ∀ M1, Inv M1 → Wt K X Q ce sl M1 1435 [(4, vi (nI i)), (3, vr 346), (2, vr 311), (1, vr 64), (0, vr 61)] []) : Wt K X Q ce sl M 327 [(4, vi (nI i)), (3, vr 346), (2, vr 311), (1, vr 64), (0, vr 61)] [] := by
  obtain ⟨r, M1, M2, e1, e2, hI2, -⟩ := (do_kind (xs (i + 1)) (xs (i + 2))) M hI
  refine w_aload_n hB 3 dL_law_327 rfl rfl ?_
  refine w_arg hB hs (i := i) (j := 1) rfl (by omega) hL2 4 0 rfl rfl dL_law_328 dL_law_329 dL_law_331 (by decide) dL_law_332 dL_law_333 ?_
  refine w_arg hB hs (i := i) (j := 2) rfl (by omega) hL2 4 0 rfl rfl dL_law_334 dL_law_335 dL_law_337 (by decide) dL_law_338 dL_law_339 ?_
  refine w_callV hB (ci := 8) (As := [vi (xs (i + 1)), vi (xs (i + 2))]) (st := []) cw_L_40 q_744 q_745 rfl sh_64 (Or.inl hp.1) (c_X10_kind hp e1) ⟨rfl, rfl⟩ (by decide) hf rfl (Nat.le_of_ble_eq_true rfl) dL_law_340 rfl ?_
  refine w_aload_n hB 2 dL_law_343 rfl rfl ?_
  refine w_arg hB hs (i := i) (j := 1) rfl (by omega) hL2 4 0 rfl rfl dL_law_344 dL_law_345 dL_law_347 (by decide) dL_law_348 dL_law_349 ?_
  refine w_arg hB hs (i := i) (j := 2) rfl (by omega) hL2 4 0 rfl rfl dL_law_350 dL_law_351 dL_law_353 (by decide) dL_law_354 dL_law_355 ?_
  refine w_callV hB (ci := 9) (As := [vi (xs (i + 1)), vi (xs (i + 2))]) (st := [vi r]) cw_L_43 q_1531 q_1532 rfl sh_311 (Or.inl hp.1) (c_X11_kind hp e2) ⟨rfl, rfl⟩ (by decide) hf rfl (Nat.le_of_ble_eq_true rfl) dL_law_356 rfl ?_
  refine w_icmp_eq hB 1435 dL_law_359 (by decide) (fun _ => ?_) (fun hc => absurd rfl hc)
  exact nx M2 hI2
set_option maxRecDepth 100000 in
set_option maxHeartbeats 4000000 in
theorem lcs_4 {K : Kt} {X : Xt} {Q : State → Prop} {ce sl : Nat} {M : Mem} {i L : Nat} {xs : Nat → Int32} (hp : St K) (hB : Bx K X room_1 cL_law 7 RL lwr) (hs : Scr K X L xs) (hL : i + 6 ≤ L) (hL2 : L ≤ 3072) (hf : ce + 0 ≤ room_1.cells ∧ sl + 0 ≤ room_1.slots) (hI : Inv M) (nx : ∀ M1, Inv M1 → Wt K X Q ce sl M1 1435 [(4, vi (nI i)), (3, vr 346), (2, vr 311), (1, vr 64), (0, vr 61)] []) : Wt K X Q ce sl M 364 [(4, vi (nI i)), (3, vr 346), (2, vr 311), (1, vr 64), (0, vr 61)] [] := by
  obtain ⟨r, M1, M2, e1, e2, hI2, -⟩ := (do_side (xs (i + 1)) (xs (i + 2))) M hI
  refine w_aload_n hB 3 dL_law_364 rfl rfl ?_
  refine w_arg hB hs (i := i) (j := 1) rfl (by omega) hL2 4 0 rfl rfl dL_law_365 dL_law_366 dL_law_368 (by decide) dL_law_369 dL_law_370 ?_
  refine w_arg hB hs (i := i) (j := 2) rfl (by omega) hL2 4 0 rfl rfl dL_law_371 dL_law_372 dL_law_374 (by decide) dL_law_375 dL_law_376 ?_
  refine w_callV hB (ci := 8) (As := [vi (xs (i + 1)), vi (xs (i + 2))]) (st := []) cw_L_44 q_748 q_749 rfl sh_64 (Or.inl hp.1) (c_X10_side hp e1) ⟨rfl, rfl⟩ (by decide) hf rfl (Nat.le_of_ble_eq_true rfl) dL_law_377 rfl ?_
  refine w_aload_n hB 2 dL_law_380 rfl rfl ?_
  refine w_arg hB hs (i := i) (j := 1) rfl (by omega) hL2 4 0 rfl rfl dL_law_381 dL_law_382 dL_law_384 (by decide) dL_law_385 dL_law_386 ?_
  refine w_arg hB hs (i := i) (j := 2) rfl (by omega) hL2 4 0 rfl rfl dL_law_387 dL_law_388 dL_law_390 (by decide) dL_law_391 dL_law_392 ?_
  refine w_callV hB (ci := 9) (As := [vi (xs (i + 1)), vi (xs (i + 2))]) (st := [vi r]) cw_L_47 q_1535 q_1536 rfl sh_311 (Or.inl hp.1) (c_X11_side hp e2) ⟨rfl, rfl⟩ (by decide) hf rfl (Nat.le_of_ble_eq_true rfl) dL_law_393 rfl ?_
  refine w_icmp_eq hB 1435 dL_law_396 (by decide) (fun _ => ?_) (fun hc => absurd rfl hc)
  exact nx M2 hI2
set_option maxRecDepth 100000 in
set_option maxHeartbeats 4000000 in
theorem lcs_5 {K : Kt} {X : Xt} {Q : State → Prop} {ce sl : Nat} {M : Mem} {i L : Nat} {xs : Nat → Int32} (hp : St K) (hB : Bx K X room_1 cL_law 7 RL lwr) (hs : Scr K X L xs) (hL : i + 6 ≤ L) (hL2 : L ≤ 3072) (hf : ce + 0 ≤ room_1.cells ∧ sl + 0 ≤ room_1.slots) (hI : Inv M) (nx : ∀ M1, Inv M1 → Wt K X Q ce sl M1 1435 [(4, vi (nI i)), (3, vr 346), (2, vr 311), (1, vr 64), (0, vr 61)] []) : Wt K X Q ce sl M 401 [(4, vi (nI i)), (3, vr 346), (2, vr 311), (1, vr 64), (0, vr 61)] [] := by
  obtain ⟨r, M1, M2, e1, e2, hI2, -⟩ := (do_play (xs (i + 1)) (xs (i + 2))) M hI
  refine w_aload_n hB 3 dL_law_401 rfl rfl ?_
  refine w_arg hB hs (i := i) (j := 1) rfl (by omega) hL2 4 0 rfl rfl dL_law_402 dL_law_403 dL_law_405 (by decide) dL_law_406 dL_law_407 ?_
  refine w_arg hB hs (i := i) (j := 2) rfl (by omega) hL2 4 0 rfl rfl dL_law_408 dL_law_409 dL_law_411 (by decide) dL_law_412 dL_law_413 ?_
  refine w_callV hB (ci := 8) (As := [vi (xs (i + 1)), vi (xs (i + 2))]) (st := []) cw_L_48 q_764 q_765 rfl sh_64 (Or.inl hp.1) (c_X10_play hp e1) ⟨rfl, rfl⟩ (by decide) hf rfl (Nat.le_of_ble_eq_true rfl) dL_law_414 rfl ?_
  refine w_aload_n hB 2 dL_law_417 rfl rfl ?_
  refine w_arg hB hs (i := i) (j := 1) rfl (by omega) hL2 4 0 rfl rfl dL_law_418 dL_law_419 dL_law_421 (by decide) dL_law_422 dL_law_423 ?_
  refine w_arg hB hs (i := i) (j := 2) rfl (by omega) hL2 4 0 rfl rfl dL_law_424 dL_law_425 dL_law_427 (by decide) dL_law_428 dL_law_429 ?_
  refine w_callV hB (ci := 9) (As := [vi (xs (i + 1)), vi (xs (i + 2))]) (st := [vi r]) cw_L_51 q_1547 q_1548 rfl sh_311 (Or.inl hp.1) (c_X11_play hp e2) ⟨rfl, rfl⟩ (by decide) hf rfl (Nat.le_of_ble_eq_true rfl) dL_law_430 rfl ?_
  refine w_icmp_eq hB 1435 dL_law_433 (by decide) (fun _ => ?_) (fun hc => absurd rfl hc)
  exact nx M2 hI2
set_option maxRecDepth 100000 in
set_option maxHeartbeats 4000000 in
theorem lcs_7 {K : Kt} {X : Xt} {Q : State → Prop} {ce sl : Nat} {M : Mem} {i L : Nat} {xs : Nat → Int32} (hp : St K) (hB : Bx K X room_1 cL_law 7 RL lwr) (hs : Scr K X L xs) (hL : i + 6 ≤ L) (hL2 : L ≤ 3072) (hf : ce + 0 ≤ room_1.cells ∧ sl + 0 ≤ room_1.slots) (hI : Inv M) (nx : ∀ M1, Inv M1 → Wt K X Q ce sl M1 1435 [(4, vi (nI i)), (3, vr 346), (2, vr 311), (1, vr 64), (0, vr 61)] []) : Wt K X Q ce sl M 518 [(4, vi (nI i)), (3, vr 346), (2, vr 311), (1, vr 64), (0, vr 61)] [] := by
  obtain ⟨r, M1, M2, e1, e2, hI2, -⟩ := (ask_do (ask_verdict (xs (i + 1)) (xs (i + 2)))) M hI
  refine w_aload_n hB 3 dL_law_518 rfl rfl ?_
  refine w_arg hB hs (i := i) (j := 1) rfl (by omega) hL2 4 0 rfl rfl dL_law_519 dL_law_520 dL_law_522 (by decide) dL_law_523 dL_law_524 ?_
  refine w_arg hB hs (i := i) (j := 2) rfl (by omega) hL2 4 0 rfl rfl dL_law_525 dL_law_526 dL_law_528 (by decide) dL_law_529 dL_law_530 ?_
  refine w_callV hB (ci := 8) (As := [vi (xs (i + 1)), vi (xs (i + 2))]) (st := []) cw_L_62 q_780 q_781 rfl sh_64 (Or.inl hp.1) (c_X10_verdict hp e1) ⟨rfl, rfl⟩ (by decide) hf rfl (Nat.le_of_ble_eq_true rfl) dL_law_531 rfl ?_
  refine w_aload_n hB 2 dL_law_534 rfl rfl ?_
  refine w_arg hB hs (i := i) (j := 1) rfl (by omega) hL2 4 0 rfl rfl dL_law_535 dL_law_536 dL_law_538 (by decide) dL_law_539 dL_law_540 ?_
  refine w_arg hB hs (i := i) (j := 2) rfl (by omega) hL2 4 0 rfl rfl dL_law_541 dL_law_542 dL_law_544 (by decide) dL_law_545 dL_law_546 ?_
  refine w_callV hB (ci := 9) (As := [vi (xs (i + 1)), vi (xs (i + 2))]) (st := [vi r]) cw_L_65 q_1559 q_1560 rfl sh_311 (Or.inl hp.1) (c_X11_verdict hp e2) ⟨rfl, rfl⟩ (by decide) hf rfl (Nat.le_of_ble_eq_true rfl) dL_law_547 rfl ?_
  refine w_icmp_eq hB 1435 dL_law_550 (by decide) (fun _ => ?_) (fun hc => absurd rfl hc)
  exact nx M2 hI2
set_option maxRecDepth 100000 in
set_option maxHeartbeats 4000000 in
theorem lcs_8 {K : Kt} {X : Xt} {Q : State → Prop} {ce sl : Nat} {M : Mem} {i L : Nat} {xs : Nat → Int32} (hp : St K) (hB : Bx K X room_1 cL_law 7 RL lwr) (hs : Scr K X L xs) (hL : i + 6 ≤ L) (hL2 : L ≤ 3072) (hf : ce + 0 ≤ room_1.cells ∧ sl + 0 ≤ room_1.slots) (hI : Inv M) (nx : ∀ M1, Inv M1 → Wt K X Q ce sl M1 1435 [(4, vi (nI i)), (3, vr 346), (2, vr 311), (1, vr 64), (0, vr 61)] []) : Wt K X Q ce sl M 555 [(4, vi (nI i)), (3, vr 346), (2, vr 311), (1, vr 64), (0, vr 61)] [] := by
  obtain ⟨r, M1, M2, e1, e2, hI2, -⟩ := (ask_do (ask_by (xs (i + 1)) (xs (i + 2)))) M hI
  refine w_aload_n hB 3 dL_law_555 rfl rfl ?_
  refine w_arg hB hs (i := i) (j := 1) rfl (by omega) hL2 4 0 rfl rfl dL_law_556 dL_law_557 dL_law_559 (by decide) dL_law_560 dL_law_561 ?_
  refine w_arg hB hs (i := i) (j := 2) rfl (by omega) hL2 4 0 rfl rfl dL_law_562 dL_law_563 dL_law_565 (by decide) dL_law_566 dL_law_567 ?_
  refine w_callV hB (ci := 8) (As := [vi (xs (i + 1)), vi (xs (i + 2))]) (st := []) cw_L_66 q_816 q_817 rfl sh_64 (Or.inl hp.1) (c_X10_by hp e1) ⟨rfl, rfl⟩ (by decide) hf rfl (Nat.le_of_ble_eq_true rfl) dL_law_568 rfl ?_
  refine w_aload_n hB 2 dL_law_571 rfl rfl ?_
  refine w_arg hB hs (i := i) (j := 1) rfl (by omega) hL2 4 0 rfl rfl dL_law_572 dL_law_573 dL_law_575 (by decide) dL_law_576 dL_law_577 ?_
  refine w_arg hB hs (i := i) (j := 2) rfl (by omega) hL2 4 0 rfl rfl dL_law_578 dL_law_579 dL_law_581 (by decide) dL_law_582 dL_law_583 ?_
  refine w_callV hB (ci := 9) (As := [vi (xs (i + 1)), vi (xs (i + 2))]) (st := [vi r]) cw_L_69 q_1571 q_1572 rfl sh_311 (Or.inl hp.1) (c_X11_by hp e2) ⟨rfl, rfl⟩ (by decide) hf rfl (Nat.le_of_ble_eq_true rfl) dL_law_584 rfl ?_
  refine w_icmp_eq hB 1435 dL_law_587 (by decide) (fun _ => ?_) (fun hc => absurd rfl hc)
  exact nx M2 hI2
set_option maxRecDepth 100000 in
set_option maxHeartbeats 4000000 in
theorem lcs_9 {K : Kt} {X : Xt} {Q : State → Prop} {ce sl : Nat} {M : Mem} {i L : Nat} {xs : Nat → Int32} (hp : St K) (hB : Bx K X room_1 cL_law 7 RL lwr) (hs : Scr K X L xs) (hL : i + 6 ≤ L) (hL2 : L ≤ 3072) (hf : ce + 0 ≤ room_1.cells ∧ sl + 0 ≤ room_1.slots) (hI : Inv M) (nx : ∀ M1, Inv M1 → Wt K X Q ce sl M1 1435 [(4, vi (nI i)), (3, vr 346), (2, vr 311), (1, vr 64), (0, vr 61)] []) : Wt K X Q ce sl M 592 [(4, vi (nI i)), (3, vr 346), (2, vr 311), (1, vr 64), (0, vr 61)] [] := by
  obtain ⟨r, M1, M2, e1, e2, hI2, -⟩ := (ask_do (ask_gap (xs (i + 1)) (xs (i + 2)) (xs (i + 3)) (nz (xs (i + 4))))) M hI
  refine w_aload_n hB 3 dL_law_592 rfl rfl ?_
  refine w_arg hB hs (i := i) (j := 1) rfl (by omega) hL2 4 0 rfl rfl dL_law_593 dL_law_594 dL_law_596 (by decide) dL_law_597 dL_law_598 ?_
  refine w_arg hB hs (i := i) (j := 2) rfl (by omega) hL2 4 0 rfl rfl dL_law_599 dL_law_600 dL_law_602 (by decide) dL_law_603 dL_law_604 ?_
  refine w_arg hB hs (i := i) (j := 3) rfl (by omega) hL2 4 0 rfl rfl dL_law_605 dL_law_606 dL_law_608 (by decide) dL_law_609 dL_law_610 ?_
  refine w_arg hB hs (i := i) (j := 4) rfl (by omega) hL2 4 0 rfl rfl dL_law_611 dL_law_612 dL_law_614 (by decide) dL_law_615 dL_law_616 ?_
  refine w_bool hB dL_law_617 dL_law_620 dL_law_621 dL_law_624 ?_
  refine w_callV hB (ci := 8) (As := [vi (xs (i + 1)), vi (xs (i + 2)), vi (xs (i + 3)), vi (nz (xs (i + 4)))]) (st := []) cw_L_70 q_828 q_829 rfl sh_64 (Or.inl hp.1) (c_X10_gap hp e1) ⟨rfl, rfl⟩ (by decide) hf rfl (Nat.le_of_ble_eq_true rfl) dL_law_625 rfl ?_
  refine w_aload_n hB 2 dL_law_628 rfl rfl ?_
  refine w_arg hB hs (i := i) (j := 1) rfl (by omega) hL2 4 0 rfl rfl dL_law_629 dL_law_630 dL_law_632 (by decide) dL_law_633 dL_law_634 ?_
  refine w_arg hB hs (i := i) (j := 2) rfl (by omega) hL2 4 0 rfl rfl dL_law_635 dL_law_636 dL_law_638 (by decide) dL_law_639 dL_law_640 ?_
  refine w_arg hB hs (i := i) (j := 3) rfl (by omega) hL2 4 0 rfl rfl dL_law_641 dL_law_642 dL_law_644 (by decide) dL_law_645 dL_law_646 ?_
  refine w_arg hB hs (i := i) (j := 4) rfl (by omega) hL2 4 0 rfl rfl dL_law_647 dL_law_648 dL_law_650 (by decide) dL_law_651 dL_law_652 ?_
  refine w_bool hB dL_law_653 dL_law_656 dL_law_657 dL_law_660 ?_
  refine w_callV hB (ci := 9) (As := [vi (xs (i + 1)), vi (xs (i + 2)), vi (xs (i + 3)), vi (nz (xs (i + 4)))]) (st := [vi r]) cw_L_74 q_1579 q_1580 rfl sh_311 (Or.inl hp.1) (c_X11_gap hp e2) ⟨rfl, rfl⟩ (by decide) hf rfl (Nat.le_of_ble_eq_true rfl) dL_law_661 rfl ?_
  refine w_icmp_eq hB 1435 dL_law_664 (by decide) (fun _ => ?_) (fun hc => absurd rfl hc)
  exact nx M2 hI2
set_option maxRecDepth 100000 in
set_option maxHeartbeats 4000000 in
theorem lcs_10 {K : Kt} {X : Xt} {Q : State → Prop} {ce sl : Nat} {M : Mem} {i L : Nat} {xs : Nat → Int32} (hp : St K) (hB : Bx K X room_1 cL_law 7 RL lwr) (hs : Scr K X L xs) (hL : i + 6 ≤ L) (hL2 : L ≤ 3072) (hf : ce + 0 ≤ room_1.cells ∧ sl + 0 ≤ room_1.slots) (hI : Inv M) (nx : ∀ M1, Inv M1 → Wt K X Q ce sl M1 1435 [(4, vi (nI i)), (3, vr 346), (2, vr 311), (1, vr 64), (0, vr 61)] []) : Wt K X Q ce sl M 669 [(4, vi (nI i)), (3, vr 346), (2, vr 311), (1, vr 64), (0, vr 61)] [] := by
  obtain ⟨r, M1, M2, e1, e2, hI2, -⟩ := (ask_do (ask_fewest (xs (i + 1)))) M hI
  refine w_aload_n hB 3 dL_law_669 rfl rfl ?_
  refine w_arg hB hs (i := i) (j := 1) rfl (by omega) hL2 4 0 rfl rfl dL_law_670 dL_law_671 dL_law_673 (by decide) dL_law_674 dL_law_675 ?_
  refine w_callV hB (ci := 8) (As := [vi (xs (i + 1))]) (st := []) cw_L_75 q_842 q_843 rfl sh_64 (Or.inl hp.1) (c_X10_fewest hp e1) ⟨rfl, rfl⟩ (by decide) hf rfl (Nat.le_of_ble_eq_true rfl) dL_law_676 rfl ?_
  refine w_aload_n hB 2 dL_law_679 rfl rfl ?_
  refine w_arg hB hs (i := i) (j := 1) rfl (by omega) hL2 4 0 rfl rfl dL_law_680 dL_law_681 dL_law_683 (by decide) dL_law_684 dL_law_685 ?_
  refine w_callV hB (ci := 9) (As := [vi (xs (i + 1))]) (st := [vi r]) cw_L_78 q_1590 q_1591 rfl sh_311 (Or.inl hp.1) (c_X11_fewest hp e2) ⟨rfl, rfl⟩ (by decide) hf rfl (Nat.le_of_ble_eq_true rfl) dL_law_686 rfl ?_
  refine w_icmp_eq hB 1435 dL_law_689 (by decide) (fun _ => ?_) (fun hc => absurd rfl hc)
  exact nx M2 hI2
set_option maxRecDepth 100000 in
set_option maxHeartbeats 4000000 in
theorem lcs_11 {K : Kt} {X : Xt} {Q : State → Prop} {ce sl : Nat} {M : Mem} {i L : Nat} {xs : Nat → Int32} (hp : St K) (hB : Bx K X room_1 cL_law 7 RL lwr) (hs : Scr K X L xs) (hL : i + 6 ≤ L) (hL2 : L ≤ 3072) (hf : ce + 0 ≤ room_1.cells ∧ sl + 0 ≤ room_1.slots) (hI : Inv M) (nx : ∀ M1, Inv M1 → Wt K X Q ce sl M1 1435 [(4, vi (nI i)), (3, vr 346), (2, vr 311), (1, vr 64), (0, vr 61)] []) : Wt K X Q ce sl M 694 [(4, vi (nI i)), (3, vr 346), (2, vr 311), (1, vr 64), (0, vr 61)] [] := by
  obtain ⟨r, M1, M2, e1, e2, hI2, -⟩ := (ask_do (ask_key (xs (i + 1)))) M hI
  refine w_aload_n hB 3 dL_law_694 rfl rfl ?_
  refine w_arg hB hs (i := i) (j := 1) rfl (by omega) hL2 4 0 rfl rfl dL_law_695 dL_law_696 dL_law_698 (by decide) dL_law_699 dL_law_700 ?_
  refine w_callV hB (ci := 8) (As := [vi (xs (i + 1))]) (st := []) cw_L_79 q_865 q_866 rfl sh_64 (Or.inl hp.1) (c_X10_key hp e1) ⟨rfl, rfl⟩ (by decide) hf rfl (Nat.le_of_ble_eq_true rfl) dL_law_701 rfl ?_
  refine w_aload_n hB 2 dL_law_704 rfl rfl ?_
  refine w_arg hB hs (i := i) (j := 1) rfl (by omega) hL2 4 0 rfl rfl dL_law_705 dL_law_706 dL_law_708 (by decide) dL_law_709 dL_law_710 ?_
  refine w_callV hB (ci := 9) (As := [vi (xs (i + 1))]) (st := [vi r]) cw_L_82 q_1607 q_1608 rfl sh_311 (Or.inl hp.1) (c_X11_key hp e2) ⟨rfl, rfl⟩ (by decide) hf rfl (Nat.le_of_ble_eq_true rfl) dL_law_711 rfl ?_
  refine w_icmp_eq hB 1435 dL_law_714 (by decide) (fun _ => ?_) (fun hc => absurd rfl hc)
  exact nx M2 hI2
set_option maxRecDepth 100000 in
set_option maxHeartbeats 4000000 in
theorem lcs_12 {K : Kt} {X : Xt} {Q : State → Prop} {ce sl : Nat} {M : Mem} {i L : Nat} {xs : Nat → Int32} (hp : St K) (hB : Bx K X room_1 cL_law 7 RL lwr) (hs : Scr K X L xs) (hL : i + 6 ≤ L) (hL2 : L ≤ 3072) (hf : ce + 0 ≤ room_1.cells ∧ sl + 0 ≤ room_1.slots) (hI : Inv M) (nx : ∀ M1, Inv M1 → Wt K X Q ce sl M1 1435 [(4, vi (nI i)), (3, vr 346), (2, vr 311), (1, vr 64), (0, vr 61)] []) : Wt K X Q ce sl M 719 [(4, vi (nI i)), (3, vr 346), (2, vr 311), (1, vr 64), (0, vr 61)] [] := by
  obtain ⟨r, M1, M2, e1, e2, hI2, -⟩ := (ask_do (ask_enough (xs (i + 1)))) M hI
  refine w_aload_n hB 3 dL_law_719 rfl rfl ?_
  refine w_arg hB hs (i := i) (j := 1) rfl (by omega) hL2 4 0 rfl rfl dL_law_720 dL_law_721 dL_law_723 (by decide) dL_law_724 dL_law_725 ?_
  refine w_callV hB (ci := 8) (As := [vi (xs (i + 1))]) (st := []) cw_L_83 q_873 q_874 rfl sh_64 (Or.inl hp.1) (c_X10_enough hp e1) ⟨rfl, rfl⟩ (by decide) hf rfl (Nat.le_of_ble_eq_true rfl) dL_law_726 rfl ?_
  refine w_aload_n hB 2 dL_law_729 rfl rfl ?_
  refine w_arg hB hs (i := i) (j := 1) rfl (by omega) hL2 4 0 rfl rfl dL_law_730 dL_law_731 dL_law_733 (by decide) dL_law_734 dL_law_735 ?_
  refine w_callV hB (ci := 9) (As := [vi (xs (i + 1))]) (st := [vi r]) cw_L_86 q_1611 q_1612 rfl sh_311 (Or.inl hp.1) (c_X11_enough hp e2) ⟨rfl, rfl⟩ (by decide) hf rfl (Nat.le_of_ble_eq_true rfl) dL_law_736 rfl ?_
  refine w_icmp_eq hB 1435 dL_law_739 (by decide) (fun _ => ?_) (fun hc => absurd rfl hc)
  exact nx M2 hI2
set_option maxRecDepth 100000 in
set_option maxHeartbeats 4000000 in
theorem lcs_13 {K : Kt} {X : Xt} {Q : State → Prop} {ce sl : Nat} {M : Mem} {i L : Nat} {xs : Nat → Int32} (hp : St K) (hB : Bx K X room_1 cL_law 7 RL lwr) (hs : Scr K X L xs) (hL : i + 6 ≤ L) (hL2 : L ≤ 3072) (hf : ce + 0 ≤ room_1.cells ∧ sl + 0 ≤ room_1.slots) (hI : Inv M) (nx : ∀ M1, Inv M1 → Wt K X Q ce sl M1 1435 [(4, vi (nI i)), (3, vr 346), (2, vr 311), (1, vr 64), (0, vr 61)] []) : Wt K X Q ce sl M 744 [(4, vi (nI i)), (3, vr 346), (2, vr 311), (1, vr 64), (0, vr 61)] [] := by
  obtain ⟨r, M1, M2, e1, e2, hI2, -⟩ := (ask_do (ask_mend (xs (i + 1)))) M hI
  refine w_aload_n hB 3 dL_law_744 rfl rfl ?_
  refine w_arg hB hs (i := i) (j := 1) rfl (by omega) hL2 4 0 rfl rfl dL_law_745 dL_law_746 dL_law_748 (by decide) dL_law_749 dL_law_750 ?_
  refine w_callV hB (ci := 8) (As := [vi (xs (i + 1))]) (st := []) cw_L_87 q_883 q_884 rfl sh_64 (Or.inl hp.1) (c_X10_mend hp e1) ⟨rfl, rfl⟩ (by decide) hf rfl (Nat.le_of_ble_eq_true rfl) dL_law_751 rfl ?_
  refine w_aload_n hB 2 dL_law_754 rfl rfl ?_
  refine w_arg hB hs (i := i) (j := 1) rfl (by omega) hL2 4 0 rfl rfl dL_law_755 dL_law_756 dL_law_758 (by decide) dL_law_759 dL_law_760 ?_
  refine w_callV hB (ci := 9) (As := [vi (xs (i + 1))]) (st := [vi r]) cw_L_90 q_1615 q_1616 rfl sh_311 (Or.inl hp.1) (c_X11_mend hp e2) ⟨rfl, rfl⟩ (by decide) hf rfl (Nat.le_of_ble_eq_true rfl) dL_law_761 rfl ?_
  refine w_icmp_eq hB 1435 dL_law_764 (by decide) (fun _ => ?_) (fun hc => absurd rfl hc)
  exact nx M2 hI2
set_option maxRecDepth 100000 in
set_option maxHeartbeats 4000000 in
theorem lcs_14 {K : Kt} {X : Xt} {Q : State → Prop} {ce sl : Nat} {M : Mem} {i L : Nat} {xs : Nat → Int32} (hp : St K) (hB : Bx K X room_1 cL_law 7 RL lwr) (hs : Scr K X L xs) (hL : i + 6 ≤ L) (hL2 : L ≤ 3072) (hf : ce + 0 ≤ room_1.cells ∧ sl + 0 ≤ room_1.slots) (hI : Inv M) (nx : ∀ M1, Inv M1 → Wt K X Q ce sl M1 1435 [(4, vi (nI i)), (3, vr 346), (2, vr 311), (1, vr 64), (0, vr 61)] []) : Wt K X Q ce sl M 769 [(4, vi (nI i)), (3, vr 346), (2, vr 311), (1, vr 64), (0, vr 61)] [] := by
  obtain ⟨r, M1, M2, e1, e2, hI2, -⟩ := (do_look (xs (i + 1)) (xs (i + 2))) M hI
  refine w_aload_n hB 3 dL_law_769 rfl rfl ?_
  refine w_arg hB hs (i := i) (j := 1) rfl (by omega) hL2 4 0 rfl rfl dL_law_770 dL_law_771 dL_law_773 (by decide) dL_law_774 dL_law_775 ?_
  refine w_arg hB hs (i := i) (j := 2) rfl (by omega) hL2 4 0 rfl rfl dL_law_776 dL_law_777 dL_law_779 (by decide) dL_law_780 dL_law_781 ?_
  refine w_callV hB (ci := 8) (As := [vi (xs (i + 1)), vi (xs (i + 2))]) (st := []) cw_L_91 q_895 q_896 rfl sh_64 (Or.inl hp.1) (c_X10_look hp e1) ⟨rfl, rfl⟩ (by decide) hf rfl (Nat.le_of_ble_eq_true rfl) dL_law_782 rfl ?_
  refine w_aload_n hB 2 dL_law_785 rfl rfl ?_
  refine w_arg hB hs (i := i) (j := 1) rfl (by omega) hL2 4 0 rfl rfl dL_law_786 dL_law_787 dL_law_789 (by decide) dL_law_790 dL_law_791 ?_
  refine w_arg hB hs (i := i) (j := 2) rfl (by omega) hL2 4 0 rfl rfl dL_law_792 dL_law_793 dL_law_795 (by decide) dL_law_796 dL_law_797 ?_
  refine w_callV hB (ci := 9) (As := [vi (xs (i + 1)), vi (xs (i + 2))]) (st := [vi r]) cw_L_94 q_1619 q_1620 rfl sh_311 (Or.inl hp.1) (c_X11_look hp e2) ⟨rfl, rfl⟩ (by decide) hf rfl (Nat.le_of_ble_eq_true rfl) dL_law_798 rfl ?_
  refine w_icmp_eq hB 1435 dL_law_801 (by decide) (fun _ => ?_) (fun hc => absurd rfl hc)
  exact nx M2 hI2
set_option maxRecDepth 100000 in
set_option maxHeartbeats 4000000 in
theorem lcs_15 {K : Kt} {X : Xt} {Q : State → Prop} {ce sl : Nat} {M : Mem} {i L : Nat} {xs : Nat → Int32} (hp : St K) (hB : Bx K X room_1 cL_law 7 RL lwr) (hs : Scr K X L xs) (hL : i + 6 ≤ L) (hL2 : L ≤ 3072) (hf : ce + 0 ≤ room_1.cells ∧ sl + 0 ≤ room_1.slots) (hI : Inv M) (nx : ∀ M1, Inv M1 → Wt K X Q ce sl M1 1435 [(4, vi (nI i)), (3, vr 346), (2, vr 311), (1, vr 64), (0, vr 61)] []) : Wt K X Q ce sl M 806 [(4, vi (nI i)), (3, vr 346), (2, vr 311), (1, vr 64), (0, vr 61)] [] := by
  obtain ⟨r, M1, M2, e1, e2, hI2, -⟩ := (do_next) M hI
  refine w_aload_n hB 3 dL_law_806 rfl rfl ?_
  refine w_callV hB (ci := 8) (As := []) (st := []) cw_L_95 q_907 q_908 rfl sh_64 (Or.inl hp.1) (c_X10_next hp e1) ⟨rfl, rfl⟩ (by decide) hf rfl (Nat.le_of_ble_eq_true rfl) dL_law_807 rfl ?_
  refine w_aload_n hB 2 dL_law_810 rfl rfl ?_
  refine w_callV hB (ci := 9) (As := []) (st := [vi r]) cw_L_98 q_1636 q_1637 rfl sh_311 (Or.inl hp.1) (c_X11_next hp e2) ⟨rfl, rfl⟩ (by decide) hf rfl (Nat.le_of_ble_eq_true rfl) dL_law_811 rfl ?_
  refine w_icmp_eq hB 1435 dL_law_814 (by decide) (fun _ => ?_) (fun hc => absurd rfl hc)
  exact nx M2 hI2
set_option maxRecDepth 100000 in
set_option maxHeartbeats 4000000 in
theorem lcs_16 {K : Kt} {X : Xt} {Q : State → Prop} {ce sl : Nat} {M : Mem} {i L : Nat} {xs : Nat → Int32} (hp : St K) (hB : Bx K X room_1 cL_law 7 RL lwr) (hs : Scr K X L xs) (hL : i + 6 ≤ L) (hL2 : L ≤ 3072) (hf : ce + 0 ≤ room_1.cells ∧ sl + 0 ≤ room_1.slots) (hI : Inv M) (nx : ∀ M1, Inv M1 → Wt K X Q ce sl M1 1435 [(4, vi (nI i)), (3, vr 346), (2, vr 311), (1, vr 64), (0, vr 61)] []) : Wt K X Q ce sl M 819 [(4, vi (nI i)), (3, vr 346), (2, vr 311), (1, vr 64), (0, vr 61)] [] := by
  obtain ⟨r, M1, M2, e1, e2, hI2, -⟩ := (do_challenge (xs (i + 1)) (xs (i + 2))) M hI
  refine w_aload_n hB 3 dL_law_819 rfl rfl ?_
  refine w_arg hB hs (i := i) (j := 1) rfl (by omega) hL2 4 0 rfl rfl dL_law_820 dL_law_821 dL_law_823 (by decide) dL_law_824 dL_law_825 ?_
  refine w_arg hB hs (i := i) (j := 2) rfl (by omega) hL2 4 0 rfl rfl dL_law_826 dL_law_827 dL_law_829 (by decide) dL_law_830 dL_law_831 ?_
  refine w_callV hB (ci := 8) (As := [vi (xs (i + 1)), vi (xs (i + 2))]) (st := []) cw_L_99 q_946 q_947 rfl sh_64 (Or.inl hp.1) (c_X10_challenge hp e1) ⟨rfl, rfl⟩ (by decide) hf rfl (Nat.le_of_ble_eq_true rfl) dL_law_832 rfl ?_
  refine w_aload_n hB 2 dL_law_835 rfl rfl ?_
  refine w_arg hB hs (i := i) (j := 1) rfl (by omega) hL2 4 0 rfl rfl dL_law_836 dL_law_837 dL_law_839 (by decide) dL_law_840 dL_law_841 ?_
  refine w_arg hB hs (i := i) (j := 2) rfl (by omega) hL2 4 0 rfl rfl dL_law_842 dL_law_843 dL_law_845 (by decide) dL_law_846 dL_law_847 ?_
  refine w_callV hB (ci := 9) (As := [vi (xs (i + 1)), vi (xs (i + 2))]) (st := [vi r]) cw_L_102 q_1660 q_1661 rfl sh_311 (Or.inl hp.1) (c_X11_challenge hp e2) ⟨rfl, rfl⟩ (by decide) hf rfl (Nat.le_of_ble_eq_true rfl) dL_law_848 rfl ?_
  refine w_icmp_eq hB 1435 dL_law_851 (by decide) (fun _ => ?_) (fun hc => absurd rfl hc)
  exact nx M2 hI2
set_option maxRecDepth 100000 in
set_option maxHeartbeats 4000000 in
theorem lcs_17 {K : Kt} {X : Xt} {Q : State → Prop} {ce sl : Nat} {M : Mem} {i L : Nat} {xs : Nat → Int32} (hp : St K) (hB : Bx K X room_1 cL_law 7 RL lwr) (hs : Scr K X L xs) (hL : i + 6 ≤ L) (hL2 : L ≤ 3072) (hf : ce + 0 ≤ room_1.cells ∧ sl + 0 ≤ room_1.slots) (hI : Inv M) (nx : ∀ M1, Inv M1 → Wt K X Q ce sl M1 1435 [(4, vi (nI i)), (3, vr 346), (2, vr 311), (1, vr 64), (0, vr 61)] []) : Wt K X Q ce sl M 856 [(4, vi (nI i)), (3, vr 346), (2, vr 311), (1, vr 64), (0, vr 61)] [] := by
  obtain ⟨r, M1, M2, e1, e2, hI2, -⟩ := (do_put (xs (i + 1)) (xs (i + 2))) M hI
  refine w_aload_n hB 3 dL_law_856 rfl rfl ?_
  refine w_arg hB hs (i := i) (j := 1) rfl (by omega) hL2 4 0 rfl rfl dL_law_857 dL_law_858 dL_law_860 (by decide) dL_law_861 dL_law_862 ?_
  refine w_arg hB hs (i := i) (j := 2) rfl (by omega) hL2 4 0 rfl rfl dL_law_863 dL_law_864 dL_law_866 (by decide) dL_law_867 dL_law_868 ?_
  refine w_callV hB (ci := 8) (As := [vi (xs (i + 1)), vi (xs (i + 2))]) (st := []) cw_L_103 q_959 q_960 rfl sh_64 (Or.inl hp.1) (c_X10_put hp e1) ⟨rfl, rfl⟩ (by decide) hf rfl (Nat.le_of_ble_eq_true rfl) dL_law_869 rfl ?_
  refine w_aload_n hB 2 dL_law_872 rfl rfl ?_
  refine w_arg hB hs (i := i) (j := 1) rfl (by omega) hL2 4 0 rfl rfl dL_law_873 dL_law_874 dL_law_876 (by decide) dL_law_877 dL_law_878 ?_
  refine w_arg hB hs (i := i) (j := 2) rfl (by omega) hL2 4 0 rfl rfl dL_law_879 dL_law_880 dL_law_882 (by decide) dL_law_883 dL_law_884 ?_
  refine w_callV hB (ci := 9) (As := [vi (xs (i + 1)), vi (xs (i + 2))]) (st := [vi r]) cw_L_106 q_1668 q_1669 rfl sh_311 (Or.inl hp.1) (c_X11_put hp e2) ⟨rfl, rfl⟩ (by decide) hf rfl (Nat.le_of_ble_eq_true rfl) dL_law_885 rfl ?_
  refine w_icmp_eq hB 1435 dL_law_888 (by decide) (fun _ => ?_) (fun hc => absurd rfl hc)
  exact nx M2 hI2
set_option maxRecDepth 100000 in
set_option maxHeartbeats 4000000 in
theorem lcs_18 {K : Kt} {X : Xt} {Q : State → Prop} {ce sl : Nat} {M : Mem} {i L : Nat} {xs : Nat → Int32} (hp : St K) (hB : Bx K X room_1 cL_law 7 RL lwr) (hs : Scr K X L xs) (hL : i + 6 ≤ L) (hL2 : L ≤ 3072) (hf : ce + 0 ≤ room_1.cells ∧ sl + 0 ≤ room_1.slots) (hI : Inv M) (nx : ∀ M1, Inv M1 → Wt K X Q ce sl M1 1435 [(4, vi (nI i)), (3, vr 346), (2, vr 311), (1, vr 64), (0, vr 61)] []) : Wt K X Q ce sl M 893 [(4, vi (nI i)), (3, vr 346), (2, vr 311), (1, vr 64), (0, vr 61)] [] := by
  obtain ⟨r, M1, M2, e1, e2, hI2, -⟩ := (do_votes (xs (i + 1)) (xs (i + 2))) M hI
  refine w_aload_n hB 3 dL_law_893 rfl rfl ?_
  refine w_arg hB hs (i := i) (j := 1) rfl (by omega) hL2 4 0 rfl rfl dL_law_894 dL_law_895 dL_law_897 (by decide) dL_law_898 dL_law_899 ?_
  refine w_arg hB hs (i := i) (j := 2) rfl (by omega) hL2 4 0 rfl rfl dL_law_900 dL_law_901 dL_law_903 (by decide) dL_law_904 dL_law_905 ?_
  refine w_callV hB (ci := 8) (As := [vi (xs (i + 1)), vi (xs (i + 2))]) (st := []) cw_L_107 q_980 q_981 rfl sh_64 (Or.inl hp.1) (c_X10_votes hp e1) ⟨rfl, rfl⟩ (by decide) hf rfl (Nat.le_of_ble_eq_true rfl) dL_law_906 rfl ?_
  refine w_aload_n hB 2 dL_law_909 rfl rfl ?_
  refine w_arg hB hs (i := i) (j := 1) rfl (by omega) hL2 4 0 rfl rfl dL_law_910 dL_law_911 dL_law_913 (by decide) dL_law_914 dL_law_915 ?_
  refine w_arg hB hs (i := i) (j := 2) rfl (by omega) hL2 4 0 rfl rfl dL_law_916 dL_law_917 dL_law_919 (by decide) dL_law_920 dL_law_921 ?_
  refine w_callV hB (ci := 9) (As := [vi (xs (i + 1)), vi (xs (i + 2))]) (st := [vi r]) cw_L_110 q_1680 q_1681 rfl sh_311 (Or.inl hp.1) (c_X11_votes hp e2) ⟨rfl, rfl⟩ (by decide) hf rfl (Nat.le_of_ble_eq_true rfl) dL_law_922 rfl ?_
  refine w_icmp_eq hB 1435 dL_law_925 (by decide) (fun _ => ?_) (fun hc => absurd rfl hc)
  exact nx M2 hI2
set_option maxRecDepth 100000 in
set_option maxHeartbeats 4000000 in
theorem lcs_19 {K : Kt} {X : Xt} {Q : State → Prop} {ce sl : Nat} {M : Mem} {i L : Nat} {xs : Nat → Int32} (hp : St K) (hB : Bx K X room_1 cL_law 7 RL lwr) (hs : Scr K X L xs) (hL : i + 6 ≤ L) (hL2 : L ≤ 3072) (hf : ce + 0 ≤ room_1.cells ∧ sl + 0 ≤ room_1.slots) (hI : Inv M) (nx : ∀ M1, Inv M1 → Wt K X Q ce sl M1 1435 [(4, vi (nI i)), (3, vr 346), (2, vr 311), (1, vr 64), (0, vr 61)] []) : Wt K X Q ce sl M 930 [(4, vi (nI i)), (3, vr 346), (2, vr 311), (1, vr 64), (0, vr 61)] [] := by
  obtain ⟨r, M1, M2, e1, e2, hI2, -⟩ := (do_pivot (xs (i + 1)) (xs (i + 2))) M hI
  refine w_aload_n hB 3 dL_law_930 rfl rfl ?_
  refine w_arg hB hs (i := i) (j := 1) rfl (by omega) hL2 4 0 rfl rfl dL_law_931 dL_law_932 dL_law_934 (by decide) dL_law_935 dL_law_936 ?_
  refine w_arg hB hs (i := i) (j := 2) rfl (by omega) hL2 4 0 rfl rfl dL_law_937 dL_law_938 dL_law_940 (by decide) dL_law_941 dL_law_942 ?_
  refine w_callV hB (ci := 8) (As := [vi (xs (i + 1)), vi (xs (i + 2))]) (st := []) cw_L_111 q_984 q_985 rfl sh_64 (Or.inl hp.1) (c_X10_pivot hp e1) ⟨rfl, rfl⟩ (by decide) hf rfl (Nat.le_of_ble_eq_true rfl) dL_law_943 rfl ?_
  refine w_aload_n hB 2 dL_law_946 rfl rfl ?_
  refine w_arg hB hs (i := i) (j := 1) rfl (by omega) hL2 4 0 rfl rfl dL_law_947 dL_law_948 dL_law_950 (by decide) dL_law_951 dL_law_952 ?_
  refine w_arg hB hs (i := i) (j := 2) rfl (by omega) hL2 4 0 rfl rfl dL_law_953 dL_law_954 dL_law_956 (by decide) dL_law_957 dL_law_958 ?_
  refine w_callV hB (ci := 9) (As := [vi (xs (i + 1)), vi (xs (i + 2))]) (st := [vi r]) cw_L_114 q_1684 q_1685 rfl sh_311 (Or.inl hp.1) (c_X11_pivot hp e2) ⟨rfl, rfl⟩ (by decide) hf rfl (Nat.le_of_ble_eq_true rfl) dL_law_959 rfl ?_
  refine w_icmp_eq hB 1435 dL_law_962 (by decide) (fun _ => ?_) (fun hc => absurd rfl hc)
  exact nx M2 hI2
set_option maxRecDepth 100000 in
set_option maxHeartbeats 4000000 in
theorem lcs_20 {K : Kt} {X : Xt} {Q : State → Prop} {ce sl : Nat} {M : Mem} {i L : Nat} {xs : Nat → Int32} (hp : St K) (hB : Bx K X room_1 cL_law 7 RL lwr) (hs : Scr K X L xs) (hL : i + 6 ≤ L) (hL2 : L ≤ 3072) (hf : ce + 0 ≤ room_1.cells ∧ sl + 0 ≤ room_1.slots) (hI : Inv M) (nx : ∀ M1, Inv M1 → Wt K X Q ce sl M1 1435 [(4, vi (nI i)), (3, vr 346), (2, vr 311), (1, vr 64), (0, vr 61)] []) : Wt K X Q ce sl M 967 [(4, vi (nI i)), (3, vr 346), (2, vr 311), (1, vr 64), (0, vr 61)] [] := by
  obtain ⟨r, M1, M2, e1, e2, hI2, -⟩ := (do_boards (xs (i + 1))) M hI
  refine w_aload_n hB 3 dL_law_967 rfl rfl ?_
  refine w_arg hB hs (i := i) (j := 1) rfl (by omega) hL2 4 0 rfl rfl dL_law_968 dL_law_969 dL_law_971 (by decide) dL_law_972 dL_law_973 ?_
  refine w_callV hB (ci := 8) (As := [vi (xs (i + 1))]) (st := []) cw_L_115 q_988 q_989 rfl sh_64 (Or.inl hp.1) (c_X10_boards hp e1) ⟨rfl, rfl⟩ (by decide) hf rfl (Nat.le_of_ble_eq_true rfl) dL_law_974 rfl ?_
  refine w_aload_n hB 2 dL_law_977 rfl rfl ?_
  refine w_arg hB hs (i := i) (j := 1) rfl (by omega) hL2 4 0 rfl rfl dL_law_978 dL_law_979 dL_law_981 (by decide) dL_law_982 dL_law_983 ?_
  refine w_callV hB (ci := 9) (As := [vi (xs (i + 1))]) (st := [vi r]) cw_L_118 q_1688 q_1689 rfl sh_311 (Or.inl hp.1) (c_X11_boards hp e2) ⟨rfl, rfl⟩ (by decide) hf rfl (Nat.le_of_ble_eq_true rfl) dL_law_984 rfl ?_
  refine w_icmp_eq hB 1435 dL_law_987 (by decide) (fun _ => ?_) (fun hc => absurd rfl hc)
  exact nx M2 hI2
set_option maxRecDepth 100000 in
set_option maxHeartbeats 4000000 in
theorem lcs_21 {K : Kt} {X : Xt} {Q : State → Prop} {ce sl : Nat} {M : Mem} {i L : Nat} {xs : Nat → Int32} (hp : St K) (hB : Bx K X room_1 cL_law 7 RL lwr) (hs : Scr K X L xs) (hL : i + 6 ≤ L) (hL2 : L ≤ 3072) (hf : ce + 0 ≤ room_1.cells ∧ sl + 0 ≤ room_1.slots) (hI : Inv M) (nx : ∀ M1, Inv M1 → Wt K X Q ce sl M1 1435 [(4, vi (nI i)), (3, vr 346), (2, vr 311), (1, vr 64), (0, vr 61)] []) : Wt K X Q ce sl M 992 [(4, vi (nI i)), (3, vr 346), (2, vr 311), (1, vr 64), (0, vr 61)] [] := by
  obtain ⟨r, M1, M2, e1, e2, hI2, -⟩ := (do_truth (xs (i + 1))) M hI
  refine w_aload_n hB 3 dL_law_992 rfl rfl ?_
  refine w_arg hB hs (i := i) (j := 1) rfl (by omega) hL2 4 0 rfl rfl dL_law_993 dL_law_994 dL_law_996 (by decide) dL_law_997 dL_law_998 ?_
  refine w_callV hB (ci := 8) (As := [vi (xs (i + 1))]) (st := []) cw_L_119 q_992 q_993 rfl sh_64 (Or.inl hp.1) (c_X10_truth hp e1) ⟨rfl, rfl⟩ (by decide) hf rfl (Nat.le_of_ble_eq_true rfl) dL_law_999 rfl ?_
  refine w_aload_n hB 2 dL_law_1002 rfl rfl ?_
  refine w_arg hB hs (i := i) (j := 1) rfl (by omega) hL2 4 0 rfl rfl dL_law_1003 dL_law_1004 dL_law_1006 (by decide) dL_law_1007 dL_law_1008 ?_
  refine w_callV hB (ci := 9) (As := [vi (xs (i + 1))]) (st := [vi r]) cw_L_122 q_1692 q_1693 rfl sh_311 (Or.inl hp.1) (c_X11_truth hp e2) ⟨rfl, rfl⟩ (by decide) hf rfl (Nat.le_of_ble_eq_true rfl) dL_law_1009 rfl ?_
  refine w_icmp_eq hB 1435 dL_law_1012 (by decide) (fun _ => ?_) (fun hc => absurd rfl hc)
  exact nx M2 hI2
set_option maxRecDepth 100000 in
set_option maxHeartbeats 4000000 in
theorem lcs_22 {K : Kt} {X : Xt} {Q : State → Prop} {ce sl : Nat} {M : Mem} {i L : Nat} {xs : Nat → Int32} (hp : St K) (hB : Bx K X room_1 cL_law 7 RL lwr) (hs : Scr K X L xs) (hL : i + 6 ≤ L) (hL2 : L ≤ 3072) (hf : ce + 0 ≤ room_1.cells ∧ sl + 0 ≤ room_1.slots) (hI : Inv M) (nx : ∀ M1, Inv M1 → Wt K X Q ce sl M1 1435 [(4, vi (nI i)), (3, vr 346), (2, vr 311), (1, vr 64), (0, vr 61)] []) : Wt K X Q ce sl M 1017 [(4, vi (nI i)), (3, vr 346), (2, vr 311), (1, vr 64), (0, vr 61)] [] := by
  obtain ⟨r, M1, M2, e1, e2, hI2, -⟩ := (do_range (xs (i + 1)) (nz (xs (i + 2)))) M hI
  refine w_aload_n hB 3 dL_law_1017 rfl rfl ?_
  refine w_arg hB hs (i := i) (j := 1) rfl (by omega) hL2 4 0 rfl rfl dL_law_1018 dL_law_1019 dL_law_1021 (by decide) dL_law_1022 dL_law_1023 ?_
  refine w_arg hB hs (i := i) (j := 2) rfl (by omega) hL2 4 0 rfl rfl dL_law_1024 dL_law_1025 dL_law_1027 (by decide) dL_law_1028 dL_law_1029 ?_
  refine w_bool hB dL_law_1030 dL_law_1033 dL_law_1034 dL_law_1037 ?_
  refine w_callV hB (ci := 8) (As := [vi (xs (i + 1)), vi (nz (xs (i + 2)))]) (st := []) cw_L_123 q_1004 q_1005 rfl sh_64 (Or.inl hp.1) (c_X10_range hp e1) ⟨rfl, rfl⟩ (by decide) hf rfl (Nat.le_of_ble_eq_true rfl) dL_law_1038 rfl ?_
  refine w_aload_n hB 2 dL_law_1041 rfl rfl ?_
  refine w_arg hB hs (i := i) (j := 1) rfl (by omega) hL2 4 0 rfl rfl dL_law_1042 dL_law_1043 dL_law_1045 (by decide) dL_law_1046 dL_law_1047 ?_
  refine w_arg hB hs (i := i) (j := 2) rfl (by omega) hL2 4 0 rfl rfl dL_law_1048 dL_law_1049 dL_law_1051 (by decide) dL_law_1052 dL_law_1053 ?_
  refine w_bool hB dL_law_1054 dL_law_1057 dL_law_1058 dL_law_1061 ?_
  refine w_callV hB (ci := 9) (As := [vi (xs (i + 1)), vi (nz (xs (i + 2)))]) (st := [vi r]) cw_L_127 q_1700 q_1701 rfl sh_311 (Or.inl hp.1) (c_X11_range hp e2) ⟨rfl, rfl⟩ (by decide) hf rfl (Nat.le_of_ble_eq_true rfl) dL_law_1062 rfl ?_
  refine w_icmp_eq hB 1435 dL_law_1065 (by decide) (fun _ => ?_) (fun hc => absurd rfl hc)
  exact nx M2 hI2
set_option maxRecDepth 100000 in
set_option maxHeartbeats 4000000 in
theorem lcs_23 {K : Kt} {X : Xt} {Q : State → Prop} {ce sl : Nat} {M : Mem} {i L : Nat} {xs : Nat → Int32} (hp : St K) (hB : Bx K X room_1 cL_law 7 RL lwr) (hs : Scr K X L xs) (hL : i + 6 ≤ L) (hL2 : L ≤ 3072) (hf : ce + 0 ≤ room_1.cells ∧ sl + 0 ≤ room_1.slots) (hI : Inv M) (nx : ∀ M1, Inv M1 → Wt K X Q ce sl M1 1435 [(4, vi (nI i)), (3, vr 346), (2, vr 311), (1, vr 64), (0, vr 61)] []) : Wt K X Q ce sl M 1070 [(4, vi (nI i)), (3, vr 346), (2, vr 311), (1, vr 64), (0, vr 61)] [] := by
  obtain ⟨r, M1, M2, e1, e2, hI2, -⟩ := (do_wrong) M hI
  refine w_aload_n hB 3 dL_law_1070 rfl rfl ?_
  refine w_callV hB (ci := 8) (As := []) (st := []) cw_L_128 q_1008 q_1009 rfl sh_64 (Or.inl hp.1) (c_X10_wrong hp e1) ⟨rfl, rfl⟩ (by decide) hf rfl (Nat.le_of_ble_eq_true rfl) dL_law_1071 rfl ?_
  refine w_aload_n hB 2 dL_law_1074 rfl rfl ?_
  refine w_callV hB (ci := 9) (As := []) (st := [vi r]) cw_L_131 q_1704 q_1705 rfl sh_311 (Or.inl hp.1) (c_X11_wrong hp e2) ⟨rfl, rfl⟩ (by decide) hf rfl (Nat.le_of_ble_eq_true rfl) dL_law_1075 rfl ?_
  refine w_icmp_eq hB 1435 dL_law_1078 (by decide) (fun _ => ?_) (fun hc => absurd rfl hc)
  exact nx M2 hI2
set_option maxRecDepth 100000 in
set_option maxHeartbeats 4000000 in
theorem lcs_24 {K : Kt} {X : Xt} {Q : State → Prop} {ce sl : Nat} {M : Mem} {i L : Nat} {xs : Nat → Int32} (hp : St K) (hB : Bx K X room_1 cL_law 7 RL lwr) (hs : Scr K X L xs) (hL : i + 6 ≤ L) (hL2 : L ≤ 3072) (hf : ce + 0 ≤ room_1.cells ∧ sl + 0 ≤ room_1.slots) (hI : Inv M) (nx : ∀ M1, Inv M1 → Wt K X Q ce sl M1 1435 [(4, vi (nI i)), (3, vr 346), (2, vr 311), (1, vr 64), (0, vr 61)] []) : Wt K X Q ce sl M 1083 [(4, vi (nI i)), (3, vr 346), (2, vr 311), (1, vr 64), (0, vr 61)] [] := by
  obtain ⟨r, M1, M2, e1, e2, hI2, -⟩ := (do_left (xs (i + 1))) M hI
  refine w_aload_n hB 3 dL_law_1083 rfl rfl ?_
  refine w_arg hB hs (i := i) (j := 1) rfl (by omega) hL2 4 0 rfl rfl dL_law_1084 dL_law_1085 dL_law_1087 (by decide) dL_law_1088 dL_law_1089 ?_
  refine w_callV hB (ci := 8) (As := [vi (xs (i + 1))]) (st := []) cw_L_132 q_1012 q_1013 rfl sh_64 (Or.inl hp.1) (c_X10_left hp e1) ⟨rfl, rfl⟩ (by decide) hf rfl (Nat.le_of_ble_eq_true rfl) dL_law_1090 rfl ?_
  refine w_aload_n hB 2 dL_law_1093 rfl rfl ?_
  refine w_arg hB hs (i := i) (j := 1) rfl (by omega) hL2 4 0 rfl rfl dL_law_1094 dL_law_1095 dL_law_1097 (by decide) dL_law_1098 dL_law_1099 ?_
  refine w_callV hB (ci := 9) (As := [vi (xs (i + 1))]) (st := [vi r]) cw_L_135 q_1708 q_1709 rfl sh_311 (Or.inl hp.1) (c_X11_left hp e2) ⟨rfl, rfl⟩ (by decide) hf rfl (Nat.le_of_ble_eq_true rfl) dL_law_1100 rfl ?_
  refine w_icmp_eq hB 1435 dL_law_1103 (by decide) (fun _ => ?_) (fun hc => absurd rfl hc)
  exact nx M2 hI2
set_option maxRecDepth 100000 in
set_option maxHeartbeats 4000000 in
theorem lcs_25 {K : Kt} {X : Xt} {Q : State → Prop} {ce sl : Nat} {M : Mem} {i L : Nat} {xs : Nat → Int32} (hp : St K) (hB : Bx K X room_1 cL_law 7 RL lwr) (hs : Scr K X L xs) (hL : i + 6 ≤ L) (hL2 : L ≤ 3072) (hf : ce + 0 ≤ room_1.cells ∧ sl + 0 ≤ room_1.slots) (hI : Inv M) (nx : ∀ M1, Inv M1 → Wt K X Q ce sl M1 1435 [(4, vi (nI i)), (3, vr 346), (2, vr 311), (1, vr 64), (0, vr 61)] []) : Wt K X Q ce sl M 1108 [(4, vi (nI i)), (3, vr 346), (2, vr 311), (1, vr 64), (0, vr 61)] [] := by
  obtain ⟨r, M1, M2, e1, e2, hI2, -⟩ := (do_need (xs (i + 1))) M hI
  refine w_aload_n hB 3 dL_law_1108 rfl rfl ?_
  refine w_arg hB hs (i := i) (j := 1) rfl (by omega) hL2 4 0 rfl rfl dL_law_1109 dL_law_1110 dL_law_1112 (by decide) dL_law_1113 dL_law_1114 ?_
  refine w_callV hB (ci := 8) (As := [vi (xs (i + 1))]) (st := []) cw_L_136 q_1020 q_1021 rfl sh_64 (Or.inl hp.1) (c_X10_need hp e1) ⟨rfl, rfl⟩ (by decide) hf rfl (Nat.le_of_ble_eq_true rfl) dL_law_1115 rfl ?_
  refine w_aload_n hB 2 dL_law_1118 rfl rfl ?_
  refine w_arg hB hs (i := i) (j := 1) rfl (by omega) hL2 4 0 rfl rfl dL_law_1119 dL_law_1120 dL_law_1122 (by decide) dL_law_1123 dL_law_1124 ?_
  refine w_callV hB (ci := 9) (As := [vi (xs (i + 1))]) (st := [vi r]) cw_L_139 q_1712 q_1713 rfl sh_311 (Or.inl hp.1) (c_X11_need hp e2) ⟨rfl, rfl⟩ (by decide) hf rfl (Nat.le_of_ble_eq_true rfl) dL_law_1125 rfl ?_
  refine w_icmp_eq hB 1435 dL_law_1128 (by decide) (fun _ => ?_) (fun hc => absurd rfl hc)
  exact nx M2 hI2
set_option maxRecDepth 100000 in
set_option maxHeartbeats 4000000 in
theorem lcs_26 {K : Kt} {X : Xt} {Q : State → Prop} {ce sl : Nat} {M : Mem} {i L : Nat} {xs : Nat → Int32} (hp : St K) (hB : Bx K X room_1 cL_law 7 RL lwr) (hs : Scr K X L xs) (hL : i + 6 ≤ L) (hL2 : L ≤ 3072) (hf : ce + 0 ≤ room_1.cells ∧ sl + 0 ≤ room_1.slots) (hI : Inv M) (nx : ∀ M1, Inv M1 → Wt K X Q ce sl M1 1435 [(4, vi (nI i)), (3, vr 346), (2, vr 311), (1, vr 64), (0, vr 61)] []) : Wt K X Q ce sl M 1133 [(4, vi (nI i)), (3, vr 346), (2, vr 311), (1, vr 64), (0, vr 61)] [] := by
  obtain ⟨r, M1, M2, e1, e2, hI2, -⟩ := (do_seconds (xs (i + 1))) M hI
  refine w_aload_n hB 3 dL_law_1133 rfl rfl ?_
  refine w_arg hB hs (i := i) (j := 1) rfl (by omega) hL2 4 0 rfl rfl dL_law_1134 dL_law_1135 dL_law_1137 (by decide) dL_law_1138 dL_law_1139 ?_
  refine w_callV hB (ci := 8) (As := [vi (xs (i + 1))]) (st := []) cw_L_140 q_1031 q_1032 rfl sh_64 (Or.inl hp.1) (c_X10_seconds hp e1) ⟨rfl, rfl⟩ (by decide) hf rfl (Nat.le_of_ble_eq_true rfl) dL_law_1140 rfl ?_
  refine w_aload_n hB 2 dL_law_1143 rfl rfl ?_
  refine w_arg hB hs (i := i) (j := 1) rfl (by omega) hL2 4 0 rfl rfl dL_law_1144 dL_law_1145 dL_law_1147 (by decide) dL_law_1148 dL_law_1149 ?_
  refine w_callV hB (ci := 9) (As := [vi (xs (i + 1))]) (st := [vi r]) cw_L_143 q_1720 q_1721 rfl sh_311 (Or.inl hp.1) (c_X11_seconds hp e2) ⟨rfl, rfl⟩ (by decide) hf rfl (Nat.le_of_ble_eq_true rfl) dL_law_1150 rfl ?_
  refine w_icmp_eq hB 1435 dL_law_1153 (by decide) (fun _ => ?_) (fun hc => absurd rfl hc)
  exact nx M2 hI2
set_option maxRecDepth 100000 in
set_option maxHeartbeats 4000000 in
theorem lcs_27 {K : Kt} {X : Xt} {Q : State → Prop} {ce sl : Nat} {M : Mem} {i L : Nat} {xs : Nat → Int32} (hp : St K) (hB : Bx K X room_1 cL_law 7 RL lwr) (hs : Scr K X L xs) (hL : i + 6 ≤ L) (hL2 : L ≤ 3072) (hf : ce + 0 ≤ room_1.cells ∧ sl + 0 ≤ room_1.slots) (hI : Inv M) (nx : ∀ M1, Inv M1 → Wt K X Q ce sl M1 1435 [(4, vi (nI i)), (3, vr 346), (2, vr 311), (1, vr 64), (0, vr 61)] []) : Wt K X Q ce sl M 1158 [(4, vi (nI i)), (3, vr 346), (2, vr 311), (1, vr 64), (0, vr 61)] [] := by
  obtain ⟨r, M1, M2, e1, e2, hI2, -⟩ := (do_extra) M hI
  refine w_aload_n hB 3 dL_law_1158 rfl rfl ?_
  refine w_callV hB (ci := 8) (As := []) (st := []) cw_L_144 q_1039 q_1040 rfl sh_64 (Or.inl hp.1) (c_X10_extra hp e1) ⟨rfl, rfl⟩ (by decide) hf rfl (Nat.le_of_ble_eq_true rfl) dL_law_1159 rfl ?_
  refine w_aload_n hB 2 dL_law_1162 rfl rfl ?_
  refine w_callV hB (ci := 9) (As := []) (st := [vi r]) cw_L_147 q_1729 q_1730 rfl sh_311 (Or.inl hp.1) (c_X11_extra hp e2) ⟨rfl, rfl⟩ (by decide) hf rfl (Nat.le_of_ble_eq_true rfl) dL_law_1163 rfl ?_
  refine w_icmp_eq hB 1435 dL_law_1166 (by decide) (fun _ => ?_) (fun hc => absurd rfl hc)
  exact nx M2 hI2
set_option maxRecDepth 100000 in
set_option maxHeartbeats 4000000 in
theorem lcs_29 {K : Kt} {X : Xt} {Q : State → Prop} {ce sl : Nat} {M : Mem} {i L : Nat} {xs : Nat → Int32} (hp : St K) (hB : Bx K X room_1 cL_law 7 RL lwr) (hs : Scr K X L xs) (hL : i + 6 ≤ L) (hL2 : L ≤ 3072) (hf : ce + 0 ≤ room_1.cells ∧ sl + 0 ≤ room_1.slots) (hI : Inv M) (nx : ∀ M1, Inv M1 → Wt K X Q ce sl M1 1435 [(4, vi (nI i)), (3, vr 346), (2, vr 311), (1, vr 64), (0, vr 61)] []) : Wt K X Q ce sl M 1239 [(4, vi (nI i)), (3, vr 346), (2, vr 311), (1, vr 64), (0, vr 61)] [] := by
  obtain ⟨r, M1, M2, e1, e2, hI2, -⟩ := (do_sheet (xs (i + 1)) (xs (i + 2)) (xs (i + 3))) M hI
  refine w_aload_n hB 3 dL_law_1239 rfl rfl ?_
  refine w_arg hB hs (i := i) (j := 1) rfl (by omega) hL2 4 0 rfl rfl dL_law_1240 dL_law_1241 dL_law_1243 (by decide) dL_law_1244 dL_law_1245 ?_
  refine w_arg hB hs (i := i) (j := 2) rfl (by omega) hL2 4 0 rfl rfl dL_law_1246 dL_law_1247 dL_law_1249 (by decide) dL_law_1250 dL_law_1251 ?_
  refine w_arg hB hs (i := i) (j := 3) rfl (by omega) hL2 4 0 rfl rfl dL_law_1252 dL_law_1253 dL_law_1255 (by decide) dL_law_1256 dL_law_1257 ?_
  refine w_callV hB (ci := 8) (As := [vi (xs (i + 1)), vi (xs (i + 2)), vi (xs (i + 3))]) (st := []) cw_L_152 q_1043 q_1044 rfl sh_64 (Or.inl hp.1) (c_X10_sheet hp e1) ⟨rfl, rfl⟩ (by decide) hf rfl (Nat.le_of_ble_eq_true rfl) dL_law_1258 rfl ?_
  refine w_aload_n hB 2 dL_law_1261 rfl rfl ?_
  refine w_arg hB hs (i := i) (j := 1) rfl (by omega) hL2 4 0 rfl rfl dL_law_1262 dL_law_1263 dL_law_1265 (by decide) dL_law_1266 dL_law_1267 ?_
  refine w_arg hB hs (i := i) (j := 2) rfl (by omega) hL2 4 0 rfl rfl dL_law_1268 dL_law_1269 dL_law_1271 (by decide) dL_law_1272 dL_law_1273 ?_
  refine w_arg hB hs (i := i) (j := 3) rfl (by omega) hL2 4 0 rfl rfl dL_law_1274 dL_law_1275 dL_law_1277 (by decide) dL_law_1278 dL_law_1279 ?_
  refine w_callV hB (ci := 9) (As := [vi (xs (i + 1)), vi (xs (i + 2)), vi (xs (i + 3))]) (st := [vi r]) cw_L_155 q_1737 q_1738 rfl sh_311 (Or.inl hp.1) (c_X11_sheet hp e2) ⟨rfl, rfl⟩ (by decide) hf rfl (Nat.le_of_ble_eq_true rfl) dL_law_1280 rfl ?_
  refine w_icmp_eq hB 1435 dL_law_1283 (by decide) (fun _ => ?_) (fun hc => absurd rfl hc)
  exact nx M2 hI2
set_option maxRecDepth 100000 in
set_option maxHeartbeats 4000000 in
theorem lcs_31 {K : Kt} {X : Xt} {Q : State → Prop} {ce sl : Nat} {M : Mem} {i L : Nat} {xs : Nat → Int32} (hp : St K) (hB : Bx K X room_1 cL_law 7 RL lwr) (hs : Scr K X L xs) (hL : i + 6 ≤ L) (hL2 : L ≤ 3072) (hf : ce + 0 ≤ room_1.cells ∧ sl + 0 ≤ room_1.slots) (hI : Inv M) (nx : ∀ M1, Inv M1 → Wt K X Q ce sl M1 1435 [(4, vi (nI i)), (3, vr 346), (2, vr 311), (1, vr 64), (0, vr 61)] []) : Wt K X Q ce sl M 1344 [(4, vi (nI i)), (3, vr 346), (2, vr 311), (1, vr 64), (0, vr 61)] [] := by
  obtain ⟨r, M1, M2, e1, e2, hI2, -⟩ := (do_undo) M hI
  refine w_aload_n hB 3 dL_law_1344 rfl rfl ?_
  refine w_callV hB (ci := 8) (As := []) (st := []) cw_L_160 q_1050 q_1051 rfl sh_64 (Or.inl hp.1) (c_X10_undo hp e1) ⟨rfl, rfl⟩ (by decide) hf rfl (Nat.le_of_ble_eq_true rfl) dL_law_1345 rfl ?_
  refine w_aload_n hB 2 dL_law_1348 rfl rfl ?_
  refine w_callV hB (ci := 9) (As := []) (st := [vi r]) cw_L_163 q_1745 q_1746 rfl sh_311 (Or.inl hp.1) (c_X11_undo hp e2) ⟨rfl, rfl⟩ (by decide) hf rfl (Nat.le_of_ble_eq_true rfl) dL_law_1349 rfl ?_
  refine w_icmp_eq hB 1435 dL_law_1352 (by decide) (fun _ => ?_) (fun hc => absurd rfl hc)
  exact nx M2 hI2
set_option maxRecDepth 100000 in
set_option maxHeartbeats 4000000 in
theorem lcs_32 {K : Kt} {X : Xt} {Q : State → Prop} {ce sl : Nat} {M : Mem} {i L : Nat} {xs : Nat → Int32} (hp : St K) (hB : Bx K X room_1 cL_law 7 RL lwr) (hs : Scr K X L xs) (hL : i + 6 ≤ L) (hL2 : L ≤ 3072) (hf : ce + 0 ≤ room_1.cells ∧ sl + 0 ≤ room_1.slots) (hI : Inv M) (nx : ∀ M1, Inv M1 → Wt K X Q ce sl M1 1435 [(4, vi (nI i)), (3, vr 346), (2, vr 311), (1, vr 64), (0, vr 61)] []) : Wt K X Q ce sl M 1357 [(4, vi (nI i)), (3, vr 346), (2, vr 311), (1, vr 64), (0, vr 61)] [] := by
  obtain ⟨r, M1, M2, e1, e2, hI2, -⟩ := (do_keep (xs (i + 1)) (nz (xs (i + 2)))) M hI
  refine w_aload_n hB 3 dL_law_1357 rfl rfl ?_
  refine w_arg hB hs (i := i) (j := 1) rfl (by omega) hL2 4 0 rfl rfl dL_law_1358 dL_law_1359 dL_law_1361 (by decide) dL_law_1362 dL_law_1363 ?_
  refine w_arg hB hs (i := i) (j := 2) rfl (by omega) hL2 4 0 rfl rfl dL_law_1364 dL_law_1365 dL_law_1367 (by decide) dL_law_1368 dL_law_1369 ?_
  refine w_bool hB dL_law_1370 dL_law_1373 dL_law_1374 dL_law_1377 ?_
  refine w_callV hB (ci := 8) (As := [vi (xs (i + 1)), vi (nz (xs (i + 2)))]) (st := []) cw_L_164 q_1054 q_1055 rfl sh_64 (Or.inl hp.1) (c_X10_keep hp e1) ⟨rfl, rfl⟩ (by decide) hf rfl (Nat.le_of_ble_eq_true rfl) dL_law_1378 rfl ?_
  refine w_aload_n hB 2 dL_law_1381 rfl rfl ?_
  refine w_arg hB hs (i := i) (j := 1) rfl (by omega) hL2 4 0 rfl rfl dL_law_1382 dL_law_1383 dL_law_1385 (by decide) dL_law_1386 dL_law_1387 ?_
  refine w_arg hB hs (i := i) (j := 2) rfl (by omega) hL2 4 0 rfl rfl dL_law_1388 dL_law_1389 dL_law_1391 (by decide) dL_law_1392 dL_law_1393 ?_
  refine w_bool hB dL_law_1394 dL_law_1397 dL_law_1398 dL_law_1401 ?_
  refine w_callV hB (ci := 9) (As := [vi (xs (i + 1)), vi (nz (xs (i + 2)))]) (st := [vi r]) cw_L_168 q_1749 q_1750 rfl sh_311 (Or.inl hp.1) (c_X11_keep hp e2) ⟨rfl, rfl⟩ (by decide) hf rfl (Nat.le_of_ble_eq_true rfl) dL_law_1402 rfl ?_
  refine w_icmp_eq hB 1435 dL_law_1405 (by decide) (fun _ => ?_) (fun hc => absurd rfl hc)
  exact nx M2 hI2
set_option maxRecDepth 100000 in
set_option maxHeartbeats 4000000 in
theorem lcs_33 {K : Kt} {X : Xt} {Q : State → Prop} {ce sl : Nat} {M : Mem} {i L : Nat} {xs : Nat → Int32} (hp : St K) (hB : Bx K X room_1 cL_law 7 RL lwr) (hs : Scr K X L xs) (hL : i + 6 ≤ L) (hL2 : L ≤ 3072) (hf : ce + 0 ≤ room_1.cells ∧ sl + 0 ≤ room_1.slots) (hI : Inv M) (nx : ∀ M1, Inv M1 → Wt K X Q ce sl M1 1435 [(4, vi (nI i)), (3, vr 346), (2, vr 311), (1, vr 64), (0, vr 61)] []) : Wt K X Q ce sl M 1410 [(4, vi (nI i)), (3, vr 346), (2, vr 311), (1, vr 64), (0, vr 61)] [] := by
  obtain ⟨r, M1, M2, e1, e2, hI2, -⟩ := (do_count (xs (i + 1))) M hI
  refine w_aload_n hB 3 dL_law_1410 rfl rfl ?_
  refine w_arg hB hs (i := i) (j := 1) rfl (by omega) hL2 4 0 rfl rfl dL_law_1411 dL_law_1412 dL_law_1414 (by decide) dL_law_1415 dL_law_1416 ?_
  refine w_callV hB (ci := 8) (As := [vi (xs (i + 1))]) (st := []) cw_L_169 q_1058 q_1059 rfl sh_64 (Or.inl hp.1) (c_X10_count hp e1) ⟨rfl, rfl⟩ (by decide) hf rfl (Nat.le_of_ble_eq_true rfl) dL_law_1417 rfl ?_
  refine w_aload_n hB 2 dL_law_1420 rfl rfl ?_
  refine w_arg hB hs (i := i) (j := 1) rfl (by omega) hL2 4 0 rfl rfl dL_law_1421 dL_law_1422 dL_law_1424 (by decide) dL_law_1425 dL_law_1426 ?_
  refine w_callV hB (ci := 9) (As := [vi (xs (i + 1))]) (st := [vi r]) cw_L_172 q_1753 q_1754 rfl sh_311 (Or.inl hp.1) (c_X11_count hp e2) ⟨rfl, rfl⟩ (by decide) hf rfl (Nat.le_of_ble_eq_true rfl) dL_law_1427 rfl ?_
  refine w_icmp_eq hB 1435 dL_law_1430 (by decide) (fun _ => ?_) (fun hc => absurd rfl hc)
  exact nx M2 hI2
set_option maxRecDepth 100000 in
set_option maxHeartbeats 4000000 in
theorem lcs_6 {K : Kt} {X : Xt} {Q : State → Prop} {ce sl : Nat} {M : Mem} {i L : Nat} {xs : Nat → Int32} (hp : St K) (hB : Bx K X room_1 cL_law 7 RL lwr) (hs : Scr K X L xs) (hL : i + 6 ≤ L) (hL2 : L ≤ 3072) (ht : KThr K) (hst : X.2.1.stackTraces = false) (hf0 : ce + 0 ≤ room_1.cells ∧ sl + 0 ≤ room_1.slots) (hf : ce + 1 ≤ room_1.cells ∧ sl + 6 ≤ room_1.slots) (hf1 : ce + 1 + 0 ≤ room_1.cells ∧ sl + 6 + 0 ≤ room_1.slots) (hI : Inv M) (nx : ∀ M1, Inv M1 → Wt K X Q ce sl M1 1435 [(4, vi (nI i)), (3, vr 346), (2, vr 311), (1, vr 64), (0, vr 61)] []) (nx1 : ∀ M1, Inv M1 → Wt K X Q (ce + 1) (sl + 6) M1 1435 [(4, vi (nI i)), (3, vr 346), (2, vr 311), (1, vr 64), (0, vr 61)] []) : Wt K X Q ce sl M 438 [(4, vi (nI i)), (3, vr 346), (2, vr 311), (1, vr 64), (0, vr 61)] [] := by
  rcases two_frame (xs (i + 1)) (xs (i + 2)) (xs (i + 3)) M hI with ⟨r, e1, g⟩ | ⟨e1, e2⟩
  · have hI1 := hI.setL 346 0 r.toInt64
    have e2 := g (setL M 346 0 r.toInt64) rfl hI1
    have hI2 := hI1.t0
    have e3 := thr_v (setL M 346 0 r.toInt64) 0
    refine w_aload_n hB 3 dL_law_438 rfl rfl ?_
    refine w_arg hB hs (i := i) (j := 1) rfl (by omega) hL2 4 0 rfl rfl dL_law_439 dL_law_440 dL_law_442 (by decide) dL_law_443 dL_law_444 ?_
    refine w_arg hB hs (i := i) (j := 2) rfl (by omega) hL2 4 0 rfl rfl dL_law_445 dL_law_446 dL_law_448 (by decide) dL_law_449 dL_law_450 ?_
    refine w_arg hB hs (i := i) (j := 3) rfl (by omega) hL2 4 0 rfl rfl dL_law_451 dL_law_452 dL_law_454 (by decide) dL_law_455 dL_law_456 ?_
    refine w_aload_n hB 1 dL_law_457 rfl rfl ?_
    refine w_callSW hB (As := [vr 64, vi (xs (i + 1)), vi (xs (i + 2)), vi (xs (i + 3)), vr 346]) (st := []) (na := 5) q_1061 q_75 q_1063 ⟨by decide +kernel, by decide +kernel⟩ q_1062 (c_L_frameR hp e1) ⟨rfl, rfl⟩ (by decide) hf0 rfl (Nat.le_of_ble_eq_true rfl) dL_law_458 rfl ?_
    refine w_istore hB (L' := [(5, vi 0), (4, vi (nI i)), (3, vr 346), (2, vr 311), (1, vr 64), (0, vr 61)]) dL_law_461 (by decide) rfl rfl ?_
    refine w_aload_n hB 3 dL_law_463 rfl rfl ?_
    refine w_arg hB hs (i := i) (j := 1) rfl (by omega) hL2 5 1 rfl rfl dL_law_464 dL_law_465 dL_law_467 (by decide) dL_law_468 dL_law_469 ?_
    refine w_arg hB hs (i := i) (j := 2) rfl (by omega) hL2 5 1 rfl rfl dL_law_470 dL_law_471 dL_law_473 (by decide) dL_law_474 dL_law_475 ?_
    refine w_arg hB hs (i := i) (j := 3) rfl (by omega) hL2 5 1 rfl rfl dL_law_476 dL_law_477 dL_law_479 (by decide) dL_law_480 dL_law_481 ?_
    refine w_callV hB (ci := 9) (As := [vi (xs (i + 1)), vi (xs (i + 2)), vi (xs (i + 3))]) (st := []) cw_L_57 q_1555 q_1556 rfl sh_311 (Or.inl hp.1) (c_X11_frame hp e2) ⟨rfl, rfl⟩ (by decide) hf0 rfl (Nat.le_of_ble_eq_true rfl) dL_law_482 rfl ?_
    refine w_istore hB (L' := [(6, vi r), (5, vi 0), (4, vi (nI i)), (3, vr 346), (2, vr 311), (1, vr 64), (0, vr 61)]) dL_law_485 (by decide) rfl rfl ?_
    refine w_aload_n hB 4 dL_law_487 rfl rfl ?_
    refine w_callV hB (ci := 9) (As := []) (st := []) cw_L_58 q_1304 q_1305 rfl sh_311 (Or.inl hp.1) (c_X11_thrown hp e3) ⟨rfl, rfl⟩ (by decide) hf0 rfl (Nat.le_of_ble_eq_true rfl) dL_law_488 rfl ?_
    refine w_iload hB 1 dL_law_491 rfl ?_
    refine w_icmp_eq hB 498 dL_law_493 (by decide) (fun _ => ?_) (fun hc => absurd rfl hc)
    refine w_iload hB 1 dL_law_498 rfl ?_
    refine w_if_ne hB 515 dL_law_500 (by decide) (fun hc => absurd rfl hc) (fun _ => ?_)
    refine w_aload_n hB 3 dL_law_503 rfl rfl ?_
    refine w_iconst hB 0 (by decide) dL_law_504 ?_
    refine w_lald hB sh_346 (Or.inl hp.1) sl_346 (by decide) dL_law_505 ?_
    rw [out_r]
    refine w_iload hB 0 dL_law_506 rfl ?_
    refine w_i2l hB dL_law_508 ?_
    refine w_lcmp hB dL_law_509 ?_
    refine w_if_eq hB 515 dL_law_510 (by decide) (fun _ => ?_) (fun hc => absurd (lg_self _) hc)
    refine w_goto hB 1435 dL_law_515 (by decide) ?_
    exact Wt.sub (L' := [(4, vi (nI i)), (3, vr 346), (2, vr 311), (1, vr 64), (0, vr 61)]) [2, 3, 4, 5, 6] rfl (nx _ hI2)
  · have hI2 := hI.near (near_0 M 1)
    have e3 := thr_v M 1
    refine w_aload_n hB 3 dL_law_438 rfl rfl ?_
    refine w_arg hB hs (i := i) (j := 1) rfl (by omega) hL2 4 0 rfl rfl dL_law_439 dL_law_440 dL_law_442 (by decide) dL_law_443 dL_law_444 ?_
    refine w_arg hB hs (i := i) (j := 2) rfl (by omega) hL2 4 0 rfl rfl dL_law_445 dL_law_446 dL_law_448 (by decide) dL_law_449 dL_law_450 ?_
    refine w_arg hB hs (i := i) (j := 3) rfl (by omega) hL2 4 0 rfl rfl dL_law_451 dL_law_452 dL_law_454 (by decide) dL_law_455 dL_law_456 ?_
    refine w_aload_n hB 1 dL_law_457 rfl rfl ?_
    refine w_callSW hB (As := [vr 64, vi (xs (i + 1)), vi (xs (i + 2)), vi (xs (i + 3)), vr 346]) (st := []) (na := 5) q_1061 q_75 q_1063 ⟨by decide +kernel, by decide +kernel⟩ q_1062 (c_L_frameT hp ht hst e1) ⟨rfl, rfl⟩ (by decide) hf rfl (Nat.le_of_ble_eq_true rfl) dL_law_458 rfl ?_
    refine w_istore hB (L' := [(5, vi 1), (4, vi (nI i)), (3, vr 346), (2, vr 311), (1, vr 64), (0, vr 61)]) dL_law_461 (by decide) rfl rfl ?_
    refine w_aload_n hB 3 dL_law_463 rfl rfl ?_
    refine w_arg hB hs (i := i) (j := 1) rfl (by omega) hL2 5 1 rfl rfl dL_law_464 dL_law_465 dL_law_467 (by decide) dL_law_468 dL_law_469 ?_
    refine w_arg hB hs (i := i) (j := 2) rfl (by omega) hL2 5 1 rfl rfl dL_law_470 dL_law_471 dL_law_473 (by decide) dL_law_474 dL_law_475 ?_
    refine w_arg hB hs (i := i) (j := 3) rfl (by omega) hL2 5 1 rfl rfl dL_law_476 dL_law_477 dL_law_479 (by decide) dL_law_480 dL_law_481 ?_
    refine w_callV hB (ci := 9) (As := [vi (xs (i + 1)), vi (xs (i + 2)), vi (xs (i + 3))]) (st := []) cw_L_57 q_1555 q_1556 rfl sh_311 (Or.inl hp.1) (c_X11_frame hp e2) ⟨rfl, rfl⟩ (by decide) hf1 rfl (Nat.le_of_ble_eq_true rfl) dL_law_482 rfl ?_
    refine w_istore hB (L' := [(6, vi 0), (5, vi 1), (4, vi (nI i)), (3, vr 346), (2, vr 311), (1, vr 64), (0, vr 61)]) dL_law_485 (by decide) rfl rfl ?_
    refine w_aload_n hB 4 dL_law_487 rfl rfl ?_
    refine w_callV hB (ci := 9) (As := []) (st := []) cw_L_58 q_1304 q_1305 rfl sh_311 (Or.inl hp.1) (c_X11_thrown hp e3) ⟨rfl, rfl⟩ (by decide) hf1 rfl (Nat.le_of_ble_eq_true rfl) dL_law_488 rfl ?_
    refine w_iload hB 1 dL_law_491 rfl ?_
    refine w_icmp_eq hB 498 dL_law_493 (by decide) (fun _ => ?_) (fun hc => absurd rfl hc)
    refine w_iload hB 1 dL_law_498 rfl ?_
    refine w_if_ne hB 515 dL_law_500 (by decide) (fun _ => ?_) (fun hc => absurd hc (by decide))
    refine w_goto hB 1435 dL_law_515 (by decide) ?_
    exact Wt.sub (L' := [(4, vi (nI i)), (3, vr 346), (2, vr 311), (1, vr 64), (0, vr 61)]) [2, 3, 4, 5, 6] rfl (nx1 _ hI2)
set_option maxRecDepth 100000 in
set_option maxHeartbeats 4000000 in
theorem lcs_28 {K : Kt} {X : Xt} {Q : State → Prop} {ce sl : Nat} {M : Mem} {i L : Nat} {xs : Nat → Int32} (hp : St K) (hB : Bx K X room_1 cL_law 7 RL lwr) (hs : Scr K X L xs) (hL : i + 6 ≤ L) (hL2 : L ≤ 3072) (ht : KThr K) (hst : X.2.1.stackTraces = false) (hf0 : ce + 0 ≤ room_1.cells ∧ sl + 0 ≤ room_1.slots) (hf : ce + 1 ≤ room_1.cells ∧ sl + 6 ≤ room_1.slots) (hf1 : ce + 1 + 0 ≤ room_1.cells ∧ sl + 6 + 0 ≤ room_1.slots) (hI : Inv M) (nx : ∀ M1, Inv M1 → Wt K X Q ce sl M1 1435 [(4, vi (nI i)), (3, vr 346), (2, vr 311), (1, vr 64), (0, vr 61)] []) (nx1 : ∀ M1, Inv M1 → Wt K X Q (ce + 1) (sl + 6) M1 1435 [(4, vi (nI i)), (3, vr 346), (2, vr 311), (1, vr 64), (0, vr 61)] []) : Wt K X Q ce sl M 1171 [(4, vi (nI i)), (3, vr 346), (2, vr 311), (1, vr 64), (0, vr 61)] [] := by
  rcases two_log (xs (i + 1)) (xs (i + 2)) M hI with ⟨r, e1, g⟩ | ⟨e1, e2⟩
  · have hI1 := hI.setL 346 0 r.toInt64
    have e2 := g (setL M 346 0 r.toInt64) rfl hI1
    have hI2 := hI1.t0
    have e3 := thr_v (setL M 346 0 r.toInt64) 0
    refine w_aload_n hB 3 dL_law_1171 rfl rfl ?_
    refine w_arg hB hs (i := i) (j := 1) rfl (by omega) hL2 4 0 rfl rfl dL_law_1172 dL_law_1173 dL_law_1175 (by decide) dL_law_1176 dL_law_1177 ?_
    refine w_arg hB hs (i := i) (j := 2) rfl (by omega) hL2 4 0 rfl rfl dL_law_1178 dL_law_1179 dL_law_1181 (by decide) dL_law_1182 dL_law_1183 ?_
    refine w_aload_n hB 1 dL_law_1184 rfl rfl ?_
    refine w_callSW hB (As := [vr 64, vi (xs (i + 1)), vi (xs (i + 2)), vr 346]) (st := []) (na := 4) q_1134 q_75 q_1136 ⟨by decide +kernel, by decide +kernel⟩ q_1135 (c_L_logR hp e1) ⟨rfl, rfl⟩ (by decide) hf0 rfl (Nat.le_of_ble_eq_true rfl) dL_law_1185 rfl ?_
    refine w_istore hB (L' := [(5, vi 0), (4, vi (nI i)), (3, vr 346), (2, vr 311), (1, vr 64), (0, vr 61)]) dL_law_1188 (by decide) rfl rfl ?_
    refine w_aload_n hB 3 dL_law_1190 rfl rfl ?_
    refine w_arg hB hs (i := i) (j := 1) rfl (by omega) hL2 5 1 rfl rfl dL_law_1191 dL_law_1192 dL_law_1194 (by decide) dL_law_1195 dL_law_1196 ?_
    refine w_arg hB hs (i := i) (j := 2) rfl (by omega) hL2 5 1 rfl rfl dL_law_1197 dL_law_1198 dL_law_1200 (by decide) dL_law_1201 dL_law_1202 ?_
    refine w_callV hB (ci := 9) (As := [vi (xs (i + 1)), vi (xs (i + 2))]) (st := []) cw_L_151 q_1733 q_1734 rfl sh_311 (Or.inl hp.1) (c_X11_log hp e2) ⟨rfl, rfl⟩ (by decide) hf0 rfl (Nat.le_of_ble_eq_true rfl) dL_law_1203 rfl ?_
    refine w_istore hB (L' := [(6, vi r), (5, vi 0), (4, vi (nI i)), (3, vr 346), (2, vr 311), (1, vr 64), (0, vr 61)]) dL_law_1206 (by decide) rfl rfl ?_
    refine w_aload_n hB 4 dL_law_1208 rfl rfl ?_
    refine w_callV hB (ci := 9) (As := []) (st := []) cw_L_58 q_1304 q_1305 rfl sh_311 (Or.inl hp.1) (c_X11_thrown hp e3) ⟨rfl, rfl⟩ (by decide) hf0 rfl (Nat.le_of_ble_eq_true rfl) dL_law_1209 rfl ?_
    refine w_iload hB 1 dL_law_1212 rfl ?_
    refine w_icmp_eq hB 1219 dL_law_1214 (by decide) (fun _ => ?_) (fun hc => absurd rfl hc)
    refine w_iload hB 1 dL_law_1219 rfl ?_
    refine w_if_ne hB 1236 dL_law_1221 (by decide) (fun hc => absurd rfl hc) (fun _ => ?_)
    refine w_aload_n hB 3 dL_law_1224 rfl rfl ?_
    refine w_iconst hB 0 (by decide) dL_law_1225 ?_
    refine w_lald hB sh_346 (Or.inl hp.1) sl_346 (by decide) dL_law_1226 ?_
    rw [out_r]
    refine w_iload hB 0 dL_law_1227 rfl ?_
    refine w_i2l hB dL_law_1229 ?_
    refine w_lcmp hB dL_law_1230 ?_
    refine w_if_eq hB 1236 dL_law_1231 (by decide) (fun _ => ?_) (fun hc => absurd (lg_self _) hc)
    refine w_goto hB 1435 dL_law_1236 (by decide) ?_
    exact Wt.sub (L' := [(4, vi (nI i)), (3, vr 346), (2, vr 311), (1, vr 64), (0, vr 61)]) [2, 3, 4, 5, 6] rfl (nx _ hI2)
  · have hI2 := hI.near (near_0 M 1)
    have e3 := thr_v M 1
    refine w_aload_n hB 3 dL_law_1171 rfl rfl ?_
    refine w_arg hB hs (i := i) (j := 1) rfl (by omega) hL2 4 0 rfl rfl dL_law_1172 dL_law_1173 dL_law_1175 (by decide) dL_law_1176 dL_law_1177 ?_
    refine w_arg hB hs (i := i) (j := 2) rfl (by omega) hL2 4 0 rfl rfl dL_law_1178 dL_law_1179 dL_law_1181 (by decide) dL_law_1182 dL_law_1183 ?_
    refine w_aload_n hB 1 dL_law_1184 rfl rfl ?_
    refine w_callSW hB (As := [vr 64, vi (xs (i + 1)), vi (xs (i + 2)), vr 346]) (st := []) (na := 4) q_1134 q_75 q_1136 ⟨by decide +kernel, by decide +kernel⟩ q_1135 (c_L_logT hp ht hst e1) ⟨rfl, rfl⟩ (by decide) hf rfl (Nat.le_of_ble_eq_true rfl) dL_law_1185 rfl ?_
    refine w_istore hB (L' := [(5, vi 1), (4, vi (nI i)), (3, vr 346), (2, vr 311), (1, vr 64), (0, vr 61)]) dL_law_1188 (by decide) rfl rfl ?_
    refine w_aload_n hB 3 dL_law_1190 rfl rfl ?_
    refine w_arg hB hs (i := i) (j := 1) rfl (by omega) hL2 5 1 rfl rfl dL_law_1191 dL_law_1192 dL_law_1194 (by decide) dL_law_1195 dL_law_1196 ?_
    refine w_arg hB hs (i := i) (j := 2) rfl (by omega) hL2 5 1 rfl rfl dL_law_1197 dL_law_1198 dL_law_1200 (by decide) dL_law_1201 dL_law_1202 ?_
    refine w_callV hB (ci := 9) (As := [vi (xs (i + 1)), vi (xs (i + 2))]) (st := []) cw_L_151 q_1733 q_1734 rfl sh_311 (Or.inl hp.1) (c_X11_log hp e2) ⟨rfl, rfl⟩ (by decide) hf1 rfl (Nat.le_of_ble_eq_true rfl) dL_law_1203 rfl ?_
    refine w_istore hB (L' := [(6, vi 0), (5, vi 1), (4, vi (nI i)), (3, vr 346), (2, vr 311), (1, vr 64), (0, vr 61)]) dL_law_1206 (by decide) rfl rfl ?_
    refine w_aload_n hB 4 dL_law_1208 rfl rfl ?_
    refine w_callV hB (ci := 9) (As := []) (st := []) cw_L_58 q_1304 q_1305 rfl sh_311 (Or.inl hp.1) (c_X11_thrown hp e3) ⟨rfl, rfl⟩ (by decide) hf1 rfl (Nat.le_of_ble_eq_true rfl) dL_law_1209 rfl ?_
    refine w_iload hB 1 dL_law_1212 rfl ?_
    refine w_icmp_eq hB 1219 dL_law_1214 (by decide) (fun _ => ?_) (fun hc => absurd rfl hc)
    refine w_iload hB 1 dL_law_1219 rfl ?_
    refine w_if_ne hB 1236 dL_law_1221 (by decide) (fun _ => ?_) (fun hc => absurd hc (by decide))
    refine w_goto hB 1435 dL_law_1236 (by decide) ?_
    exact Wt.sub (L' := [(4, vi (nI i)), (3, vr 346), (2, vr 311), (1, vr 64), (0, vr 61)]) [2, 3, 4, 5, 6] rfl (nx1 _ hI2)
set_option maxRecDepth 100000 in
set_option maxHeartbeats 4000000 in
theorem lcs_30 {K : Kt} {X : Xt} {Q : State → Prop} {ce sl : Nat} {M : Mem} {i L : Nat} {xs : Nat → Int32} (hp : St K) (hB : Bx K X room_1 cL_law 7 RL lwr) (hs : Scr K X L xs) (hL : i + 6 ≤ L) (hL2 : L ≤ 3072) (ht : KThr K) (hst : X.2.1.stackTraces = false) (hf0 : ce + 0 ≤ room_1.cells ∧ sl + 0 ≤ room_1.slots) (hf : ce + 1 ≤ room_1.cells ∧ sl + 6 ≤ room_1.slots) (hf1 : ce + 1 + 0 ≤ room_1.cells ∧ sl + 6 + 0 ≤ room_1.slots) (hI : Inv M) (nx : ∀ M1, Inv M1 → Wt K X Q ce sl M1 1435 [(4, vi (nI i)), (3, vr 346), (2, vr 311), (1, vr 64), (0, vr 61)] []) (nx1 : ∀ M1, Inv M1 → Wt K X Q (ce + 1) (sl + 6) M1 1435 [(4, vi (nI i)), (3, vr 346), (2, vr 311), (1, vr 64), (0, vr 61)] []) : Wt K X Q ce sl M 1288 [(4, vi (nI i)), (3, vr 346), (2, vr 311), (1, vr 64), (0, vr 61)] [] := by
  rcases two_row (xs (i + 1)) M hI with ⟨r, e1, g⟩ | ⟨e1, e2⟩
  · have hI1 := hI.setL 346 0 r.toInt64
    have e2 := g (setL M 346 0 r.toInt64) rfl hI1
    have hI2 := hI1.t0
    have e3 := thr_v (setL M 346 0 r.toInt64) 0
    refine w_aload_n hB 3 dL_law_1288 rfl rfl ?_
    refine w_arg hB hs (i := i) (j := 1) rfl (by omega) hL2 4 0 rfl rfl dL_law_1289 dL_law_1290 dL_law_1292 (by decide) dL_law_1293 dL_law_1294 ?_
    refine w_aload_n hB 1 dL_law_1295 rfl rfl ?_
    refine w_callSW hB (As := [vr 64, vi (xs (i + 1)), vr 346]) (st := []) (na := 3) q_1142 q_75 q_1144 ⟨by decide +kernel, by decide +kernel⟩ q_1143 (c_L_rowR hp e1) ⟨rfl, rfl⟩ (by decide) hf0 rfl (Nat.le_of_ble_eq_true rfl) dL_law_1296 rfl ?_
    refine w_istore hB (L' := [(5, vi 0), (4, vi (nI i)), (3, vr 346), (2, vr 311), (1, vr 64), (0, vr 61)]) dL_law_1299 (by decide) rfl rfl ?_
    refine w_aload_n hB 3 dL_law_1301 rfl rfl ?_
    refine w_arg hB hs (i := i) (j := 1) rfl (by omega) hL2 5 1 rfl rfl dL_law_1302 dL_law_1303 dL_law_1305 (by decide) dL_law_1306 dL_law_1307 ?_
    refine w_callV hB (ci := 9) (As := [vi (xs (i + 1))]) (st := []) cw_L_159 q_1741 q_1742 rfl sh_311 (Or.inl hp.1) (c_X11_row hp e2) ⟨rfl, rfl⟩ (by decide) hf0 rfl (Nat.le_of_ble_eq_true rfl) dL_law_1308 rfl ?_
    refine w_istore hB (L' := [(6, vi r), (5, vi 0), (4, vi (nI i)), (3, vr 346), (2, vr 311), (1, vr 64), (0, vr 61)]) dL_law_1311 (by decide) rfl rfl ?_
    refine w_aload_n hB 4 dL_law_1313 rfl rfl ?_
    refine w_callV hB (ci := 9) (As := []) (st := []) cw_L_58 q_1304 q_1305 rfl sh_311 (Or.inl hp.1) (c_X11_thrown hp e3) ⟨rfl, rfl⟩ (by decide) hf0 rfl (Nat.le_of_ble_eq_true rfl) dL_law_1314 rfl ?_
    refine w_iload hB 1 dL_law_1317 rfl ?_
    refine w_icmp_eq hB 1324 dL_law_1319 (by decide) (fun _ => ?_) (fun hc => absurd rfl hc)
    refine w_iload hB 1 dL_law_1324 rfl ?_
    refine w_if_ne hB 1341 dL_law_1326 (by decide) (fun hc => absurd rfl hc) (fun _ => ?_)
    refine w_aload_n hB 3 dL_law_1329 rfl rfl ?_
    refine w_iconst hB 0 (by decide) dL_law_1330 ?_
    refine w_lald hB sh_346 (Or.inl hp.1) sl_346 (by decide) dL_law_1331 ?_
    rw [out_r]
    refine w_iload hB 0 dL_law_1332 rfl ?_
    refine w_i2l hB dL_law_1334 ?_
    refine w_lcmp hB dL_law_1335 ?_
    refine w_if_eq hB 1341 dL_law_1336 (by decide) (fun _ => ?_) (fun hc => absurd (lg_self _) hc)
    refine w_goto hB 1435 dL_law_1341 (by decide) ?_
    exact Wt.sub (L' := [(4, vi (nI i)), (3, vr 346), (2, vr 311), (1, vr 64), (0, vr 61)]) [2, 3, 4, 5, 6] rfl (nx _ hI2)
  · have hI2 := hI.near (near_0 M 1)
    have e3 := thr_v M 1
    refine w_aload_n hB 3 dL_law_1288 rfl rfl ?_
    refine w_arg hB hs (i := i) (j := 1) rfl (by omega) hL2 4 0 rfl rfl dL_law_1289 dL_law_1290 dL_law_1292 (by decide) dL_law_1293 dL_law_1294 ?_
    refine w_aload_n hB 1 dL_law_1295 rfl rfl ?_
    refine w_callSW hB (As := [vr 64, vi (xs (i + 1)), vr 346]) (st := []) (na := 3) q_1142 q_75 q_1144 ⟨by decide +kernel, by decide +kernel⟩ q_1143 (c_L_rowT hp ht hst e1) ⟨rfl, rfl⟩ (by decide) hf rfl (Nat.le_of_ble_eq_true rfl) dL_law_1296 rfl ?_
    refine w_istore hB (L' := [(5, vi 1), (4, vi (nI i)), (3, vr 346), (2, vr 311), (1, vr 64), (0, vr 61)]) dL_law_1299 (by decide) rfl rfl ?_
    refine w_aload_n hB 3 dL_law_1301 rfl rfl ?_
    refine w_arg hB hs (i := i) (j := 1) rfl (by omega) hL2 5 1 rfl rfl dL_law_1302 dL_law_1303 dL_law_1305 (by decide) dL_law_1306 dL_law_1307 ?_
    refine w_callV hB (ci := 9) (As := [vi (xs (i + 1))]) (st := []) cw_L_159 q_1741 q_1742 rfl sh_311 (Or.inl hp.1) (c_X11_row hp e2) ⟨rfl, rfl⟩ (by decide) hf1 rfl (Nat.le_of_ble_eq_true rfl) dL_law_1308 rfl ?_
    refine w_istore hB (L' := [(6, vi 0), (5, vi 1), (4, vi (nI i)), (3, vr 346), (2, vr 311), (1, vr 64), (0, vr 61)]) dL_law_1311 (by decide) rfl rfl ?_
    refine w_aload_n hB 4 dL_law_1313 rfl rfl ?_
    refine w_callV hB (ci := 9) (As := []) (st := []) cw_L_58 q_1304 q_1305 rfl sh_311 (Or.inl hp.1) (c_X11_thrown hp e3) ⟨rfl, rfl⟩ (by decide) hf1 rfl (Nat.le_of_ble_eq_true rfl) dL_law_1314 rfl ?_
    refine w_iload hB 1 dL_law_1317 rfl ?_
    refine w_icmp_eq hB 1324 dL_law_1319 (by decide) (fun _ => ?_) (fun hc => absurd rfl hc)
    refine w_iload hB 1 dL_law_1324 rfl ?_
    refine w_if_ne hB 1341 dL_law_1326 (by decide) (fun _ => ?_) (fun hc => absurd hc (by decide))
    refine w_goto hB 1435 dL_law_1341 (by decide) ?_
    exact Wt.sub (L' := [(4, vi (nI i)), (3, vr 346), (2, vr 311), (1, vr 64), (0, vr 61)]) [2, 3, 4, 5, 6] rfl (nx1 _ hI2)
