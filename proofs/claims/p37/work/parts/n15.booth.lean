set_option maxRecDepth 100000 in
set_option maxHeartbeats 4000000 in
theorem b_X10_tapeNumber_b3_s {K : Kt} {X : Xt} (hp : St K) (hB : Bx K X { frames := 0, cells := 0, slots := 0, locals := 0 } cX10_tapeNumber 3 RX10 none) {M1 : Mem} {rec3 : Int32 → Int32 → Mem → Option Mem}
    (h3 : ∀ x1 x2 M, rec3 x1 x2 M = some M1 → Wt K X (QM K X none M1 0 0) 0 0 M 3 [(0, vr 64), (1, vi x1), (2, vi x2)] []) {x1 : Int32} {x2 : Int32} {M : Mem} (hF : f_X10_tapeNumber_b3_s rec3 x1 x2 M = some M1) : Wt K X (QM K X none M1 0 0) 0 0 M 3 [(0, vr 64), (1, vi x1), (2, vi x2)] [] := by
  unfold f_X10_tapeNumber_b3_s at hF
  refine w_iload_n hB 2 dX10_tapeNumber_3 rfl rfl ?_
  refine w_if_lt hB 46 dX10_tapeNumber_4 (by decide) (fun hc => ?_) (fun hc => ?_)
  · replace hF := ifT hc hF
    cases hF
    exact w_vret hB dX10_tapeNumber_46
  · replace hF := ifF hc hF
    refine w_aload_n hB 0 dX10_tapeNumber_7 rfl rfl ?_
    refine w_getI hB ff_X10_1 (soM hp.1 sh_64 (by decide)) q_384 dX10_tapeNumber_8 ?_
    refine w_sipush hB 600 (by decide) dX10_tapeNumber_11 ?_
    refine w_icmp_ge hB 46 dX10_tapeNumber_14 (by decide) (fun hc => ?_) (fun hc => ?_)
    · replace hF := ifT hc hF
      cases hF
      exact w_vret hB dX10_tapeNumber_46
    · replace hF := ifF hc hF
      refine w_aload_n hB 0 dX10_tapeNumber_17 rfl rfl ?_
      refine w_getC hB (v := 65) ff_X10_0 (soM hp.1 sh_64 (by decide)) hp.1 cr_64_0 (by decide) q_383 dX10_tapeNumber_18 ?_
      refine w_aload_n hB 0 dX10_tapeNumber_21 rfl rfl ?_
      refine w_getI hB ff_X10_1 (soM hp.1 sh_64 (by decide)) q_384 dX10_tapeNumber_22 ?_
      refine w_iload_n hB 1 dX10_tapeNumber_25 rfl rfl ?_
      refine w_iload_n hB 2 dX10_tapeNumber_26 rfl rfl ?_
      refine w_ishr hB dX10_tapeNumber_27 ?_
      refine w_i2b hB dX10_tapeNumber_28 ?_
      obtain ⟨g1, hF⟩ := gdS hF
      obtain ⟨M1m, e_M1m, hF⟩ := bndS hF
      refine w_bast hB (soM hp.1 sh_65 (by decide)) (sl_s sh_65 (by decide) sl_65) g1 e_M1m dX10_tapeNumber_29 ?_
      refine w_aload_n hB 0 dX10_tapeNumber_30 rfl rfl ?_
      refine w_dup hB rfl dX10_tapeNumber_31 ?_
      refine w_getI hB ff_X10_1 (soM hp.1 sh_64 (by decide)) q_384 dX10_tapeNumber_32 ?_
      refine w_iconst hB 1 (by decide) dX10_tapeNumber_35 ?_
      refine w_iadd hB dX10_tapeNumber_36 ?_
      obtain ⟨M2m, e_M2m, hF⟩ := bndS hF
      refine w_putI hB ff_X10_1 (soM hp.1 sh_64 (by decide)) q_384 e_M2m dX10_tapeNumber_37 ?_
      obtain ⟨a1, e_a1, hF⟩ := bndS hF
      refine w_iinc hB 2 (v := (-8)) (L' := [(2, vi a1), (0, vr 64), (1, vi x1)]) dX10_tapeNumber_40 rfl (by decide) (by decide) e_a1 rfl ?_
      refine w_goto hB 3 dX10_tapeNumber_43 (by decide) ?_
      exact Wt.sub (L' := [(0, vr 64), (1, vi x1), (2, vi a1)]) [1, 2, 0] rfl (h3 _ _ M2m hF)
theorem b_X10_tapeNumber_b3 {K : Kt} {X : Xt} (hp : St K) (hB : Bx K X { frames := 0, cells := 0, slots := 0, locals := 0 } cX10_tapeNumber 3 RX10 none) {M1 : Mem} (k : Nat) : ∀ (x1 : Int32) (x2 : Int32) M, f_X10_tapeNumber_b3 k x1 x2 M = some M1 → Wt K X (QM K X none M1 0 0) 0 0 M 3 [(0, vr 64), (1, vi x1), (2, vi x2)] [] := by
  refine lpN_ind (P := fun (f : Int32 → Int32 → Mem → Option Mem) => ∀ (x1 : Int32) (x2 : Int32) M, f x1 x2 M = some M1 → Wt K X (QM K X none M1 0 0) 0 0 M 3 [(0, vr 64), (1, vi x1), (2, vi x2)] []) (fun _ _ _ h => by cases h) (fun f hf x1 x2 M hF => ?_) k
  exact b_X10_tapeNumber_b3_s hp hB hf hF
set_option maxRecDepth 100000 in
set_option maxHeartbeats 4000000 in
theorem b_X10_tapeNumber {K : Kt} {X : Xt} (hp : St K) (hB : Bx K X { frames := 0, cells := 0, slots := 0, locals := 0 } cX10_tapeNumber 3 RX10 none) {M1 : Mem} {x1 : Int32} {M : Mem} (hF : f_X10_tapeNumber x1 M = some M1) : Wt K X (QM K X none M1 0 0) 0 0 M 0 [(0, vr 64), (1, vi x1)] [] := by
  unfold f_X10_tapeNumber at hF
  refine w_bipush hB 24 (by decide) dX10_tapeNumber_0 ?_
  refine w_istore_n hB (L' := [(2, vi 24), (0, vr 64), (1, vi x1)]) dX10_tapeNumber_2 rfl (by decide) rfl rfl ?_
  exact Wt.sub (L' := [(0, vr 64), (1, vi x1), (2, vi 24)]) [1, 2, 0] rfl (b_X10_tapeNumber_b3 hp hB fuel _ _ M hF)
theorem c_X10_tapeNumber {K : Kt} {l : Launch} (hp : St K) {M1 : Mem} {x1 : Int32} {M : Mem} (hF : f_X10_tapeNumber x1 M = some M1) : MT K l yX10_tapeNumber cX10_tapeNumber 3 none { frames := 0, cells := 0, slots := 0, locals := 0 } [vr 64, vi x1] M none M1 0 0 :=
  MT_of (by decide) rfl (Nat.le_of_ble_eq_true rfl) (fun X _ hB _ => b_X10_tapeNumber hp hB hF)
set_option maxRecDepth 100000 in
set_option maxHeartbeats 4000000 in
theorem b_X10_feed {K : Kt} {X : Xt} (hp : St K) (hB : Bx K X { frames := 1, cells := 0, slots := 0, locals := 22 } cX10_feed 6 RX10 (some .int)) {r : Int32} {M1 : Mem} {x1 : Int32} {x2 : Int32} {x3 : Int32} {x4 : Int32} {x5 : Int32} {M : Mem} (hF : f_X10_feed x1 x2 x3 x4 x5 M = some (r, M1)) : Wt K X (QM K X (some (vi r)) M1 0 0) 0 0 M 0 [(0, vr 64), (1, vi x1), (2, vi x2), (3, vi x3), (4, vi x4), (5, vi x5)] [] := by
  unfold f_X10_feed at hF
  refine w_aload_n hB 0 dX10_feed_0 rfl rfl ?_
  refine w_getI hB ff_X10_1 (soM hp.1 sh_64 (by decide)) q_384 dX10_feed_1 ?_
  refine w_bipush hB 20 (by decide) dX10_feed_4 ?_
  refine w_iadd hB dX10_feed_6 ?_
  refine w_sipush hB 600 (by decide) dX10_feed_7 ?_
  refine w_icmp_le hB 15 dX10_feed_10 (by decide) (fun hc => ?_) (fun hc => ?_)
  · replace hF := ifT hc hF
    refine w_aload_n hB 0 dX10_feed_15 rfl rfl ?_
    refine w_iload_n hB 1 dX10_feed_16 rfl rfl ?_
    obtain ⟨M1m, hc_M1m, hF⟩ := clvS hF
    refine w_callV hB (ci := 8) (As := [vi x1]) (st := []) cw_X10_65 q_894 q_6 rfl (soM hp.1 sh_64 (by decide)) (c_X10_tapeNumber hp hc_M1m) ⟨rfl, rfl⟩ (by decide) (by decide) rfl (Nat.le_of_ble_eq_true rfl) dX10_feed_17 rfl ?_
    refine w_aload_n hB 0 dX10_feed_20 rfl rfl ?_
    refine w_iload_n hB 2 dX10_feed_21 rfl rfl ?_
    obtain ⟨M2m, hc_M2m, hF⟩ := clvS hF
    refine w_callV hB (ci := 8) (As := [vi x2]) (st := []) cw_X10_65 q_894 q_6 rfl (soM hp.1 sh_64 (by decide)) (c_X10_tapeNumber hp hc_M2m) ⟨rfl, rfl⟩ (by decide) (by decide) rfl (Nat.le_of_ble_eq_true rfl) dX10_feed_22 rfl ?_
    refine w_aload_n hB 0 dX10_feed_25 rfl rfl ?_
    refine w_iload_n hB 3 dX10_feed_26 rfl rfl ?_
    obtain ⟨M3m, hc_M3m, hF⟩ := clvS hF
    refine w_callV hB (ci := 8) (As := [vi x3]) (st := []) cw_X10_65 q_894 q_6 rfl (soM hp.1 sh_64 (by decide)) (c_X10_tapeNumber hp hc_M3m) ⟨rfl, rfl⟩ (by decide) (by decide) rfl (Nat.le_of_ble_eq_true rfl) dX10_feed_27 rfl ?_
    refine w_aload_n hB 0 dX10_feed_30 rfl rfl ?_
    refine w_iload hB 4 dX10_feed_31 rfl ?_
    obtain ⟨M4m, hc_M4m, hF⟩ := clvS hF
    refine w_callV hB (ci := 8) (As := [vi x4]) (st := []) cw_X10_65 q_894 q_6 rfl (soM hp.1 sh_64 (by decide)) (c_X10_tapeNumber hp hc_M4m) ⟨rfl, rfl⟩ (by decide) (by decide) rfl (Nat.le_of_ble_eq_true rfl) dX10_feed_33 rfl ?_
    refine w_aload_n hB 0 dX10_feed_36 rfl rfl ?_
    refine w_iload hB 5 dX10_feed_37 rfl ?_
    obtain ⟨M5m, hc_M5m, hF⟩ := clvS hF
    refine w_callV hB (ci := 8) (As := [vi x5]) (st := []) cw_X10_65 q_894 q_6 rfl (soM hp.1 sh_64 (by decide)) (c_X10_tapeNumber hp hc_M5m) ⟨rfl, rfl⟩ (by decide) (by decide) rfl (Nat.le_of_ble_eq_true rfl) dX10_feed_39 rfl ?_
    refine w_aload_n hB 0 dX10_feed_42 rfl rfl ?_
    refine w_getI hB ff_X10_1 (soM hp.1 sh_64 (by decide)) q_384 dX10_feed_43 ?_
    obtain ⟨e1, e2⟩ := retS hF
    subst e2
    exact w_iret hB dX10_feed_46 e1
  · replace hF := ifF hc hF
    refine w_iconst hB (-1) (by decide) dX10_feed_13 ?_
    obtain ⟨e1, e2⟩ := retS hF
    subst e2
    exact w_iret hB dX10_feed_14 e1
theorem c_X10_feed {K : Kt} {l : Launch} (hp : St K) {r : Int32} {M1 : Mem} {x1 : Int32} {x2 : Int32} {x3 : Int32} {x4 : Int32} {x5 : Int32} {M : Mem} (hF : f_X10_feed x1 x2 x3 x4 x5 M = some (r, M1)) : MT K l yX10_feed cX10_feed 6 (some .int) { frames := 1, cells := 0, slots := 0, locals := 22 } [vr 64, vi x1, vi x2, vi x3, vi x4, vi x5] M (some (vi r)) M1 0 0 :=
  MT_of (by decide) rfl (Nat.le_of_ble_eq_true rfl) (fun X _ hB _ => b_X10_feed hp hB hF)
set_option maxRecDepth 100000 in
set_option maxHeartbeats 4000000 in
theorem b_X10_text_b129_s {K : Kt} {X : Xt} (hp : St K) (hB : Bx K X { frames := 7, cells := 0, slots := 0, locals := 152 } cX10_text 4 RX10 (some .int)) {r : Int32} {M1 : Mem} {rec129 : Int32 → Mem → Option (Int32 × Mem)}
    (h129 : ∀ x3 M, rec129 x3 M = some (r, M1) → Wt K X (QM K X (some (vi r)) M1 0 0) 0 0 M 129 [(0, vr 64), (3, vi x3)] []) {x3 : Int32} {M : Mem} (hF : f_X10_text_b129_s rec129 x3 M = some (r, M1)) : Wt K X (QM K X (some (vi r)) M1 0 0) 0 0 M 129 [(0, vr 64), (3, vi x3)] [] := by
  unfold f_X10_text_b129_s at hF
  refine w_iload_n hB 1 dX10_text_129 rfl rfl ?_
  refine w_iconst hB 2 (by decide) dX10_text_130 ?_
  refine w_icmp_ge hB 147 dX10_text_131 (by decide) (fun hc => ?_) (fun hc => ?_)
  · replace hF := ifT hc hF
    refine w_aload_n hB 0 dX10_text_147 rfl rfl ?_
    refine w_getR hB ff_X10_2 (soM hp.1 sh_64 (by decide)) q_385 dX10_text_148 ?_
    obtain ⟨g1, hF⟩ := gdS hF
    refine w_getI hB ff_X9_11 (soM hp.1 g1 (by decide)) q_232 dX10_text_151 ?_
    obtain ⟨e1, e2⟩ := retS hF
    subst e2
    exact w_iret hB dX10_text_154 e1
  · replace hF := ifF hc hF
    refine w_aload_n hB 0 dX10_text_134 rfl rfl ?_
    refine w_getC hB (v := 225) ff_X10_11 (soM hp.1 sh_64 (by decide)) hp.1 cr_64_11 (by decide) q_393 dX10_text_135 ?_
    refine w_iload_n hB 1 dX10_text_138 rfl rfl ?_
    refine w_iconst hB 0 (by decide) dX10_text_139 ?_
    obtain ⟨g2, hF⟩ := gdS hF
    obtain ⟨M1m, e_M1m, hF⟩ := bndS hF
    refine w_zast hB (soM hp.1 sh_225 (by decide)) (sl_s sh_225 (by decide) sl_225) g2 e_M1m dX10_text_140 ?_
    obtain ⟨a1, e_a1, hF⟩ := bndS hF
    refine w_iinc hB 1 (v := 1) (L' := [(3, vi a1), (0, vr 64)]) dX10_text_141 rfl (by decide) (by decide) e_a1 rfl ?_
    refine w_goto hB 129 dX10_text_144 (by decide) ?_
    exact Wt.sub (L' := [(0, vr 64), (3, vi a1)]) [1, 0] rfl (h129 _ M1m hF)
theorem b_X10_text_b129 {K : Kt} {X : Xt} (hp : St K) (hB : Bx K X { frames := 7, cells := 0, slots := 0, locals := 152 } cX10_text 4 RX10 (some .int)) {r : Int32} {M1 : Mem} (k : Nat) : ∀ (x3 : Int32) M, f_X10_text_b129 k x3 M = some (r, M1) → Wt K X (QM K X (some (vi r)) M1 0 0) 0 0 M 129 [(0, vr 64), (3, vi x3)] [] := by
  refine lpN_ind (P := fun (f : Int32 → Mem → Option (Int32 × Mem)) => ∀ (x3 : Int32) M, f x3 M = some (r, M1) → Wt K X (QM K X (some (vi r)) M1 0 0) 0 0 M 129 [(0, vr 64), (3, vi x3)] []) (fun _ _ h => by cases h) (fun f hf x3 M hF => ?_) k
  exact b_X10_text_b129_s hp hB hf hF
set_option maxRecDepth 100000 in
set_option maxHeartbeats 4000000 in
theorem b_X10_text_b93 {K : Kt} {X : Xt} (hp : St K) (hB : Bx K X { frames := 7, cells := 0, slots := 0, locals := 152 } cX10_text 4 RX10 (some .int)) {r : Int32} {M1 : Mem} {M : Mem} (hF : f_X10_text_b93 M = some (r, M1)) : Wt K X (QM K X (some (vi r)) M1 0 0) 0 0 M 93 [(0, vr 64)] [] := by
  unfold f_X10_text_b93 at hF
  refine w_aload_n hB 0 dX10_text_93 rfl rfl ?_
  refine w_getR hB ff_X10_2 (soM hp.1 sh_64 (by decide)) q_385 dX10_text_94 ?_
  obtain ⟨o1, e_o1, hF⟩ := bndS hF
  rw [← e_o1]
  refine w_astore_n hB (L' := [(2, vr o1), (0, vr 64)]) dX10_text_97 rfl (by decide) rfl ?_
  refine w_aload_n hB 1 dX10_text_98 rfl rfl ?_
  refine w_aload_n hB 1 dX10_text_99 rfl rfl ?_
  refine w_getR hB ff_X10_3 (soM hp.1 sh_64 (by decide)) q_386 dX10_text_100 ?_
  obtain ⟨M1m, e_M1m, hF⟩ := bndS hF
  refine w_putR (C := "ReplayBooth$Told") hB ff_X10_2 (soM hp.1 sh_64 (by decide)) q_385 (by decide +kernel) cr_64_2 e_M1m dX10_text_103 ?_
  refine w_aload_n hB 1 dX10_text_106 rfl rfl ?_
  refine w_aload_n hB 0 dX10_text_107 rfl rfl ?_
  obtain ⟨M2m, e_M2m, hF⟩ := bndS hF
  refine w_putR (C := "ReplayBooth$Told") hB ff_X10_3 (soM hp.1 sh_64 (by decide)) q_386 (by decide +kernel) cr_64_3 e_M2m dX10_text_108 ?_
  refine w_aload_n hB 1 dX10_text_111 rfl rfl ?_
  refine w_getC hB (v := 217) ff_X10_6 (soM hp.1 sh_64 (by decide)) hp.1 cr_64_6 (by decide) q_389 dX10_text_112 ?_
  refine w_aload_n hB 1 dX10_text_115 rfl rfl ?_
  refine w_getR hB ff_X10_2 (soM hp.1 sh_64 (by decide)) q_385 dX10_text_116 ?_
  obtain ⟨M3m, hc_M3m, hF⟩ := clvS hF
  refine w_callV hB (ci := 2) (As := [vr (M2m.2.2.1 64 2)]) (st := []) cw_X10_96 q_1093 q_1094 rfl (soM hp.1 sh_217 (by decide)) (c_X3_begin hp hc_M3m) ⟨rfl, rfl⟩ (by decide) (by decide) rfl (Nat.le_of_ble_eq_true rfl) dX10_text_119 rfl ?_
  refine w_aload_n hB 1 dX10_text_122 rfl rfl ?_
  refine w_iconst hB 0 (by decide) dX10_text_123 ?_
  obtain ⟨M4m, e_M4m, hF⟩ := bndS hF
  refine w_putI hB ff_X10_9 (soM hp.1 sh_64 (by decide)) q_391 e_M4m dX10_text_124 ?_
  refine w_iconst hB 0 (by decide) dX10_text_127 ?_
  refine w_istore_n hB (L' := [(3, vi 0), (2, vr o1), (0, vr 64)]) dX10_text_128 rfl (by decide) rfl rfl ?_
  exact Wt.sub (L' := [(0, vr 64), (3, vi 0)]) [2, 0] rfl (b_X10_text_b129 hp hB fuel _ M4m hF)
set_option maxRecDepth 100000 in
set_option maxHeartbeats 4000000 in
theorem b_X10_text_b76 {K : Kt} {X : Xt} (hp : St K) (hB : Bx K X { frames := 7, cells := 0, slots := 0, locals := 152 } cX10_text 4 RX10 (some .int)) {r : Int32} {M1 : Mem} {M : Mem} (hF : f_X10_text_b76 M = some (r, M1)) : Wt K X (QM K X (some (vi r)) M1 0 0) 0 0 M 76 [(0, vr 64)] [] := by
  unfold f_X10_text_b76 at hF
  refine w_bipush hB (-2) (by decide) dX10_text_76 ?_
  refine w_aload_n hB 0 dX10_text_78 rfl rfl ?_
  refine w_getC hB (v := 208) ff_X10_4 (soM hp.1 sh_64 (by decide)) hp.1 cr_64_4 (by decide) q_387 dX10_text_79 ?_
  refine w_getI hB ff_X7_8 (soM hp.1 sh_208 (by decide)) q_288 dX10_text_82 ?_
  refine w_isub hB dX10_text_85 ?_
  obtain ⟨e1, e2⟩ := retS hF
  subst e2
  exact w_iret hB dX10_text_86 e1
set_option maxRecDepth 100000 in
set_option maxHeartbeats 4000000 in
theorem b_X10_text_b33_s {K : Kt} {X : Xt} (hp : St K) (hB : Bx K X { frames := 7, cells := 0, slots := 0, locals := 152 } cX10_text 4 RX10 (some .int)) {r : Int32} {M1 : Mem} {rec33 : Int32 → Mem → Option (Int32 × Mem)}
    (h33 : ∀ x2 M, rec33 x2 M = some (r, M1) → Wt K X (QM K X (some (vi r)) M1 0 0) 0 0 M 33 [(0, vr 64), (2, vi x2)] []) {x2 : Int32} {M : Mem} (hF : f_X10_text_b33_s rec33 x2 M = some (r, M1)) : Wt K X (QM K X (some (vi r)) M1 0 0) 0 0 M 33 [(0, vr 64), (2, vi x2)] [] := by
  unfold f_X10_text_b33_s at hF
  refine w_iload_n hB 1 dX10_text_33 rfl rfl ?_
  refine w_sipush hB 600 (by decide) dX10_text_34 ?_
  refine w_icmp_gt hB 93 dX10_text_37 (by decide) (fun hc => ?_) (fun hc => ?_)
  · replace hF := ifT hc hF
    exact Wt.sub (L' := [(0, vr 64)]) [0] rfl (b_X10_text_b93 hp hB hF)
  · replace hF := ifF hc hF
    refine w_aload_n hB 0 dX10_text_40 rfl rfl ?_
    refine w_getC hB (v := 208) ff_X10_4 (soM hp.1 sh_64 (by decide)) hp.1 cr_64_4 (by decide) q_387 dX10_text_41 ?_
    refine w_getR hB ff_X7_4 (soM hp.1 sh_208 (by decide)) q_284 dX10_text_44 ?_
    refine w_gettok hB hp 1 ⟨by decide, by decide⟩ q_952 dX10_text_47 ?_
    obtain ⟨g1, hF⟩ := gdS hF
    refine w_acmp_eq hB 93 g1 (by decide) dX10_text_50 (by decide) (fun hc => ?_) (fun hc => ?_)
    · replace hF := ifT hc hF
      exact Wt.sub (L' := [(0, vr 64)]) [0] rfl (b_X10_text_b93 hp hB hF)
    · replace hF := ifF hc hF
      refine w_aload_n hB 0 dX10_text_53 rfl rfl ?_
      refine w_getC hB (v := 208) ff_X10_4 (soM hp.1 sh_64 (by decide)) hp.1 cr_64_4 (by decide) q_387 dX10_text_54 ?_
      obtain ⟨r1, M1m, hc_M1m, hF⟩ := clS hF
      refine w_callV hB (ci := 6) (As := []) (st := []) cw_X10_82 q_954 q_955 rfl (soM hp.1 sh_208 (by decide)) (c_X7_tellLine hp hc_M1m) ⟨rfl, rfl⟩ (by decide) (by decide) rfl (Nat.le_of_ble_eq_true rfl) dX10_text_57 rfl ?_
      refine w_if_eq hB 76 dX10_text_60 (by decide) (fun hc => ?_) (fun hc => ?_)
      · replace hF := ifT hc hF
        exact Wt.sub (L' := [(0, vr 64)]) [0] rfl (b_X10_text_b76 hp hB hF)
      · replace hF := ifF hc hF
        refine w_aload_n hB 0 dX10_text_63 rfl rfl ?_
        refine w_getC hB (v := 208) ff_X10_4 (soM hp.1 sh_64 (by decide)) hp.1 cr_64_4 (by decide) q_387 dX10_text_64 ?_
        refine w_gettok hB hp 5 ⟨by decide, by decide⟩ q_1090 dX10_text_67 ?_
        obtain ⟨r2, M2m, hc_M2m, hF⟩ := clS hF
        refine w_callV hB (ci := 6) (As := [vr 5]) (st := []) cw_X10_89 q_1048 q_1049 rfl (soM hp.1 sh_208 (by decide)) (c_X7_take hp hc_M2m) ⟨rfl, rfl⟩ (by decide) (by decide) rfl (Nat.le_of_ble_eq_true rfl) dX10_text_70 rfl ?_
        refine w_if_ne hB 87 dX10_text_73 (by decide) (fun hc => ?_) (fun hc => ?_)
        · replace hF := ifF hc hF
          obtain ⟨a1, e_a1, hF⟩ := bndS hF
          refine w_iinc hB 1 (v := 1) (L' := [(2, vi a1), (0, vr 64)]) dX10_text_87 rfl (by decide) (by decide) e_a1 rfl ?_
          refine w_goto hB 33 dX10_text_90 (by decide) ?_
          exact Wt.sub (L' := [(0, vr 64), (2, vi a1)]) [1, 0] rfl (h33 _ M2m hF)
        · replace hF := ifT hc hF
          exact Wt.sub (L' := [(0, vr 64)]) [0] rfl (b_X10_text_b76 hp hB hF)
theorem b_X10_text_b33 {K : Kt} {X : Xt} (hp : St K) (hB : Bx K X { frames := 7, cells := 0, slots := 0, locals := 152 } cX10_text 4 RX10 (some .int)) {r : Int32} {M1 : Mem} (k : Nat) : ∀ (x2 : Int32) M, f_X10_text_b33 k x2 M = some (r, M1) → Wt K X (QM K X (some (vi r)) M1 0 0) 0 0 M 33 [(0, vr 64), (2, vi x2)] [] := by
  refine lpN_ind (P := fun (f : Int32 → Mem → Option (Int32 × Mem)) => ∀ (x2 : Int32) M, f x2 M = some (r, M1) → Wt K X (QM K X (some (vi r)) M1 0 0) 0 0 M 33 [(0, vr 64), (2, vi x2)] []) (fun _ _ h => by cases h) (fun f hf x2 M hF => ?_) k
  exact b_X10_text_b33_s hp hB hf hF
set_option maxRecDepth 100000 in
set_option maxHeartbeats 4000000 in
theorem b_X10_text {K : Kt} {X : Xt} (hp : St K) (hB : Bx K X { frames := 7, cells := 0, slots := 0, locals := 152 } cX10_text 4 RX10 (some .int)) {r : Int32} {M1 : Mem} {x1 : Int32} {M : Mem} (hF : f_X10_text x1 M = some (r, M1)) : Wt K X (QM K X (some (vi r)) M1 0 0) 0 0 M 0 [(0, vr 64), (1, vi x1)] [] := by
  unfold f_X10_text at hF
  refine w_iload_n hB 1 dX10_text_0 rfl rfl ?_
  refine w_if_lt hB 12 dX10_text_1 (by decide) (fun hc => ?_) (fun hc => ?_)
  · replace hF := ifT hc hF
    refine w_iconst hB (-1) (by decide) dX10_text_12 ?_
    obtain ⟨e1, e2⟩ := retS hF
    subst e2
    exact w_iret hB dX10_text_13 e1
  · replace hF := ifF hc hF
    refine w_iload_n hB 1 dX10_text_4 rfl rfl ?_
    refine w_aload_n hB 0 dX10_text_5 rfl rfl ?_
    refine w_getI hB ff_X10_1 (soM hp.1 sh_64 (by decide)) q_384 dX10_text_6 ?_
    refine w_icmp_le hB 14 dX10_text_9 (by decide) (fun hc => ?_) (fun hc => ?_)
    · replace hF := ifT hc hF
      refine w_aload_n hB 0 dX10_text_14 rfl rfl ?_
      refine w_iconst hB 0 (by decide) dX10_text_15 ?_
      obtain ⟨M1m, e_M1m, hF⟩ := bndS hF
      refine w_putI hB ff_X10_1 (soM hp.1 sh_64 (by decide)) q_384 e_M1m dX10_text_16 ?_
      refine w_aload_n hB 0 dX10_text_19 rfl rfl ?_
      refine w_getC hB (v := 208) ff_X10_4 (soM hp.1 sh_64 (by decide)) hp.1 cr_64_4 (by decide) q_387 dX10_text_20 ?_
      refine w_aload_n hB 0 dX10_text_23 rfl rfl ?_
      refine w_getR hB ff_X10_3 (soM hp.1 sh_64 (by decide)) q_386 dX10_text_24 ?_
      refine w_iload_n hB 1 dX10_text_27 rfl rfl ?_
      obtain ⟨M2m, hc_M2m, hF⟩ := clvS hF
      refine w_callV hB (ci := 6) (As := [vr (M1m.2.2.1 64 3), vi x1]) (st := []) cw_X10_69 q_901 q_902 rfl (soM hp.1 sh_208 (by decide)) (c_X7_begin hp hc_M2m) ⟨rfl, rfl⟩ (by decide) (by decide) rfl (Nat.le_of_ble_eq_true rfl) dX10_text_28 rfl ?_
      refine w_iconst hB 0 (by decide) dX10_text_31 ?_
      refine w_istore_n hB (L' := [(2, vi 0), (0, vr 64), (1, vi x1)]) dX10_text_32 rfl (by decide) rfl rfl ?_
      exact Wt.sub (L' := [(0, vr 64), (2, vi 0)]) [1, 0] rfl (b_X10_text_b33 hp hB fuel _ M2m hF)
    · replace hF := ifF hc hF
      refine w_iconst hB (-1) (by decide) dX10_text_12 ?_
      obtain ⟨e1, e2⟩ := retS hF
      subst e2
      exact w_iret hB dX10_text_13 e1
theorem c_X10_text {K : Kt} {l : Launch} (hp : St K) {r : Int32} {M1 : Mem} {x1 : Int32} {M : Mem} (hF : f_X10_text x1 M = some (r, M1)) : MT K l yX10_text cX10_text 4 (some .int) { frames := 7, cells := 0, slots := 0, locals := 152 } [vr 64, vi x1] M (some (vi r)) M1 0 0 :=
  MT_of (by decide) rfl (Nat.le_of_ble_eq_true rfl) (fun X _ hB _ => b_X10_text hp hB hF)
set_option maxRecDepth 100000 in
set_option maxHeartbeats 4000000 in
theorem b_X10_camera {K : Kt} {X : Xt} (hp : St K) (hB : Bx K X { frames := 1, cells := 0, slots := 0, locals := 21 } cX10_camera 3 RX10 (some .int)) {r : Int32} {M1 : Mem} {x1 : Int32} {x2 : Int32} {M : Mem} (hF : f_X10_camera x1 x2 M = some (r, M1)) : Wt K X (QM K X (some (vi r)) M1 0 0) 0 0 M 0 [(0, vr 64), (1, vi x1), (2, vi x2)] [] := by
  unfold f_X10_camera at hF
  refine w_iload_n hB 1 dX10_camera_0 rfl rfl ?_
  refine w_if_lt hB 15 dX10_camera_1 (by decide) (fun hc => ?_) (fun hc => ?_)
  · replace hF := ifT hc hF
    refine w_iconst hB (-1) (by decide) dX10_camera_15 ?_
    obtain ⟨e1, e2⟩ := retS hF
    subst e2
    exact w_iret hB dX10_camera_16 e1
  · replace hF := ifF hc hF
    refine w_iload_n hB 1 dX10_camera_4 rfl rfl ?_
    refine w_aload_n hB 0 dX10_camera_5 rfl rfl ?_
    refine w_getR hB ff_X10_2 (soM hp.1 sh_64 (by decide)) q_385 dX10_camera_6 ?_
    obtain ⟨g1, hF⟩ := gdS hF
    refine w_getI hB ff_X9_0 (soM hp.1 g1 (by decide)) q_197 dX10_camera_9 ?_
    refine w_icmp_lt hB 17 dX10_camera_12 (by decide) (fun hc => ?_) (fun hc => ?_)
    · replace hF := ifT hc hF
      refine w_iload_n hB 2 dX10_camera_17 rfl rfl ?_
      by_cases ht0 : x2 = 0
      · replace hF := ifT ht0 hF
        refine w_tsIn hB 48 dX10_camera_18 (off := 30) (by rw [ht0]; decide) (by rw [ht0]; decide) (by rw [ht0]; rfl) (by decide) ?_
        refine w_aload_n hB 0 dX10_camera_48 rfl rfl ?_
        refine w_getR hB ff_X10_2 (soM hp.1 sh_64 (by decide)) q_385 dX10_camera_49 ?_
        refine w_getC hB (v := cr (M.2.2.1 64 2) 1) ff_X9_1 (soM hp.1 g1 (by decide)) hp.1 rfl (shc_ne (crc_8_1 g1).1) q_201 dX10_camera_52 ?_
        refine w_iload_n hB 1 dX10_camera_55 rfl rfl ?_
        obtain ⟨g2, hF⟩ := gdS hF
        refine w_iald hB (soM hp.1 (crc_8_1 g1).1 (by decide)) (sl_s (crc_8_1 g1).1 (by decide) (crc_8_1 g1).2) g2 dX10_camera_56 ?_
        obtain ⟨e1, e2⟩ := retS hF
        subst e2
        exact w_iret hB dX10_camera_57 e1
      replace hF := ifF ht0 hF
      by_cases ht1 : x2 = 1
      · replace hF := ifT ht1 hF
        refine w_tsIn hB 58 dX10_camera_18 (off := 40) (by rw [ht1]; decide) (by rw [ht1]; decide) (by rw [ht1]; rfl) (by decide) ?_
        refine w_aload_n hB 0 dX10_camera_58 rfl rfl ?_
        refine w_getR hB ff_X10_2 (soM hp.1 sh_64 (by decide)) q_385 dX10_camera_59 ?_
        refine w_getC hB (v := cr (M.2.2.1 64 2) 2) ff_X9_2 (soM hp.1 g1 (by decide)) hp.1 rfl (shc_ne (crc_8_2 g1).1) q_204 dX10_camera_62 ?_
        refine w_iload_n hB 1 dX10_camera_65 rfl rfl ?_
        obtain ⟨g3, hF⟩ := gdS hF
        refine w_iald hB (soM hp.1 (crc_8_2 g1).1 (by decide)) (sl_s (crc_8_2 g1).1 (by decide) (crc_8_2 g1).2) g3 dX10_camera_66 ?_
        obtain ⟨e1, e2⟩ := retS hF
        subst e2
        exact w_iret hB dX10_camera_67 e1
      replace hF := ifF ht1 hF
      by_cases ht2 : x2 = 2
      · replace hF := ifT ht2 hF
        refine w_tsIn hB 68 dX10_camera_18 (off := 50) (by rw [ht2]; decide) (by rw [ht2]; decide) (by rw [ht2]; rfl) (by decide) ?_
        refine w_aload_n hB 0 dX10_camera_68 rfl rfl ?_
        refine w_getR hB ff_X10_2 (soM hp.1 sh_64 (by decide)) q_385 dX10_camera_69 ?_
        refine w_getC hB (v := cr (M.2.2.1 64 2) 4) ff_X9_4 (soM hp.1 g1 (by decide)) hp.1 rfl (shc_ne (crc_8_4 g1).1) q_211 dX10_camera_72 ?_
        refine w_getI hB ff_X2_1 (soM hp.1 (crc_8_4 g1).1 (by decide)) q_60 dX10_camera_75 ?_
        refine w_if_eq hB 86 dX10_camera_78 (by decide) (fun hc => ?_) (fun hc => ?_)
        · replace hF := ifT hc hF
          refine w_aload_n hB 0 dX10_camera_86 rfl rfl ?_
          refine w_getR hB ff_X10_2 (soM hp.1 sh_64 (by decide)) q_385 dX10_camera_87 ?_
          refine w_getC hB (v := cr (M.2.2.1 64 2) 4) ff_X9_4 (soM hp.1 g1 (by decide)) hp.1 rfl (shc_ne (crc_8_4 g1).1) q_211 dX10_camera_90 ?_
          refine w_iload_n hB 1 dX10_camera_93 rfl rfl ?_
          obtain ⟨r1, M1m, hc_M1m, hF⟩ := clS hF
          refine w_callV hB (ci := 1) (As := [vi x1]) (st := []) cw_X10_124 q_1177 q_1178 rfl (soM hp.1 (crc_8_4 g1).1 (by decide)) (c_X2_lateLeast hp hc_M1m) ⟨rfl, rfl⟩ (by decide) (by decide) rfl (Nat.le_of_ble_eq_true rfl) dX10_camera_94 rfl ?_
          obtain ⟨e1, e2⟩ := retS hF
          subst e2
          exact w_iret hB dX10_camera_97 e1
        · replace hF := ifF hc hF
          refine w_bipush hB (-2) (by decide) dX10_camera_81 ?_
          refine w_goto hB 97 dX10_camera_83 (by decide) ?_
          obtain ⟨e1, e2⟩ := retS hF
          subst e2
          exact w_iret hB dX10_camera_97 e1
      replace hF := ifF ht2 hF
      by_cases ht3 : x2 = 3
      · replace hF := ifT ht3 hF
        refine w_tsIn hB 98 dX10_camera_18 (off := 80) (by rw [ht3]; decide) (by rw [ht3]; decide) (by rw [ht3]; rfl) (by decide) ?_
        refine w_aload_n hB 0 dX10_camera_98 rfl rfl ?_
        refine w_getR hB ff_X10_2 (soM hp.1 sh_64 (by decide)) q_385 dX10_camera_99 ?_
        refine w_getC hB (v := cr (M.2.2.1 64 2) 4) ff_X9_4 (soM hp.1 g1 (by decide)) hp.1 rfl (shc_ne (crc_8_4 g1).1) q_211 dX10_camera_102 ?_
        refine w_getI hB ff_X2_1 (soM hp.1 (crc_8_4 g1).1 (by decide)) q_60 dX10_camera_105 ?_
        refine w_if_eq hB 116 dX10_camera_108 (by decide) (fun hc => ?_) (fun hc => ?_)
        · replace hF := ifT hc hF
          refine w_aload_n hB 0 dX10_camera_116 rfl rfl ?_
          refine w_getR hB ff_X10_2 (soM hp.1 sh_64 (by decide)) q_385 dX10_camera_117 ?_
          refine w_getC hB (v := cr (M.2.2.1 64 2) 4) ff_X9_4 (soM hp.1 g1 (by decide)) hp.1 rfl (shc_ne (crc_8_4 g1).1) q_211 dX10_camera_120 ?_
          refine w_iload_n hB 1 dX10_camera_123 rfl rfl ?_
          obtain ⟨r2, M2m, hc_M2m, hF⟩ := clS hF
          refine w_callV hB (ci := 1) (As := [vi x1]) (st := []) cw_X10_127 q_1181 q_1182 rfl (soM hp.1 (crc_8_4 g1).1 (by decide)) (c_X2_lateMost hp hc_M2m) ⟨rfl, rfl⟩ (by decide) (by decide) rfl (Nat.le_of_ble_eq_true rfl) dX10_camera_124 rfl ?_
          obtain ⟨e1, e2⟩ := retS hF
          subst e2
          exact w_iret hB dX10_camera_127 e1
        · replace hF := ifF hc hF
          refine w_bipush hB (-2) (by decide) dX10_camera_111 ?_
          refine w_goto hB 127 dX10_camera_113 (by decide) ?_
          obtain ⟨e1, e2⟩ := retS hF
          subst e2
          exact w_iret hB dX10_camera_127 e1
      replace hF := ifF ht3 hF
      have tht0 := lv_neT ht0 (show (0 : Int32).toInt = 0 by decide)
      have tht1 := lv_neT ht1 (show (1 : Int32).toInt = 1 by decide)
      have tht2 := lv_neT ht2 (show (2 : Int32).toInt = 2 by decide)
      have tht3 := lv_neT ht3 (show (3 : Int32).toInt = 3 by decide)
      refine w_tsOut hB 128 dX10_camera_18 (by omega) (by decide) ?_
      refine w_iconst hB (-1) (by decide) dX10_camera_128 ?_
      obtain ⟨e1, e2⟩ := retS hF
      subst e2
      exact w_iret hB dX10_camera_129 e1
    · replace hF := ifF hc hF
      refine w_iconst hB (-1) (by decide) dX10_camera_15 ?_
      obtain ⟨e1, e2⟩ := retS hF
      subst e2
      exact w_iret hB dX10_camera_16 e1
theorem c_X10_camera {K : Kt} {l : Launch} (hp : St K) {r : Int32} {M1 : Mem} {x1 : Int32} {x2 : Int32} {M : Mem} (hF : f_X10_camera x1 x2 M = some (r, M1)) : MT K l yX10_camera cX10_camera 3 (some .int) { frames := 1, cells := 0, slots := 0, locals := 21 } [vr 64, vi x1, vi x2] M (some (vi r)) M1 0 0 :=
  MT_of (by decide) rfl (Nat.le_of_ble_eq_true rfl) (fun X _ hB _ => b_X10_camera hp hB hF)
set_option maxRecDepth 100000 in
set_option maxHeartbeats 4000000 in
theorem b_X10_isPlay {K : Kt} {X : Xt} (hp : St K) (hB : Bx K X { frames := 0, cells := 0, slots := 0, locals := 0 } cX10_isPlay 2 RX10 (some .boolean)) {r : Int32} {M1 : Mem} {x1 : Int32} {M : Mem} (hF : f_X10_isPlay x1 M = some (r, M1)) : Wt K X (QM K X (some (vi r)) M1 0 0) 0 0 M 0 [(0, vr 64), (1, vi x1)] [] := by
  unfold f_X10_isPlay at hF
  refine w_iload_n hB 1 dX10_isPlay_0 rfl rfl ?_
  refine w_if_lt hB 19 dX10_isPlay_1 (by decide) (fun hc => ?_) (fun hc => ?_)
  · replace hF := ifT hc hF
    refine w_iconst hB 0 (by decide) dX10_isPlay_19 ?_
    obtain ⟨e1, e2⟩ := retS hF
    subst e2
    exact w_zret hB (by decide) dX10_isPlay_20 e1
  · replace hF := ifF hc hF
    refine w_iload_n hB 1 dX10_isPlay_4 rfl rfl ?_
    refine w_aload_n hB 0 dX10_isPlay_5 rfl rfl ?_
    refine w_getR hB ff_X10_2 (soM hp.1 sh_64 (by decide)) q_385 dX10_isPlay_6 ?_
    obtain ⟨g1, hF⟩ := gdS hF
    refine w_getI hB ff_X9_11 (soM hp.1 g1 (by decide)) q_232 dX10_isPlay_9 ?_
    refine w_icmp_ge hB 19 dX10_isPlay_12 (by decide) (fun hc => ?_) (fun hc => ?_)
    · replace hF := ifT hc hF
      refine w_iconst hB 0 (by decide) dX10_isPlay_19 ?_
      obtain ⟨e1, e2⟩ := retS hF
      subst e2
      exact w_zret hB (by decide) dX10_isPlay_20 e1
    · replace hF := ifF hc hF
      refine w_iconst hB 1 (by decide) dX10_isPlay_15 ?_
      refine w_goto hB 20 dX10_isPlay_16 (by decide) ?_
      obtain ⟨e1, e2⟩ := retS hF
      subst e2
      exact w_zret hB (by decide) dX10_isPlay_20 e1
theorem c_X10_isPlay {K : Kt} {l : Launch} (hp : St K) {r : Int32} {M1 : Mem} {x1 : Int32} {M : Mem} (hF : f_X10_isPlay x1 M = some (r, M1)) : MT K l yX10_isPlay cX10_isPlay 2 (some .boolean) { frames := 0, cells := 0, slots := 0, locals := 0 } [vr 64, vi x1] M (some (vi r)) M1 0 0 :=
  MT_of (by decide) rfl (Nat.le_of_ble_eq_true rfl) (fun X _ hB _ => b_X10_isPlay hp hB hF)
set_option maxRecDepth 100000 in
set_option maxHeartbeats 4000000 in
theorem b_X10_play {K : Kt} {X : Xt} (hp : St K) (hB : Bx K X { frames := 1, cells := 0, slots := 0, locals := 21 } cX10_play 4 RX10 (some .int)) {r : Int32} {M1 : Mem} {x1 : Int32} {x2 : Int32} {M : Mem} (hF : f_X10_play x1 x2 M = some (r, M1)) : Wt K X (QM K X (some (vi r)) M1 0 0) 0 0 M 0 [(0, vr 64), (1, vi x1), (2, vi x2)] [] := by
  unfold f_X10_play at hF
  refine w_aload_n hB 0 dX10_play_0 rfl rfl ?_
  refine w_iload_n hB 1 dX10_play_1 rfl rfl ?_
  obtain ⟨r1, M1m, hc_M1m, hF⟩ := clS hF
  refine w_callV hB (ci := 8) (As := [vi x1]) (st := []) cw_X10_184 q_432 q_0 rfl (soM hp.1 sh_64 (by decide)) (c_X10_isPlay hp hc_M1m) ⟨rfl, rfl⟩ (by decide) (by decide) rfl (Nat.le_of_ble_eq_true rfl) dX10_play_2 rfl ?_
  refine w_if_ne hB 10 dX10_play_5 (by decide) (fun hc => ?_) (fun hc => ?_)
  · replace hF := ifF hc hF
    refine w_aload_n hB 0 dX10_play_10 rfl rfl ?_
    refine w_getR hB ff_X10_2 (soM hp.1 sh_64 (by decide)) q_385 dX10_play_11 ?_
    obtain ⟨g1, hF⟩ := gdS hF
    refine w_getC hB (v := cr (M1m.2.2.1 64 2) 12) ff_X9_12 (soM hp.1 g1 (by decide)) hp.1 rfl (shc_ne (crc_8_12 g1).1) q_235 dX10_play_14 ?_
    refine w_iload_n hB 1 dX10_play_17 rfl rfl ?_
    obtain ⟨g2, hF⟩ := gdS hF
    refine w_aaldC hB (c := 6) (v := cr (cr (M1m.2.2.1 64 2) 12) x1.toNatClampNeg) (soM hp.1 (crc_8_12 g1).1 (by decide)) rfl (by decide) hp.1 (sl_s (crc_8_12 g1).1 (by decide) (crc_8_12 g1).2) g2 rfl (shc_ne (cre_26 (crc_8_12 g1).1 (by rw [(crc_8_12 g1).2]; exact inb_lt g2))) dX10_play_18 ?_
    obtain ⟨o1, e_o1, hF⟩ := bndS hF
    rw [← e_o1]
    refine w_astore_n hB (L' := [(3, vr o1), (0, vr 64), (1, vi x1), (2, vi x2)]) dX10_play_19 rfl (by decide) rfl ?_
    refine w_iload_n hB 3 dX10_play_20 rfl rfl ?_
    by_cases ht0 : x2 = 0
    · replace hF := ifT ht0 hF
      refine w_tsIn hB 72 dX10_play_21 (off := 51) (by rw [ht0]; decide) (by rw [ht0]; decide) (by rw [ht0]; rfl) (by decide) ?_
      refine w_aload_n hB 0 dX10_play_72 rfl rfl ?_
      refine w_getI hB ff_X6_0 (soM hp.1 (by rw [e_o1]; exact (cre_26 (crc_8_12 g1).1 (by rw [(crc_8_12 g1).2]; exact inb_lt g2))) (by decide)) q_124 dX10_play_73 ?_
      obtain ⟨e1, e2⟩ := retS hF
      subst e2
      exact w_iret hB dX10_play_76 e1
    replace hF := ifF ht0 hF
    by_cases ht1 : x2 = 1
    · replace hF := ifT ht1 hF
      refine w_tsIn hB 77 dX10_play_21 (off := 56) (by rw [ht1]; decide) (by rw [ht1]; decide) (by rw [ht1]; rfl) (by decide) ?_
      refine w_aload_n hB 0 dX10_play_77 rfl rfl ?_
      refine w_getI hB ff_X6_1 (soM hp.1 (by rw [e_o1]; exact (cre_26 (crc_8_12 g1).1 (by rw [(crc_8_12 g1).2]; exact inb_lt g2))) (by decide)) q_127 dX10_play_78 ?_
      obtain ⟨e1, e2⟩ := retS hF
      subst e2
      exact w_iret hB dX10_play_81 e1
    replace hF := ifF ht1 hF
    by_cases ht2 : x2 = 2
    · replace hF := ifT ht2 hF
      refine w_tsIn hB 82 dX10_play_21 (off := 61) (by rw [ht2]; decide) (by rw [ht2]; decide) (by rw [ht2]; rfl) (by decide) ?_
      refine w_aload_n hB 0 dX10_play_82 rfl rfl ?_
      refine w_getI hB ff_X6_2 (soM hp.1 (by rw [e_o1]; exact (cre_26 (crc_8_12 g1).1 (by rw [(crc_8_12 g1).2]; exact inb_lt g2))) (by decide)) q_129 dX10_play_83 ?_
      obtain ⟨e1, e2⟩ := retS hF
      subst e2
      exact w_iret hB dX10_play_86 e1
    replace hF := ifF ht2 hF
    by_cases ht3 : x2 = 3
    · replace hF := ifT ht3 hF
      refine w_tsIn hB 87 dX10_play_21 (off := 66) (by rw [ht3]; decide) (by rw [ht3]; decide) (by rw [ht3]; rfl) (by decide) ?_
      refine w_aload_n hB 0 dX10_play_87 rfl rfl ?_
      refine w_getI hB ff_X6_3 (soM hp.1 (by rw [e_o1]; exact (cre_26 (crc_8_12 g1).1 (by rw [(crc_8_12 g1).2]; exact inb_lt g2))) (by decide)) q_131 dX10_play_88 ?_
      obtain ⟨e1, e2⟩ := retS hF
      subst e2
      exact w_iret hB dX10_play_91 e1
    replace hF := ifF ht3 hF
    by_cases ht4 : x2 = 4
    · replace hF := ifT ht4 hF
      refine w_tsIn hB 92 dX10_play_21 (off := 71) (by rw [ht4]; decide) (by rw [ht4]; decide) (by rw [ht4]; rfl) (by decide) ?_
      refine w_aload_n hB 0 dX10_play_92 rfl rfl ?_
      refine w_getI hB ff_X6_4 (soM hp.1 (by rw [e_o1]; exact (cre_26 (crc_8_12 g1).1 (by rw [(crc_8_12 g1).2]; exact inb_lt g2))) (by decide)) q_133 dX10_play_93 ?_
      obtain ⟨e1, e2⟩ := retS hF
      subst e2
      exact w_iret hB dX10_play_96 e1
    replace hF := ifF ht4 hF
    by_cases ht5 : x2 = 5
    · replace hF := ifT ht5 hF
      refine w_tsIn hB 97 dX10_play_21 (off := 76) (by rw [ht5]; decide) (by rw [ht5]; decide) (by rw [ht5]; rfl) (by decide) ?_
      refine w_aload_n hB 0 dX10_play_97 rfl rfl ?_
      refine w_getI hB ff_X6_5 (soM hp.1 (by rw [e_o1]; exact (cre_26 (crc_8_12 g1).1 (by rw [(crc_8_12 g1).2]; exact inb_lt g2))) (by decide)) q_137 dX10_play_98 ?_
      obtain ⟨e1, e2⟩ := retS hF
      subst e2
      exact w_iret hB dX10_play_101 e1
    replace hF := ifF ht5 hF
    by_cases ht6 : x2 = 6
    · replace hF := ifT ht6 hF
      refine w_tsIn hB 102 dX10_play_21 (off := 81) (by rw [ht6]; decide) (by rw [ht6]; decide) (by rw [ht6]; rfl) (by decide) ?_
      refine w_iload_n hB 2 dX10_play_102 rfl rfl ?_
      refine w_aload_n hB 1 dX10_play_103 rfl rfl ?_
      refine w_getC hB (v := 217) ff_X10_6 (soM hp.1 sh_64 (by decide)) hp.1 cr_64_6 (by decide) q_389 dX10_play_104 ?_
      refine w_getI hB ff_X3_0 (soM hp.1 sh_217 (by decide)) q_350 dX10_play_107 ?_
      refine w_icmp_ge hB 124 dX10_play_110 (by decide) (fun hc => ?_) (fun hc => ?_)
      · replace hF := ifT hc hF
        refine w_bipush hB (-2) (by decide) dX10_play_124 ?_
        obtain ⟨e1, e2⟩ := retS hF
        subst e2
        exact w_iret hB dX10_play_126 e1
      · replace hF := ifF hc hF
        refine w_aload_n hB 1 dX10_play_113 rfl rfl ?_
        refine w_getC hB (v := 217) ff_X10_6 (soM hp.1 sh_64 (by decide)) hp.1 cr_64_6 (by decide) q_389 dX10_play_114 ?_
        refine w_iload_n hB 2 dX10_play_117 rfl rfl ?_
        obtain ⟨r2, M2m, hc_M2m, hF⟩ := clS hF
        refine w_callV hB (ci := 2) (As := [vi x1]) (st := []) cw_X10_178 q_435 q_436 rfl (soM hp.1 sh_217 (by decide)) (c_X3_call hp hc_M2m) ⟨rfl, rfl⟩ (by decide) (by decide) rfl (Nat.le_of_ble_eq_true rfl) dX10_play_118 rfl ?_
        refine w_goto hB 126 dX10_play_121 (by decide) ?_
        obtain ⟨e1, e2⟩ := retS hF
        subst e2
        exact w_iret hB dX10_play_126 e1
    replace hF := ifF ht6 hF
    by_cases ht7 : x2 = 7
    · replace hF := ifT ht7 hF
      refine w_tsIn hB 127 dX10_play_21 (off := 106) (by rw [ht7]; decide) (by rw [ht7]; decide) (by rw [ht7]; rfl) (by decide) ?_
      refine w_aload_n hB 1 dX10_play_127 rfl rfl ?_
      refine w_getC hB (v := 217) ff_X10_6 (soM hp.1 sh_64 (by decide)) hp.1 cr_64_6 (by decide) q_389 dX10_play_128 ?_
      refine w_iload_n hB 2 dX10_play_131 rfl rfl ?_
      obtain ⟨r3, M3m, hc_M3m, hF⟩ := clS hF
      refine w_callV hB (ci := 2) (As := [vi x1]) (st := []) cw_X10_197 q_439 q_440 rfl (soM hp.1 sh_217 (by decide)) (c_X3_isReviewed hp hc_M3m) ⟨rfl, rfl⟩ (by decide) (by decide) rfl (Nat.le_of_ble_eq_true rfl) dX10_play_132 rfl ?_
      refine w_if_eq hB 142 dX10_play_135 (by decide) (fun hc => ?_) (fun hc => ?_)
      · replace hF := ifT hc hF
        refine w_iconst hB 0 (by decide) dX10_play_142 ?_
        obtain ⟨e1, e2⟩ := retS hF
        subst e2
        exact w_iret hB dX10_play_143 e1
      · replace hF := ifF hc hF
        refine w_iconst hB 1 (by decide) dX10_play_138 ?_
        refine w_goto hB 143 dX10_play_139 (by decide) ?_
        obtain ⟨e1, e2⟩ := retS hF
        subst e2
        exact w_iret hB dX10_play_143 e1
    replace hF := ifF ht7 hF
    by_cases ht8 : x2 = 8
    · replace hF := ifT ht8 hF
      refine w_tsIn hB 144 dX10_play_21 (off := 123) (by rw [ht8]; decide) (by rw [ht8]; decide) (by rw [ht8]; rfl) (by decide) ?_
      refine w_aload_n hB 1 dX10_play_144 rfl rfl ?_
      refine w_getC hB (v := 217) ff_X10_6 (soM hp.1 sh_64 (by decide)) hp.1 cr_64_6 (by decide) q_389 dX10_play_145 ?_
      refine w_iload_n hB 2 dX10_play_148 rfl rfl ?_
      obtain ⟨r4, M4m, hc_M4m, hF⟩ := clS hF
      refine w_callV hB (ci := 2) (As := [vi x1]) (st := []) cw_X10_200 q_443 q_444 rfl (soM hp.1 sh_217 (by decide)) (c_X3_isBoarded hp hc_M4m) ⟨rfl, rfl⟩ (by decide) (by decide) rfl (Nat.le_of_ble_eq_true rfl) dX10_play_149 rfl ?_
      refine w_if_eq hB 159 dX10_play_152 (by decide) (fun hc => ?_) (fun hc => ?_)
      · replace hF := ifT hc hF
        refine w_iconst hB 0 (by decide) dX10_play_159 ?_
        obtain ⟨e1, e2⟩ := retS hF
        subst e2
        exact w_iret hB dX10_play_160 e1
      · replace hF := ifF hc hF
        refine w_iconst hB 1 (by decide) dX10_play_155 ?_
        refine w_goto hB 160 dX10_play_156 (by decide) ?_
        obtain ⟨e1, e2⟩ := retS hF
        subst e2
        exact w_iret hB dX10_play_160 e1
    replace hF := ifF ht8 hF
    have tht0 := lv_neT ht0 (show (0 : Int32).toInt = 0 by decide)
    have tht1 := lv_neT ht1 (show (1 : Int32).toInt = 1 by decide)
    have tht2 := lv_neT ht2 (show (2 : Int32).toInt = 2 by decide)
    have tht3 := lv_neT ht3 (show (3 : Int32).toInt = 3 by decide)
    have tht4 := lv_neT ht4 (show (4 : Int32).toInt = 4 by decide)
    have tht5 := lv_neT ht5 (show (5 : Int32).toInt = 5 by decide)
    have tht6 := lv_neT ht6 (show (6 : Int32).toInt = 6 by decide)
    have tht7 := lv_neT ht7 (show (7 : Int32).toInt = 7 by decide)
    have tht8 := lv_neT ht8 (show (8 : Int32).toInt = 8 by decide)
    refine w_tsOut hB 161 dX10_play_21 (by omega) (by decide) ?_
    refine w_iconst hB (-1) (by decide) dX10_play_161 ?_
    obtain ⟨e1, e2⟩ := retS hF
    subst e2
    exact w_iret hB dX10_play_162 e1
  · replace hF := ifT hc hF
    refine w_iconst hB (-1) (by decide) dX10_play_8 ?_
    obtain ⟨e1, e2⟩ := retS hF
    subst e2
    exact w_iret hB dX10_play_9 e1
theorem c_X10_play {K : Kt} {l : Launch} (hp : St K) {r : Int32} {M1 : Mem} {x1 : Int32} {x2 : Int32} {M : Mem} (hF : f_X10_play x1 x2 M = some (r, M1)) : MT K l yX10_play cX10_play 4 (some .int) { frames := 1, cells := 0, slots := 0, locals := 21 } [vr 64, vi x1, vi x2] M (some (vi r)) M1 0 0 :=
  MT_of (by decide) rfl (Nat.le_of_ble_eq_true rfl) (fun X _ hB _ => b_X10_play hp hB hF)
set_option maxRecDepth 100000 in
set_option maxHeartbeats 4000000 in
theorem b_X10_verdict {K : Kt} {X : Xt} (hp : St K) (hB : Bx K X { frames := 4, cells := 0, slots := 0, locals := 101 } cX10_verdict 3 RX10 (some .int)) {r : Int32} {M1 : Mem} {x1 : Int32} {x2 : Int32} {M : Mem} (hF : f_X10_verdict x1 x2 M = some (r, M1)) : Wt K X (QM K X (some (vi r)) M1 0 0) 0 0 M 0 [(0, vr 64), (1, vi x1), (2, vi x2)] [] := by
  unfold f_X10_verdict at hF
  refine w_aload_n hB 0 dX10_verdict_0 rfl rfl ?_
  refine w_iload_n hB 1 dX10_verdict_1 rfl rfl ?_
  obtain ⟨r1, M1m, hc_M1m, hF⟩ := clS hF
  refine w_callV hB (ci := 8) (As := [vi x1]) (st := []) cw_X10_184 q_432 q_0 rfl (soM hp.1 sh_64 (by decide)) (c_X10_isPlay hp hc_M1m) ⟨rfl, rfl⟩ (by decide) (by decide) rfl (Nat.le_of_ble_eq_true rfl) dX10_verdict_2 rfl ?_
  refine w_if_eq hB 28 dX10_verdict_5 (by decide) (fun hc => ?_) (fun hc => ?_)
  · replace hF := ifT hc hF
    refine w_iconst hB (-1) (by decide) dX10_verdict_28 ?_
    obtain ⟨e1, e2⟩ := retS hF
    subst e2
    exact w_iret hB dX10_verdict_29 e1
  · replace hF := ifF hc hF
    refine w_iload_n hB 2 dX10_verdict_8 rfl rfl ?_
    refine w_if_lt hB 28 dX10_verdict_9 (by decide) (fun hc => ?_) (fun hc => ?_)
    · replace hF := ifT hc hF
      refine w_iconst hB (-1) (by decide) dX10_verdict_28 ?_
      obtain ⟨e1, e2⟩ := retS hF
      subst e2
      exact w_iret hB dX10_verdict_29 e1
    · replace hF := ifF hc hF
      refine w_iload_n hB 2 dX10_verdict_12 rfl rfl ?_
      refine w_aload_n hB 0 dX10_verdict_13 rfl rfl ?_
      refine w_getR hB ff_X10_2 (soM hp.1 sh_64 (by decide)) q_385 dX10_verdict_14 ?_
      obtain ⟨g1, hF⟩ := gdS hF
      refine w_getC hB (v := cr (M1m.2.2.1 64 2) 12) ff_X9_12 (soM hp.1 g1 (by decide)) hp.1 rfl (shc_ne (crc_8_12 g1).1) q_235 dX10_verdict_17 ?_
      refine w_iload_n hB 1 dX10_verdict_20 rfl rfl ?_
      obtain ⟨g2, hF⟩ := gdS hF
      refine w_aaldC hB (c := 6) (v := cr (cr (M1m.2.2.1 64 2) 12) x1.toNatClampNeg) (soM hp.1 (crc_8_12 g1).1 (by decide)) rfl (by decide) hp.1 (sl_s (crc_8_12 g1).1 (by decide) (crc_8_12 g1).2) g2 rfl (shc_ne (cre_26 (crc_8_12 g1).1 (by rw [(crc_8_12 g1).2]; exact inb_lt g2))) dX10_verdict_21 ?_
      refine w_getI hB ff_X6_5 (soM hp.1 (cre_26 (crc_8_12 g1).1 (by rw [(crc_8_12 g1).2]; exact inb_lt g2)) (by decide)) q_137 dX10_verdict_22 ?_
      refine w_icmp_le hB 30 dX10_verdict_25 (by decide) (fun hc => ?_) (fun hc => ?_)
      · replace hF := ifT hc hF
        refine w_aload_n hB 0 dX10_verdict_30 rfl rfl ?_
        refine w_getC hB (v := 212) ff_X10_5 (soM hp.1 sh_64 (by decide)) hp.1 cr_64_5 (by decide) q_388 dX10_verdict_31 ?_
        refine w_aload_n hB 0 dX10_verdict_34 rfl rfl ?_
        refine w_getR hB ff_X10_2 (soM hp.1 sh_64 (by decide)) q_385 dX10_verdict_35 ?_
        refine w_aload_n hB 0 dX10_verdict_38 rfl rfl ?_
        refine w_getR hB ff_X10_2 (soM hp.1 sh_64 (by decide)) q_385 dX10_verdict_39 ?_
        refine w_getC hB (v := cr (M1m.2.2.1 64 2) 12) ff_X9_12 (soM hp.1 g1 (by decide)) hp.1 rfl (shc_ne (crc_8_12 g1).1) q_235 dX10_verdict_42 ?_
        refine w_iload_n hB 1 dX10_verdict_45 rfl rfl ?_
        refine w_aaldC hB (c := 6) (v := cr (cr (M1m.2.2.1 64 2) 12) x1.toNatClampNeg) (soM hp.1 (crc_8_12 g1).1 (by decide)) rfl (by decide) hp.1 (sl_s (crc_8_12 g1).1 (by decide) (crc_8_12 g1).2) g2 rfl (shc_ne (cre_26 (crc_8_12 g1).1 (by rw [(crc_8_12 g1).2]; exact inb_lt g2))) dX10_verdict_46 ?_
        refine w_iconst hB 1 (by decide) dX10_verdict_47 ?_
        refine w_iload_n hB 2 dX10_verdict_48 rfl rfl ?_
        refine w_ishl hB dX10_verdict_49 ?_
        refine w_iconst hB 1 (by decide) dX10_verdict_50 ?_
        refine w_isub hB dX10_verdict_51 ?_
        obtain ⟨r2, M2m, hc_M2m, hF⟩ := clS hF
        refine w_callV hB (ci := 3) (As := [vr (M1m.2.2.1 64 2), vr (cr (cr (M1m.2.2.1 64 2) 12) x1.toNatClampNeg), vi (((1 : Int32) <<< (x2 &&& 31)) - 1)]) (st := []) cw_X10_228 q_451 q_452 rfl (soM hp.1 sh_212 (by decide)) (c_X4_byFrames hp hc_M2m) ⟨rfl, rfl⟩ (by decide) (by decide) rfl (Nat.le_of_ble_eq_true rfl) dX10_verdict_52 rfl ?_
        obtain ⟨e1, e2⟩ := retS hF
        subst e2
        exact w_iret hB dX10_verdict_55 e1
      · replace hF := ifF hc hF
        refine w_iconst hB (-1) (by decide) dX10_verdict_28 ?_
        obtain ⟨e1, e2⟩ := retS hF
        subst e2
        exact w_iret hB dX10_verdict_29 e1
theorem c_X10_verdict {K : Kt} {l : Launch} (hp : St K) {r : Int32} {M1 : Mem} {x1 : Int32} {x2 : Int32} {M : Mem} (hF : f_X10_verdict x1 x2 M = some (r, M1)) : MT K l yX10_verdict cX10_verdict 3 (some .int) { frames := 4, cells := 0, slots := 0, locals := 101 } [vr 64, vi x1, vi x2] M (some (vi r)) M1 0 0 :=
  MT_of (by decide) rfl (Nat.le_of_ble_eq_true rfl) (fun X _ hB _ => b_X10_verdict hp hB hF)
set_option maxRecDepth 100000 in
set_option maxHeartbeats 4000000 in
theorem b_X10_by {K : Kt} {X : Xt} (hp : St K) (hB : Bx K X { frames := 4, cells := 0, slots := 0, locals := 101 } cX10_by 3 RX10 (some .int)) {r : Int32} {M1 : Mem} {x1 : Int32} {x2 : Int32} {M : Mem} (hF : f_X10_by x1 x2 M = some (r, M1)) : Wt K X (QM K X (some (vi r)) M1 0 0) 0 0 M 0 [(0, vr 64), (1, vi x1), (2, vi x2)] [] := by
  unfold f_X10_by at hF
  refine w_aload_n hB 0 dX10_by_0 rfl rfl ?_
  refine w_iload_n hB 1 dX10_by_1 rfl rfl ?_
  obtain ⟨r1, M1m, hc_M1m, hF⟩ := clS hF
  refine w_callV hB (ci := 8) (As := [vi x1]) (st := []) cw_X10_184 q_432 q_0 rfl (soM hp.1 sh_64 (by decide)) (c_X10_isPlay hp hc_M1m) ⟨rfl, rfl⟩ (by decide) (by decide) rfl (Nat.le_of_ble_eq_true rfl) dX10_by_2 rfl ?_
  refine w_if_eq hB 22 dX10_by_5 (by decide) (fun hc => ?_) (fun hc => ?_)
  · replace hF := ifT hc hF
    refine w_iconst hB (-1) (by decide) dX10_by_22 ?_
    obtain ⟨e1, e2⟩ := retS hF
    subst e2
    exact w_iret hB dX10_by_23 e1
  · replace hF := ifF hc hF
    refine w_iload_n hB 2 dX10_by_8 rfl rfl ?_
    refine w_aload_n hB 0 dX10_by_9 rfl rfl ?_
    refine w_getR hB ff_X10_2 (soM hp.1 sh_64 (by decide)) q_385 dX10_by_10 ?_
    obtain ⟨g1, hF⟩ := gdS hF
    obtain ⟨r2, M2m, hc_M2m, hF⟩ := clS hF
    refine w_callV hB (ci := 7) (As := []) (st := [vi x2]) cw_X10_232 q_490 q_491 rfl (soM hp.1 g1 (by decide)) (c_X9_allCameras hp hc_M2m) ⟨rfl, rfl⟩ (by decide) (by decide) rfl (Nat.le_of_ble_eq_true rfl) dX10_by_13 rfl ?_
    refine w_iconst hB (-1) (by decide) dX10_by_16 ?_
    refine w_ixor hB dX10_by_17 ?_
    refine w_iand hB dX10_by_18 ?_
    refine w_if_eq hB 24 dX10_by_19 (by decide) (fun hc => ?_) (fun hc => ?_)
    · replace hF := ifT hc hF
      refine w_aload_n hB 0 dX10_by_24 rfl rfl ?_
      refine w_getC hB (v := 212) ff_X10_5 (soM hp.1 sh_64 (by decide)) hp.1 cr_64_5 (by decide) q_388 dX10_by_25 ?_
      refine w_aload_n hB 0 dX10_by_28 rfl rfl ?_
      refine w_getR hB ff_X10_2 (soM hp.1 sh_64 (by decide)) q_385 dX10_by_29 ?_
      refine w_aload_n hB 0 dX10_by_32 rfl rfl ?_
      refine w_getR hB ff_X10_2 (soM hp.1 sh_64 (by decide)) q_385 dX10_by_33 ?_
      obtain ⟨g2, hF⟩ := gdS hF
      refine w_getC hB (v := cr (M2m.2.2.1 64 2) 12) ff_X9_12 (soM hp.1 g2 (by decide)) hp.1 rfl (shc_ne (crc_8_12 g2).1) q_235 dX10_by_36 ?_
      refine w_iload_n hB 1 dX10_by_39 rfl rfl ?_
      obtain ⟨g3, hF⟩ := gdS hF
      refine w_aaldC hB (c := 6) (v := cr (cr (M2m.2.2.1 64 2) 12) x1.toNatClampNeg) (soM hp.1 (crc_8_12 g2).1 (by decide)) rfl (by decide) hp.1 (sl_s (crc_8_12 g2).1 (by decide) (crc_8_12 g2).2) g3 rfl (shc_ne (cre_26 (crc_8_12 g2).1 (by rw [(crc_8_12 g2).2]; exact inb_lt g3))) dX10_by_40 ?_
      refine w_aload_n hB 0 dX10_by_41 rfl rfl ?_
      refine w_getR hB ff_X10_2 (soM hp.1 sh_64 (by decide)) q_385 dX10_by_42 ?_
      refine w_getC hB (v := cr (M2m.2.2.1 64 2) 12) ff_X9_12 (soM hp.1 g2 (by decide)) hp.1 rfl (shc_ne (crc_8_12 g2).1) q_235 dX10_by_45 ?_
      refine w_iload_n hB 1 dX10_by_48 rfl rfl ?_
      refine w_aaldC hB (c := 6) (v := cr (cr (M2m.2.2.1 64 2) 12) x1.toNatClampNeg) (soM hp.1 (crc_8_12 g2).1 (by decide)) rfl (by decide) hp.1 (sl_s (crc_8_12 g2).1 (by decide) (crc_8_12 g2).2) g3 rfl (shc_ne (cre_26 (crc_8_12 g2).1 (by rw [(crc_8_12 g2).2]; exact inb_lt g3))) dX10_by_49 ?_
      refine w_iload_n hB 2 dX10_by_50 rfl rfl ?_
      obtain ⟨r3, M3m, hc_M3m, hF⟩ := clS hF
      refine w_callV hB (ci := 5) (As := [vi x2]) (st := [vr (cr (cr (M2m.2.2.1 64 2) 12) x1.toNatClampNeg), vr (M2m.2.2.1 64 2), vr 212]) cw_X10_236 q_494 q_495 rfl (soM hp.1 (cre_26 (crc_8_12 g2).1 (by rw [(crc_8_12 g2).2]; exact inb_lt g3)) (by decide)) (c_X6_framesOf hp hc_M3m) ⟨rfl, rfl⟩ (by decide) (by decide) rfl (Nat.le_of_ble_eq_true rfl) dX10_by_51 rfl ?_
      obtain ⟨r4, M4m, hc_M4m, hF⟩ := clS hF
      refine w_callV hB (ci := 3) (As := [vr (M2m.2.2.1 64 2), vr (cr (cr (M2m.2.2.1 64 2) 12) x1.toNatClampNeg), vi r3]) (st := []) cw_X10_228 q_451 q_452 rfl (soM hp.1 sh_212 (by decide)) (c_X4_byFrames hp hc_M4m) ⟨rfl, rfl⟩ (by decide) (by decide) rfl (Nat.le_of_ble_eq_true rfl) dX10_by_54 rfl ?_
      obtain ⟨e1, e2⟩ := retS hF
      subst e2
      exact w_iret hB dX10_by_57 e1
    · replace hF := ifF hc hF
      refine w_iconst hB (-1) (by decide) dX10_by_22 ?_
      obtain ⟨e1, e2⟩ := retS hF
      subst e2
      exact w_iret hB dX10_by_23 e1
theorem c_X10_by {K : Kt} {l : Launch} (hp : St K) {r : Int32} {M1 : Mem} {x1 : Int32} {x2 : Int32} {M : Mem} (hF : f_X10_by x1 x2 M = some (r, M1)) : MT K l yX10_by cX10_by 3 (some .int) { frames := 4, cells := 0, slots := 0, locals := 101 } [vr 64, vi x1, vi x2] M (some (vi r)) M1 0 0 :=
  MT_of (by decide) rfl (Nat.le_of_ble_eq_true rfl) (fun X _ hB _ => b_X10_by hp hB hF)
set_option maxRecDepth 100000 in
set_option maxHeartbeats 4000000 in
theorem b_X10_gap_b96 {K : Kt} {X : Xt} (hp : St K) (hB : Bx K X { frames := 3, cells := 0, slots := 0, locals := 77 } cX10_gap 7 RX10 (some .int)) {r : Int32} {M1 : Mem} {x4 : Int32} {xs0 : Int32} {M : Mem} (hF : f_X10_gap_b96 x4 xs0 M = some (r, M1)) : Wt K X (QM K X (some (vi r)) M1 0 0) 0 0 M 96 [(4, vi x4)] [vi xs0] := by
  unfold f_X10_gap_b96 at hF
  refine w_istore hB (L' := [(6, vi xs0), (4, vi x4)]) dX10_gap_96 (by decide) rfl rfl ?_
  refine w_iload hB 0 dX10_gap_98 rfl ?_
  refine w_ldc hB (v := 268435456) q_509 dX10_gap_100 ?_
  refine w_icmp_ne hB 108 dX10_gap_102 (by decide) (fun hc => ?_) (fun hc => ?_)
  · replace hF := ifF hc hF
    refine w_iload hB 1 dX10_gap_108 rfl ?_
    refine w_if_eq hB 118 dX10_gap_110 (by decide) (fun hc => ?_) (fun hc => ?_)
    · replace hF := ifT hc hF
      refine w_iload hB 0 dX10_gap_118 rfl ?_
      refine w_ineg hB dX10_gap_120 ?_
      obtain ⟨e1, e2⟩ := retS hF
      subst e2
      exact w_iret hB dX10_gap_121 e1
    · replace hF := ifF hc hF
      refine w_iload hB 0 dX10_gap_113 rfl ?_
      refine w_goto hB 121 dX10_gap_115 (by decide) ?_
      obtain ⟨e1, e2⟩ := retS hF
      subst e2
      exact w_iret hB dX10_gap_121 e1
  · replace hF := ifT hc hF
    refine w_ldc hB (v := 1000000) q_510 dX10_gap_105 ?_
    obtain ⟨e1, e2⟩ := retS hF
    subst e2
    exact w_iret hB dX10_gap_107 e1
set_option maxRecDepth 100000 in
set_option maxHeartbeats 4000000 in
theorem b_X10_gap {K : Kt} {X : Xt} (hp : St K) (hB : Bx K X { frames := 3, cells := 0, slots := 0, locals := 77 } cX10_gap 7 RX10 (some .int)) {r : Int32} {M1 : Mem} {x1 : Int32} {x2 : Int32} {x3 : Int32} {x4 : Int32} {M : Mem} (hF : f_X10_gap x1 x2 x3 x4 M = some (r, M1)) : Wt K X (QM K X (some (vi r)) M1 0 0) 0 0 M 0 [(0, vr 64), (1, vi x1), (2, vi x2), (3, vi x3), (4, vi x4)] [] := by
  unfold f_X10_gap at hF
  refine w_aload_n hB 0 dX10_gap_0 rfl rfl ?_
  refine w_iload_n hB 1 dX10_gap_1 rfl rfl ?_
  obtain ⟨r1, M1m, hc_M1m, hF⟩ := clS hF
  refine w_callV hB (ci := 8) (As := [vi x1]) (st := []) cw_X10_184 q_432 q_0 rfl (soM hp.1 sh_64 (by decide)) (c_X10_isPlay hp hc_M1m) ⟨rfl, rfl⟩ (by decide) (by decide) rfl (Nat.le_of_ble_eq_true rfl) dX10_gap_2 rfl ?_
  refine w_if_eq hB 26 dX10_gap_5 (by decide) (fun hc => ?_) (fun hc => ?_)
  · replace hF := ifT hc hF
    refine w_ldc hB (v := 3000000) q_501 dX10_gap_26 ?_
    obtain ⟨e1, e2⟩ := retS hF
    subst e2
    exact w_iret hB dX10_gap_28 e1
  · replace hF := ifF hc hF
    refine w_iload_n hB 2 dX10_gap_8 rfl rfl ?_
    refine w_if_lt hB 26 dX10_gap_9 (by decide) (fun hc => ?_) (fun hc => ?_)
    · replace hF := ifT hc hF
      refine w_ldc hB (v := 3000000) q_501 dX10_gap_26 ?_
      obtain ⟨e1, e2⟩ := retS hF
      subst e2
      exact w_iret hB dX10_gap_28 e1
    · replace hF := ifF hc hF
      refine w_iload_n hB 2 dX10_gap_12 rfl rfl ?_
      refine w_iconst hB 4 (by decide) dX10_gap_13 ?_
      refine w_icmp_ge hB 26 dX10_gap_14 (by decide) (fun hc => ?_) (fun hc => ?_)
      · replace hF := ifT hc hF
        refine w_ldc hB (v := 3000000) q_501 dX10_gap_26 ?_
        obtain ⟨e1, e2⟩ := retS hF
        subst e2
        exact w_iret hB dX10_gap_28 e1
      · replace hF := ifF hc hF
        refine w_iload_n hB 3 dX10_gap_17 rfl rfl ?_
        refine w_if_lt hB 26 dX10_gap_18 (by decide) (fun hc => ?_) (fun hc => ?_)
        · replace hF := ifT hc hF
          refine w_ldc hB (v := 3000000) q_501 dX10_gap_26 ?_
          obtain ⟨e1, e2⟩ := retS hF
          subst e2
          exact w_iret hB dX10_gap_28 e1
        · replace hF := ifF hc hF
          refine w_iload_n hB 3 dX10_gap_21 rfl rfl ?_
          refine w_iconst hB 4 (by decide) dX10_gap_22 ?_
          refine w_icmp_lt hB 29 dX10_gap_23 (by decide) (fun hc => ?_) (fun hc => ?_)
          · replace hF := ifT hc hF
            refine w_aload_n hB 0 dX10_gap_29 rfl rfl ?_
            refine w_getC hB (v := 212) ff_X10_5 (soM hp.1 sh_64 (by decide)) hp.1 cr_64_5 (by decide) q_388 dX10_gap_30 ?_
            refine w_aload_n hB 0 dX10_gap_33 rfl rfl ?_
            refine w_getR hB ff_X10_2 (soM hp.1 sh_64 (by decide)) q_385 dX10_gap_34 ?_
            refine w_aload_n hB 0 dX10_gap_37 rfl rfl ?_
            refine w_getR hB ff_X10_2 (soM hp.1 sh_64 (by decide)) q_385 dX10_gap_38 ?_
            obtain ⟨g1, hF⟩ := gdS hF
            refine w_getC hB (v := cr (M1m.2.2.1 64 2) 12) ff_X9_12 (soM hp.1 g1 (by decide)) hp.1 rfl (shc_ne (crc_8_12 g1).1) q_235 dX10_gap_41 ?_
            refine w_iload_n hB 1 dX10_gap_44 rfl rfl ?_
            obtain ⟨g2, hF⟩ := gdS hF
            refine w_aaldC hB (c := 6) (v := cr (cr (M1m.2.2.1 64 2) 12) x1.toNatClampNeg) (soM hp.1 (crc_8_12 g1).1 (by decide)) rfl (by decide) hp.1 (sl_s (crc_8_12 g1).1 (by decide) (crc_8_12 g1).2) g2 rfl (shc_ne (cre_26 (crc_8_12 g1).1 (by rw [(crc_8_12 g1).2]; exact inb_lt g2))) dX10_gap_45 ?_
            refine w_aload_n hB 0 dX10_gap_46 rfl rfl ?_
            refine w_getR hB ff_X10_2 (soM hp.1 sh_64 (by decide)) q_385 dX10_gap_47 ?_
            refine w_getC hB (v := cr (M1m.2.2.1 64 2) 12) ff_X9_12 (soM hp.1 g1 (by decide)) hp.1 rfl (shc_ne (crc_8_12 g1).1) q_235 dX10_gap_50 ?_
            refine w_iload_n hB 1 dX10_gap_53 rfl rfl ?_
            refine w_aaldC hB (c := 6) (v := cr (cr (M1m.2.2.1 64 2) 12) x1.toNatClampNeg) (soM hp.1 (crc_8_12 g1).1 (by decide)) rfl (by decide) hp.1 (sl_s (crc_8_12 g1).1 (by decide) (crc_8_12 g1).2) g2 rfl (shc_ne (cre_26 (crc_8_12 g1).1 (by rw [(crc_8_12 g1).2]; exact inb_lt g2))) dX10_gap_54 ?_
            obtain ⟨r2, M2m, hc_M2m, hF⟩ := clS hF
            refine w_callV hB (ci := 5) (As := []) (st := [vr (cr (cr (M1m.2.2.1 64 2) 12) x1.toNatClampNeg), vr (M1m.2.2.1 64 2), vr 212]) cw_X10_240 q_503 q_504 rfl (soM hp.1 (cre_26 (crc_8_12 g1).1 (by rw [(crc_8_12 g1).2]; exact inb_lt g2)) (by decide)) (c_X6_allFrames hp hc_M2m) ⟨rfl, rfl⟩ (by decide) (by decide) rfl (Nat.le_of_ble_eq_true rfl) dX10_gap_55 rfl ?_
            obtain ⟨o1, M3m, hc_M3m, hF⟩ := clS hF
            refine w_callV hB (ci := 3) (As := [vr (M1m.2.2.1 64 2), vr (cr (cr (M1m.2.2.1 64 2) 12) x1.toNatClampNeg), vi r2]) (st := []) cw_X10_243 q_455 q_456 rfl (soM hp.1 sh_212 (by decide)) (c_X4_sureOf hp hc_M3m) ⟨rfl, rfl⟩ (by decide) (by decide) rfl (Nat.le_of_ble_eq_true rfl) dX10_gap_58 rfl ?_
            refine w_astore hB (L' := [(5, vr o1), (0, vr 64), (1, vi x1), (2, vi x2), (3, vi x3), (4, vi x4)]) dX10_gap_61 (by decide) rfl ?_
            refine w_aload hB 0 dX10_gap_63 rfl ?_
            obtain ⟨g3, hF⟩ := gdS hF
            refine w_getI hB ff_X2_1 (soM hp.1 g3 (by decide)) q_60 dX10_gap_65 ?_
            refine w_if_eq hB 74 dX10_gap_68 (by decide) (fun hc => ?_) (fun hc => ?_)
            · replace hF := ifT hc hF
              refine w_iload hB 5 dX10_gap_74 rfl ?_
              refine w_if_eq hB 89 dX10_gap_76 (by decide) (fun hc => ?_) (fun hc => ?_)
              · replace hF := ifT hc hF
                refine w_aload hB 0 dX10_gap_89 rfl ?_
                refine w_iload_n hB 3 dX10_gap_91 rfl rfl ?_
                refine w_iload_n hB 4 dX10_gap_92 rfl rfl ?_
                obtain ⟨r3, M4m, hc_M4m, hF⟩ := clS hF
                refine w_callV hB (ci := 1) (As := [vi x2, vi x3]) (st := []) cw_X10_248 q_478 q_479 rfl (soM hp.1 g3 (by decide)) (c_X2_markLess hp hc_M4m) ⟨rfl, rfl⟩ (by decide) (by decide) rfl (Nat.le_of_ble_eq_true rfl) dX10_gap_93 rfl ?_
                exact Wt.sub (L' := [(4, vi x4)]) [5] rfl (b_X10_gap_b96 hp hB hF)
              · replace hF := ifF hc hF
                refine w_aload hB 0 dX10_gap_79 rfl ?_
                refine w_iload_n hB 4 dX10_gap_81 rfl rfl ?_
                refine w_iload_n hB 3 dX10_gap_82 rfl rfl ?_
                obtain ⟨r4, M5m, hc_M5m, hF⟩ := clS hF
                refine w_callV hB (ci := 1) (As := [vi x3, vi x2]) (st := []) cw_X10_248 q_478 q_479 rfl (soM hp.1 g3 (by decide)) (c_X2_markLess hp hc_M5m) ⟨rfl, rfl⟩ (by decide) (by decide) rfl (Nat.le_of_ble_eq_true rfl) dX10_gap_83 rfl ?_
                refine w_goto hB 96 dX10_gap_86 (by decide) ?_
                exact Wt.sub (L' := [(4, vi x4)]) [5] rfl (b_X10_gap_b96 hp hB hF)
            · replace hF := ifF hc hF
              refine w_ldc hB (v := 2000000) q_507 dX10_gap_71 ?_
              obtain ⟨e1, e2⟩ := retS hF
              subst e2
              exact w_iret hB dX10_gap_73 e1
          · replace hF := ifF hc hF
            refine w_ldc hB (v := 3000000) q_501 dX10_gap_26 ?_
            obtain ⟨e1, e2⟩ := retS hF
            subst e2
            exact w_iret hB dX10_gap_28 e1
theorem c_X10_gap {K : Kt} {l : Launch} (hp : St K) {r : Int32} {M1 : Mem} {x1 : Int32} {x2 : Int32} {x3 : Int32} {x4 : Int32} {M : Mem} (hF : f_X10_gap x1 x2 x3 x4 M = some (r, M1)) : MT K l yX10_gap cX10_gap 7 (some .int) { frames := 3, cells := 0, slots := 0, locals := 77 } [vr 64, vi x1, vi x2, vi x3, vi x4] M (some (vi r)) M1 0 0 :=
  MT_of (by decide) rfl (Nat.le_of_ble_eq_true rfl) (fun X _ hB _ => b_X10_gap hp hB hF)
set_option maxRecDepth 100000 in
set_option maxHeartbeats 4000000 in
theorem b_X10_fewest {K : Kt} {X : Xt} (hp : St K) (hB : Bx K X { frames := 6, cells := 0, slots := 0, locals := 149 } cX10_fewest 2 RX10 (some .int)) {r : Int32} {M1 : Mem} {x1 : Int32} {M : Mem} (hF : f_X10_fewest x1 M = some (r, M1)) : Wt K X (QM K X (some (vi r)) M1 0 0) 0 0 M 0 [(0, vr 64), (1, vi x1)] [] := by
  unfold f_X10_fewest at hF
  refine w_aload_n hB 0 dX10_fewest_0 rfl rfl ?_
  refine w_iload_n hB 1 dX10_fewest_1 rfl rfl ?_
  obtain ⟨r1, M1m, hc_M1m, hF⟩ := clS hF
  refine w_callV hB (ci := 8) (As := [vi x1]) (st := []) cw_X10_184 q_432 q_0 rfl (soM hp.1 sh_64 (by decide)) (c_X10_isPlay hp hc_M1m) ⟨rfl, rfl⟩ (by decide) (by decide) rfl (Nat.le_of_ble_eq_true rfl) dX10_fewest_2 rfl ?_
  refine w_if_eq hB 31 dX10_fewest_5 (by decide) (fun hc => ?_) (fun hc => ?_)
  · replace hF := ifT hc hF
    refine w_iconst hB (-1) (by decide) dX10_fewest_31 ?_
    obtain ⟨e1, e2⟩ := retS hF
    subst e2
    exact w_iret hB dX10_fewest_32 e1
  · replace hF := ifF hc hF
    refine w_aload_n hB 0 dX10_fewest_8 rfl rfl ?_
    refine w_getC hB (v := 212) ff_X10_5 (soM hp.1 sh_64 (by decide)) hp.1 cr_64_5 (by decide) q_388 dX10_fewest_9 ?_
    refine w_aload_n hB 0 dX10_fewest_12 rfl rfl ?_
    refine w_getR hB ff_X10_2 (soM hp.1 sh_64 (by decide)) q_385 dX10_fewest_13 ?_
    refine w_aload_n hB 0 dX10_fewest_16 rfl rfl ?_
    refine w_getR hB ff_X10_2 (soM hp.1 sh_64 (by decide)) q_385 dX10_fewest_17 ?_
    obtain ⟨g1, hF⟩ := gdS hF
    refine w_getC hB (v := cr (M1m.2.2.1 64 2) 12) ff_X9_12 (soM hp.1 g1 (by decide)) hp.1 rfl (shc_ne (crc_8_12 g1).1) q_235 dX10_fewest_20 ?_
    refine w_iload_n hB 1 dX10_fewest_23 rfl rfl ?_
    obtain ⟨g2, hF⟩ := gdS hF
    refine w_aaldC hB (c := 6) (v := cr (cr (M1m.2.2.1 64 2) 12) x1.toNatClampNeg) (soM hp.1 (crc_8_12 g1).1 (by decide)) rfl (by decide) hp.1 (sl_s (crc_8_12 g1).1 (by decide) (crc_8_12 g1).2) g2 rfl (shc_ne (cre_26 (crc_8_12 g1).1 (by rw [(crc_8_12 g1).2]; exact inb_lt g2))) dX10_fewest_24 ?_
    obtain ⟨r2, M2m, hc_M2m, hF⟩ := clS hF
    refine w_callV hB (ci := 3) (As := [vr (M1m.2.2.1 64 2), vr (cr (cr (M1m.2.2.1 64 2) 12) x1.toNatClampNeg)]) (st := []) cw_X10_254 q_516 q_517 rfl (soM hp.1 sh_212 (by decide)) (c_X4_fewestFrames hp hc_M2m) ⟨rfl, rfl⟩ (by decide) (by decide) rfl (Nat.le_of_ble_eq_true rfl) dX10_fewest_25 rfl ?_
    refine w_goto hB 32 dX10_fewest_28 (by decide) ?_
    obtain ⟨e1, e2⟩ := retS hF
    subst e2
    exact w_iret hB dX10_fewest_32 e1
theorem c_X10_fewest {K : Kt} {l : Launch} (hp : St K) {r : Int32} {M1 : Mem} {x1 : Int32} {M : Mem} (hF : f_X10_fewest x1 M = some (r, M1)) : MT K l yX10_fewest cX10_fewest 2 (some .int) { frames := 6, cells := 0, slots := 0, locals := 149 } [vr 64, vi x1] M (some (vi r)) M1 0 0 :=
  MT_of (by decide) rfl (Nat.le_of_ble_eq_true rfl) (fun X _ hB _ => b_X10_fewest hp hB hF)
set_option maxRecDepth 100000 in
set_option maxHeartbeats 4000000 in
theorem b_X10_key {K : Kt} {X : Xt} (hp : St K) (hB : Bx K X { frames := 5, cells := 0, slots := 0, locals := 126 } cX10_key 2 RX10 (some .int)) {r : Int32} {M1 : Mem} {x1 : Int32} {M : Mem} (hF : f_X10_key x1 M = some (r, M1)) : Wt K X (QM K X (some (vi r)) M1 0 0) 0 0 M 0 [(0, vr 64), (1, vi x1)] [] := by
  unfold f_X10_key at hF
  refine w_aload_n hB 0 dX10_key_0 rfl rfl ?_
  refine w_iload_n hB 1 dX10_key_1 rfl rfl ?_
  obtain ⟨r1, M1m, hc_M1m, hF⟩ := clS hF
  refine w_callV hB (ci := 8) (As := [vi x1]) (st := []) cw_X10_184 q_432 q_0 rfl (soM hp.1 sh_64 (by decide)) (c_X10_isPlay hp hc_M1m) ⟨rfl, rfl⟩ (by decide) (by decide) rfl (Nat.le_of_ble_eq_true rfl) dX10_key_2 rfl ?_
  refine w_if_eq hB 31 dX10_key_5 (by decide) (fun hc => ?_) (fun hc => ?_)
  · replace hF := ifT hc hF
    refine w_iconst hB (-1) (by decide) dX10_key_31 ?_
    obtain ⟨e1, e2⟩ := retS hF
    subst e2
    exact w_iret hB dX10_key_32 e1
  · replace hF := ifF hc hF
    refine w_aload_n hB 0 dX10_key_8 rfl rfl ?_
    refine w_getC hB (v := 212) ff_X10_5 (soM hp.1 sh_64 (by decide)) hp.1 cr_64_5 (by decide) q_388 dX10_key_9 ?_
    refine w_aload_n hB 0 dX10_key_12 rfl rfl ?_
    refine w_getR hB ff_X10_2 (soM hp.1 sh_64 (by decide)) q_385 dX10_key_13 ?_
    refine w_aload_n hB 0 dX10_key_16 rfl rfl ?_
    refine w_getR hB ff_X10_2 (soM hp.1 sh_64 (by decide)) q_385 dX10_key_17 ?_
    obtain ⟨g1, hF⟩ := gdS hF
    refine w_getC hB (v := cr (M1m.2.2.1 64 2) 12) ff_X9_12 (soM hp.1 g1 (by decide)) hp.1 rfl (shc_ne (crc_8_12 g1).1) q_235 dX10_key_20 ?_
    refine w_iload_n hB 1 dX10_key_23 rfl rfl ?_
    obtain ⟨g2, hF⟩ := gdS hF
    refine w_aaldC hB (c := 6) (v := cr (cr (M1m.2.2.1 64 2) 12) x1.toNatClampNeg) (soM hp.1 (crc_8_12 g1).1 (by decide)) rfl (by decide) hp.1 (sl_s (crc_8_12 g1).1 (by decide) (crc_8_12 g1).2) g2 rfl (shc_ne (cre_26 (crc_8_12 g1).1 (by rw [(crc_8_12 g1).2]; exact inb_lt g2))) dX10_key_24 ?_
    obtain ⟨r2, M2m, hc_M2m, hF⟩ := clS hF
    refine w_callV hB (ci := 3) (As := [vr (M1m.2.2.1 64 2), vr (cr (cr (M1m.2.2.1 64 2) 12) x1.toNatClampNeg)]) (st := []) cw_X10_258 q_539 q_540 rfl (soM hp.1 sh_212 (by decide)) (c_X4_keyFrames hp hc_M2m) ⟨rfl, rfl⟩ (by decide) (by decide) rfl (Nat.le_of_ble_eq_true rfl) dX10_key_25 rfl ?_
    refine w_goto hB 32 dX10_key_28 (by decide) ?_
    obtain ⟨e1, e2⟩ := retS hF
    subst e2
    exact w_iret hB dX10_key_32 e1
theorem c_X10_key {K : Kt} {l : Launch} (hp : St K) {r : Int32} {M1 : Mem} {x1 : Int32} {M : Mem} (hF : f_X10_key x1 M = some (r, M1)) : MT K l yX10_key cX10_key 2 (some .int) { frames := 5, cells := 0, slots := 0, locals := 126 } [vr 64, vi x1] M (some (vi r)) M1 0 0 :=
  MT_of (by decide) rfl (Nat.le_of_ble_eq_true rfl) (fun X _ hB _ => b_X10_key hp hB hF)
set_option maxRecDepth 100000 in
set_option maxHeartbeats 4000000 in
theorem b_X10_enough {K : Kt} {X : Xt} (hp : St K) (hB : Bx K X { frames := 5, cells := 0, slots := 0, locals := 127 } cX10_enough 2 RX10 (some .int)) {r : Int32} {M1 : Mem} {x1 : Int32} {M : Mem} (hF : f_X10_enough x1 M = some (r, M1)) : Wt K X (QM K X (some (vi r)) M1 0 0) 0 0 M 0 [(0, vr 64), (1, vi x1)] [] := by
  unfold f_X10_enough at hF
  refine w_aload_n hB 0 dX10_enough_0 rfl rfl ?_
  refine w_iload_n hB 1 dX10_enough_1 rfl rfl ?_
  obtain ⟨r1, M1m, hc_M1m, hF⟩ := clS hF
  refine w_callV hB (ci := 8) (As := [vi x1]) (st := []) cw_X10_184 q_432 q_0 rfl (soM hp.1 sh_64 (by decide)) (c_X10_isPlay hp hc_M1m) ⟨rfl, rfl⟩ (by decide) (by decide) rfl (Nat.le_of_ble_eq_true rfl) dX10_enough_2 rfl ?_
  refine w_if_eq hB 31 dX10_enough_5 (by decide) (fun hc => ?_) (fun hc => ?_)
  · replace hF := ifT hc hF
    refine w_iconst hB (-1) (by decide) dX10_enough_31 ?_
    obtain ⟨e1, e2⟩ := retS hF
    subst e2
    exact w_iret hB dX10_enough_32 e1
  · replace hF := ifF hc hF
    refine w_aload_n hB 0 dX10_enough_8 rfl rfl ?_
    refine w_getC hB (v := 212) ff_X10_5 (soM hp.1 sh_64 (by decide)) hp.1 cr_64_5 (by decide) q_388 dX10_enough_9 ?_
    refine w_aload_n hB 0 dX10_enough_12 rfl rfl ?_
    refine w_getR hB ff_X10_2 (soM hp.1 sh_64 (by decide)) q_385 dX10_enough_13 ?_
    refine w_aload_n hB 0 dX10_enough_16 rfl rfl ?_
    refine w_getR hB ff_X10_2 (soM hp.1 sh_64 (by decide)) q_385 dX10_enough_17 ?_
    obtain ⟨g1, hF⟩ := gdS hF
    refine w_getC hB (v := cr (M1m.2.2.1 64 2) 12) ff_X9_12 (soM hp.1 g1 (by decide)) hp.1 rfl (shc_ne (crc_8_12 g1).1) q_235 dX10_enough_20 ?_
    refine w_iload_n hB 1 dX10_enough_23 rfl rfl ?_
    obtain ⟨g2, hF⟩ := gdS hF
    refine w_aaldC hB (c := 6) (v := cr (cr (M1m.2.2.1 64 2) 12) x1.toNatClampNeg) (soM hp.1 (crc_8_12 g1).1 (by decide)) rfl (by decide) hp.1 (sl_s (crc_8_12 g1).1 (by decide) (crc_8_12 g1).2) g2 rfl (shc_ne (cre_26 (crc_8_12 g1).1 (by rw [(crc_8_12 g1).2]; exact inb_lt g2))) dX10_enough_24 ?_
    obtain ⟨r2, M2m, hc_M2m, hF⟩ := clS hF
    refine w_callV hB (ci := 3) (As := [vr (M1m.2.2.1 64 2), vr (cr (cr (M1m.2.2.1 64 2) 12) x1.toNatClampNeg)]) (st := []) cw_X10_261 q_547 q_548 rfl (soM hp.1 sh_212 (by decide)) (c_X4_fewestCameras hp hc_M2m) ⟨rfl, rfl⟩ (by decide) (by decide) rfl (Nat.le_of_ble_eq_true rfl) dX10_enough_25 rfl ?_
    refine w_goto hB 32 dX10_enough_28 (by decide) ?_
    obtain ⟨e1, e2⟩ := retS hF
    subst e2
    exact w_iret hB dX10_enough_32 e1
theorem c_X10_enough {K : Kt} {l : Launch} (hp : St K) {r : Int32} {M1 : Mem} {x1 : Int32} {M : Mem} (hF : f_X10_enough x1 M = some (r, M1)) : MT K l yX10_enough cX10_enough 2 (some .int) { frames := 5, cells := 0, slots := 0, locals := 127 } [vr 64, vi x1] M (some (vi r)) M1 0 0 :=
  MT_of (by decide) rfl (Nat.le_of_ble_eq_true rfl) (fun X _ hB _ => b_X10_enough hp hB hF)
set_option maxRecDepth 100000 in
set_option maxHeartbeats 4000000 in
theorem b_X10_mend {K : Kt} {X : Xt} (hp : St K) (hB : Bx K X { frames := 5, cells := 0, slots := 0, locals := 124 } cX10_mend 2 RX10 (some .int)) {r : Int32} {M1 : Mem} {x1 : Int32} {M : Mem} (hF : f_X10_mend x1 M = some (r, M1)) : Wt K X (QM K X (some (vi r)) M1 0 0) 0 0 M 0 [(0, vr 64), (1, vi x1)] [] := by
  unfold f_X10_mend at hF
  refine w_aload_n hB 0 dX10_mend_0 rfl rfl ?_
  refine w_iload_n hB 1 dX10_mend_1 rfl rfl ?_
  obtain ⟨r1, M1m, hc_M1m, hF⟩ := clS hF
  refine w_callV hB (ci := 8) (As := [vi x1]) (st := []) cw_X10_184 q_432 q_0 rfl (soM hp.1 sh_64 (by decide)) (c_X10_isPlay hp hc_M1m) ⟨rfl, rfl⟩ (by decide) (by decide) rfl (Nat.le_of_ble_eq_true rfl) dX10_mend_2 rfl ?_
  refine w_if_eq hB 31 dX10_mend_5 (by decide) (fun hc => ?_) (fun hc => ?_)
  · replace hF := ifT hc hF
    refine w_iconst hB (-1) (by decide) dX10_mend_31 ?_
    obtain ⟨e1, e2⟩ := retS hF
    subst e2
    exact w_iret hB dX10_mend_32 e1
  · replace hF := ifF hc hF
    refine w_aload_n hB 0 dX10_mend_8 rfl rfl ?_
    refine w_getC hB (v := 212) ff_X10_5 (soM hp.1 sh_64 (by decide)) hp.1 cr_64_5 (by decide) q_388 dX10_mend_9 ?_
    refine w_aload_n hB 0 dX10_mend_12 rfl rfl ?_
    refine w_getR hB ff_X10_2 (soM hp.1 sh_64 (by decide)) q_385 dX10_mend_13 ?_
    refine w_aload_n hB 0 dX10_mend_16 rfl rfl ?_
    refine w_getR hB ff_X10_2 (soM hp.1 sh_64 (by decide)) q_385 dX10_mend_17 ?_
    obtain ⟨g1, hF⟩ := gdS hF
    refine w_getC hB (v := cr (M1m.2.2.1 64 2) 12) ff_X9_12 (soM hp.1 g1 (by decide)) hp.1 rfl (shc_ne (crc_8_12 g1).1) q_235 dX10_mend_20 ?_
    refine w_iload_n hB 1 dX10_mend_23 rfl rfl ?_
    obtain ⟨g2, hF⟩ := gdS hF
    refine w_aaldC hB (c := 6) (v := cr (cr (M1m.2.2.1 64 2) 12) x1.toNatClampNeg) (soM hp.1 (crc_8_12 g1).1 (by decide)) rfl (by decide) hp.1 (sl_s (crc_8_12 g1).1 (by decide) (crc_8_12 g1).2) g2 rfl (shc_ne (cre_26 (crc_8_12 g1).1 (by rw [(crc_8_12 g1).2]; exact inb_lt g2))) dX10_mend_24 ?_
    obtain ⟨r2, M2m, hc_M2m, hF⟩ := clS hF
    refine w_callV hB (ci := 3) (As := [vr (M1m.2.2.1 64 2), vr (cr (cr (M1m.2.2.1 64 2) 12) x1.toNatClampNeg)]) (st := []) cw_X10_264 q_557 q_558 rfl (soM hp.1 sh_212 (by decide)) (c_X4_fewestLeftOut hp hc_M2m) ⟨rfl, rfl⟩ (by decide) (by decide) rfl (Nat.le_of_ble_eq_true rfl) dX10_mend_25 rfl ?_
    refine w_goto hB 32 dX10_mend_28 (by decide) ?_
    obtain ⟨e1, e2⟩ := retS hF
    subst e2
    exact w_iret hB dX10_mend_32 e1
theorem c_X10_mend {K : Kt} {l : Launch} (hp : St K) {r : Int32} {M1 : Mem} {x1 : Int32} {M : Mem} (hF : f_X10_mend x1 M = some (r, M1)) : MT K l yX10_mend cX10_mend 2 (some .int) { frames := 5, cells := 0, slots := 0, locals := 124 } [vr 64, vi x1] M (some (vi r)) M1 0 0 :=
  MT_of (by decide) rfl (Nat.le_of_ble_eq_true rfl) (fun X _ hB _ => b_X10_mend hp hB hF)
set_option maxRecDepth 100000 in
set_option maxHeartbeats 4000000 in
theorem b_X10_wrong_b4_s {K : Kt} {X : Xt} (hp : St K) (hB : Bx K X { frames := 5, cells := 0, slots := 0, locals := 125 } cX10_wrong 4 RX10 (some .int)) {r : Int32} {M1 : Mem} {rec4 : Int32 → Int32 → Mem → Option (Int32 × Mem)}
    (h4 : ∀ x1 x2 M, rec4 x1 x2 M = some (r, M1) → Wt K X (QM K X (some (vi r)) M1 0 0) 0 0 M 4 [(0, vr 64), (1, vi x1), (2, vi x2)] []) {x1 : Int32} {x2 : Int32} {M : Mem} (hF : f_X10_wrong_b4_s rec4 x1 x2 M = some (r, M1)) : Wt K X (QM K X (some (vi r)) M1 0 0) 0 0 M 4 [(0, vr 64), (1, vi x1), (2, vi x2)] [] := by
  unfold f_X10_wrong_b4_s at hF
  refine w_iload_n hB 2 dX10_wrong_4 rfl rfl ?_
  refine w_aload_n hB 0 dX10_wrong_5 rfl rfl ?_
  refine w_getR hB ff_X10_2 (soM hp.1 sh_64 (by decide)) q_385 dX10_wrong_6 ?_
  obtain ⟨g1, hF⟩ := gdS hF
  refine w_getI hB ff_X9_11 (soM hp.1 g1 (by decide)) q_232 dX10_wrong_9 ?_
  refine w_icmp_ge hB 60 dX10_wrong_12 (by decide) (fun hc => ?_) (fun hc => ?_)
  · replace hF := ifT hc hF
    refine w_iload_n hB 1 dX10_wrong_60 rfl rfl ?_
    obtain ⟨e1, e2⟩ := retS hF
    subst e2
    exact w_iret hB dX10_wrong_61 e1
  · replace hF := ifF hc hF
    refine w_aload_n hB 0 dX10_wrong_15 rfl rfl ?_
    refine w_getR hB ff_X10_2 (soM hp.1 sh_64 (by decide)) q_385 dX10_wrong_16 ?_
    refine w_getC hB (v := cr (M.2.2.1 64 2) 12) ff_X9_12 (soM hp.1 g1 (by decide)) hp.1 rfl (shc_ne (crc_8_12 g1).1) q_235 dX10_wrong_19 ?_
    refine w_iload_n hB 2 dX10_wrong_22 rfl rfl ?_
    obtain ⟨g2, hF⟩ := gdS hF
    refine w_aaldC hB (c := 6) (v := cr (cr (M.2.2.1 64 2) 12) x2.toNatClampNeg) (soM hp.1 (crc_8_12 g1).1 (by decide)) rfl (by decide) hp.1 (sl_s (crc_8_12 g1).1 (by decide) (crc_8_12 g1).2) g2 rfl (shc_ne (cre_26 (crc_8_12 g1).1 (by rw [(crc_8_12 g1).2]; exact inb_lt g2))) dX10_wrong_23 ?_
    obtain ⟨o1, e_o1, hF⟩ := bndS hF
    rw [← e_o1]
    refine w_astore_n hB (L' := [(3, vr o1), (0, vr 64), (1, vi x1), (2, vi x2)]) dX10_wrong_24 rfl (by decide) rfl ?_
    refine w_aload_n hB 1 dX10_wrong_25 rfl rfl ?_
    refine w_getC hB (v := 212) ff_X10_5 (soM hp.1 sh_64 (by decide)) hp.1 cr_64_5 (by decide) q_388 dX10_wrong_26 ?_
    refine w_aload_n hB 1 dX10_wrong_29 rfl rfl ?_
    refine w_getR hB ff_X10_2 (soM hp.1 sh_64 (by decide)) q_385 dX10_wrong_30 ?_
    refine w_aload_n hB 0 dX10_wrong_33 rfl rfl ?_
    refine w_aload_n hB 0 dX10_wrong_34 rfl rfl ?_
    refine w_getI hB ff_X6_4 (soM hp.1 (by rw [e_o1]; exact (cre_26 (crc_8_12 g1).1 (by rw [(crc_8_12 g1).2]; exact inb_lt g2))) (by decide)) q_133 dX10_wrong_35 ?_
    obtain ⟨r1, M1m, hc_M1m, hF⟩ := clS hF
    refine w_callV hB (ci := 3) (As := [vr (M.2.2.1 64 2), vr o1, vi (M.1 o1 4)]) (st := []) cw_X10_365 q_569 q_570 rfl (soM hp.1 sh_212 (by decide)) (c_X4_trueCall hp hc_M1m) ⟨rfl, rfl⟩ (by decide) (by decide) rfl (Nat.le_of_ble_eq_true rfl) dX10_wrong_38 rfl ?_
    refine w_aload_n hB 0 dX10_wrong_41 rfl rfl ?_
    refine w_getI hB ff_X6_4 (soM hp.1 (by rw [e_o1]; exact (cre_26 (crc_8_12 g1).1 (by rw [(crc_8_12 g1).2]; exact inb_lt g2))) (by decide)) q_133 dX10_wrong_42 ?_
    refine w_icmp_eq hB 54 dX10_wrong_45 (by decide) (fun hc => ?_) (fun hc => ?_)
    · replace hF := ifT hc hF
      obtain ⟨a1, e_a1, hF⟩ := bndS hF
      refine w_iinc hB 3 (v := 1) (L' := [(2, vi a1), (3, vr o1), (0, vr 64), (1, vi x1)]) dX10_wrong_54 rfl (by decide) (by decide) e_a1 rfl ?_
      refine w_goto hB 4 dX10_wrong_57 (by decide) ?_
      exact Wt.sub (L' := [(0, vr 64), (1, vi x1), (2, vi a1)]) [2, 3, 0] rfl (h4 _ _ M1m hF)
    · replace hF := ifF hc hF
      refine w_iload_n hB 2 dX10_wrong_48 rfl rfl ?_
      refine w_iconst hB 1 (by decide) dX10_wrong_49 ?_
      refine w_iload_n hB 3 dX10_wrong_50 rfl rfl ?_
      refine w_ishl hB dX10_wrong_51 ?_
      refine w_ior hB dX10_wrong_52 ?_
      obtain ⟨a2, e_a2, hF⟩ := bndS hF
      refine w_istore_n hB (L' := [(1, vi a2), (3, vr o1), (0, vr 64), (2, vi x2)]) dX10_wrong_53 rfl (by decide) e_a2 rfl ?_
      obtain ⟨a3, e_a3, hF⟩ := bndS hF
      refine w_iinc hB 3 (v := 1) (L' := [(2, vi a3), (1, vi a2), (3, vr o1), (0, vr 64)]) dX10_wrong_54 rfl (by decide) (by decide) e_a3 rfl ?_
      refine w_goto hB 4 dX10_wrong_57 (by decide) ?_
      exact Wt.sub (L' := [(0, vr 64), (1, vi a2), (2, vi a3)]) [3, 1, 0] rfl (h4 _ _ M1m hF)
theorem b_X10_wrong_b4 {K : Kt} {X : Xt} (hp : St K) (hB : Bx K X { frames := 5, cells := 0, slots := 0, locals := 125 } cX10_wrong 4 RX10 (some .int)) {r : Int32} {M1 : Mem} (k : Nat) : ∀ (x1 : Int32) (x2 : Int32) M, f_X10_wrong_b4 k x1 x2 M = some (r, M1) → Wt K X (QM K X (some (vi r)) M1 0 0) 0 0 M 4 [(0, vr 64), (1, vi x1), (2, vi x2)] [] := by
  refine lpN_ind (P := fun (f : Int32 → Int32 → Mem → Option (Int32 × Mem)) => ∀ (x1 : Int32) (x2 : Int32) M, f x1 x2 M = some (r, M1) → Wt K X (QM K X (some (vi r)) M1 0 0) 0 0 M 4 [(0, vr 64), (1, vi x1), (2, vi x2)] []) (fun _ _ _ h => by cases h) (fun f hf x1 x2 M hF => ?_) k
  exact b_X10_wrong_b4_s hp hB hf hF
set_option maxRecDepth 100000 in
set_option maxHeartbeats 4000000 in
theorem b_X10_wrong {K : Kt} {X : Xt} (hp : St K) (hB : Bx K X { frames := 5, cells := 0, slots := 0, locals := 125 } cX10_wrong 4 RX10 (some .int)) {r : Int32} {M1 : Mem} {M : Mem} (hF : f_X10_wrong M = some (r, M1)) : Wt K X (QM K X (some (vi r)) M1 0 0) 0 0 M 0 [(0, vr 64)] [] := by
  unfold f_X10_wrong at hF
  refine w_iconst hB 0 (by decide) dX10_wrong_0 ?_
  refine w_istore_n hB (L' := [(1, vi 0), (0, vr 64)]) dX10_wrong_1 rfl (by decide) rfl rfl ?_
  refine w_iconst hB 0 (by decide) dX10_wrong_2 ?_
  refine w_istore_n hB (L' := [(2, vi 0), (1, vi 0), (0, vr 64)]) dX10_wrong_3 rfl (by decide) rfl rfl ?_
  exact Wt.sub (L' := [(0, vr 64), (1, vi 0), (2, vi 0)]) [2, 1, 0] rfl (b_X10_wrong_b4 hp hB fuel _ _ M hF)
theorem c_X10_wrong {K : Kt} {l : Launch} (hp : St K) {r : Int32} {M1 : Mem} {M : Mem} (hF : f_X10_wrong M = some (r, M1)) : MT K l yX10_wrong cX10_wrong 4 (some .int) { frames := 5, cells := 0, slots := 0, locals := 125 } [vr 64] M (some (vi r)) M1 0 0 :=
  MT_of (by decide) rfl (Nat.le_of_ble_eq_true rfl) (fun X _ hB _ => b_X10_wrong hp hB hF)
set_option maxRecDepth 100000 in
set_option maxHeartbeats 4000000 in
theorem b_X10_count {K : Kt} {X : Xt} (hp : St K) (hB : Bx K X { frames := 0, cells := 0, slots := 0, locals := 0 } cX10_count 2 RX10 (some .int)) {r : Int32} {M1 : Mem} {x1 : Int32} {M : Mem} (hF : f_X10_count x1 M = some (r, M1)) : Wt K X (QM K X (some (vi r)) M1 0 0) 0 0 M 0 [(0, vr 64), (1, vi x1)] [] := by
  unfold f_X10_count at hF
  refine w_iload_n hB 1 dX10_count_0 rfl rfl ?_
  by_cases ht0 : x1 = 0
  · replace hF := ifT ht0 hF
    refine w_tsIn hB 76 dX10_count_1 (off := 75) (by rw [ht0]; decide) (by rw [ht0]; decide) (by rw [ht0]; rfl) (by decide) ?_
    refine w_aload_n hB 0 dX10_count_76 rfl rfl ?_
    refine w_getR hB ff_X10_2 (soM hp.1 sh_64 (by decide)) q_385 dX10_count_77 ?_
    obtain ⟨g1, hF⟩ := gdS hF
    refine w_getI hB ff_X9_0 (soM hp.1 g1 (by decide)) q_197 dX10_count_80 ?_
    obtain ⟨e1, e2⟩ := retS hF
    subst e2
    exact w_iret hB dX10_count_83 e1
  replace hF := ifF ht0 hF
  by_cases ht1 : x1 = 1
  · replace hF := ifT ht1 hF
    refine w_tsIn hB 84 dX10_count_1 (off := 83) (by rw [ht1]; decide) (by rw [ht1]; decide) (by rw [ht1]; rfl) (by decide) ?_
    refine w_aload_n hB 0 dX10_count_84 rfl rfl ?_
    refine w_getR hB ff_X10_2 (soM hp.1 sh_64 (by decide)) q_385 dX10_count_85 ?_
    obtain ⟨g2, hF⟩ := gdS hF
    refine w_getI hB ff_X9_3 (soM hp.1 g2 (by decide)) q_208 dX10_count_88 ?_
    obtain ⟨e1, e2⟩ := retS hF
    subst e2
    exact w_iret hB dX10_count_91 e1
  replace hF := ifF ht1 hF
  by_cases ht2 : x1 = 2
  · replace hF := ifT ht2 hF
    refine w_tsIn hB 92 dX10_count_1 (off := 91) (by rw [ht2]; decide) (by rw [ht2]; decide) (by rw [ht2]; rfl) (by decide) ?_
    refine w_aload_n hB 0 dX10_count_92 rfl rfl ?_
    refine w_getR hB ff_X10_2 (soM hp.1 sh_64 (by decide)) q_385 dX10_count_93 ?_
    obtain ⟨g3, hF⟩ := gdS hF
    refine w_getI hB ff_X9_5 (soM hp.1 g3 (by decide)) q_216 dX10_count_96 ?_
    obtain ⟨e1, e2⟩ := retS hF
    subst e2
    exact w_iret hB dX10_count_99 e1
  replace hF := ifF ht2 hF
  by_cases ht3 : x1 = 3
  · replace hF := ifT ht3 hF
    refine w_tsIn hB 100 dX10_count_1 (off := 99) (by rw [ht3]; decide) (by rw [ht3]; decide) (by rw [ht3]; rfl) (by decide) ?_
    refine w_aload_n hB 0 dX10_count_100 rfl rfl ?_
    refine w_getR hB ff_X10_2 (soM hp.1 sh_64 (by decide)) q_385 dX10_count_101 ?_
    obtain ⟨g4, hF⟩ := gdS hF
    refine w_getI hB ff_X9_7 (soM hp.1 g4 (by decide)) q_222 dX10_count_104 ?_
    obtain ⟨e1, e2⟩ := retS hF
    subst e2
    exact w_iret hB dX10_count_107 e1
  replace hF := ifF ht3 hF
  by_cases ht4 : x1 = 4
  · replace hF := ifT ht4 hF
    refine w_tsIn hB 108 dX10_count_1 (off := 107) (by rw [ht4]; decide) (by rw [ht4]; decide) (by rw [ht4]; rfl) (by decide) ?_
    refine w_aload_n hB 0 dX10_count_108 rfl rfl ?_
    refine w_getR hB ff_X10_2 (soM hp.1 sh_64 (by decide)) q_385 dX10_count_109 ?_
    obtain ⟨g5, hF⟩ := gdS hF
    refine w_getI hB ff_X9_9 (soM hp.1 g5 (by decide)) q_228 dX10_count_112 ?_
    obtain ⟨e1, e2⟩ := retS hF
    subst e2
    exact w_iret hB dX10_count_115 e1
  replace hF := ifF ht4 hF
  by_cases ht5 : x1 = 5
  · replace hF := ifT ht5 hF
    refine w_tsIn hB 116 dX10_count_1 (off := 115) (by rw [ht5]; decide) (by rw [ht5]; decide) (by rw [ht5]; rfl) (by decide) ?_
    refine w_aload_n hB 0 dX10_count_116 rfl rfl ?_
    refine w_getR hB ff_X10_2 (soM hp.1 sh_64 (by decide)) q_385 dX10_count_117 ?_
    obtain ⟨g6, hF⟩ := gdS hF
    refine w_getI hB ff_X9_11 (soM hp.1 g6 (by decide)) q_232 dX10_count_120 ?_
    obtain ⟨e1, e2⟩ := retS hF
    subst e2
    exact w_iret hB dX10_count_123 e1
  replace hF := ifF ht5 hF
  by_cases ht6 : x1 = 6
  · replace hF := ifT ht6 hF
    refine w_tsIn hB 124 dX10_count_1 (off := 123) (by rw [ht6]; decide) (by rw [ht6]; decide) (by rw [ht6]; rfl) (by decide) ?_
    refine w_aload_n hB 0 dX10_count_124 rfl rfl ?_
    refine w_getC hB (v := 217) ff_X10_6 (soM hp.1 sh_64 (by decide)) hp.1 cr_64_6 (by decide) q_389 dX10_count_125 ?_
    refine w_getI hB ff_X3_0 (soM hp.1 sh_217 (by decide)) q_350 dX10_count_128 ?_
    obtain ⟨e1, e2⟩ := retS hF
    subst e2
    exact w_iret hB dX10_count_131 e1
  replace hF := ifF ht6 hF
  by_cases ht7 : x1 = 7
  · replace hF := ifT ht7 hF
    refine w_tsIn hB 132 dX10_count_1 (off := 131) (by rw [ht7]; decide) (by rw [ht7]; decide) (by rw [ht7]; rfl) (by decide) ?_
    refine w_aload_n hB 0 dX10_count_132 rfl rfl ?_
    refine w_getC hB (v := 217) ff_X10_6 (soM hp.1 sh_64 (by decide)) hp.1 cr_64_6 (by decide) q_389 dX10_count_133 ?_
    refine w_getI hB ff_X3_9 (soM hp.1 sh_217 (by decide)) q_360 dX10_count_136 ?_
    obtain ⟨e1, e2⟩ := retS hF
    subst e2
    exact w_iret hB dX10_count_139 e1
  replace hF := ifF ht7 hF
  by_cases ht8 : x1 = 8
  · replace hF := ifT ht8 hF
    refine w_tsIn hB 140 dX10_count_1 (off := 139) (by rw [ht8]; decide) (by rw [ht8]; decide) (by rw [ht8]; rfl) (by decide) ?_
    refine w_aload_n hB 0 dX10_count_140 rfl rfl ?_
    refine w_getI hB ff_X10_9 (soM hp.1 sh_64 (by decide)) q_391 dX10_count_141 ?_
    obtain ⟨e1, e2⟩ := retS hF
    subst e2
    exact w_iret hB dX10_count_144 e1
  replace hF := ifF ht8 hF
  by_cases ht9 : x1 = 9
  · replace hF := ifT ht9 hF
    refine w_tsIn hB 145 dX10_count_1 (off := 144) (by rw [ht9]; decide) (by rw [ht9]; decide) (by rw [ht9]; rfl) (by decide) ?_
    refine w_aload_n hB 0 dX10_count_145 rfl rfl ?_
    refine w_getI hB ff_X10_1 (soM hp.1 sh_64 (by decide)) q_384 dX10_count_146 ?_
    obtain ⟨e1, e2⟩ := retS hF
    subst e2
    exact w_iret hB dX10_count_149 e1
  replace hF := ifF ht9 hF
  by_cases ht10 : x1 = 10
  · replace hF := ifT ht10 hF
    refine w_tsIn hB 150 dX10_count_1 (off := 149) (by rw [ht10]; decide) (by rw [ht10]; decide) (by rw [ht10]; rfl) (by decide) ?_
    refine w_aload_n hB 0 dX10_count_150 rfl rfl ?_
    refine w_getI hB ff_X10_13 (soM hp.1 sh_64 (by decide)) q_395 dX10_count_151 ?_
    obtain ⟨e1, e2⟩ := retS hF
    subst e2
    exact w_iret hB dX10_count_154 e1
  replace hF := ifF ht10 hF
  by_cases ht11 : x1 = 11
  · replace hF := ifT ht11 hF
    refine w_tsIn hB 155 dX10_count_1 (off := 154) (by rw [ht11]; decide) (by rw [ht11]; decide) (by rw [ht11]; rfl) (by decide) ?_
    refine w_aload_n hB 0 dX10_count_155 rfl rfl ?_
    refine w_getR hB ff_X10_2 (soM hp.1 sh_64 (by decide)) q_385 dX10_count_156 ?_
    obtain ⟨g7, hF⟩ := gdS hF
    refine w_getC hB (v := cr (M.2.2.1 64 2) 13) ff_X9_13 (soM hp.1 g7 (by decide)) hp.1 rfl (shc_ne (crc_8_13 g7).1) q_239 dX10_count_159 ?_
    refine w_iconst hB 0 (by decide) dX10_count_162 ?_
    refine w_iald hB (soM hp.1 (crc_8_13 g7).1 (by decide)) (sl_s (crc_8_13 g7).1 (by decide) (crc_8_13 g7).2) (by decide) dX10_count_163 ?_
    rw [show (0 : Int32).toNatClampNeg = 0 by decide]
    obtain ⟨e1, e2⟩ := retS hF
    subst e2
    exact w_iret hB dX10_count_164 e1
  replace hF := ifF ht11 hF
  by_cases ht12 : x1 = 12
  · replace hF := ifT ht12 hF
    refine w_tsIn hB 165 dX10_count_1 (off := 164) (by rw [ht12]; decide) (by rw [ht12]; decide) (by rw [ht12]; rfl) (by decide) ?_
    refine w_aload_n hB 0 dX10_count_165 rfl rfl ?_
    refine w_getR hB ff_X10_2 (soM hp.1 sh_64 (by decide)) q_385 dX10_count_166 ?_
    obtain ⟨g8, hF⟩ := gdS hF
    refine w_getC hB (v := cr (M.2.2.1 64 2) 13) ff_X9_13 (soM hp.1 g8 (by decide)) hp.1 rfl (shc_ne (crc_8_13 g8).1) q_239 dX10_count_169 ?_
    refine w_iconst hB 1 (by decide) dX10_count_172 ?_
    refine w_iald hB (soM hp.1 (crc_8_13 g8).1 (by decide)) (sl_s (crc_8_13 g8).1 (by decide) (crc_8_13 g8).2) (by decide) dX10_count_173 ?_
    rw [show (1 : Int32).toNatClampNeg = 1 by decide]
    obtain ⟨e1, e2⟩ := retS hF
    subst e2
    exact w_iret hB dX10_count_174 e1
  replace hF := ifF ht12 hF
  by_cases ht13 : x1 = 13
  · replace hF := ifT ht13 hF
    refine w_tsIn hB 175 dX10_count_1 (off := 174) (by rw [ht13]; decide) (by rw [ht13]; decide) (by rw [ht13]; rfl) (by decide) ?_
    refine w_aload_n hB 0 dX10_count_175 rfl rfl ?_
    refine w_getR hB ff_X10_2 (soM hp.1 sh_64 (by decide)) q_385 dX10_count_176 ?_
    obtain ⟨g9, hF⟩ := gdS hF
    refine w_getC hB (v := cr (M.2.2.1 64 2) 13) ff_X9_13 (soM hp.1 g9 (by decide)) hp.1 rfl (shc_ne (crc_8_13 g9).1) q_239 dX10_count_179 ?_
    refine w_iconst hB 2 (by decide) dX10_count_182 ?_
    refine w_iald hB (soM hp.1 (crc_8_13 g9).1 (by decide)) (sl_s (crc_8_13 g9).1 (by decide) (crc_8_13 g9).2) (by decide) dX10_count_183 ?_
    rw [show (2 : Int32).toNatClampNeg = 2 by decide]
    obtain ⟨e1, e2⟩ := retS hF
    subst e2
    exact w_iret hB dX10_count_184 e1
  replace hF := ifF ht13 hF
  by_cases ht14 : x1 = 14
  · replace hF := ifT ht14 hF
    refine w_tsIn hB 185 dX10_count_1 (off := 184) (by rw [ht14]; decide) (by rw [ht14]; decide) (by rw [ht14]; rfl) (by decide) ?_
    refine w_aload_n hB 0 dX10_count_185 rfl rfl ?_
    refine w_getR hB ff_X10_2 (soM hp.1 sh_64 (by decide)) q_385 dX10_count_186 ?_
    obtain ⟨g10, hF⟩ := gdS hF
    refine w_getC hB (v := cr (M.2.2.1 64 2) 13) ff_X9_13 (soM hp.1 g10 (by decide)) hp.1 rfl (shc_ne (crc_8_13 g10).1) q_239 dX10_count_189 ?_
    refine w_iconst hB 3 (by decide) dX10_count_192 ?_
    refine w_iald hB (soM hp.1 (crc_8_13 g10).1 (by decide)) (sl_s (crc_8_13 g10).1 (by decide) (crc_8_13 g10).2) (by decide) dX10_count_193 ?_
    rw [show (3 : Int32).toNatClampNeg = 3 by decide]
    obtain ⟨e1, e2⟩ := retS hF
    subst e2
    exact w_iret hB dX10_count_194 e1
  replace hF := ifF ht14 hF
  have tht0 := lv_neT ht0 (show (0 : Int32).toInt = 0 by decide)
  have tht1 := lv_neT ht1 (show (1 : Int32).toInt = 1 by decide)
  have tht2 := lv_neT ht2 (show (2 : Int32).toInt = 2 by decide)
  have tht3 := lv_neT ht3 (show (3 : Int32).toInt = 3 by decide)
  have tht4 := lv_neT ht4 (show (4 : Int32).toInt = 4 by decide)
  have tht5 := lv_neT ht5 (show (5 : Int32).toInt = 5 by decide)
  have tht6 := lv_neT ht6 (show (6 : Int32).toInt = 6 by decide)
  have tht7 := lv_neT ht7 (show (7 : Int32).toInt = 7 by decide)
  have tht8 := lv_neT ht8 (show (8 : Int32).toInt = 8 by decide)
  have tht9 := lv_neT ht9 (show (9 : Int32).toInt = 9 by decide)
  have tht10 := lv_neT ht10 (show (10 : Int32).toInt = 10 by decide)
  have tht11 := lv_neT ht11 (show (11 : Int32).toInt = 11 by decide)
  have tht12 := lv_neT ht12 (show (12 : Int32).toInt = 12 by decide)
  have tht13 := lv_neT ht13 (show (13 : Int32).toInt = 13 by decide)
  have tht14 := lv_neT ht14 (show (14 : Int32).toInt = 14 by decide)
  refine w_tsOut hB 195 dX10_count_1 (by omega) (by decide) ?_
  refine w_iconst hB (-1) (by decide) dX10_count_195 ?_
  obtain ⟨e1, e2⟩ := retS hF
  subst e2
  exact w_iret hB dX10_count_196 e1
theorem c_X10_count {K : Kt} {l : Launch} (hp : St K) {r : Int32} {M1 : Mem} {x1 : Int32} {M : Mem} (hF : f_X10_count x1 M = some (r, M1)) : MT K l yX10_count cX10_count 2 (some .int) { frames := 0, cells := 0, slots := 0, locals := 0 } [vr 64, vi x1] M (some (vi r)) M1 0 0 :=
  MT_of (by decide) rfl (Nat.le_of_ble_eq_true rfl) (fun X _ hB _ => b_X10_count hp hB hF)
