set_option maxRecDepth 100000 in
set_option maxHeartbeats 4000000 in
theorem b_X4_tellFrame_b55 {K : Kt} {X : Xt} (hp : St K) (hB : Bx K X { frames := 1, cells := 0, slots := 0, locals := 28 } cX4_tellFrame 6 RX4 none) {M1 : Mem} {rec12 : Nat → Int32 → Int32 → Int32 → Mem → Option Mem}
    (h12 : ∀ n1 x2 x3 x4 M, rec12 n1 x2 x3 x4 M = some M1 → Wt K X (QM K X none M1 0 0) 0 0 M 12 [(0, vr 212), (1, vr n1), (2, vi x2), (3, vi x3), (4, vi x4)] []) {n1 : Nat} {x2 : Int32} {x3 : Int32} {x4 : Int32} {x5 : Int32} {M : Mem} (hF : f_X4_tellFrame_b55 rec12 n1 x2 x3 x4 x5 M = some M1) : Wt K X (QM K X none M1 0 0) 0 0 M 55 [(0, vr 212), (1, vr n1), (2, vi x2), (3, vi x3), (4, vi x4), (5, vi x5)] [] := by
  unfold f_X4_tellFrame_b55 at hF
  refine w_aload_n hB 1 dX4_tellFrame_55 rfl rfl ?_
  obtain ⟨g1, hF⟩ := gdS hF
  refine w_getC hB (v := cr n1 9) ff_X6_9 (soM hp.1 g1 (by decide)) hp.1 rfl (shc_ne (crc_6_9 g1).1) q_152 dX4_tellFrame_56 ?_
  refine w_iload_n hB 2 dX4_tellFrame_59 rfl rfl ?_
  obtain ⟨g2, hF⟩ := gdS hF
  refine w_iald hB (soM hp.1 (crc_6_9 g1).1 (by decide)) (sl_s (crc_6_9 g1).1 (by decide) (crc_6_9 g1).2) g2 dX4_tellFrame_60 ?_
  refine w_iload hB 4 dX4_tellFrame_61 rfl ?_
  refine w_ishr hB dX4_tellFrame_63 ?_
  refine w_iconst hB 1 (by decide) dX4_tellFrame_64 ?_
  refine w_iand hB dX4_tellFrame_65 ?_
  refine w_if_eq hB 88 dX4_tellFrame_66 (by decide) (fun hc => ?_) (fun hc => ?_)
  · replace hF := ifT hc hF
    obtain ⟨a1, e_a1, hF⟩ := bndS hF
    refine w_iinc hB 4 (v := 1) (L' := [(4, vi a1), (0, vr 212), (1, vr n1), (2, vi x2), (3, vi x3), (5, vi x5)]) dX4_tellFrame_88 rfl (by decide) (by decide) e_a1 rfl ?_
    refine w_goto hB 12 dX4_tellFrame_91 (by decide) ?_
    exact Wt.sub (L' := [(0, vr 212), (1, vr n1), (2, vi x2), (3, vi x3), (4, vi a1)]) [1, 2, 3, 4, 0] rfl (h12 _ _ _ _ M hF)
  · replace hF := ifF hc hF
    refine w_aload_n hB 0 dX4_tellFrame_69 rfl rfl ?_
    refine w_getC hB (v := 213) ff_X4_0 (soM hp.1 sh_212 (by decide)) hp.1 cr_212_0 (by decide) q_332 dX4_tellFrame_70 ?_
    refine w_iload_n hB 3 dX4_tellFrame_73 rfl rfl ?_
    refine w_iload hB 5 dX4_tellFrame_74 rfl ?_
    refine w_aload_n hB 1 dX4_tellFrame_76 rfl rfl ?_
    refine w_getC hB (v := cr n1 7) ff_X6_7 (soM hp.1 g1 (by decide)) hp.1 rfl (shc_ne (crc_6_7 g1).1) q_144 dX4_tellFrame_77 ?_
    refine w_iload_n hB 2 dX4_tellFrame_80 rfl rfl ?_
    refine w_iald hB (soM hp.1 (crc_6_7 g1).1 (by decide)) (sl_s (crc_6_7 g1).1 (by decide) (crc_6_7 g1).2) g2 dX4_tellFrame_81 ?_
    refine w_ineg hB dX4_tellFrame_82 ?_
    refine w_iconst hB 1 (by decide) dX4_tellFrame_83 ?_
    refine w_isub hB dX4_tellFrame_84 ?_
    obtain ⟨M1m, hc_M1m, hF⟩ := clvS hF
    refine w_callV hB (ci := 1) (As := [vi x3, vi x5, vi ((-(M.1 (cr n1 7) x2.toNatClampNeg)) - 1)]) (st := []) cw_X4_50 q_470 q_471 rfl (soM hp.1 sh_213 (by decide)) (c_X2_tell hp hc_M1m) ⟨rfl, rfl⟩ (by decide) (by decide) rfl (Nat.le_of_ble_eq_true rfl) dX4_tellFrame_85 rfl ?_
    obtain ⟨a2, e_a2, hF⟩ := bndS hF
    refine w_iinc hB 4 (v := 1) (L' := [(4, vi a2), (0, vr 212), (1, vr n1), (2, vi x2), (3, vi x3), (5, vi x5)]) dX4_tellFrame_88 rfl (by decide) (by decide) e_a2 rfl ?_
    refine w_goto hB 12 dX4_tellFrame_91 (by decide) ?_
    exact Wt.sub (L' := [(0, vr 212), (1, vr n1), (2, vi x2), (3, vi x3), (4, vi a2)]) [1, 2, 3, 4, 0] rfl (h12 _ _ _ _ M1m hF)
set_option maxRecDepth 100000 in
set_option maxHeartbeats 4000000 in
theorem b_X4_tellFrame_b12_s {K : Kt} {X : Xt} (hp : St K) (hB : Bx K X { frames := 1, cells := 0, slots := 0, locals := 28 } cX4_tellFrame 6 RX4 none) {M1 : Mem} {rec12 : Nat → Int32 → Int32 → Int32 → Mem → Option Mem}
    (h12 : ∀ n1 x2 x3 x4 M, rec12 n1 x2 x3 x4 M = some M1 → Wt K X (QM K X none M1 0 0) 0 0 M 12 [(0, vr 212), (1, vr n1), (2, vi x2), (3, vi x3), (4, vi x4)] []) {n1 : Nat} {x2 : Int32} {x3 : Int32} {x4 : Int32} {M : Mem} (hF : f_X4_tellFrame_b12_s rec12 n1 x2 x3 x4 M = some M1) : Wt K X (QM K X none M1 0 0) 0 0 M 12 [(0, vr 212), (1, vr n1), (2, vi x2), (3, vi x3), (4, vi x4)] [] := by
  unfold f_X4_tellFrame_b12_s at hF
  refine w_iload hB 4 dX4_tellFrame_12 rfl ?_
  refine w_iconst hB 4 (by decide) dX4_tellFrame_14 ?_
  refine w_icmp_ge hB 94 dX4_tellFrame_15 (by decide) (fun hc => ?_) (fun hc => ?_)
  · replace hF := ifT hc hF
    cases hF
    exact w_vret hB dX4_tellFrame_94
  · replace hF := ifF hc hF
    refine w_bipush hB 6 (by decide) dX4_tellFrame_18 ?_
    refine w_iload hB 4 dX4_tellFrame_20 rfl ?_
    refine w_iadd hB dX4_tellFrame_22 ?_
    obtain ⟨a1, e_a1, hF⟩ := bndS hF
    refine w_istore hB (L' := [(5, vi a1), (0, vr 212), (1, vr n1), (2, vi x2), (3, vi x3), (4, vi x4)]) dX4_tellFrame_23 (by decide) e_a1 rfl ?_
    refine w_aload_n hB 2 dX4_tellFrame_25 rfl rfl ?_
    obtain ⟨g1, hF⟩ := gdS hF
    refine w_getC hB (v := cr n1 8) ff_X6_8 (soM hp.1 g1 (by decide)) hp.1 rfl (shc_ne (crc_6_8 g1).1) q_148 dX4_tellFrame_26 ?_
    refine w_iload_n hB 3 dX4_tellFrame_29 rfl rfl ?_
    obtain ⟨g2, hF⟩ := gdS hF
    refine w_iald hB (soM hp.1 (crc_6_8 g1).1 (by decide)) (sl_s (crc_6_8 g1).1 (by decide) (crc_6_8 g1).2) g2 dX4_tellFrame_30 ?_
    refine w_iload hB 5 dX4_tellFrame_31 rfl ?_
    refine w_ishr hB dX4_tellFrame_33 ?_
    refine w_iconst hB 1 (by decide) dX4_tellFrame_34 ?_
    refine w_iand hB dX4_tellFrame_35 ?_
    refine w_if_eq hB 55 dX4_tellFrame_36 (by decide) (fun hc => ?_) (fun hc => ?_)
    · replace hF := ifT hc hF
      exact Wt.sub (L' := [(0, vr 212), (1, vr n1), (2, vi x2), (3, vi x3), (4, vi x4), (5, vi a1)]) [1, 2, 3, 4, 5, 0] rfl (b_X4_tellFrame_b55 hp hB h12 hF)
    · replace hF := ifF hc hF
      refine w_aload_n hB 1 dX4_tellFrame_39 rfl rfl ?_
      refine w_getC hB (v := 213) ff_X4_0 (soM hp.1 sh_212 (by decide)) hp.1 cr_212_0 (by decide) q_332 dX4_tellFrame_40 ?_
      refine w_iload hB 0 dX4_tellFrame_43 rfl ?_
      refine w_iload_n hB 4 dX4_tellFrame_45 rfl rfl ?_
      refine w_aload_n hB 2 dX4_tellFrame_46 rfl rfl ?_
      refine w_getC hB (v := cr n1 7) ff_X6_7 (soM hp.1 g1 (by decide)) hp.1 rfl (shc_ne (crc_6_7 g1).1) q_144 dX4_tellFrame_47 ?_
      refine w_iload_n hB 3 dX4_tellFrame_50 rfl rfl ?_
      refine w_iald hB (soM hp.1 (crc_6_7 g1).1 (by decide)) (sl_s (crc_6_7 g1).1 (by decide) (crc_6_7 g1).2) g2 dX4_tellFrame_51 ?_
      obtain ⟨M1m, hc_M1m, hF⟩ := clvS hF
      refine w_callV hB (ci := 1) (As := [vi a1, vi x3, vi (M.1 (cr n1 7) x2.toNatClampNeg)]) (st := []) cw_X4_50 q_470 q_471 rfl (soM hp.1 sh_213 (by decide)) (c_X2_tell hp hc_M1m) ⟨rfl, rfl⟩ (by decide) (by decide) rfl (Nat.le_of_ble_eq_true rfl) dX4_tellFrame_52 rfl ?_
      exact Wt.sub (L' := [(0, vr 212), (1, vr n1), (2, vi x2), (3, vi x3), (4, vi x4), (5, vi a1)]) [1, 2, 3, 4, 5, 0] rfl (b_X4_tellFrame_b55 hp hB h12 hF)
theorem b_X4_tellFrame_b12 {K : Kt} {X : Xt} (hp : St K) (hB : Bx K X { frames := 1, cells := 0, slots := 0, locals := 28 } cX4_tellFrame 6 RX4 none) {M1 : Mem} (k : Nat) : ∀ (n1 : Nat) (x2 : Int32) (x3 : Int32) (x4 : Int32) M, f_X4_tellFrame_b12 k n1 x2 x3 x4 M = some M1 → Wt K X (QM K X none M1 0 0) 0 0 M 12 [(0, vr 212), (1, vr n1), (2, vi x2), (3, vi x3), (4, vi x4)] [] := by
  refine lpN_ind (P := fun (f : Nat → Int32 → Int32 → Int32 → Mem → Option Mem) => ∀ (n1 : Nat) (x2 : Int32) (x3 : Int32) (x4 : Int32) M, f n1 x2 x3 x4 M = some M1 → Wt K X (QM K X none M1 0 0) 0 0 M 12 [(0, vr 212), (1, vr n1), (2, vi x2), (3, vi x3), (4, vi x4)] []) (fun _ _ _ _ _ h => by cases h) (fun f hf n1 x2 x3 x4 M hF => ?_) k
  exact b_X4_tellFrame_b12_s hp hB hf hF
set_option maxRecDepth 100000 in
set_option maxHeartbeats 4000000 in
theorem b_X4_tellFrame {K : Kt} {X : Xt} (hp : St K) (hB : Bx K X { frames := 1, cells := 0, slots := 0, locals := 28 } cX4_tellFrame 6 RX4 none) {M1 : Mem} {n1 : Nat} {x2 : Int32} {M : Mem} (hF : f_X4_tellFrame n1 x2 M = some M1) : Wt K X (QM K X none M1 0 0) 0 0 M 0 [(0, vr 212), (1, vr n1), (2, vi x2)] [] := by
  unfold f_X4_tellFrame at hF
  refine w_iconst hB 1 (by decide) dX4_tellFrame_0 ?_
  refine w_aload_n hB 1 dX4_tellFrame_1 rfl rfl ?_
  obtain ⟨g1, hF⟩ := gdS hF
  refine w_getC hB (v := cr n1 6) ff_X6_6 (soM hp.1 g1 (by decide)) hp.1 rfl (shc_ne (crc_6_6 g1).1) q_140 dX4_tellFrame_2 ?_
  refine w_iload_n hB 2 dX4_tellFrame_5 rfl rfl ?_
  obtain ⟨g2, hF⟩ := gdS hF
  refine w_iald hB (soM hp.1 (crc_6_6 g1).1 (by decide)) (sl_s (crc_6_6 g1).1 (by decide) (crc_6_6 g1).2) g2 dX4_tellFrame_6 ?_
  refine w_iadd hB dX4_tellFrame_7 ?_
  obtain ⟨a1, e_a1, hF⟩ := bndS hF
  refine w_istore_n hB (L' := [(3, vi a1), (0, vr 212), (1, vr n1), (2, vi x2)]) dX4_tellFrame_8 rfl (by decide) e_a1 rfl ?_
  refine w_iconst hB 0 (by decide) dX4_tellFrame_9 ?_
  refine w_istore hB (L' := [(4, vi 0), (3, vi a1), (0, vr 212), (1, vr n1), (2, vi x2)]) dX4_tellFrame_10 (by decide) rfl rfl ?_
  exact Wt.sub (L' := [(0, vr 212), (1, vr n1), (2, vi x2), (3, vi a1), (4, vi 0)]) [2, 3, 4, 1, 0] rfl (b_X4_tellFrame_b12 hp hB fuel _ _ _ _ M hF)
theorem c_X4_tellFrame {K : Kt} {l : Launch} (hp : St K) {M1 : Mem} {n1 : Nat} {x2 : Int32} {M : Mem} (hF : f_X4_tellFrame n1 x2 M = some M1) : MT K l yX4_tellFrame cX4_tellFrame 6 none { frames := 1, cells := 0, slots := 0, locals := 28 } [vr 212, vr n1, vi x2] M none M1 0 0 :=
  MT_of (by decide) rfl (Nat.le_of_ble_eq_true rfl) (fun X _ hB _ => b_X4_tellFrame hp hB hF)
set_option maxRecDepth 100000 in
set_option maxHeartbeats 4000000 in
theorem b_X4_sureOf_b14_s {K : Kt} {X : Xt} (hp : St K) (hB : Bx K X { frames := 2, cells := 0, slots := 0, locals := 53 } cX4_sureOf 5 RX4 (some (.object "ReplayBooth$Bounds"))) {r : Nat} {M1 : Mem} {rec14 : Nat → Int32 → Int32 → Mem → Option (Nat × Mem)}
    (h14 : ∀ n2 x3 x4 M, rec14 n2 x3 x4 M = some (r, M1) → Wt K X (QM K X (some (vr r)) M1 0 0) 0 0 M 14 [(0, vr 212), (2, vr n2), (3, vi x3), (4, vi x4)] []) {n2 : Nat} {x3 : Int32} {x4 : Int32} {M : Mem} (hF : f_X4_sureOf_b14_s rec14 n2 x3 x4 M = some (r, M1)) : Wt K X (QM K X (some (vr r)) M1 0 0) 0 0 M 14 [(0, vr 212), (2, vr n2), (3, vi x3), (4, vi x4)] [] := by
  unfold f_X4_sureOf_b14_s at hF
  refine w_iload hB 3 dX4_sureOf_14 rfl ?_
  refine w_aload_n hB 1 dX4_sureOf_16 rfl rfl ?_
  obtain ⟨g1, hF⟩ := gdS hF
  refine w_getI hB ff_X6_5 (soM hp.1 g1 (by decide)) q_136 dX4_sureOf_17 ?_
  refine w_icmp_ge hB 45 dX4_sureOf_20 (by decide) (fun hc => ?_) (fun hc => ?_)
  · replace hF := ifT hc hF
    refine w_aload_n hB 0 dX4_sureOf_45 rfl rfl ?_
    refine w_getC hB (v := 213) ff_X4_0 (soM hp.1 sh_212 (by decide)) hp.1 cr_212_0 (by decide) q_332 dX4_sureOf_46 ?_
    obtain ⟨e1, e2⟩ := retS hF
    subst e2
    exact w_aret hB dX4_sureOf_49 e1
  · replace hF := ifF hc hF
    refine w_iload_n hB 2 dX4_sureOf_23 rfl rfl ?_
    refine w_iload hB 3 dX4_sureOf_24 rfl ?_
    refine w_ishr hB dX4_sureOf_26 ?_
    refine w_iconst hB 1 (by decide) dX4_sureOf_27 ?_
    refine w_iand hB dX4_sureOf_28 ?_
    refine w_if_eq hB 39 dX4_sureOf_29 (by decide) (fun hc => ?_) (fun hc => ?_)
    · replace hF := ifT hc hF
      obtain ⟨a1, e_a1, hF⟩ := bndS hF
      refine w_iinc hB 3 (v := 1) (L' := [(4, vi a1), (0, vr 212), (2, vr n2), (3, vi x3)]) dX4_sureOf_39 rfl (by decide) (by decide) e_a1 rfl ?_
      refine w_goto hB 14 dX4_sureOf_42 (by decide) ?_
      exact Wt.sub (L' := [(0, vr 212), (2, vr n2), (3, vi x3), (4, vi a1)]) [1, 2, 3, 0] rfl (h14 _ _ _ M hF)
    · replace hF := ifF hc hF
      refine w_aload_n hB 0 dX4_sureOf_32 rfl rfl ?_
      refine w_aload_n hB 1 dX4_sureOf_33 rfl rfl ?_
      refine w_iload hB 3 dX4_sureOf_34 rfl ?_
      obtain ⟨M1m, hc_M1m, hF⟩ := clvS hF
      refine w_callV hB (ci := 3) (As := [vr n2, vi x4]) (st := []) cw_X4_36 q_467 q_1 rfl (soM hp.1 sh_212 (by decide)) (c_X4_tellFrame hp hc_M1m) ⟨rfl, rfl⟩ (by decide) (by decide) rfl (Nat.le_of_ble_eq_true rfl) dX4_sureOf_36 rfl ?_
      obtain ⟨a2, e_a2, hF⟩ := bndS hF
      refine w_iinc hB 3 (v := 1) (L' := [(4, vi a2), (0, vr 212), (2, vr n2), (3, vi x3)]) dX4_sureOf_39 rfl (by decide) (by decide) e_a2 rfl ?_
      refine w_goto hB 14 dX4_sureOf_42 (by decide) ?_
      exact Wt.sub (L' := [(0, vr 212), (2, vr n2), (3, vi x3), (4, vi a2)]) [1, 2, 3, 0] rfl (h14 _ _ _ M1m hF)
theorem b_X4_sureOf_b14 {K : Kt} {X : Xt} (hp : St K) (hB : Bx K X { frames := 2, cells := 0, slots := 0, locals := 53 } cX4_sureOf 5 RX4 (some (.object "ReplayBooth$Bounds"))) {r : Nat} {M1 : Mem} (k : Nat) : ∀ (n2 : Nat) (x3 : Int32) (x4 : Int32) M, f_X4_sureOf_b14 k n2 x3 x4 M = some (r, M1) → Wt K X (QM K X (some (vr r)) M1 0 0) 0 0 M 14 [(0, vr 212), (2, vr n2), (3, vi x3), (4, vi x4)] [] := by
  refine lpN_ind (P := fun (f : Nat → Int32 → Int32 → Mem → Option (Nat × Mem)) => ∀ (n2 : Nat) (x3 : Int32) (x4 : Int32) M, f n2 x3 x4 M = some (r, M1) → Wt K X (QM K X (some (vr r)) M1 0 0) 0 0 M 14 [(0, vr 212), (2, vr n2), (3, vi x3), (4, vi x4)] []) (fun _ _ _ _ h => by cases h) (fun f hf n2 x3 x4 M hF => ?_) k
  exact b_X4_sureOf_b14_s hp hB hf hF
set_option maxRecDepth 100000 in
set_option maxHeartbeats 4000000 in
theorem b_X4_sureOf {K : Kt} {X : Xt} (hp : St K) (hB : Bx K X { frames := 2, cells := 0, slots := 0, locals := 53 } cX4_sureOf 5 RX4 (some (.object "ReplayBooth$Bounds"))) {r : Nat} {M1 : Mem} {n1 : Nat} {n2 : Nat} {x3 : Int32} {M : Mem} (hF : f_X4_sureOf n1 n2 x3 M = some (r, M1)) : Wt K X (QM K X (some (vr r)) M1 0 0) 0 0 M 0 [(0, vr 212), (1, vr n1), (2, vr n2), (3, vi x3)] [] := by
  unfold f_X4_sureOf at hF
  refine w_aload_n hB 0 dX4_sureOf_0 rfl rfl ?_
  refine w_getC hB (v := 213) ff_X4_0 (soM hp.1 sh_212 (by decide)) hp.1 cr_212_0 (by decide) q_332 dX4_sureOf_1 ?_
  refine w_aload_n hB 1 dX4_sureOf_4 rfl rfl ?_
  obtain ⟨g1, hF⟩ := gdS hF
  refine w_getC hB (v := cr n1 4) ff_X9_4 (soM hp.1 g1 (by decide)) hp.1 rfl (shc_ne (crc_8_4 g1).1) q_210 dX4_sureOf_5 ?_
  obtain ⟨M1m, hc_M1m, hF⟩ := clvS hF
  refine w_callV hB (ci := 1) (As := [vr (cr n1 4)]) (st := []) cw_X4_26 q_459 q_460 rfl (soM hp.1 sh_213 (by decide)) (c_X2_copyFrom hp hc_M1m) ⟨rfl, rfl⟩ (by decide) (by decide) rfl (Nat.le_of_ble_eq_true rfl) dX4_sureOf_8 rfl ?_
  refine w_iconst hB 0 (by decide) dX4_sureOf_11 ?_
  refine w_istore hB (L' := [(4, vi 0), (0, vr 212), (1, vr n1), (2, vr n2), (3, vi x3)]) dX4_sureOf_12 (by decide) rfl rfl ?_
  exact Wt.sub (L' := [(0, vr 212), (2, vr n2), (3, vi x3), (4, vi 0)]) [1, 3, 4, 0] rfl (b_X4_sureOf_b14 hp hB fuel _ _ _ M1m hF)
theorem c_X4_sureOf {K : Kt} {l : Launch} (hp : St K) {r : Nat} {M1 : Mem} {n1 : Nat} {n2 : Nat} {x3 : Int32} {M : Mem} (hF : f_X4_sureOf n1 n2 x3 M = some (r, M1)) : MT K l yX4_sureOf cX4_sureOf 5 (some (.object "ReplayBooth$Bounds")) { frames := 2, cells := 0, slots := 0, locals := 53 } [vr 212, vr n1, vr n2, vi x3] M (some (vr r)) M1 0 0 :=
  MT_of (by decide) rfl (Nat.le_of_ble_eq_true rfl) (fun X _ hB _ => b_X4_sureOf hp hB hF)
set_option maxRecDepth 100000 in
set_option maxHeartbeats 4000000 in
theorem b_X4_canHold_b13_s {K : Kt} {X : Xt} (hp : St K) (hB : Bx K X { frames := 2, cells := 0, slots := 0, locals := 47 } cX4_canHold 3 RX4 (some .boolean)) {r : Int32} {M1 : Mem} {rec13 : Nat → Int32 → Mem → Option (Int32 × Mem)}
    (h13 : ∀ n1 x2 M, rec13 n1 x2 M = some (r, M1) → Wt K X (QM K X (some (vi r)) M1 0 0) 0 0 M 13 [(0, vr 212), (1, vr n1), (2, vi x2)] []) {n1 : Nat} {x2 : Int32} {M : Mem} (hF : f_X4_canHold_b13_s rec13 n1 x2 M = some (r, M1)) : Wt K X (QM K X (some (vi r)) M1 0 0) 0 0 M 13 [(0, vr 212), (1, vr n1), (2, vi x2)] [] := by
  unfold f_X4_canHold_b13_s at hF
  refine w_iload_n hB 2 dX4_canHold_13 rfl rfl ?_
  refine w_aload_n hB 1 dX4_canHold_14 rfl rfl ?_
  obtain ⟨g1, hF⟩ := gdS hF
  refine w_getI hB ff_X5_3 (soM hp.1 g1 (by decide)) q_82 dX4_canHold_15 ?_
  refine w_icmp_ge hB 53 dX4_canHold_18 (by decide) (fun hc => ?_) (fun hc => ?_)
  · replace hF := ifT hc hF
    refine w_aload_n hB 0 dX4_canHold_53 rfl rfl ?_
    refine w_getC hB (v := 215) ff_X4_1 (soM hp.1 sh_212 (by decide)) hp.1 cr_212_1 (by decide) q_333 dX4_canHold_54 ?_
    refine w_getI hB ff_X2_1 (soM hp.1 sh_215 (by decide)) q_59 dX4_canHold_57 ?_
    refine w_if_ne hB 67 dX4_canHold_60 (by decide) (fun hc => ?_) (fun hc => ?_)
    · replace hF := ifF hc hF
      refine w_iconst hB 0 (by decide) dX4_canHold_67 ?_
      obtain ⟨e1, e2⟩ := retS hF
      subst e2
      exact w_zret hB (by decide) dX4_canHold_68 e1
    · replace hF := ifT hc hF
      refine w_iconst hB 1 (by decide) dX4_canHold_63 ?_
      refine w_goto hB 68 dX4_canHold_64 (by decide) ?_
      obtain ⟨e1, e2⟩ := retS hF
      subst e2
      exact w_zret hB (by decide) dX4_canHold_68 e1
  · replace hF := ifF hc hF
    refine w_aload_n hB 0 dX4_canHold_21 rfl rfl ?_
    refine w_getC hB (v := 215) ff_X4_1 (soM hp.1 sh_212 (by decide)) hp.1 cr_212_1 (by decide) q_333 dX4_canHold_22 ?_
    refine w_bipush hB 6 (by decide) dX4_canHold_25 ?_
    refine w_aload_n hB 1 dX4_canHold_27 rfl rfl ?_
    refine w_getC hB (v := cr n1 4) ff_X5_4 (soM hp.1 g1 (by decide)) hp.1 rfl (shc_ne (crc_5_4 g1).1) q_85 dX4_canHold_28 ?_
    refine w_iload_n hB 2 dX4_canHold_31 rfl rfl ?_
    obtain ⟨g2, hF⟩ := gdS hF
    refine w_iald hB (soM hp.1 (crc_5_4 g1).1 (by decide)) (sl_s (crc_5_4 g1).1 (by decide) (crc_5_4 g1).2) g2 dX4_canHold_32 ?_
    refine w_iadd hB dX4_canHold_33 ?_
    refine w_bipush hB 6 (by decide) dX4_canHold_34 ?_
    refine w_aload_n hB 1 dX4_canHold_36 rfl rfl ?_
    refine w_getC hB (v := cr n1 5) ff_X5_5 (soM hp.1 g1 (by decide)) hp.1 rfl (shc_ne (crc_5_5 g1).1) q_88 dX4_canHold_37 ?_
    refine w_iload_n hB 2 dX4_canHold_40 rfl rfl ?_
    refine w_iald hB (soM hp.1 (crc_5_5 g1).1 (by decide)) (sl_s (crc_5_5 g1).1 (by decide) (crc_5_5 g1).2) g2 dX4_canHold_41 ?_
    refine w_iadd hB dX4_canHold_42 ?_
    refine w_iconst hB (-1) (by decide) dX4_canHold_43 ?_
    obtain ⟨M1m, hc_M1m, hF⟩ := clvS hF
    refine w_callV hB (ci := 1) (As := [vi (6 + (M.1 (cr n1 4) x2.toNatClampNeg)), vi (6 + (M.1 (cr n1 5) x2.toNatClampNeg)), vi (-1)]) (st := []) cw_X4_50 q_470 q_471 rfl (soM hp.1 sh_215 (by decide)) (c_X2_tell hp hc_M1m) ⟨rfl, rfl⟩ (by decide) (by decide) rfl (Nat.le_of_ble_eq_true rfl) dX4_canHold_44 rfl ?_
    obtain ⟨a1, e_a1, hF⟩ := bndS hF
    refine w_iinc hB 2 (v := 1) (L' := [(2, vi a1), (0, vr 212), (1, vr n1)]) dX4_canHold_47 rfl (by decide) (by decide) e_a1 rfl ?_
    refine w_goto hB 13 dX4_canHold_50 (by decide) ?_
    exact Wt.sub (L' := [(0, vr 212), (1, vr n1), (2, vi a1)]) [1, 2, 0] rfl (h13 _ _ M1m hF)
theorem b_X4_canHold_b13 {K : Kt} {X : Xt} (hp : St K) (hB : Bx K X { frames := 2, cells := 0, slots := 0, locals := 47 } cX4_canHold 3 RX4 (some .boolean)) {r : Int32} {M1 : Mem} (k : Nat) : ∀ (n1 : Nat) (x2 : Int32) M, f_X4_canHold_b13 k n1 x2 M = some (r, M1) → Wt K X (QM K X (some (vi r)) M1 0 0) 0 0 M 13 [(0, vr 212), (1, vr n1), (2, vi x2)] [] := by
  refine lpN_ind (P := fun (f : Nat → Int32 → Mem → Option (Int32 × Mem)) => ∀ (n1 : Nat) (x2 : Int32) M, f n1 x2 M = some (r, M1) → Wt K X (QM K X (some (vi r)) M1 0 0) 0 0 M 13 [(0, vr 212), (1, vr n1), (2, vi x2)] []) (fun _ _ _ h => by cases h) (fun f hf n1 x2 M hF => ?_) k
  exact b_X4_canHold_b13_s hp hB hf hF
set_option maxRecDepth 100000 in
set_option maxHeartbeats 4000000 in
theorem b_X4_canHold {K : Kt} {X : Xt} (hp : St K) (hB : Bx K X { frames := 2, cells := 0, slots := 0, locals := 47 } cX4_canHold 3 RX4 (some .boolean)) {r : Int32} {M1 : Mem} {n1 : Nat} {M : Mem} (hF : f_X4_canHold n1 M = some (r, M1)) : Wt K X (QM K X (some (vi r)) M1 0 0) 0 0 M 0 [(0, vr 212), (1, vr n1)] [] := by
  unfold f_X4_canHold at hF
  refine w_aload_n hB 0 dX4_canHold_0 rfl rfl ?_
  refine w_getC hB (v := 215) ff_X4_1 (soM hp.1 sh_212 (by decide)) hp.1 cr_212_1 (by decide) q_333 dX4_canHold_1 ?_
  refine w_aload_n hB 0 dX4_canHold_4 rfl rfl ?_
  refine w_getC hB (v := 213) ff_X4_0 (soM hp.1 sh_212 (by decide)) hp.1 cr_212_0 (by decide) q_332 dX4_canHold_5 ?_
  obtain ⟨M1m, hc_M1m, hF⟩ := clvS hF
  refine w_callV hB (ci := 1) (As := [vr 213]) (st := []) cw_X4_26 q_459 q_460 rfl (soM hp.1 sh_215 (by decide)) (c_X2_copyFrom hp hc_M1m) ⟨rfl, rfl⟩ (by decide) (by decide) rfl (Nat.le_of_ble_eq_true rfl) dX4_canHold_8 rfl ?_
  refine w_iconst hB 0 (by decide) dX4_canHold_11 ?_
  refine w_istore_n hB (L' := [(2, vi 0), (0, vr 212), (1, vr n1)]) dX4_canHold_12 rfl (by decide) rfl rfl ?_
  exact Wt.sub (L' := [(0, vr 212), (1, vr n1), (2, vi 0)]) [1, 2, 0] rfl (b_X4_canHold_b13 hp hB fuel _ _ M1m hF)
theorem c_X4_canHold {K : Kt} {l : Launch} (hp : St K) {r : Int32} {M1 : Mem} {n1 : Nat} {M : Mem} (hF : f_X4_canHold n1 M = some (r, M1)) : MT K l yX4_canHold cX4_canHold 3 (some .boolean) { frames := 2, cells := 0, slots := 0, locals := 47 } [vr 212, vr n1] M (some (vi r)) M1 0 0 :=
  MT_of (by decide) rfl (Nat.le_of_ble_eq_true rfl) (fun X _ hB _ => b_X4_canHold hp hB hF)
set_option maxRecDepth 100000 in
set_option maxHeartbeats 4000000 in
theorem b_X4_mustHold_b2_s {K : Kt} {X : Xt} (hp : St K) (hB : Bx K X { frames := 1, cells := 0, slots := 0, locals := 22 } cX4_mustHold 3 RX4 (some .boolean)) {r : Int32} {M1 : Mem} {rec2 : Nat → Int32 → Mem → Option (Int32 × Mem)}
    (h2 : ∀ n1 x2 M, rec2 n1 x2 M = some (r, M1) → Wt K X (QM K X (some (vi r)) M1 0 0) 0 0 M 2 [(0, vr 212), (1, vr n1), (2, vi x2)] []) {n1 : Nat} {x2 : Int32} {M : Mem} (hF : f_X4_mustHold_b2_s rec2 n1 x2 M = some (r, M1)) : Wt K X (QM K X (some (vi r)) M1 0 0) 0 0 M 2 [(0, vr 212), (1, vr n1), (2, vi x2)] [] := by
  unfold f_X4_mustHold_b2_s at hF
  refine w_iload_n hB 2 dX4_mustHold_2 rfl rfl ?_
  refine w_aload_n hB 1 dX4_mustHold_3 rfl rfl ?_
  obtain ⟨g1, hF⟩ := gdS hF
  refine w_getI hB ff_X5_3 (soM hp.1 g1 (by decide)) q_82 dX4_mustHold_4 ?_
  refine w_icmp_ge hB 40 dX4_mustHold_7 (by decide) (fun hc => ?_) (fun hc => ?_)
  · replace hF := ifT hc hF
    refine w_iconst hB 1 (by decide) dX4_mustHold_40 ?_
    obtain ⟨e1, e2⟩ := retS hF
    subst e2
    exact w_zret hB (by decide) dX4_mustHold_41 e1
  · replace hF := ifF hc hF
    refine w_aload_n hB 0 dX4_mustHold_10 rfl rfl ?_
    refine w_getC hB (v := 213) ff_X4_0 (soM hp.1 sh_212 (by decide)) hp.1 cr_212_0 (by decide) q_332 dX4_mustHold_11 ?_
    refine w_aload_n hB 1 dX4_mustHold_14 rfl rfl ?_
    refine w_getC hB (v := cr n1 4) ff_X5_4 (soM hp.1 g1 (by decide)) hp.1 rfl (shc_ne (crc_5_4 g1).1) q_85 dX4_mustHold_15 ?_
    refine w_iload_n hB 2 dX4_mustHold_18 rfl rfl ?_
    obtain ⟨g2, hF⟩ := gdS hF
    refine w_iald hB (soM hp.1 (crc_5_4 g1).1 (by decide)) (sl_s (crc_5_4 g1).1 (by decide) (crc_5_4 g1).2) g2 dX4_mustHold_19 ?_
    refine w_aload_n hB 1 dX4_mustHold_20 rfl rfl ?_
    refine w_getC hB (v := cr n1 5) ff_X5_5 (soM hp.1 g1 (by decide)) hp.1 rfl (shc_ne (crc_5_5 g1).1) q_88 dX4_mustHold_21 ?_
    refine w_iload_n hB 2 dX4_mustHold_24 rfl rfl ?_
    refine w_iald hB (soM hp.1 (crc_5_5 g1).1 (by decide)) (sl_s (crc_5_5 g1).1 (by decide) (crc_5_5 g1).2) g2 dX4_mustHold_25 ?_
    obtain ⟨r1, M1m, hc_M1m, hF⟩ := clS hF
    refine w_callV hB (ci := 1) (As := [vi (M.1 (cr n1 4) x2.toNatClampNeg), vi (M.1 (cr n1 5) x2.toNatClampNeg)]) (st := []) cw_X4_89 q_478 q_479 rfl (soM hp.1 sh_213 (by decide)) (c_X2_markLess hp hc_M1m) ⟨rfl, rfl⟩ (by decide) (by decide) rfl (Nat.le_of_ble_eq_true rfl) dX4_mustHold_26 rfl ?_
    refine w_if_lt hB 34 dX4_mustHold_29 (by decide) (fun hc => ?_) (fun hc => ?_)
    · replace hF := ifT hc hF
      obtain ⟨a1, e_a1, hF⟩ := bndS hF
      refine w_iinc hB 2 (v := 1) (L' := [(2, vi a1), (0, vr 212), (1, vr n1)]) dX4_mustHold_34 rfl (by decide) (by decide) e_a1 rfl ?_
      refine w_goto hB 2 dX4_mustHold_37 (by decide) ?_
      exact Wt.sub (L' := [(0, vr 212), (1, vr n1), (2, vi a1)]) [1, 2, 0] rfl (h2 _ _ M1m hF)
    · replace hF := ifF hc hF
      refine w_iconst hB 0 (by decide) dX4_mustHold_32 ?_
      obtain ⟨e1, e2⟩ := retS hF
      subst e2
      exact w_zret hB (by decide) dX4_mustHold_33 e1
theorem b_X4_mustHold_b2 {K : Kt} {X : Xt} (hp : St K) (hB : Bx K X { frames := 1, cells := 0, slots := 0, locals := 22 } cX4_mustHold 3 RX4 (some .boolean)) {r : Int32} {M1 : Mem} (k : Nat) : ∀ (n1 : Nat) (x2 : Int32) M, f_X4_mustHold_b2 k n1 x2 M = some (r, M1) → Wt K X (QM K X (some (vi r)) M1 0 0) 0 0 M 2 [(0, vr 212), (1, vr n1), (2, vi x2)] [] := by
  refine lpN_ind (P := fun (f : Nat → Int32 → Mem → Option (Int32 × Mem)) => ∀ (n1 : Nat) (x2 : Int32) M, f n1 x2 M = some (r, M1) → Wt K X (QM K X (some (vi r)) M1 0 0) 0 0 M 2 [(0, vr 212), (1, vr n1), (2, vi x2)] []) (fun _ _ _ h => by cases h) (fun f hf n1 x2 M hF => ?_) k
  exact b_X4_mustHold_b2_s hp hB hf hF
set_option maxRecDepth 100000 in
set_option maxHeartbeats 4000000 in
theorem b_X4_mustHold {K : Kt} {X : Xt} (hp : St K) (hB : Bx K X { frames := 1, cells := 0, slots := 0, locals := 22 } cX4_mustHold 3 RX4 (some .boolean)) {r : Int32} {M1 : Mem} {n1 : Nat} {M : Mem} (hF : f_X4_mustHold n1 M = some (r, M1)) : Wt K X (QM K X (some (vi r)) M1 0 0) 0 0 M 0 [(0, vr 212), (1, vr n1)] [] := by
  unfold f_X4_mustHold at hF
  refine w_iconst hB 0 (by decide) dX4_mustHold_0 ?_
  refine w_istore_n hB (L' := [(2, vi 0), (0, vr 212), (1, vr n1)]) dX4_mustHold_1 rfl (by decide) rfl rfl ?_
  exact Wt.sub (L' := [(0, vr 212), (1, vr n1), (2, vi 0)]) [1, 2, 0] rfl (b_X4_mustHold_b2 hp hB fuel _ _ M hF)
theorem c_X4_mustHold {K : Kt} {l : Launch} (hp : St K) {r : Int32} {M1 : Mem} {n1 : Nat} {M : Mem} (hF : f_X4_mustHold n1 M = some (r, M1)) : MT K l yX4_mustHold cX4_mustHold 3 (some .boolean) { frames := 1, cells := 0, slots := 0, locals := 22 } [vr 212, vr n1] M (some (vi r)) M1 0 0 :=
  MT_of (by decide) rfl (Nat.le_of_ble_eq_true rfl) (fun X _ hB _ => b_X4_mustHold hp hB hF)
set_option maxRecDepth 100000 in
set_option maxHeartbeats 4000000 in
theorem b_X4_byFrames {K : Kt} {X : Xt} (hp : St K) (hB : Bx K X { frames := 3, cells := 0, slots := 0, locals := 77 } cX4_byFrames 5 RX4 (some .int)) {r : Int32} {M1 : Mem} {n1 : Nat} {n2 : Nat} {x3 : Int32} {M : Mem} (hF : f_X4_byFrames n1 n2 x3 M = some (r, M1)) : Wt K X (QM K X (some (vi r)) M1 0 0) 0 0 M 0 [(0, vr 212), (1, vr n1), (2, vr n2), (3, vi x3)] [] := by
  unfold f_X4_byFrames at hF
  refine w_aload_n hB 0 dX4_byFrames_0 rfl rfl ?_
  refine w_aload_n hB 1 dX4_byFrames_1 rfl rfl ?_
  refine w_aload_n hB 2 dX4_byFrames_2 rfl rfl ?_
  refine w_iload_n hB 3 dX4_byFrames_3 rfl rfl ?_
  obtain ⟨o1, M1m, hc_M1m, hF⟩ := clS hF
  refine w_callV hB (ci := 3) (As := [vr n1, vr n2, vi x3]) (st := []) cw_X4_57 q_455 q_456 rfl (soM hp.1 sh_212 (by decide)) (c_X4_sureOf hp hc_M1m) ⟨rfl, rfl⟩ (by decide) (by decide) rfl (Nat.le_of_ble_eq_true rfl) dX4_byFrames_4 rfl ?_
  obtain ⟨g1, hF⟩ := gdS hF
  refine w_getI hB ff_X2_1 (soM hp.1 g1 (by decide)) q_59 dX4_byFrames_7 ?_
  refine w_if_eq hB 15 dX4_byFrames_10 (by decide) (fun hc => ?_) (fun hc => ?_)
  · replace hF := ifT hc hF
    refine w_aload_n hB 1 dX4_byFrames_15 rfl rfl ?_
    obtain ⟨g2, hF⟩ := gdS hF
    refine w_getC hB (v := cr n1 8) ff_X9_8 (soM hp.1 g2 (by decide)) hp.1 rfl (shc_ne (crc_8_8 g2).1) q_224 dX4_byFrames_16 ?_
    refine w_aload_n hB 2 dX4_byFrames_19 rfl rfl ?_
    obtain ⟨g3, hF⟩ := gdS hF
    refine w_getI hB ff_X6_1 (soM hp.1 g3 (by decide)) q_126 dX4_byFrames_20 ?_
    obtain ⟨g4, hF⟩ := gdS hF
    refine w_aaldC hB (c := 4) (v := cr (cr n1 8) (M1m.1 n2 1).toNatClampNeg) (soM hp.1 (crc_8_8 g2).1 (by decide)) rfl (by decide) hp.1 (sl_s (crc_8_8 g2).1 (by decide) (crc_8_8 g2).2) g4 rfl (shc_ne (cre_24 (crc_8_8 g2).1 (by rw [(crc_8_8 g2).2]; exact inb_lt g4))) dX4_byFrames_23 ?_
    obtain ⟨o2, e_o2, hF⟩ := bndS hF
    rw [← e_o2]
    refine w_astore hB (L' := [(4, vr o2), (0, vr 212), (1, vr n1), (2, vr n2), (3, vi x3)]) dX4_byFrames_24 (by decide) rfl ?_
    refine w_aload_n hB 1 dX4_byFrames_26 rfl rfl ?_
    refine w_aload hB 0 dX4_byFrames_27 rfl ?_
    obtain ⟨r1, M2m, hc_M2m, hF⟩ := clS hF
    refine w_callV hB (ci := 3) (As := [vr o2]) (st := []) cw_X4_71 q_475 q_2 rfl (soM hp.1 sh_212 (by decide)) (c_X4_mustHold hp hc_M2m) ⟨rfl, rfl⟩ (by decide) (by decide) rfl (Nat.le_of_ble_eq_true rfl) dX4_byFrames_29 rfl ?_
    refine w_if_eq hB 37 dX4_byFrames_32 (by decide) (fun hc => ?_) (fun hc => ?_)
    · replace hF := ifT hc hF
      refine w_aload_n hB 1 dX4_byFrames_37 rfl rfl ?_
      refine w_aload hB 0 dX4_byFrames_38 rfl ?_
      obtain ⟨r2, M3m, hc_M3m, hF⟩ := clS hF
      refine w_callV hB (ci := 3) (As := [vr o2]) (st := []) cw_X4_75 q_483 q_3 rfl (soM hp.1 sh_212 (by decide)) (c_X4_canHold hp hc_M3m) ⟨rfl, rfl⟩ (by decide) (by decide) rfl (Nat.le_of_ble_eq_true rfl) dX4_byFrames_40 rfl ?_
      refine w_if_eq hB 50 dX4_byFrames_43 (by decide) (fun hc => ?_) (fun hc => ?_)
      · replace hF := ifT hc hF
        refine w_iconst hB 0 (by decide) dX4_byFrames_50 ?_
        obtain ⟨e1, e2⟩ := retS hF
        subst e2
        exact w_iret hB dX4_byFrames_51 e1
      · replace hF := ifF hc hF
        refine w_iconst hB 2 (by decide) dX4_byFrames_46 ?_
        refine w_goto hB 51 dX4_byFrames_47 (by decide) ?_
        obtain ⟨e1, e2⟩ := retS hF
        subst e2
        exact w_iret hB dX4_byFrames_51 e1
    · replace hF := ifF hc hF
      refine w_iconst hB 1 (by decide) dX4_byFrames_35 ?_
      obtain ⟨e1, e2⟩ := retS hF
      subst e2
      exact w_iret hB dX4_byFrames_36 e1
  · replace hF := ifF hc hF
    refine w_iconst hB 3 (by decide) dX4_byFrames_13 ?_
    obtain ⟨e1, e2⟩ := retS hF
    subst e2
    exact w_iret hB dX4_byFrames_14 e1
theorem c_X4_byFrames {K : Kt} {l : Launch} (hp : St K) {r : Int32} {M1 : Mem} {n1 : Nat} {n2 : Nat} {x3 : Int32} {M : Mem} (hF : f_X4_byFrames n1 n2 x3 M = some (r, M1)) : MT K l yX4_byFrames cX4_byFrames 5 (some .int) { frames := 3, cells := 0, slots := 0, locals := 77 } [vr 212, vr n1, vr n2, vi x3] M (some (vi r)) M1 0 0 :=
  MT_of (by decide) rfl (Nat.le_of_ble_eq_true rfl) (fun X _ hB _ => b_X4_byFrames hp hB hF)
set_option maxRecDepth 100000 in
set_option maxHeartbeats 4000000 in
theorem b_X4_isSure {K : Kt} {X : Xt} (hp : St K) (hB : Bx K X { frames := 0, cells := 0, slots := 0, locals := 0 } cX4_isSure 1 RX4 (some .boolean)) {r : Int32} {M1 : Mem} {x0 : Int32} {M : Mem} (hF : f_X4_isSure x0 M = some (r, M1)) : Wt K X (QM K X (some (vi r)) M1 0 0) 0 0 M 0 [(0, vi x0)] [] := by
  unfold f_X4_isSure at hF
  refine w_iload_n hB 0 dX4_isSure_0 rfl rfl ?_
  refine w_iconst hB 1 (by decide) dX4_isSure_1 ?_
  refine w_icmp_eq hB 9 dX4_isSure_2 (by decide) (fun hc => ?_) (fun hc => ?_)
  · replace hF := ifT hc hF
    refine w_iconst hB 1 (by decide) dX4_isSure_9 ?_
    refine w_goto hB 14 dX4_isSure_10 (by decide) ?_
    obtain ⟨e1, e2⟩ := retS hF
    subst e2
    exact w_zret hB (by decide) dX4_isSure_14 e1
  · replace hF := ifF hc hF
    refine w_iload_n hB 0 dX4_isSure_5 rfl rfl ?_
    refine w_if_ne hB 13 dX4_isSure_6 (by decide) (fun hc => ?_) (fun hc => ?_)
    · replace hF := ifF hc hF
      refine w_iconst hB 0 (by decide) dX4_isSure_13 ?_
      obtain ⟨e1, e2⟩ := retS hF
      subst e2
      exact w_zret hB (by decide) dX4_isSure_14 e1
    · replace hF := ifT hc hF
      refine w_iconst hB 1 (by decide) dX4_isSure_9 ?_
      refine w_goto hB 14 dX4_isSure_10 (by decide) ?_
      obtain ⟨e1, e2⟩ := retS hF
      subst e2
      exact w_zret hB (by decide) dX4_isSure_14 e1
theorem c_X4_isSure {K : Kt} {l : Launch} (hp : St K) {r : Int32} {M1 : Mem} {x0 : Int32} {M : Mem} (hF : f_X4_isSure x0 M = some (r, M1)) : MT K l yX4_isSure cX4_isSure 1 (some .boolean) { frames := 0, cells := 0, slots := 0, locals := 0 } [vi x0] M (some (vi r)) M1 0 0 :=
  MT_of (by decide) rfl (Nat.le_of_ble_eq_true rfl) (fun X _ hB _ => b_X4_isSure hp hB hF)
set_option maxRecDepth 100000 in
set_option maxHeartbeats 4000000 in
theorem b_X4_trueCall {K : Kt} {X : Xt} (hp : St K) (hB : Bx K X { frames := 4, cells := 0, slots := 0, locals := 101 } cX4_trueCall 5 RX4 (some .int)) {r : Int32} {M1 : Mem} {n1 : Nat} {n2 : Nat} {x3 : Int32} {M : Mem} (hF : f_X4_trueCall n1 n2 x3 M = some (r, M1)) : Wt K X (QM K X (some (vi r)) M1 0 0) 0 0 M 0 [(0, vr 212), (1, vr n1), (2, vr n2), (3, vi x3)] [] := by
  unfold f_X4_trueCall at hF
  refine w_aload_n hB 0 dX4_trueCall_0 rfl rfl ?_
  refine w_aload_n hB 1 dX4_trueCall_1 rfl rfl ?_
  refine w_aload_n hB 2 dX4_trueCall_2 rfl rfl ?_
  refine w_aload_n hB 2 dX4_trueCall_3 rfl rfl ?_
  obtain ⟨g1, hF⟩ := gdS hF
  obtain ⟨r1, M1m, hc_M1m, hF⟩ := clS hF
  refine w_callV hB (ci := 5) (As := []) (st := [vr n2, vr n1, vr 212]) cw_X4_93 q_503 q_504 rfl (soM hp.1 g1 (by decide)) (c_X6_allFrames hp hc_M1m) ⟨rfl, rfl⟩ (by decide) (by decide) rfl (Nat.le_of_ble_eq_true rfl) dX4_trueCall_4 rfl ?_
  obtain ⟨r2, M2m, hc_M2m, hF⟩ := clS hF
  refine w_callV hB (ci := 3) (As := [vr n1, vr n2, vi r1]) (st := []) cw_X4_97 q_451 q_452 rfl (soM hp.1 sh_212 (by decide)) (c_X4_byFrames hp hc_M2m) ⟨rfl, rfl⟩ (by decide) (by decide) rfl (Nat.le_of_ble_eq_true rfl) dX4_trueCall_7 rfl ?_
  refine w_istore hB (L' := [(4, vi r2), (0, vr 212), (1, vr n1), (2, vr n2), (3, vi x3)]) dX4_trueCall_10 (by decide) rfl rfl ?_
  refine w_iload hB 0 dX4_trueCall_12 rfl ?_
  obtain ⟨r3, M3m, hc_M3m, hF⟩ := clS hF
  refine w_callS hB (As := [vi r2]) (st := []) cw_X4_101 q_526 (c_X4_isSure hp hc_M3m) ⟨rfl, rfl⟩ (by decide) (by decide) rfl (Nat.le_of_ble_eq_true rfl) dX4_trueCall_14 rfl ?_
  refine w_if_eq hB 25 dX4_trueCall_17 (by decide) (fun hc => ?_) (fun hc => ?_)
  · replace hF := ifT hc hF
    refine w_iload_n hB 4 dX4_trueCall_25 rfl rfl ?_
    obtain ⟨e1, e2⟩ := retS hF
    subst e2
    exact w_iret hB dX4_trueCall_26 e1
  · replace hF := ifF hc hF
    refine w_iload hB 0 dX4_trueCall_20 rfl ?_
    refine w_goto hB 26 dX4_trueCall_22 (by decide) ?_
    obtain ⟨e1, e2⟩ := retS hF
    subst e2
    exact w_iret hB dX4_trueCall_26 e1
theorem c_X4_trueCall {K : Kt} {l : Launch} (hp : St K) {r : Int32} {M1 : Mem} {n1 : Nat} {n2 : Nat} {x3 : Int32} {M : Mem} (hF : f_X4_trueCall n1 n2 x3 M = some (r, M1)) : MT K l yX4_trueCall cX4_trueCall 5 (some .int) { frames := 4, cells := 0, slots := 0, locals := 101 } [vr 212, vr n1, vr n2, vi x3] M (some (vi r)) M1 0 0 :=
  MT_of (by decide) rfl (Nat.le_of_ble_eq_true rfl) (fun X _ hB _ => b_X4_trueCall hp hB hF)
set_option maxRecDepth 100000 in
set_option maxHeartbeats 4000000 in
theorem b_X4_searchFewest_b40_s {K : Kt} {X : Xt} (hp : St K) (hB : Bx K X { frames := 4, cells := 0, slots := 0, locals := 101 } cX4_searchFewest 7 RX4 (some .int)) {r : Int32} {M1 : Mem} {rec28 : Nat → Nat → Int32 → Int32 → Int32 → Mem → Option (Int32 × Mem)} {rec40 : Nat → Nat → Int32 → Int32 → Int32 → Int32 → Mem → Option (Int32 × Mem)}
    (h28 : ∀ n1 n2 x3 x4 x5 M, rec28 n1 n2 x3 x4 x5 M = some (r, M1) → Wt K X (QM K X (some (vi r)) M1 0 0) 0 0 M 28 [(0, vr 212), (1, vr n1), (2, vr n2), (3, vi x3), (4, vi x4), (5, vi x5)] [])
    (h40 : ∀ n1 n2 x3 x4 x5 x6 M, rec40 n1 n2 x3 x4 x5 x6 M = some (r, M1) → Wt K X (QM K X (some (vi r)) M1 0 0) 0 0 M 40 [(0, vr 212), (1, vr n1), (2, vr n2), (3, vi x3), (4, vi x4), (5, vi x5), (6, vi x6)] []) {n1 : Nat} {n2 : Nat} {x3 : Int32} {x4 : Int32} {x5 : Int32} {x6 : Int32} {M : Mem} (hF : f_X4_searchFewest_b40_s rec28 rec40 n1 n2 x3 x4 x5 x6 M = some (r, M1)) : Wt K X (QM K X (some (vi r)) M1 0 0) 0 0 M 40 [(0, vr 212), (1, vr n1), (2, vr n2), (3, vi x3), (4, vi x4), (5, vi x5), (6, vi x6)] [] := by
  unfold f_X4_searchFewest_b40_s at hF
  refine w_iload hB 6 dX4_searchFewest_40 rfl ?_
  refine w_iload_n hB 3 dX4_searchFewest_42 rfl rfl ?_
  refine w_icmp_gt hB 78 dX4_searchFewest_43 (by decide) (fun hc => ?_) (fun hc => ?_)
  · replace hF := ifT hc hF
    obtain ⟨a1, e_a1, hF⟩ := bndS hF
    refine w_iinc hB 5 (v := 1) (L' := [(5, vi a1), (0, vr 212), (1, vr n1), (2, vr n2), (3, vi x3), (4, vi x4), (6, vi x6)]) dX4_searchFewest_78 rfl (by decide) (by decide) e_a1 rfl ?_
    refine w_goto hB 28 dX4_searchFewest_81 (by decide) ?_
    exact Wt.sub (L' := [(0, vr 212), (1, vr n1), (2, vr n2), (3, vi x3), (4, vi x4), (5, vi a1)]) [1, 2, 3, 4, 5, 0] rfl (h28 _ _ _ _ _ M hF)
  · replace hF := ifF hc hF
    refine w_iload hB 6 dX4_searchFewest_46 rfl ?_
    obtain ⟨r1, M1m, hc_M1m, hF⟩ := clS hF
    refine w_callS hB (As := [vi x6]) (st := []) cw_X4_112 q_529 (c_J6_bitCount_0f7a4 hp hc_M1m) ⟨rfl, rfl⟩ (by decide) (by decide) rfl (Nat.le_of_ble_eq_true rfl) dX4_searchFewest_48 rfl ?_
    refine w_iload hB 5 dX4_searchFewest_51 rfl ?_
    refine w_icmp_ne hB 72 dX4_searchFewest_53 (by decide) (fun hc => ?_) (fun hc => ?_)
    · replace hF := ifF hc hF
      obtain ⟨a3, e_a3, hF⟩ := bndS hF
      refine w_iinc hB 6 (v := 1) (L' := [(6, vi a3), (0, vr 212), (1, vr n1), (2, vr n2), (3, vi x3), (4, vi x4), (5, vi x5)]) dX4_searchFewest_72 rfl (by decide) (by decide) e_a3 rfl ?_
      refine w_goto hB 40 dX4_searchFewest_75 (by decide) ?_
      exact Wt.sub (L' := [(0, vr 212), (1, vr n1), (2, vr n2), (3, vi x3), (4, vi x4), (5, vi x5), (6, vi a3)]) [1, 2, 3, 4, 5, 6, 0] rfl (h40 _ _ _ _ _ _ M1m hF)
    · replace hF := ifT hc hF
      refine w_aload_n hB 0 dX4_searchFewest_56 rfl rfl ?_
      refine w_aload_n hB 1 dX4_searchFewest_57 rfl rfl ?_
      refine w_aload_n hB 2 dX4_searchFewest_58 rfl rfl ?_
      refine w_iload hB 6 dX4_searchFewest_59 rfl ?_
      obtain ⟨r2, M2m, hc_M2m, hF⟩ := clS hF
      refine w_callV hB (ci := 3) (As := [vr n1, vr n2, vi x6]) (st := []) cw_X4_97 q_451 q_452 rfl (soM hp.1 sh_212 (by decide)) (c_X4_byFrames hp hc_M2m) ⟨rfl, rfl⟩ (by decide) (by decide) rfl (Nat.le_of_ble_eq_true rfl) dX4_searchFewest_61 rfl ?_
      refine w_iload hB 4 dX4_searchFewest_64 rfl ?_
      refine w_icmp_ne hB 72 dX4_searchFewest_66 (by decide) (fun hc => ?_) (fun hc => ?_)
      · replace hF := ifF hc hF
        obtain ⟨a2, e_a2, hF⟩ := bndS hF
        refine w_iinc hB 6 (v := 1) (L' := [(6, vi a2), (0, vr 212), (1, vr n1), (2, vr n2), (3, vi x3), (4, vi x4), (5, vi x5)]) dX4_searchFewest_72 rfl (by decide) (by decide) e_a2 rfl ?_
        refine w_goto hB 40 dX4_searchFewest_75 (by decide) ?_
        exact Wt.sub (L' := [(0, vr 212), (1, vr n1), (2, vr n2), (3, vi x3), (4, vi x4), (5, vi x5), (6, vi a2)]) [1, 2, 3, 4, 5, 6, 0] rfl (h40 _ _ _ _ _ _ M2m hF)
      · replace hF := ifT hc hF
        refine w_iload hB 6 dX4_searchFewest_69 rfl ?_
        obtain ⟨e1, e2⟩ := retS hF
        subst e2
        exact w_iret hB dX4_searchFewest_71 e1
theorem b_X4_searchFewest_b40 {K : Kt} {X : Xt} (hp : St K) (hB : Bx K X { frames := 4, cells := 0, slots := 0, locals := 101 } cX4_searchFewest 7 RX4 (some .int)) {r : Int32} {M1 : Mem} {rec28 : Nat → Nat → Int32 → Int32 → Int32 → Mem → Option (Int32 × Mem)}
    (h28 : ∀ n1 n2 x3 x4 x5 M, rec28 n1 n2 x3 x4 x5 M = some (r, M1) → Wt K X (QM K X (some (vi r)) M1 0 0) 0 0 M 28 [(0, vr 212), (1, vr n1), (2, vr n2), (3, vi x3), (4, vi x4), (5, vi x5)] []) (k : Nat) : ∀ (n1 : Nat) (n2 : Nat) (x3 : Int32) (x4 : Int32) (x5 : Int32) (x6 : Int32) M, f_X4_searchFewest_b40 rec28 k n1 n2 x3 x4 x5 x6 M = some (r, M1) → Wt K X (QM K X (some (vi r)) M1 0 0) 0 0 M 40 [(0, vr 212), (1, vr n1), (2, vr n2), (3, vi x3), (4, vi x4), (5, vi x5), (6, vi x6)] [] := by
  refine lpN_ind (P := fun (f : Nat → Nat → Int32 → Int32 → Int32 → Int32 → Mem → Option (Int32 × Mem)) => ∀ (n1 : Nat) (n2 : Nat) (x3 : Int32) (x4 : Int32) (x5 : Int32) (x6 : Int32) M, f n1 n2 x3 x4 x5 x6 M = some (r, M1) → Wt K X (QM K X (some (vi r)) M1 0 0) 0 0 M 40 [(0, vr 212), (1, vr n1), (2, vr n2), (3, vi x3), (4, vi x4), (5, vi x5), (6, vi x6)] []) (fun _ _ _ _ _ _ _ h => by cases h) (fun f hf n1 n2 x3 x4 x5 x6 M hF => ?_) k
  exact b_X4_searchFewest_b40_s hp hB h28 hf hF
set_option maxRecDepth 100000 in
set_option maxHeartbeats 4000000 in
theorem b_X4_searchFewest_b28_s {K : Kt} {X : Xt} (hp : St K) (hB : Bx K X { frames := 4, cells := 0, slots := 0, locals := 101 } cX4_searchFewest 7 RX4 (some .int)) {r : Int32} {M1 : Mem} {rec28 : Nat → Nat → Int32 → Int32 → Int32 → Mem → Option (Int32 × Mem)}
    (h28 : ∀ n1 n2 x3 x4 x5 M, rec28 n1 n2 x3 x4 x5 M = some (r, M1) → Wt K X (QM K X (some (vi r)) M1 0 0) 0 0 M 28 [(0, vr 212), (1, vr n1), (2, vr n2), (3, vi x3), (4, vi x4), (5, vi x5)] []) {n1 : Nat} {n2 : Nat} {x3 : Int32} {x4 : Int32} {x5 : Int32} {M : Mem} (hF : f_X4_searchFewest_b28_s rec28 n1 n2 x3 x4 x5 M = some (r, M1)) : Wt K X (QM K X (some (vi r)) M1 0 0) 0 0 M 28 [(0, vr 212), (1, vr n1), (2, vr n2), (3, vi x3), (4, vi x4), (5, vi x5)] [] := by
  unfold f_X4_searchFewest_b28_s at hF
  refine w_iload hB 5 dX4_searchFewest_28 rfl ?_
  refine w_aload_n hB 2 dX4_searchFewest_30 rfl rfl ?_
  obtain ⟨g1, hF⟩ := gdS hF
  refine w_getI hB ff_X6_5 (soM hp.1 g1 (by decide)) q_136 dX4_searchFewest_31 ?_
  refine w_icmp_ge hB 84 dX4_searchFewest_34 (by decide) (fun hc => ?_) (fun hc => ?_)
  · replace hF := ifT hc hF
    refine w_iload_n hB 3 dX4_searchFewest_84 rfl rfl ?_
    obtain ⟨e1, e2⟩ := retS hF
    subst e2
    exact w_iret hB dX4_searchFewest_85 e1
  · replace hF := ifF hc hF
    refine w_iconst hB 0 (by decide) dX4_searchFewest_37 ?_
    refine w_istore hB (L' := [(6, vi 0), (0, vr 212), (1, vr n1), (2, vr n2), (3, vi x3), (4, vi x4), (5, vi x5)]) dX4_searchFewest_38 (by decide) rfl rfl ?_
    exact Wt.sub (L' := [(0, vr 212), (1, vr n1), (2, vr n2), (3, vi x3), (4, vi x4), (5, vi x5), (6, vi 0)]) [1, 2, 3, 4, 5, 6, 0] rfl (b_X4_searchFewest_b40 hp hB h28 fuel _ _ _ _ _ _ M hF)
theorem b_X4_searchFewest_b28 {K : Kt} {X : Xt} (hp : St K) (hB : Bx K X { frames := 4, cells := 0, slots := 0, locals := 101 } cX4_searchFewest 7 RX4 (some .int)) {r : Int32} {M1 : Mem} (k : Nat) : ∀ (n1 : Nat) (n2 : Nat) (x3 : Int32) (x4 : Int32) (x5 : Int32) M, f_X4_searchFewest_b28 k n1 n2 x3 x4 x5 M = some (r, M1) → Wt K X (QM K X (some (vi r)) M1 0 0) 0 0 M 28 [(0, vr 212), (1, vr n1), (2, vr n2), (3, vi x3), (4, vi x4), (5, vi x5)] [] := by
  refine lpN_ind (P := fun (f : Nat → Nat → Int32 → Int32 → Int32 → Mem → Option (Int32 × Mem)) => ∀ (n1 : Nat) (n2 : Nat) (x3 : Int32) (x4 : Int32) (x5 : Int32) M, f n1 n2 x3 x4 x5 M = some (r, M1) → Wt K X (QM K X (some (vi r)) M1 0 0) 0 0 M 28 [(0, vr 212), (1, vr n1), (2, vr n2), (3, vi x3), (4, vi x4), (5, vi x5)] []) (fun _ _ _ _ _ _ h => by cases h) (fun f hf n1 n2 x3 x4 x5 M hF => ?_) k
  exact b_X4_searchFewest_b28_s hp hB hf hF
set_option maxRecDepth 100000 in
set_option maxHeartbeats 4000000 in
theorem b_X4_searchFewest {K : Kt} {X : Xt} (hp : St K) (hB : Bx K X { frames := 4, cells := 0, slots := 0, locals := 101 } cX4_searchFewest 7 RX4 (some .int)) {r : Int32} {M1 : Mem} {n1 : Nat} {n2 : Nat} {M : Mem} (hF : f_X4_searchFewest n1 n2 M = some (r, M1)) : Wt K X (QM K X (some (vi r)) M1 0 0) 0 0 M 0 [(0, vr 212), (1, vr n1), (2, vr n2)] [] := by
  unfold f_X4_searchFewest at hF
  refine w_aload_n hB 2 dX4_searchFewest_0 rfl rfl ?_
  obtain ⟨g1, hF⟩ := gdS hF
  obtain ⟨r1, M1m, hc_M1m, hF⟩ := clS hF
  refine w_callV hB (ci := 5) (As := []) (st := []) cw_X4_93 q_503 q_504 rfl (soM hp.1 g1 (by decide)) (c_X6_allFrames hp hc_M1m) ⟨rfl, rfl⟩ (by decide) (by decide) rfl (Nat.le_of_ble_eq_true rfl) dX4_searchFewest_1 rfl ?_
  refine w_istore_n hB (L' := [(3, vi r1), (0, vr 212), (1, vr n1), (2, vr n2)]) dX4_searchFewest_4 rfl (by decide) rfl rfl ?_
  refine w_aload_n hB 1 dX4_searchFewest_5 rfl rfl ?_
  refine w_aload_n hB 2 dX4_searchFewest_6 rfl rfl ?_
  refine w_aload_n hB 3 dX4_searchFewest_7 rfl rfl ?_
  refine w_iload_n hB 0 dX4_searchFewest_8 rfl rfl ?_
  obtain ⟨r2, M2m, hc_M2m, hF⟩ := clS hF
  refine w_callV hB (ci := 3) (As := [vr n1, vr n2, vi r1]) (st := []) cw_X4_97 q_451 q_452 rfl (soM hp.1 sh_212 (by decide)) (c_X4_byFrames hp hc_M2m) ⟨rfl, rfl⟩ (by decide) (by decide) rfl (Nat.le_of_ble_eq_true rfl) dX4_searchFewest_9 rfl ?_
  refine w_istore hB (L' := [(4, vi r2), (3, vi r1), (0, vr 212), (1, vr n1), (2, vr n2)]) dX4_searchFewest_12 (by decide) rfl rfl ?_
  refine w_iload hB 0 dX4_searchFewest_14 rfl ?_
  obtain ⟨r3, M3m, hc_M3m, hF⟩ := clS hF
  refine w_callS hB (As := [vi r2]) (st := []) cw_X4_101 q_526 (c_X4_isSure hp hc_M3m) ⟨rfl, rfl⟩ (by decide) (by decide) rfl (Nat.le_of_ble_eq_true rfl) dX4_searchFewest_16 rfl ?_
  refine w_if_ne hB 25 dX4_searchFewest_19 (by decide) (fun hc => ?_) (fun hc => ?_)
  · replace hF := ifF hc hF
    refine w_iconst hB 0 (by decide) dX4_searchFewest_25 ?_
    refine w_istore hB (L' := [(5, vi 0), (4, vi r2), (3, vi r1), (0, vr 212), (1, vr n1), (2, vr n2)]) dX4_searchFewest_26 (by decide) rfl rfl ?_
    exact Wt.sub (L' := [(0, vr 212), (1, vr n1), (2, vr n2), (3, vi r1), (4, vi r2), (5, vi 0)]) [3, 4, 5, 2, 1, 0] rfl (b_X4_searchFewest_b28 hp hB fuel _ _ _ _ _ M3m hF)
  · replace hF := ifT hc hF
    refine w_bipush hB (-2) (by decide) dX4_searchFewest_22 ?_
    obtain ⟨e1, e2⟩ := retS hF
    subst e2
    exact w_iret hB dX4_searchFewest_24 e1
theorem c_X4_searchFewest {K : Kt} {l : Launch} (hp : St K) {r : Int32} {M1 : Mem} {n1 : Nat} {n2 : Nat} {M : Mem} (hF : f_X4_searchFewest n1 n2 M = some (r, M1)) : MT K l yX4_searchFewest cX4_searchFewest 7 (some .int) { frames := 4, cells := 0, slots := 0, locals := 101 } [vr 212, vr n1, vr n2] M (some (vi r)) M1 0 0 :=
  MT_of (by decide) rfl (Nat.le_of_ble_eq_true rfl) (fun X _ hB _ => b_X4_searchFewest hp hB hF)
set_option maxRecDepth 100000 in
set_option maxHeartbeats 4000000 in
theorem b_X4_fewestFrames {K : Kt} {X : Xt} (hp : St K) (hB : Bx K X { frames := 5, cells := 0, slots := 0, locals := 127 } cX4_fewestFrames 3 RX4 (some .int)) {r : Int32} {M1 : Mem} {n1 : Nat} {n2 : Nat} {M : Mem} (hF : f_X4_fewestFrames n1 n2 M = some (r, M1)) : Wt K X (QM K X (some (vi r)) M1 0 0) 0 0 M 0 [(0, vr 212), (1, vr n1), (2, vr n2)] [] := by
  unfold f_X4_fewestFrames at hF
  refine w_aload_n hB 2 dX4_fewestFrames_0 rfl rfl ?_
  obtain ⟨g1, hF⟩ := gdS hF
  refine w_getI hB ff_X6_10 (soM hp.1 g1 (by decide)) q_156 dX4_fewestFrames_1 ?_
  refine w_bipush hB (-3) (by decide) dX4_fewestFrames_4 ?_
  refine w_icmp_ne hB 19 dX4_fewestFrames_6 (by decide) (fun hc => ?_) (fun hc => ?_)
  · replace hF := ifF hc hF
    refine w_aload_n hB 2 dX4_fewestFrames_19 rfl rfl ?_
    refine w_getI hB ff_X6_10 (soM hp.1 g1 (by decide)) q_156 dX4_fewestFrames_20 ?_
    obtain ⟨e1, e2⟩ := retS hF
    subst e2
    exact w_iret hB dX4_fewestFrames_23 e1
  · replace hF := ifT hc hF
    refine w_aload_n hB 2 dX4_fewestFrames_9 rfl rfl ?_
    refine w_aload_n hB 0 dX4_fewestFrames_10 rfl rfl ?_
    refine w_aload_n hB 1 dX4_fewestFrames_11 rfl rfl ?_
    refine w_aload_n hB 2 dX4_fewestFrames_12 rfl rfl ?_
    obtain ⟨r1, M1m, hc_M1m, hF⟩ := clS hF
    refine w_callV hB (ci := 3) (As := [vr n1, vr n2]) (st := [vr n2]) cw_X4_108 q_521 q_4 rfl (soM hp.1 sh_212 (by decide)) (c_X4_searchFewest hp hc_M1m) ⟨rfl, rfl⟩ (by decide) (by decide) rfl (Nat.le_of_ble_eq_true rfl) dX4_fewestFrames_13 rfl ?_
    obtain ⟨M2m, e_M2m, hF⟩ := bndS hF
    refine w_putI hB ff_X6_10 (soM hp.1 g1 (by decide)) q_156 e_M2m dX4_fewestFrames_16 ?_
    refine w_aload_n hB 2 dX4_fewestFrames_19 rfl rfl ?_
    refine w_getI hB ff_X6_10 (soM hp.1 g1 (by decide)) q_156 dX4_fewestFrames_20 ?_
    obtain ⟨e1, e2⟩ := retS hF
    subst e2
    exact w_iret hB dX4_fewestFrames_23 e1
theorem c_X4_fewestFrames {K : Kt} {l : Launch} (hp : St K) {r : Int32} {M1 : Mem} {n1 : Nat} {n2 : Nat} {M : Mem} (hF : f_X4_fewestFrames n1 n2 M = some (r, M1)) : MT K l yX4_fewestFrames cX4_fewestFrames 3 (some .int) { frames := 5, cells := 0, slots := 0, locals := 127 } [vr 212, vr n1, vr n2] M (some (vi r)) M1 0 0 :=
  MT_of (by decide) rfl (Nat.le_of_ble_eq_true rfl) (fun X _ hB _ => b_X4_fewestFrames hp hB hF)
set_option maxRecDepth 100000 in
set_option maxHeartbeats 4000000 in
theorem b_X4_keyFrames_b27_s {K : Kt} {X : Xt} (hp : St K) (hB : Bx K X { frames := 4, cells := 0, slots := 0, locals := 101 } cX4_keyFrames 6 RX4 (some .int)) {r : Int32} {M1 : Mem} {rec27 : Nat → Nat → Int32 → Int32 → Int32 → Mem → Option (Int32 × Mem)}
    (h27 : ∀ n1 n2 x3 x4 x5 M, rec27 n1 n2 x3 x4 x5 M = some (r, M1) → Wt K X (QM K X (some (vi r)) M1 0 0) 0 0 M 27 [(0, vr 212), (1, vr n1), (2, vr n2), (3, vi x3), (4, vi x4), (5, vi x5)] []) {n1 : Nat} {n2 : Nat} {x3 : Int32} {x4 : Int32} {x5 : Int32} {M : Mem} (hF : f_X4_keyFrames_b27_s rec27 n1 n2 x3 x4 x5 M = some (r, M1)) : Wt K X (QM K X (some (vi r)) M1 0 0) 0 0 M 27 [(0, vr 212), (1, vr n1), (2, vr n2), (3, vi x3), (4, vi x4), (5, vi x5)] [] := by
  unfold f_X4_keyFrames_b27_s at hF
  refine w_iload hB 5 dX4_keyFrames_27 rfl ?_
  refine w_aload_n hB 2 dX4_keyFrames_29 rfl rfl ?_
  obtain ⟨g1, hF⟩ := gdS hF
  refine w_getI hB ff_X6_5 (soM hp.1 g1 (by decide)) q_136 dX4_keyFrames_30 ?_
  refine w_icmp_ge hB 69 dX4_keyFrames_33 (by decide) (fun hc => ?_) (fun hc => ?_)
  · replace hF := ifT hc hF
    refine w_iload hB 4 dX4_keyFrames_69 rfl ?_
    obtain ⟨e1, e2⟩ := retS hF
    subst e2
    exact w_iret hB dX4_keyFrames_71 e1
  · replace hF := ifF hc hF
    refine w_aload_n hB 0 dX4_keyFrames_36 rfl rfl ?_
    refine w_aload_n hB 1 dX4_keyFrames_37 rfl rfl ?_
    refine w_aload_n hB 2 dX4_keyFrames_38 rfl rfl ?_
    refine w_iload_n hB 3 dX4_keyFrames_39 rfl rfl ?_
    refine w_iconst hB 1 (by decide) dX4_keyFrames_40 ?_
    refine w_iload hB 5 dX4_keyFrames_41 rfl ?_
    refine w_ishl hB dX4_keyFrames_43 ?_
    refine w_iconst hB (-1) (by decide) dX4_keyFrames_44 ?_
    refine w_ixor hB dX4_keyFrames_45 ?_
    refine w_iand hB dX4_keyFrames_46 ?_
    obtain ⟨r1, M1m, hc_M1m, hF⟩ := clS hF
    refine w_callV hB (ci := 3) (As := [vr n1, vr n2, vi (x3 &&& (((1 : Int32) <<< (x5 &&& 31)) ^^^ (-1)))]) (st := []) cw_X4_97 q_451 q_452 rfl (soM hp.1 sh_212 (by decide)) (c_X4_byFrames hp hc_M1m) ⟨rfl, rfl⟩ (by decide) (by decide) rfl (Nat.le_of_ble_eq_true rfl) dX4_keyFrames_47 rfl ?_
    refine w_iconst hB 2 (by decide) dX4_keyFrames_50 ?_
    refine w_icmp_ne hB 63 dX4_keyFrames_51 (by decide) (fun hc => ?_) (fun hc => ?_)
    · replace hF := ifF hc hF
      obtain ⟨a3, e_a3, hF⟩ := bndS hF
      refine w_iinc hB 5 (v := 1) (L' := [(5, vi a3), (0, vr 212), (1, vr n1), (2, vr n2), (3, vi x3), (4, vi x4)]) dX4_keyFrames_63 rfl (by decide) (by decide) e_a3 rfl ?_
      refine w_goto hB 27 dX4_keyFrames_66 (by decide) ?_
      exact Wt.sub (L' := [(0, vr 212), (1, vr n1), (2, vr n2), (3, vi x3), (4, vi x4), (5, vi a3)]) [1, 2, 3, 4, 5, 0] rfl (h27 _ _ _ _ _ M1m hF)
    · replace hF := ifT hc hF
      refine w_iload hB 4 dX4_keyFrames_54 rfl ?_
      refine w_iconst hB 1 (by decide) dX4_keyFrames_56 ?_
      refine w_iload hB 5 dX4_keyFrames_57 rfl ?_
      refine w_ishl hB dX4_keyFrames_59 ?_
      refine w_ior hB dX4_keyFrames_60 ?_
      obtain ⟨a1, e_a1, hF⟩ := bndS hF
      refine w_istore hB (L' := [(4, vi a1), (0, vr 212), (1, vr n1), (2, vr n2), (3, vi x3), (5, vi x5)]) dX4_keyFrames_61 (by decide) e_a1 rfl ?_
      obtain ⟨a2, e_a2, hF⟩ := bndS hF
      refine w_iinc hB 5 (v := 1) (L' := [(5, vi a2), (4, vi a1), (0, vr 212), (1, vr n1), (2, vr n2), (3, vi x3)]) dX4_keyFrames_63 rfl (by decide) (by decide) e_a2 rfl ?_
      refine w_goto hB 27 dX4_keyFrames_66 (by decide) ?_
      exact Wt.sub (L' := [(0, vr 212), (1, vr n1), (2, vr n2), (3, vi x3), (4, vi a1), (5, vi a2)]) [2, 3, 4, 5, 1, 0] rfl (h27 _ _ _ _ _ M1m hF)
theorem b_X4_keyFrames_b27 {K : Kt} {X : Xt} (hp : St K) (hB : Bx K X { frames := 4, cells := 0, slots := 0, locals := 101 } cX4_keyFrames 6 RX4 (some .int)) {r : Int32} {M1 : Mem} (k : Nat) : ∀ (n1 : Nat) (n2 : Nat) (x3 : Int32) (x4 : Int32) (x5 : Int32) M, f_X4_keyFrames_b27 k n1 n2 x3 x4 x5 M = some (r, M1) → Wt K X (QM K X (some (vi r)) M1 0 0) 0 0 M 27 [(0, vr 212), (1, vr n1), (2, vr n2), (3, vi x3), (4, vi x4), (5, vi x5)] [] := by
  refine lpN_ind (P := fun (f : Nat → Nat → Int32 → Int32 → Int32 → Mem → Option (Int32 × Mem)) => ∀ (n1 : Nat) (n2 : Nat) (x3 : Int32) (x4 : Int32) (x5 : Int32) M, f n1 n2 x3 x4 x5 M = some (r, M1) → Wt K X (QM K X (some (vi r)) M1 0 0) 0 0 M 27 [(0, vr 212), (1, vr n1), (2, vr n2), (3, vi x3), (4, vi x4), (5, vi x5)] []) (fun _ _ _ _ _ _ h => by cases h) (fun f hf n1 n2 x3 x4 x5 M hF => ?_) k
  exact b_X4_keyFrames_b27_s hp hB hf hF
set_option maxRecDepth 100000 in
set_option maxHeartbeats 4000000 in
theorem b_X4_keyFrames {K : Kt} {X : Xt} (hp : St K) (hB : Bx K X { frames := 4, cells := 0, slots := 0, locals := 101 } cX4_keyFrames 6 RX4 (some .int)) {r : Int32} {M1 : Mem} {n1 : Nat} {n2 : Nat} {M : Mem} (hF : f_X4_keyFrames n1 n2 M = some (r, M1)) : Wt K X (QM K X (some (vi r)) M1 0 0) 0 0 M 0 [(0, vr 212), (1, vr n1), (2, vr n2)] [] := by
  unfold f_X4_keyFrames at hF
  refine w_aload_n hB 2 dX4_keyFrames_0 rfl rfl ?_
  obtain ⟨g1, hF⟩ := gdS hF
  obtain ⟨r1, M1m, hc_M1m, hF⟩ := clS hF
  refine w_callV hB (ci := 5) (As := []) (st := []) cw_X4_93 q_503 q_504 rfl (soM hp.1 g1 (by decide)) (c_X6_allFrames hp hc_M1m) ⟨rfl, rfl⟩ (by decide) (by decide) rfl (Nat.le_of_ble_eq_true rfl) dX4_keyFrames_1 rfl ?_
  refine w_istore_n hB (L' := [(3, vi r1), (0, vr 212), (1, vr n1), (2, vr n2)]) dX4_keyFrames_4 rfl (by decide) rfl rfl ?_
  refine w_aload_n hB 1 dX4_keyFrames_5 rfl rfl ?_
  refine w_aload_n hB 2 dX4_keyFrames_6 rfl rfl ?_
  refine w_aload_n hB 3 dX4_keyFrames_7 rfl rfl ?_
  refine w_iload_n hB 0 dX4_keyFrames_8 rfl rfl ?_
  obtain ⟨r2, M2m, hc_M2m, hF⟩ := clS hF
  refine w_callV hB (ci := 3) (As := [vr n1, vr n2, vi r1]) (st := []) cw_X4_97 q_451 q_452 rfl (soM hp.1 sh_212 (by decide)) (c_X4_byFrames hp hc_M2m) ⟨rfl, rfl⟩ (by decide) (by decide) rfl (Nat.le_of_ble_eq_true rfl) dX4_keyFrames_9 rfl ?_
  obtain ⟨r3, M3m, hc_M3m, hF⟩ := clS hF
  refine w_callS hB (As := [vi r2]) (st := []) cw_X4_101 q_526 (c_X4_isSure hp hc_M3m) ⟨rfl, rfl⟩ (by decide) (by decide) rfl (Nat.le_of_ble_eq_true rfl) dX4_keyFrames_12 rfl ?_
  refine w_if_ne hB 21 dX4_keyFrames_15 (by decide) (fun hc => ?_) (fun hc => ?_)
  · replace hF := ifF hc hF
    refine w_iconst hB 0 (by decide) dX4_keyFrames_21 ?_
    refine w_istore hB (L' := [(4, vi 0), (3, vi r1), (0, vr 212), (1, vr n1), (2, vr n2)]) dX4_keyFrames_22 (by decide) rfl rfl ?_
    refine w_iconst hB 0 (by decide) dX4_keyFrames_24 ?_
    refine w_istore hB (L' := [(5, vi 0), (4, vi 0), (3, vi r1), (0, vr 212), (1, vr n1), (2, vr n2)]) dX4_keyFrames_25 (by decide) rfl rfl ?_
    exact Wt.sub (L' := [(0, vr 212), (1, vr n1), (2, vr n2), (3, vi r1), (4, vi 0), (5, vi 0)]) [3, 4, 5, 2, 1, 0] rfl (b_X4_keyFrames_b27 hp hB fuel _ _ _ _ _ M3m hF)
  · replace hF := ifT hc hF
    refine w_bipush hB (-2) (by decide) dX4_keyFrames_18 ?_
    obtain ⟨e1, e2⟩ := retS hF
    subst e2
    exact w_iret hB dX4_keyFrames_20 e1
theorem c_X4_keyFrames {K : Kt} {l : Launch} (hp : St K) {r : Int32} {M1 : Mem} {n1 : Nat} {n2 : Nat} {M : Mem} (hF : f_X4_keyFrames n1 n2 M = some (r, M1)) : MT K l yX4_keyFrames cX4_keyFrames 6 (some .int) { frames := 4, cells := 0, slots := 0, locals := 101 } [vr 212, vr n1, vr n2] M (some (vi r)) M1 0 0 :=
  MT_of (by decide) rfl (Nat.le_of_ble_eq_true rfl) (fun X _ hB _ => b_X4_keyFrames hp hB hF)
set_option maxRecDepth 100000 in
set_option maxHeartbeats 4000000 in
theorem b_X4_fewestCameras_b42_s {K : Kt} {X : Xt} (hp : St K) (hB : Bx K X { frames := 4, cells := 0, slots := 0, locals := 101 } cX4_fewestCameras 7 RX4 (some .int)) {r : Int32} {M1 : Mem} {rec30 : Nat → Nat → Int32 → Int32 → Int32 → Mem → Option (Int32 × Mem)} {rec42 : Nat → Nat → Int32 → Int32 → Int32 → Int32 → Mem → Option (Int32 × Mem)}
    (h30 : ∀ n1 n2 x3 x4 x5 M, rec30 n1 n2 x3 x4 x5 M = some (r, M1) → Wt K X (QM K X (some (vi r)) M1 0 0) 0 0 M 30 [(0, vr 212), (1, vr n1), (2, vr n2), (3, vi x3), (4, vi x4), (5, vi x5)] [])
    (h42 : ∀ n1 n2 x3 x4 x5 x6 M, rec42 n1 n2 x3 x4 x5 x6 M = some (r, M1) → Wt K X (QM K X (some (vi r)) M1 0 0) 0 0 M 42 [(0, vr 212), (1, vr n1), (2, vr n2), (3, vi x3), (4, vi x4), (5, vi x5), (6, vi x6)] []) {n1 : Nat} {n2 : Nat} {x3 : Int32} {x4 : Int32} {x5 : Int32} {x6 : Int32} {M : Mem} (hF : f_X4_fewestCameras_b42_s rec30 rec42 n1 n2 x3 x4 x5 x6 M = some (r, M1)) : Wt K X (QM K X (some (vi r)) M1 0 0) 0 0 M 42 [(0, vr 212), (1, vr n1), (2, vr n2), (3, vi x3), (4, vi x4), (5, vi x5), (6, vi x6)] [] := by
  unfold f_X4_fewestCameras_b42_s at hF
  refine w_iload hB 6 dX4_fewestCameras_42 rfl ?_
  refine w_iload hB 4 dX4_fewestCameras_44 rfl ?_
  refine w_icmp_gt hB 84 dX4_fewestCameras_46 (by decide) (fun hc => ?_) (fun hc => ?_)
  · replace hF := ifT hc hF
    obtain ⟨a1, e_a1, hF⟩ := bndS hF
    refine w_iinc hB 5 (v := 1) (L' := [(5, vi a1), (0, vr 212), (1, vr n1), (2, vr n2), (3, vi x3), (4, vi x4), (6, vi x6)]) dX4_fewestCameras_84 rfl (by decide) (by decide) e_a1 rfl ?_
    refine w_goto hB 30 dX4_fewestCameras_87 (by decide) ?_
    exact Wt.sub (L' := [(0, vr 212), (1, vr n1), (2, vr n2), (3, vi x3), (4, vi x4), (5, vi a1)]) [1, 2, 3, 4, 5, 0] rfl (h30 _ _ _ _ _ M hF)
  · replace hF := ifF hc hF
    refine w_iload hB 6 dX4_fewestCameras_49 rfl ?_
    obtain ⟨r1, M1m, hc_M1m, hF⟩ := clS hF
    refine w_callS hB (As := [vi x6]) (st := []) cw_X4_112 q_529 (c_J6_bitCount_0f7a4 hp hc_M1m) ⟨rfl, rfl⟩ (by decide) (by decide) rfl (Nat.le_of_ble_eq_true rfl) dX4_fewestCameras_51 rfl ?_
    refine w_iload hB 5 dX4_fewestCameras_54 rfl ?_
    refine w_icmp_ne hB 78 dX4_fewestCameras_56 (by decide) (fun hc => ?_) (fun hc => ?_)
    · replace hF := ifF hc hF
      obtain ⟨a3, e_a3, hF⟩ := bndS hF
      refine w_iinc hB 6 (v := 1) (L' := [(6, vi a3), (0, vr 212), (1, vr n1), (2, vr n2), (3, vi x3), (4, vi x4), (5, vi x5)]) dX4_fewestCameras_78 rfl (by decide) (by decide) e_a3 rfl ?_
      refine w_goto hB 42 dX4_fewestCameras_81 (by decide) ?_
      exact Wt.sub (L' := [(0, vr 212), (1, vr n1), (2, vr n2), (3, vi x3), (4, vi x4), (5, vi x5), (6, vi a3)]) [1, 2, 3, 4, 5, 6, 0] rfl (h42 _ _ _ _ _ _ M1m hF)
    · replace hF := ifT hc hF
      refine w_aload_n hB 0 dX4_fewestCameras_59 rfl rfl ?_
      refine w_aload_n hB 1 dX4_fewestCameras_60 rfl rfl ?_
      refine w_aload_n hB 2 dX4_fewestCameras_61 rfl rfl ?_
      refine w_aload_n hB 2 dX4_fewestCameras_62 rfl rfl ?_
      refine w_iload hB 6 dX4_fewestCameras_63 rfl ?_
      obtain ⟨g1, hF⟩ := gdS hF
      obtain ⟨r2, M2m, hc_M2m, hF⟩ := clS hF
      refine w_callV hB (ci := 5) (As := [vi x6]) (st := [vr n2, vr n1, vr 212]) cw_X4_124 q_494 q_495 rfl (soM hp.1 g1 (by decide)) (c_X6_framesOf hp hc_M2m) ⟨rfl, rfl⟩ (by decide) (by decide) rfl (Nat.le_of_ble_eq_true rfl) dX4_fewestCameras_65 rfl ?_
      obtain ⟨r3, M3m, hc_M3m, hF⟩ := clS hF
      refine w_callV hB (ci := 3) (As := [vr n1, vr n2, vi r2]) (st := []) cw_X4_97 q_451 q_452 rfl (soM hp.1 sh_212 (by decide)) (c_X4_byFrames hp hc_M3m) ⟨rfl, rfl⟩ (by decide) (by decide) rfl (Nat.le_of_ble_eq_true rfl) dX4_fewestCameras_68 rfl ?_
      refine w_iload_n hB 3 dX4_fewestCameras_71 rfl rfl ?_
      refine w_icmp_ne hB 78 dX4_fewestCameras_72 (by decide) (fun hc => ?_) (fun hc => ?_)
      · replace hF := ifF hc hF
        obtain ⟨a2, e_a2, hF⟩ := bndS hF
        refine w_iinc hB 6 (v := 1) (L' := [(6, vi a2), (0, vr 212), (1, vr n1), (2, vr n2), (3, vi x3), (4, vi x4), (5, vi x5)]) dX4_fewestCameras_78 rfl (by decide) (by decide) e_a2 rfl ?_
        refine w_goto hB 42 dX4_fewestCameras_81 (by decide) ?_
        exact Wt.sub (L' := [(0, vr 212), (1, vr n1), (2, vr n2), (3, vi x3), (4, vi x4), (5, vi x5), (6, vi a2)]) [1, 2, 3, 4, 5, 6, 0] rfl (h42 _ _ _ _ _ _ M3m hF)
      · replace hF := ifT hc hF
        refine w_iload hB 6 dX4_fewestCameras_75 rfl ?_
        obtain ⟨e1, e2⟩ := retS hF
        subst e2
        exact w_iret hB dX4_fewestCameras_77 e1
theorem b_X4_fewestCameras_b42 {K : Kt} {X : Xt} (hp : St K) (hB : Bx K X { frames := 4, cells := 0, slots := 0, locals := 101 } cX4_fewestCameras 7 RX4 (some .int)) {r : Int32} {M1 : Mem} {rec30 : Nat → Nat → Int32 → Int32 → Int32 → Mem → Option (Int32 × Mem)}
    (h30 : ∀ n1 n2 x3 x4 x5 M, rec30 n1 n2 x3 x4 x5 M = some (r, M1) → Wt K X (QM K X (some (vi r)) M1 0 0) 0 0 M 30 [(0, vr 212), (1, vr n1), (2, vr n2), (3, vi x3), (4, vi x4), (5, vi x5)] []) (k : Nat) : ∀ (n1 : Nat) (n2 : Nat) (x3 : Int32) (x4 : Int32) (x5 : Int32) (x6 : Int32) M, f_X4_fewestCameras_b42 rec30 k n1 n2 x3 x4 x5 x6 M = some (r, M1) → Wt K X (QM K X (some (vi r)) M1 0 0) 0 0 M 42 [(0, vr 212), (1, vr n1), (2, vr n2), (3, vi x3), (4, vi x4), (5, vi x5), (6, vi x6)] [] := by
  refine lpN_ind (P := fun (f : Nat → Nat → Int32 → Int32 → Int32 → Int32 → Mem → Option (Int32 × Mem)) => ∀ (n1 : Nat) (n2 : Nat) (x3 : Int32) (x4 : Int32) (x5 : Int32) (x6 : Int32) M, f n1 n2 x3 x4 x5 x6 M = some (r, M1) → Wt K X (QM K X (some (vi r)) M1 0 0) 0 0 M 42 [(0, vr 212), (1, vr n1), (2, vr n2), (3, vi x3), (4, vi x4), (5, vi x5), (6, vi x6)] []) (fun _ _ _ _ _ _ _ h => by cases h) (fun f hf n1 n2 x3 x4 x5 x6 M hF => ?_) k
  exact b_X4_fewestCameras_b42_s hp hB h30 hf hF
set_option maxRecDepth 100000 in
set_option maxHeartbeats 4000000 in
theorem b_X4_fewestCameras_b30_s {K : Kt} {X : Xt} (hp : St K) (hB : Bx K X { frames := 4, cells := 0, slots := 0, locals := 101 } cX4_fewestCameras 7 RX4 (some .int)) {r : Int32} {M1 : Mem} {rec30 : Nat → Nat → Int32 → Int32 → Int32 → Mem → Option (Int32 × Mem)}
    (h30 : ∀ n1 n2 x3 x4 x5 M, rec30 n1 n2 x3 x4 x5 M = some (r, M1) → Wt K X (QM K X (some (vi r)) M1 0 0) 0 0 M 30 [(0, vr 212), (1, vr n1), (2, vr n2), (3, vi x3), (4, vi x4), (5, vi x5)] []) {n1 : Nat} {n2 : Nat} {x3 : Int32} {x4 : Int32} {x5 : Int32} {M : Mem} (hF : f_X4_fewestCameras_b30_s rec30 n1 n2 x3 x4 x5 M = some (r, M1)) : Wt K X (QM K X (some (vi r)) M1 0 0) 0 0 M 30 [(0, vr 212), (1, vr n1), (2, vr n2), (3, vi x3), (4, vi x4), (5, vi x5)] [] := by
  unfold f_X4_fewestCameras_b30_s at hF
  refine w_iload hB 5 dX4_fewestCameras_30 rfl ?_
  refine w_aload_n hB 1 dX4_fewestCameras_32 rfl rfl ?_
  obtain ⟨g1, hF⟩ := gdS hF
  refine w_getI hB ff_X9_0 (soM hp.1 g1 (by decide)) q_198 dX4_fewestCameras_33 ?_
  refine w_icmp_ge hB 90 dX4_fewestCameras_36 (by decide) (fun hc => ?_) (fun hc => ?_)
  · replace hF := ifT hc hF
    refine w_iload hB 4 dX4_fewestCameras_90 rfl ?_
    obtain ⟨e1, e2⟩ := retS hF
    subst e2
    exact w_iret hB dX4_fewestCameras_92 e1
  · replace hF := ifF hc hF
    refine w_iconst hB 0 (by decide) dX4_fewestCameras_39 ?_
    refine w_istore hB (L' := [(6, vi 0), (0, vr 212), (1, vr n1), (2, vr n2), (3, vi x3), (4, vi x4), (5, vi x5)]) dX4_fewestCameras_40 (by decide) rfl rfl ?_
    exact Wt.sub (L' := [(0, vr 212), (1, vr n1), (2, vr n2), (3, vi x3), (4, vi x4), (5, vi x5), (6, vi 0)]) [1, 2, 3, 4, 5, 6, 0] rfl (b_X4_fewestCameras_b42 hp hB h30 fuel _ _ _ _ _ _ M hF)
theorem b_X4_fewestCameras_b30 {K : Kt} {X : Xt} (hp : St K) (hB : Bx K X { frames := 4, cells := 0, slots := 0, locals := 101 } cX4_fewestCameras 7 RX4 (some .int)) {r : Int32} {M1 : Mem} (k : Nat) : ∀ (n1 : Nat) (n2 : Nat) (x3 : Int32) (x4 : Int32) (x5 : Int32) M, f_X4_fewestCameras_b30 k n1 n2 x3 x4 x5 M = some (r, M1) → Wt K X (QM K X (some (vi r)) M1 0 0) 0 0 M 30 [(0, vr 212), (1, vr n1), (2, vr n2), (3, vi x3), (4, vi x4), (5, vi x5)] [] := by
  refine lpN_ind (P := fun (f : Nat → Nat → Int32 → Int32 → Int32 → Mem → Option (Int32 × Mem)) => ∀ (n1 : Nat) (n2 : Nat) (x3 : Int32) (x4 : Int32) (x5 : Int32) M, f n1 n2 x3 x4 x5 M = some (r, M1) → Wt K X (QM K X (some (vi r)) M1 0 0) 0 0 M 30 [(0, vr 212), (1, vr n1), (2, vr n2), (3, vi x3), (4, vi x4), (5, vi x5)] []) (fun _ _ _ _ _ _ h => by cases h) (fun f hf n1 n2 x3 x4 x5 M hF => ?_) k
  exact b_X4_fewestCameras_b30_s hp hB hf hF
set_option maxRecDepth 100000 in
set_option maxHeartbeats 4000000 in
theorem b_X4_fewestCameras {K : Kt} {X : Xt} (hp : St K) (hB : Bx K X { frames := 4, cells := 0, slots := 0, locals := 101 } cX4_fewestCameras 7 RX4 (some .int)) {r : Int32} {M1 : Mem} {n1 : Nat} {n2 : Nat} {M : Mem} (hF : f_X4_fewestCameras n1 n2 M = some (r, M1)) : Wt K X (QM K X (some (vi r)) M1 0 0) 0 0 M 0 [(0, vr 212), (1, vr n1), (2, vr n2)] [] := by
  unfold f_X4_fewestCameras at hF
  refine w_aload_n hB 0 dX4_fewestCameras_0 rfl rfl ?_
  refine w_aload_n hB 1 dX4_fewestCameras_1 rfl rfl ?_
  refine w_aload_n hB 2 dX4_fewestCameras_2 rfl rfl ?_
  refine w_aload_n hB 2 dX4_fewestCameras_3 rfl rfl ?_
  obtain ⟨g1, hF⟩ := gdS hF
  obtain ⟨r1, M1m, hc_M1m, hF⟩ := clS hF
  refine w_callV hB (ci := 5) (As := []) (st := [vr n2, vr n1, vr 212]) cw_X4_93 q_503 q_504 rfl (soM hp.1 g1 (by decide)) (c_X6_allFrames hp hc_M1m) ⟨rfl, rfl⟩ (by decide) (by decide) rfl (Nat.le_of_ble_eq_true rfl) dX4_fewestCameras_4 rfl ?_
  obtain ⟨r2, M2m, hc_M2m, hF⟩ := clS hF
  refine w_callV hB (ci := 3) (As := [vr n1, vr n2, vi r1]) (st := []) cw_X4_97 q_451 q_452 rfl (soM hp.1 sh_212 (by decide)) (c_X4_byFrames hp hc_M2m) ⟨rfl, rfl⟩ (by decide) (by decide) rfl (Nat.le_of_ble_eq_true rfl) dX4_fewestCameras_7 rfl ?_
  refine w_istore_n hB (L' := [(3, vi r2), (0, vr 212), (1, vr n1), (2, vr n2)]) dX4_fewestCameras_10 rfl (by decide) rfl rfl ?_
  refine w_iload_n hB 0 dX4_fewestCameras_11 rfl rfl ?_
  obtain ⟨r3, M3m, hc_M3m, hF⟩ := clS hF
  refine w_callS hB (As := [vi r2]) (st := []) cw_X4_101 q_526 (c_X4_isSure hp hc_M3m) ⟨rfl, rfl⟩ (by decide) (by decide) rfl (Nat.le_of_ble_eq_true rfl) dX4_fewestCameras_12 rfl ?_
  refine w_if_ne hB 21 dX4_fewestCameras_15 (by decide) (fun hc => ?_) (fun hc => ?_)
  · replace hF := ifF hc hF
    refine w_aload_n hB 2 dX4_fewestCameras_21 rfl rfl ?_
    obtain ⟨g2, hF⟩ := gdS hF
    obtain ⟨r4, M4m, hc_M4m, hF⟩ := clS hF
    refine w_callV hB (ci := 7) (As := []) (st := []) cw_X4_118 q_490 q_491 rfl (soM hp.1 g2 (by decide)) (c_X9_allCameras hp hc_M4m) ⟨rfl, rfl⟩ (by decide) (by decide) rfl (Nat.le_of_ble_eq_true rfl) dX4_fewestCameras_22 rfl ?_
    refine w_istore hB (L' := [(4, vi r4), (3, vi r2), (0, vr 212), (1, vr n1), (2, vr n2)]) dX4_fewestCameras_25 (by decide) rfl rfl ?_
    refine w_iconst hB 0 (by decide) dX4_fewestCameras_27 ?_
    refine w_istore hB (L' := [(5, vi 0), (4, vi r4), (3, vi r2), (0, vr 212), (1, vr n1), (2, vr n2)]) dX4_fewestCameras_28 (by decide) rfl rfl ?_
    exact Wt.sub (L' := [(0, vr 212), (1, vr n1), (2, vr n2), (3, vi r2), (4, vi r4), (5, vi 0)]) [3, 4, 5, 2, 1, 0] rfl (b_X4_fewestCameras_b30 hp hB fuel _ _ _ _ _ M4m hF)
  · replace hF := ifT hc hF
    refine w_bipush hB (-2) (by decide) dX4_fewestCameras_18 ?_
    obtain ⟨e1, e2⟩ := retS hF
    subst e2
    exact w_iret hB dX4_fewestCameras_20 e1
theorem c_X4_fewestCameras {K : Kt} {l : Launch} (hp : St K) {r : Int32} {M1 : Mem} {n1 : Nat} {n2 : Nat} {M : Mem} (hF : f_X4_fewestCameras n1 n2 M = some (r, M1)) : MT K l yX4_fewestCameras cX4_fewestCameras 7 (some .int) { frames := 4, cells := 0, slots := 0, locals := 101 } [vr 212, vr n1, vr n2] M (some (vi r)) M1 0 0 :=
  MT_of (by decide) rfl (Nat.le_of_ble_eq_true rfl) (fun X _ hB _ => b_X4_fewestCameras hp hB hF)
set_option maxRecDepth 100000 in
set_option maxHeartbeats 4000000 in
theorem b_X4_searchLeftOut_b33_s {K : Kt} {X : Xt} (hp : St K) (hB : Bx K X { frames := 3, cells := 0, slots := 0, locals := 77 } cX4_searchLeftOut 6 RX4 (some .int)) {r : Int32} {M1 : Mem} {rec21 : Nat → Nat → Int32 → Int32 → Mem → Option (Int32 × Mem)} {rec33 : Nat → Nat → Int32 → Int32 → Int32 → Mem → Option (Int32 × Mem)}
    (h21 : ∀ n1 n2 x3 x4 M, rec21 n1 n2 x3 x4 M = some (r, M1) → Wt K X (QM K X (some (vi r)) M1 0 0) 0 0 M 21 [(0, vr 212), (1, vr n1), (2, vr n2), (3, vi x3), (4, vi x4)] [])
    (h33 : ∀ n1 n2 x3 x4 x5 M, rec33 n1 n2 x3 x4 x5 M = some (r, M1) → Wt K X (QM K X (some (vi r)) M1 0 0) 0 0 M 33 [(0, vr 212), (1, vr n1), (2, vr n2), (3, vi x3), (4, vi x4), (5, vi x5)] []) {n1 : Nat} {n2 : Nat} {x3 : Int32} {x4 : Int32} {x5 : Int32} {M : Mem} (hF : f_X4_searchLeftOut_b33_s rec21 rec33 n1 n2 x3 x4 x5 M = some (r, M1)) : Wt K X (QM K X (some (vi r)) M1 0 0) 0 0 M 33 [(0, vr 212), (1, vr n1), (2, vr n2), (3, vi x3), (4, vi x4), (5, vi x5)] [] := by
  unfold f_X4_searchLeftOut_b33_s at hF
  refine w_iload hB 5 dX4_searchLeftOut_33 rfl ?_
  refine w_iload_n hB 3 dX4_searchLeftOut_35 rfl rfl ?_
  refine w_icmp_gt hB 76 dX4_searchLeftOut_36 (by decide) (fun hc => ?_) (fun hc => ?_)
  · replace hF := ifT hc hF
    obtain ⟨a1, e_a1, hF⟩ := bndS hF
    refine w_iinc hB 4 (v := 1) (L' := [(4, vi a1), (0, vr 212), (1, vr n1), (2, vr n2), (3, vi x3), (5, vi x5)]) dX4_searchLeftOut_76 rfl (by decide) (by decide) e_a1 rfl ?_
    refine w_goto hB 21 dX4_searchLeftOut_79 (by decide) ?_
    exact Wt.sub (L' := [(0, vr 212), (1, vr n1), (2, vr n2), (3, vi x3), (4, vi a1)]) [1, 2, 3, 4, 0] rfl (h21 _ _ _ _ M hF)
  · replace hF := ifF hc hF
    refine w_iload hB 5 dX4_searchLeftOut_39 rfl ?_
    obtain ⟨r1, M1m, hc_M1m, hF⟩ := clS hF
    refine w_callS hB (As := [vi x5]) (st := []) cw_X4_112 q_529 (c_J6_bitCount_0f7a4 hp hc_M1m) ⟨rfl, rfl⟩ (by decide) (by decide) rfl (Nat.le_of_ble_eq_true rfl) dX4_searchLeftOut_41 rfl ?_
    refine w_iload hB 4 dX4_searchLeftOut_44 rfl ?_
    refine w_icmp_ne hB 70 dX4_searchLeftOut_46 (by decide) (fun hc => ?_) (fun hc => ?_)
    · replace hF := ifF hc hF
      obtain ⟨a3, e_a3, hF⟩ := bndS hF
      refine w_iinc hB 5 (v := 1) (L' := [(5, vi a3), (0, vr 212), (1, vr n1), (2, vr n2), (3, vi x3), (4, vi x4)]) dX4_searchLeftOut_70 rfl (by decide) (by decide) e_a3 rfl ?_
      refine w_goto hB 33 dX4_searchLeftOut_73 (by decide) ?_
      exact Wt.sub (L' := [(0, vr 212), (1, vr n1), (2, vr n2), (3, vi x3), (4, vi x4), (5, vi a3)]) [1, 2, 3, 4, 5, 0] rfl (h33 _ _ _ _ _ M1m hF)
    · replace hF := ifT hc hF
      refine w_aload_n hB 0 dX4_searchLeftOut_49 rfl rfl ?_
      refine w_aload_n hB 1 dX4_searchLeftOut_50 rfl rfl ?_
      refine w_aload_n hB 2 dX4_searchLeftOut_51 rfl rfl ?_
      refine w_iload_n hB 3 dX4_searchLeftOut_52 rfl rfl ?_
      refine w_iload hB 5 dX4_searchLeftOut_53 rfl ?_
      refine w_iconst hB (-1) (by decide) dX4_searchLeftOut_55 ?_
      refine w_ixor hB dX4_searchLeftOut_56 ?_
      refine w_iand hB dX4_searchLeftOut_57 ?_
      obtain ⟨o1, M2m, hc_M2m, hF⟩ := clS hF
      refine w_callV hB (ci := 3) (As := [vr n1, vr n2, vi (x3 &&& (x5 ^^^ (-1)))]) (st := []) cw_X4_57 q_455 q_456 rfl (soM hp.1 sh_212 (by decide)) (c_X4_sureOf hp hc_M2m) ⟨rfl, rfl⟩ (by decide) (by decide) rfl (Nat.le_of_ble_eq_true rfl) dX4_searchLeftOut_58 rfl ?_
      obtain ⟨g1, hF⟩ := gdS hF
      refine w_getI hB ff_X2_1 (soM hp.1 g1 (by decide)) q_59 dX4_searchLeftOut_61 ?_
      refine w_if_ne hB 70 dX4_searchLeftOut_64 (by decide) (fun hc => ?_) (fun hc => ?_)
      · replace hF := ifF hc hF
        obtain ⟨a2, e_a2, hF⟩ := bndS hF
        refine w_iinc hB 5 (v := 1) (L' := [(5, vi a2), (0, vr 212), (1, vr n1), (2, vr n2), (3, vi x3), (4, vi x4)]) dX4_searchLeftOut_70 rfl (by decide) (by decide) e_a2 rfl ?_
        refine w_goto hB 33 dX4_searchLeftOut_73 (by decide) ?_
        exact Wt.sub (L' := [(0, vr 212), (1, vr n1), (2, vr n2), (3, vi x3), (4, vi x4), (5, vi a2)]) [1, 2, 3, 4, 5, 0] rfl (h33 _ _ _ _ _ M2m hF)
      · replace hF := ifT hc hF
        refine w_iload hB 5 dX4_searchLeftOut_67 rfl ?_
        obtain ⟨e1, e2⟩ := retS hF
        subst e2
        exact w_iret hB dX4_searchLeftOut_69 e1
theorem b_X4_searchLeftOut_b33 {K : Kt} {X : Xt} (hp : St K) (hB : Bx K X { frames := 3, cells := 0, slots := 0, locals := 77 } cX4_searchLeftOut 6 RX4 (some .int)) {r : Int32} {M1 : Mem} {rec21 : Nat → Nat → Int32 → Int32 → Mem → Option (Int32 × Mem)}
    (h21 : ∀ n1 n2 x3 x4 M, rec21 n1 n2 x3 x4 M = some (r, M1) → Wt K X (QM K X (some (vi r)) M1 0 0) 0 0 M 21 [(0, vr 212), (1, vr n1), (2, vr n2), (3, vi x3), (4, vi x4)] []) (k : Nat) : ∀ (n1 : Nat) (n2 : Nat) (x3 : Int32) (x4 : Int32) (x5 : Int32) M, f_X4_searchLeftOut_b33 rec21 k n1 n2 x3 x4 x5 M = some (r, M1) → Wt K X (QM K X (some (vi r)) M1 0 0) 0 0 M 33 [(0, vr 212), (1, vr n1), (2, vr n2), (3, vi x3), (4, vi x4), (5, vi x5)] [] := by
  refine lpN_ind (P := fun (f : Nat → Nat → Int32 → Int32 → Int32 → Mem → Option (Int32 × Mem)) => ∀ (n1 : Nat) (n2 : Nat) (x3 : Int32) (x4 : Int32) (x5 : Int32) M, f n1 n2 x3 x4 x5 M = some (r, M1) → Wt K X (QM K X (some (vi r)) M1 0 0) 0 0 M 33 [(0, vr 212), (1, vr n1), (2, vr n2), (3, vi x3), (4, vi x4), (5, vi x5)] []) (fun _ _ _ _ _ _ h => by cases h) (fun f hf n1 n2 x3 x4 x5 M hF => ?_) k
  exact b_X4_searchLeftOut_b33_s hp hB h21 hf hF
set_option maxRecDepth 100000 in
set_option maxHeartbeats 4000000 in
theorem b_X4_searchLeftOut_b21_s {K : Kt} {X : Xt} (hp : St K) (hB : Bx K X { frames := 3, cells := 0, slots := 0, locals := 77 } cX4_searchLeftOut 6 RX4 (some .int)) {r : Int32} {M1 : Mem} {rec21 : Nat → Nat → Int32 → Int32 → Mem → Option (Int32 × Mem)}
    (h21 : ∀ n1 n2 x3 x4 M, rec21 n1 n2 x3 x4 M = some (r, M1) → Wt K X (QM K X (some (vi r)) M1 0 0) 0 0 M 21 [(0, vr 212), (1, vr n1), (2, vr n2), (3, vi x3), (4, vi x4)] []) {n1 : Nat} {n2 : Nat} {x3 : Int32} {x4 : Int32} {M : Mem} (hF : f_X4_searchLeftOut_b21_s rec21 n1 n2 x3 x4 M = some (r, M1)) : Wt K X (QM K X (some (vi r)) M1 0 0) 0 0 M 21 [(0, vr 212), (1, vr n1), (2, vr n2), (3, vi x3), (4, vi x4)] [] := by
  unfold f_X4_searchLeftOut_b21_s at hF
  refine w_iload hB 4 dX4_searchLeftOut_21 rfl ?_
  refine w_aload_n hB 2 dX4_searchLeftOut_23 rfl rfl ?_
  obtain ⟨g1, hF⟩ := gdS hF
  refine w_getI hB ff_X6_5 (soM hp.1 g1 (by decide)) q_136 dX4_searchLeftOut_24 ?_
  refine w_icmp_ge hB 82 dX4_searchLeftOut_27 (by decide) (fun hc => ?_) (fun hc => ?_)
  · replace hF := ifT hc hF
    refine w_iload_n hB 3 dX4_searchLeftOut_82 rfl rfl ?_
    obtain ⟨e1, e2⟩ := retS hF
    subst e2
    exact w_iret hB dX4_searchLeftOut_83 e1
  · replace hF := ifF hc hF
    refine w_iconst hB 0 (by decide) dX4_searchLeftOut_30 ?_
    refine w_istore hB (L' := [(5, vi 0), (0, vr 212), (1, vr n1), (2, vr n2), (3, vi x3), (4, vi x4)]) dX4_searchLeftOut_31 (by decide) rfl rfl ?_
    exact Wt.sub (L' := [(0, vr 212), (1, vr n1), (2, vr n2), (3, vi x3), (4, vi x4), (5, vi 0)]) [1, 2, 3, 4, 5, 0] rfl (b_X4_searchLeftOut_b33 hp hB h21 fuel _ _ _ _ _ M hF)
theorem b_X4_searchLeftOut_b21 {K : Kt} {X : Xt} (hp : St K) (hB : Bx K X { frames := 3, cells := 0, slots := 0, locals := 77 } cX4_searchLeftOut 6 RX4 (some .int)) {r : Int32} {M1 : Mem} (k : Nat) : ∀ (n1 : Nat) (n2 : Nat) (x3 : Int32) (x4 : Int32) M, f_X4_searchLeftOut_b21 k n1 n2 x3 x4 M = some (r, M1) → Wt K X (QM K X (some (vi r)) M1 0 0) 0 0 M 21 [(0, vr 212), (1, vr n1), (2, vr n2), (3, vi x3), (4, vi x4)] [] := by
  refine lpN_ind (P := fun (f : Nat → Nat → Int32 → Int32 → Mem → Option (Int32 × Mem)) => ∀ (n1 : Nat) (n2 : Nat) (x3 : Int32) (x4 : Int32) M, f n1 n2 x3 x4 M = some (r, M1) → Wt K X (QM K X (some (vi r)) M1 0 0) 0 0 M 21 [(0, vr 212), (1, vr n1), (2, vr n2), (3, vi x3), (4, vi x4)] []) (fun _ _ _ _ _ h => by cases h) (fun f hf n1 n2 x3 x4 M hF => ?_) k
  exact b_X4_searchLeftOut_b21_s hp hB hf hF
set_option maxRecDepth 100000 in
set_option maxHeartbeats 4000000 in
theorem b_X4_searchLeftOut {K : Kt} {X : Xt} (hp : St K) (hB : Bx K X { frames := 3, cells := 0, slots := 0, locals := 77 } cX4_searchLeftOut 6 RX4 (some .int)) {r : Int32} {M1 : Mem} {n1 : Nat} {n2 : Nat} {M : Mem} (hF : f_X4_searchLeftOut n1 n2 M = some (r, M1)) : Wt K X (QM K X (some (vi r)) M1 0 0) 0 0 M 0 [(0, vr 212), (1, vr n1), (2, vr n2)] [] := by
  unfold f_X4_searchLeftOut at hF
  refine w_aload_n hB 1 dX4_searchLeftOut_0 rfl rfl ?_
  obtain ⟨g1, hF⟩ := gdS hF
  refine w_getC hB (v := cr n1 4) ff_X9_4 (soM hp.1 g1 (by decide)) hp.1 rfl (shc_ne (crc_8_4 g1).1) q_210 dX4_searchLeftOut_1 ?_
  refine w_getI hB ff_X2_1 (soM hp.1 (crc_8_4 g1).1 (by decide)) q_59 dX4_searchLeftOut_4 ?_
  refine w_if_eq hB 13 dX4_searchLeftOut_7 (by decide) (fun hc => ?_) (fun hc => ?_)
  · replace hF := ifT hc hF
    refine w_aload_n hB 2 dX4_searchLeftOut_13 rfl rfl ?_
    obtain ⟨g2, hF⟩ := gdS hF
    obtain ⟨r1, M1m, hc_M1m, hF⟩ := clS hF
    refine w_callV hB (ci := 5) (As := []) (st := []) cw_X4_93 q_503 q_504 rfl (soM hp.1 g2 (by decide)) (c_X6_allFrames hp hc_M1m) ⟨rfl, rfl⟩ (by decide) (by decide) rfl (Nat.le_of_ble_eq_true rfl) dX4_searchLeftOut_14 rfl ?_
    refine w_istore_n hB (L' := [(3, vi r1), (0, vr 212), (1, vr n1), (2, vr n2)]) dX4_searchLeftOut_17 rfl (by decide) rfl rfl ?_
    refine w_iconst hB 0 (by decide) dX4_searchLeftOut_18 ?_
    refine w_istore hB (L' := [(4, vi 0), (3, vi r1), (0, vr 212), (1, vr n1), (2, vr n2)]) dX4_searchLeftOut_19 (by decide) rfl rfl ?_
    exact Wt.sub (L' := [(0, vr 212), (1, vr n1), (2, vr n2), (3, vi r1), (4, vi 0)]) [2, 3, 4, 1, 0] rfl (b_X4_searchLeftOut_b21 hp hB fuel _ _ _ _ M1m hF)
  · replace hF := ifF hc hF
    refine w_bipush hB (-2) (by decide) dX4_searchLeftOut_10 ?_
    obtain ⟨e1, e2⟩ := retS hF
    subst e2
    exact w_iret hB dX4_searchLeftOut_12 e1
theorem c_X4_searchLeftOut {K : Kt} {l : Launch} (hp : St K) {r : Int32} {M1 : Mem} {n1 : Nat} {n2 : Nat} {M : Mem} (hF : f_X4_searchLeftOut n1 n2 M = some (r, M1)) : MT K l yX4_searchLeftOut cX4_searchLeftOut 6 (some .int) { frames := 3, cells := 0, slots := 0, locals := 77 } [vr 212, vr n1, vr n2] M (some (vi r)) M1 0 0 :=
  MT_of (by decide) rfl (Nat.le_of_ble_eq_true rfl) (fun X _ hB _ => b_X4_searchLeftOut hp hB hF)
set_option maxRecDepth 100000 in
set_option maxHeartbeats 4000000 in
theorem b_X4_fewestLeftOut {K : Kt} {X : Xt} (hp : St K) (hB : Bx K X { frames := 4, cells := 0, slots := 0, locals := 102 } cX4_fewestLeftOut 3 RX4 (some .int)) {r : Int32} {M1 : Mem} {n1 : Nat} {n2 : Nat} {M : Mem} (hF : f_X4_fewestLeftOut n1 n2 M = some (r, M1)) : Wt K X (QM K X (some (vi r)) M1 0 0) 0 0 M 0 [(0, vr 212), (1, vr n1), (2, vr n2)] [] := by
  unfold f_X4_fewestLeftOut at hF
  refine w_aload_n hB 2 dX4_fewestLeftOut_0 rfl rfl ?_
  obtain ⟨g1, hF⟩ := gdS hF
  refine w_getI hB ff_X6_11 (soM hp.1 g1 (by decide)) q_158 dX4_fewestLeftOut_1 ?_
  refine w_bipush hB (-3) (by decide) dX4_fewestLeftOut_4 ?_
  refine w_icmp_ne hB 19 dX4_fewestLeftOut_6 (by decide) (fun hc => ?_) (fun hc => ?_)
  · replace hF := ifF hc hF
    refine w_aload_n hB 2 dX4_fewestLeftOut_19 rfl rfl ?_
    refine w_getI hB ff_X6_11 (soM hp.1 g1 (by decide)) q_158 dX4_fewestLeftOut_20 ?_
    obtain ⟨e1, e2⟩ := retS hF
    subst e2
    exact w_iret hB dX4_fewestLeftOut_23 e1
  · replace hF := ifT hc hF
    refine w_aload_n hB 2 dX4_fewestLeftOut_9 rfl rfl ?_
    refine w_aload_n hB 0 dX4_fewestLeftOut_10 rfl rfl ?_
    refine w_aload_n hB 1 dX4_fewestLeftOut_11 rfl rfl ?_
    refine w_aload_n hB 2 dX4_fewestLeftOut_12 rfl rfl ?_
    obtain ⟨r1, M1m, hc_M1m, hF⟩ := clS hF
    refine w_callV hB (ci := 3) (As := [vr n1, vr n2]) (st := [vr n2]) cw_X4_130 q_562 q_5 rfl (soM hp.1 sh_212 (by decide)) (c_X4_searchLeftOut hp hc_M1m) ⟨rfl, rfl⟩ (by decide) (by decide) rfl (Nat.le_of_ble_eq_true rfl) dX4_fewestLeftOut_13 rfl ?_
    obtain ⟨M2m, e_M2m, hF⟩ := bndS hF
    refine w_putI hB ff_X6_11 (soM hp.1 g1 (by decide)) q_158 e_M2m dX4_fewestLeftOut_16 ?_
    refine w_aload_n hB 2 dX4_fewestLeftOut_19 rfl rfl ?_
    refine w_getI hB ff_X6_11 (soM hp.1 g1 (by decide)) q_158 dX4_fewestLeftOut_20 ?_
    obtain ⟨e1, e2⟩ := retS hF
    subst e2
    exact w_iret hB dX4_fewestLeftOut_23 e1
theorem c_X4_fewestLeftOut {K : Kt} {l : Launch} (hp : St K) {r : Int32} {M1 : Mem} {n1 : Nat} {n2 : Nat} {M : Mem} (hF : f_X4_fewestLeftOut n1 n2 M = some (r, M1)) : MT K l yX4_fewestLeftOut cX4_fewestLeftOut 3 (some .int) { frames := 4, cells := 0, slots := 0, locals := 102 } [vr 212, vr n1, vr n2] M (some (vi r)) M1 0 0 :=
  MT_of (by decide) rfl (Nat.le_of_ble_eq_true rfl) (fun X _ hB _ => b_X4_fewestLeftOut hp hB hF)
