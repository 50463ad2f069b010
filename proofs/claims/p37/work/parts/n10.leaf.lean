set_option maxRecDepth 100000 in
set_option maxHeartbeats 4000000 in
theorem b_J7_fill_53178_b5_s {K : Kt} {X : Xt} (hp : St K) (hB : Bx K X { frames := 0, cells := 0, slots := 0, locals := 0 } cJ7_fill_53178 4 RJ7 none) {M1 : Mem} {rec5 : Nat → Int32 → Int32 → Int32 → Mem → Option Mem}
    (h5 : ∀ n0 x1 x2 x3 M, rec5 n0 x1 x2 x3 M = some M1 → Wt K X (QM K X none M1 0 0) 0 0 M 5 [(0, vr n0), (1, vi x1), (2, vi x2), (3, vi x3)] []) {n0 : Nat} {x1 : Int32} {x2 : Int32} {x3 : Int32} {M : Mem} (hF : f_J7_fill_53178_b5_s rec5 n0 x1 x2 x3 M = some M1) : Wt K X (QM K X none M1 0 0) 0 0 M 5 [(0, vr n0), (1, vi x1), (2, vi x2), (3, vi x3)] [] := by
  unfold f_J7_fill_53178_b5_s at hF
  refine w_iload_n hB 2 dJ7_fill_53178_5 rfl rfl ?_
  refine w_iload_n hB 3 dJ7_fill_53178_6 rfl rfl ?_
  refine w_icmp_ge hB 20 dJ7_fill_53178_7 (by decide) (fun hc => ?_) (fun hc => ?_)
  · replace hF := ifT hc hF
    cases hF
    exact w_vret hB dJ7_fill_53178_20
  · replace hF := ifF hc hF
    refine w_aload_n hB 0 dJ7_fill_53178_10 rfl rfl ?_
    refine w_iload_n hB 2 dJ7_fill_53178_11 rfl rfl ?_
    refine w_iload_n hB 1 dJ7_fill_53178_12 rfl rfl ?_
    obtain ⟨g1, hF⟩ := gdS hF
    obtain ⟨g2, hF⟩ := gdS hF
    obtain ⟨M1m, e_M1m, hF⟩ := bndS hF
    refine w_iast hB (soM hp.1 g1 (by decide)) (sl_s g1 (by decide) rfl) g2 e_M1m dJ7_fill_53178_13 ?_
    obtain ⟨a1, e_a1, hF⟩ := bndS hF
    refine w_iinc hB 2 (v := 1) (L' := [(2, vi a1), (0, vr n0), (1, vi x1), (3, vi x3)]) dJ7_fill_53178_14 rfl (by decide) (by decide) e_a1 rfl ?_
    refine w_goto hB 5 dJ7_fill_53178_17 (by decide) ?_
    exact Wt.sub (L' := [(0, vr n0), (1, vi x1), (2, vi a1), (3, vi x3)]) [1, 2, 0, 3] rfl (h5 _ _ _ _ M1m hF)
theorem b_J7_fill_53178_b5 {K : Kt} {X : Xt} (hp : St K) (hB : Bx K X { frames := 0, cells := 0, slots := 0, locals := 0 } cJ7_fill_53178 4 RJ7 none) {M1 : Mem} (k : Nat) : ∀ (n0 : Nat) (x1 : Int32) (x2 : Int32) (x3 : Int32) M, f_J7_fill_53178_b5 k n0 x1 x2 x3 M = some M1 → Wt K X (QM K X none M1 0 0) 0 0 M 5 [(0, vr n0), (1, vi x1), (2, vi x2), (3, vi x3)] [] := by
  refine lpN_ind (P := fun (f : Nat → Int32 → Int32 → Int32 → Mem → Option Mem) => ∀ (n0 : Nat) (x1 : Int32) (x2 : Int32) (x3 : Int32) M, f n0 x1 x2 x3 M = some M1 → Wt K X (QM K X none M1 0 0) 0 0 M 5 [(0, vr n0), (1, vi x1), (2, vi x2), (3, vi x3)] []) (fun _ _ _ _ _ h => by cases h) (fun f hf n0 x1 x2 x3 M hF => ?_) k
  exact b_J7_fill_53178_b5_s hp hB hf hF
set_option maxRecDepth 100000 in
set_option maxHeartbeats 4000000 in
theorem b_J7_fill_53178 {K : Kt} {X : Xt} (hp : St K) (hB : Bx K X { frames := 0, cells := 0, slots := 0, locals := 0 } cJ7_fill_53178 4 RJ7 none) {M1 : Mem} {n0 : Nat} {x1 : Int32} {M : Mem} (hF : f_J7_fill_53178 n0 x1 M = some M1) : Wt K X (QM K X none M1 0 0) 0 0 M 0 [(0, vr n0), (1, vi x1)] [] := by
  unfold f_J7_fill_53178 at hF
  refine w_iconst hB 0 (by decide) dJ7_fill_53178_0 ?_
  refine w_istore_n hB (L' := [(2, vi 0), (0, vr n0), (1, vi x1)]) dJ7_fill_53178_1 rfl (by decide) rfl rfl ?_
  refine w_aload_n hB 1 dJ7_fill_53178_2 rfl rfl ?_
  obtain ⟨g1, hF⟩ := gdS hF
  refine w_alen hB (v := Int32.ofNat (shl n0)) (c := 0) (soM hp.1 g1 (by decide)) (by decide) (sl_s g1 (by decide) rfl) rfl dJ7_fill_53178_3 ?_
  obtain ⟨a1, e_a1, hF⟩ := bndS hF
  refine w_istore_n hB (L' := [(3, vi a1), (2, vi 0), (0, vr n0), (1, vi x1)]) dJ7_fill_53178_4 rfl (by decide) e_a1 rfl ?_
  exact Wt.sub (L' := [(0, vr n0), (1, vi x1), (2, vi 0), (3, vi a1)]) [2, 3, 1, 0] rfl (b_J7_fill_53178_b5 hp hB fuel _ _ _ _ M hF)
theorem c_J7_fill_53178 {K : Kt} {l : Launch} (hp : St K) {M1 : Mem} {n0 : Nat} {x1 : Int32} {M : Mem} (hF : f_J7_fill_53178 n0 x1 M = some M1) : MT K l yJ7_fill_53178 cJ7_fill_53178 4 none { frames := 0, cells := 0, slots := 0, locals := 0 } [vr n0, vi x1] M none M1 0 0 :=
  MT_of (by decide) rfl (Nat.le_of_ble_eq_true rfl) (fun X _ hB _ => b_J7_fill_53178 hp hB hF)
set_option maxRecDepth 100000 in
set_option maxHeartbeats 4000000 in
theorem b_X2_clear_b11_s {K : Kt} {X : Xt} (hp : St K) (hB : Bx K X { frames := 1, cells := 0, slots := 0, locals := 23 } cX2_clear 2 RX2 none) {M1 : Mem} {rec11 : Nat → Int32 → Mem → Option Mem}
    (h11 : ∀ n0 x1 M, rec11 n0 x1 M = some M1 → Wt K X (QM K X none M1 0 0) 0 0 M 11 [(0, vr n0), (1, vi x1)] []) {n0 : Nat} {x1 : Int32} {M : Mem} (hF : f_X2_clear_b11_s rec11 n0 x1 M = some M1) : Wt K X (QM K X none M1 0 0) 0 0 M 11 [(0, vr n0), (1, vi x1)] [] := by
  unfold f_X2_clear_b11_s at hF
  refine w_iload_n hB 1 dX2_clear_11 rfl rfl ?_
  refine w_bipush hB 10 (by decide) dX2_clear_12 ?_
  refine w_icmp_ge hB 35 dX2_clear_14 (by decide) (fun hc => ?_) (fun hc => ?_)
  · replace hF := ifT hc hF
    refine w_aload_n hB 0 dX2_clear_35 rfl rfl ?_
    refine w_iconst hB 0 (by decide) dX2_clear_36 ?_
    obtain ⟨g1, hF⟩ := gdS hF
    obtain ⟨M1m, e_M1m, hF⟩ := bndS hF
    refine w_putZ hB ff_X2_1 (soM hp.1 g1 (by decide)) q_58 (by decide) e_M1m dX2_clear_37 ?_
    cases hF
    exact w_vret hB dX2_clear_40
  · replace hF := ifF hc hF
    refine w_aload_n hB 0 dX2_clear_17 rfl rfl ?_
    obtain ⟨g2, hF⟩ := gdS hF
    refine w_getC hB (v := cr n0 0) ff_X2_0 (soM hp.1 g2 (by decide)) hp.1 rfl (shc_ne (crc_2_0 g2).1) q_57 dX2_clear_18 ?_
    refine w_iload_n hB 1 dX2_clear_21 rfl rfl ?_
    refine w_bipush hB 10 (by decide) dX2_clear_22 ?_
    refine w_imul hB dX2_clear_24 ?_
    refine w_iload_n hB 1 dX2_clear_25 rfl rfl ?_
    refine w_iadd hB dX2_clear_26 ?_
    refine w_iconst hB 0 (by decide) dX2_clear_27 ?_
    obtain ⟨g3, hF⟩ := gdS hF
    obtain ⟨M2m, e_M2m, hF⟩ := bndS hF
    refine w_iast hB (soM hp.1 (crc_2_0 g2).1 (by decide)) (sl_s (crc_2_0 g2).1 (by decide) (crc_2_0 g2).2) g3 e_M2m dX2_clear_28 ?_
    obtain ⟨a1, e_a1, hF⟩ := bndS hF
    refine w_iinc hB 1 (v := 1) (L' := [(1, vi a1), (0, vr n0)]) dX2_clear_29 rfl (by decide) (by decide) e_a1 rfl ?_
    refine w_goto hB 11 dX2_clear_32 (by decide) ?_
    exact Wt.sub (L' := [(0, vr n0), (1, vi a1)]) [1, 0] rfl (h11 _ _ M2m hF)
theorem b_X2_clear_b11 {K : Kt} {X : Xt} (hp : St K) (hB : Bx K X { frames := 1, cells := 0, slots := 0, locals := 23 } cX2_clear 2 RX2 none) {M1 : Mem} (k : Nat) : ∀ (n0 : Nat) (x1 : Int32) M, f_X2_clear_b11 k n0 x1 M = some M1 → Wt K X (QM K X none M1 0 0) 0 0 M 11 [(0, vr n0), (1, vi x1)] [] := by
  refine lpN_ind (P := fun (f : Nat → Int32 → Mem → Option Mem) => ∀ (n0 : Nat) (x1 : Int32) M, f n0 x1 M = some M1 → Wt K X (QM K X none M1 0 0) 0 0 M 11 [(0, vr n0), (1, vi x1)] []) (fun _ _ _ h => by cases h) (fun f hf n0 x1 M hF => ?_) k
  exact b_X2_clear_b11_s hp hB hf hF
set_option maxRecDepth 100000 in
set_option maxHeartbeats 4000000 in
theorem b_X2_clear {K : Kt} {X : Xt} (hp : St K) (hB : Bx K X { frames := 1, cells := 0, slots := 0, locals := 23 } cX2_clear 2 RX2 none) {M1 : Mem} {n0 : Nat} {M : Mem} (hF : f_X2_clear n0 M = some M1) : Wt K X (QM K X none M1 0 0) 0 0 M 0 [(0, vr n0)] [] := by
  unfold f_X2_clear at hF
  refine w_aload_n hB 0 dX2_clear_0 rfl rfl ?_
  obtain ⟨g1, hF⟩ := gdS hF
  refine w_getC hB (v := cr n0 0) ff_X2_0 (soM hp.1 g1 (by decide)) hp.1 rfl (shc_ne (crc_2_0 g1).1) q_57 dX2_clear_1 ?_
  refine w_ldc hB (v := 268435456) q_192 dX2_clear_4 ?_
  obtain ⟨M1m, hc_M1m, hF⟩ := clvS hF
  refine w_callS hB (As := [vr (cr n0 0), vi 268435456]) (st := []) cw_X2_16 q_194 (c_J7_fill_53178 hp hc_M1m) ⟨rfl, rfl⟩ (by decide) (by decide) rfl (Nat.le_of_ble_eq_true rfl) dX2_clear_6 rfl ?_
  refine w_iconst hB 0 (by decide) dX2_clear_9 ?_
  refine w_istore_n hB (L' := [(1, vi 0), (0, vr n0)]) dX2_clear_10 rfl (by decide) rfl rfl ?_
  exact Wt.sub (L' := [(0, vr n0), (1, vi 0)]) [1, 0] rfl (b_X2_clear_b11 hp hB fuel _ _ M1m hF)
theorem c_X2_clear {K : Kt} {l : Launch} (hp : St K) {M1 : Mem} {n0 : Nat} {M : Mem} (hF : f_X2_clear n0 M = some M1) : MT K l yX2_clear cX2_clear 2 none { frames := 1, cells := 0, slots := 0, locals := 23 } [vr n0] M none M1 0 0 :=
  MT_of (by decide) rfl (Nat.le_of_ble_eq_true rfl) (fun X _ hB _ => b_X2_clear hp hB hF)
set_option maxRecDepth 100000 in
set_option maxHeartbeats 4000000 in
theorem b_X2_copyFrom {K : Kt} {X : Xt} (hp : St K) (hB : Bx K X { frames := 1, cells := 0, slots := 0, locals := 26 } cX2_copyFrom 2 RX2 none) {M1 : Mem} {n0 : Nat} {n1 : Nat} {M : Mem} (hF : f_X2_copyFrom n0 n1 M = some M1) : Wt K X (QM K X none M1 0 0) 0 0 M 0 [(0, vr n0), (1, vr n1)] [] := by
  unfold f_X2_copyFrom at hF
  refine w_aload_n hB 1 dX2_copyFrom_0 rfl rfl ?_
  obtain ⟨g1, hF⟩ := gdS hF
  refine w_getC hB (v := cr n1 0) ff_X2_0 (soM hp.1 g1 (by decide)) hp.1 rfl (shc_ne (crc_2_0 g1).1) q_57 dX2_copyFrom_1 ?_
  refine w_iconst hB 0 (by decide) dX2_copyFrom_4 ?_
  refine w_aload_n hB 0 dX2_copyFrom_5 rfl rfl ?_
  obtain ⟨g2, hF⟩ := gdS hF
  refine w_getC hB (v := cr n0 0) ff_X2_0 (soM hp.1 g2 (by decide)) hp.1 rfl (shc_ne (crc_2_0 g2).1) q_57 dX2_copyFrom_6 ?_
  refine w_iconst hB 0 (by decide) dX2_copyFrom_9 ?_
  refine w_bipush hB 100 (by decide) dX2_copyFrom_10 ?_
  obtain ⟨M1m, e_M1m, hF⟩ := bndS hF
  refine w_copy hB hp.1 (crc_2_0 g1).1 (crc_2_0 g2).1 (crc_2_0 g1).2 (crc_2_0 g2).2 (by decide) (by decide) (by decide) q_462 e_M1m dX2_copyFrom_12 (by decide) (Nat.le_of_ble_eq_true rfl) ?_
  refine w_aload_n hB 0 dX2_copyFrom_15 rfl rfl ?_
  refine w_aload_n hB 1 dX2_copyFrom_16 rfl rfl ?_
  refine w_getI hB ff_X2_1 (soM hp.1 g1 (by decide)) q_58 dX2_copyFrom_17 ?_
  obtain ⟨g3, hF⟩ := gdS hF
  obtain ⟨M2m, e_M2m, hF⟩ := bndS hF
  refine w_putZ hB ff_X2_1 (soM hp.1 g2 (by decide)) q_58 g3 e_M2m dX2_copyFrom_20 ?_
  cases hF
  exact w_vret hB dX2_copyFrom_23
theorem c_X2_copyFrom {K : Kt} {l : Launch} (hp : St K) {M1 : Mem} {n0 : Nat} {n1 : Nat} {M : Mem} (hF : f_X2_copyFrom n0 n1 M = some M1) : MT K l yX2_copyFrom cX2_copyFrom 2 none { frames := 1, cells := 0, slots := 0, locals := 26 } [vr n0, vr n1] M none M1 0 0 :=
  MT_of (by decide) rfl (Nat.le_of_ble_eq_true rfl) (fun X _ hB _ => b_X2_copyFrom hp hB hF)
set_option maxRecDepth 100000 in
set_option maxHeartbeats 4000000 in
theorem b_X2_tell_b85_s {K : Kt} {X : Xt} (hp : St K) (hB : Bx K X { frames := 0, cells := 0, slots := 0, locals := 0 } cX2_tell 9 RX2 none) {M1 : Mem} {rec59 : Nat → Int32 → Int32 → Int32 → Int32 → Mem → Option Mem} {rec85 : Nat → Int32 → Int32 → Int32 → Int32 → Int32 → Int32 → Mem → Option Mem}
    (h59 : ∀ n0 x1 x2 x3 x5 M, rec59 n0 x1 x2 x3 x5 M = some M1 → Wt K X (QM K X none M1 0 0) 0 0 M 59 [(0, vr n0), (1, vi x1), (2, vi x2), (3, vi x3), (5, vi x5)] [])
    (h85 : ∀ n0 x1 x2 x3 x5 x6 x7 M, rec85 n0 x1 x2 x3 x5 x6 x7 M = some M1 → Wt K X (QM K X none M1 0 0) 0 0 M 85 [(0, vr n0), (1, vi x1), (2, vi x2), (3, vi x3), (5, vi x5), (6, vi x6), (7, vi x7)] []) {n0 : Nat} {x1 : Int32} {x2 : Int32} {x3 : Int32} {x5 : Int32} {x6 : Int32} {x7 : Int32} {M : Mem} (hF : f_X2_tell_b85_s rec59 rec85 n0 x1 x2 x3 x5 x6 x7 M = some M1) : Wt K X (QM K X none M1 0 0) 0 0 M 85 [(0, vr n0), (1, vi x1), (2, vi x2), (3, vi x3), (5, vi x5), (6, vi x6), (7, vi x7)] [] := by
  unfold f_X2_tell_b85_s at hF
  refine w_iload hB 6 dX2_tell_85 rfl ?_
  refine w_bipush hB 10 (by decide) dX2_tell_87 ?_
  refine w_icmp_ge hB 175 dX2_tell_89 (by decide) (fun hc => ?_) (fun hc => ?_)
  · replace hF := ifT hc hF
    obtain ⟨a1, e_a1, hF⟩ := bndS hF
    refine w_iinc hB 4 (v := 1) (L' := [(5, vi a1), (0, vr n0), (1, vi x1), (2, vi x2), (3, vi x3), (6, vi x6), (7, vi x7)]) dX2_tell_175 rfl (by decide) (by decide) e_a1 rfl ?_
    refine w_goto hB 59 dX2_tell_178 (by decide) ?_
    exact Wt.sub (L' := [(0, vr n0), (1, vi x1), (2, vi x2), (3, vi x3), (5, vi a1)]) [1, 2, 3, 4, 0] rfl (h59 _ _ _ _ _ M hF)
  · replace hF := ifF hc hF
    refine w_aload_n hB 0 dX2_tell_92 rfl rfl ?_
    obtain ⟨g1, hF⟩ := gdS hF
    refine w_getC hB (v := cr n0 0) ff_X2_0 (soM hp.1 g1 (by decide)) hp.1 rfl (shc_ne (crc_2_0 g1).1) q_57 dX2_tell_93 ?_
    refine w_iload hB 4 dX2_tell_96 rfl ?_
    refine w_bipush hB 10 (by decide) dX2_tell_98 ?_
    refine w_imul hB dX2_tell_100 ?_
    refine w_iload_n hB 1 dX2_tell_101 rfl rfl ?_
    refine w_iadd hB dX2_tell_102 ?_
    obtain ⟨g2, hF⟩ := gdS hF
    refine w_iald hB (soM hp.1 (crc_2_0 g1).1 (by decide)) (sl_s (crc_2_0 g1).1 (by decide) (crc_2_0 g1).2) g2 dX2_tell_103 ?_
    refine w_ldc hB (v := 268435456) q_192 dX2_tell_104 ?_
    refine w_icmp_eq hB 175 dX2_tell_106 (by decide) (fun hc => ?_) (fun hc => ?_)
    · replace hF := ifT hc hF
      obtain ⟨a2, e_a2, hF⟩ := bndS hF
      refine w_iinc hB 4 (v := 1) (L' := [(5, vi a2), (0, vr n0), (1, vi x1), (2, vi x2), (3, vi x3), (6, vi x6), (7, vi x7)]) dX2_tell_175 rfl (by decide) (by decide) e_a2 rfl ?_
      refine w_goto hB 59 dX2_tell_178 (by decide) ?_
      exact Wt.sub (L' := [(0, vr n0), (1, vi x1), (2, vi x2), (3, vi x3), (5, vi a2)]) [1, 2, 3, 4, 0] rfl (h59 _ _ _ _ _ M hF)
    · replace hF := ifF hc hF
      refine w_aload_n hB 0 dX2_tell_109 rfl rfl ?_
      refine w_getC hB (v := cr n0 0) ff_X2_0 (soM hp.1 g1 (by decide)) hp.1 rfl (shc_ne (crc_2_0 g1).1) q_57 dX2_tell_110 ?_
      refine w_iload_n hB 2 dX2_tell_113 rfl rfl ?_
      refine w_bipush hB 10 (by decide) dX2_tell_114 ?_
      refine w_imul hB dX2_tell_116 ?_
      refine w_iload hB 6 dX2_tell_117 rfl ?_
      refine w_iadd hB dX2_tell_119 ?_
      obtain ⟨g3, hF⟩ := gdS hF
      refine w_iald hB (soM hp.1 (crc_2_0 g1).1 (by decide)) (sl_s (crc_2_0 g1).1 (by decide) (crc_2_0 g1).2) g3 dX2_tell_120 ?_
      obtain ⟨a3, e_a3, hF⟩ := bndS hF
      refine w_istore hB (L' := [(8, vi a3), (0, vr n0), (1, vi x1), (2, vi x2), (3, vi x3), (5, vi x5), (6, vi x6), (7, vi x7)]) dX2_tell_121 (by decide) e_a3 rfl ?_
      refine w_iload hB 0 dX2_tell_123 rfl ?_
      refine w_ldc hB (v := 268435456) q_192 dX2_tell_125 ?_
      refine w_icmp_eq hB 169 dX2_tell_127 (by decide) (fun hc => ?_) (fun hc => ?_)
      · replace hF := ifT hc hF
        obtain ⟨a4, e_a4, hF⟩ := bndS hF
        refine w_iinc hB 7 (v := 1) (L' := [(7, vi a4), (8, vi a3), (0, vr n0), (1, vi x1), (2, vi x2), (3, vi x3), (5, vi x5), (6, vi x6)]) dX2_tell_169 rfl (by decide) (by decide) e_a4 rfl ?_
        refine w_goto hB 85 dX2_tell_172 (by decide) ?_
        exact Wt.sub (L' := [(0, vr n0), (1, vi x1), (2, vi x2), (3, vi x3), (5, vi x5), (6, vi x6), (7, vi a4)]) [2, 3, 4, 5, 6, 7, 0] rfl (h85 _ _ _ _ _ _ _ M hF)
      · replace hF := ifF hc hF
        refine w_iload hB 6 dX2_tell_130 rfl ?_
        refine w_iload hB 0 dX2_tell_132 rfl ?_
        refine w_iadd hB dX2_tell_134 ?_
        refine w_aload_n hB 1 dX2_tell_135 rfl rfl ?_
        refine w_getC hB (v := cr n0 0) ff_X2_0 (soM hp.1 g1 (by decide)) hp.1 rfl (shc_ne (crc_2_0 g1).1) q_57 dX2_tell_136 ?_
        refine w_iload hB 5 dX2_tell_139 rfl ?_
        refine w_bipush hB 10 (by decide) dX2_tell_141 ?_
        refine w_imul hB dX2_tell_143 ?_
        refine w_iload hB 7 dX2_tell_144 rfl ?_
        refine w_iadd hB dX2_tell_146 ?_
        obtain ⟨g4, hF⟩ := gdS hF
        refine w_iald hB (soM hp.1 (crc_2_0 g1).1 (by decide)) (sl_s (crc_2_0 g1).1 (by decide) (crc_2_0 g1).2) g4 dX2_tell_147 ?_
        refine w_icmp_ge hB 169 dX2_tell_148 (by decide) (fun hc => ?_) (fun hc => ?_)
        · replace hF := ifT hc hF
          obtain ⟨a5, e_a5, hF⟩ := bndS hF
          refine w_iinc hB 7 (v := 1) (L' := [(7, vi a5), (8, vi a3), (0, vr n0), (1, vi x1), (2, vi x2), (3, vi x3), (5, vi x5), (6, vi x6)]) dX2_tell_169 rfl (by decide) (by decide) e_a5 rfl ?_
          refine w_goto hB 85 dX2_tell_172 (by decide) ?_
          exact Wt.sub (L' := [(0, vr n0), (1, vi x1), (2, vi x2), (3, vi x3), (5, vi x5), (6, vi x6), (7, vi a5)]) [2, 3, 4, 5, 6, 7, 0] rfl (h85 _ _ _ _ _ _ _ M hF)
        · replace hF := ifF hc hF
          refine w_aload_n hB 1 dX2_tell_151 rfl rfl ?_
          refine w_getC hB (v := cr n0 0) ff_X2_0 (soM hp.1 g1 (by decide)) hp.1 rfl (shc_ne (crc_2_0 g1).1) q_57 dX2_tell_152 ?_
          refine w_iload hB 5 dX2_tell_155 rfl ?_
          refine w_bipush hB 10 (by decide) dX2_tell_157 ?_
          refine w_imul hB dX2_tell_159 ?_
          refine w_iload hB 7 dX2_tell_160 rfl ?_
          refine w_iadd hB dX2_tell_162 ?_
          refine w_iload hB 6 dX2_tell_163 rfl ?_
          refine w_iload hB 0 dX2_tell_165 rfl ?_
          refine w_iadd hB dX2_tell_167 ?_
          obtain ⟨M1m, e_M1m, hF⟩ := bndS hF
          refine w_iast hB (soM hp.1 (crc_2_0 g1).1 (by decide)) (sl_s (crc_2_0 g1).1 (by decide) (crc_2_0 g1).2) g4 e_M1m dX2_tell_168 ?_
          obtain ⟨a6, e_a6, hF⟩ := bndS hF
          refine w_iinc hB 7 (v := 1) (L' := [(7, vi a6), (8, vi a3), (0, vr n0), (1, vi x1), (2, vi x2), (3, vi x3), (5, vi x5), (6, vi x6)]) dX2_tell_169 rfl (by decide) (by decide) e_a6 rfl ?_
          refine w_goto hB 85 dX2_tell_172 (by decide) ?_
          exact Wt.sub (L' := [(0, vr n0), (1, vi x1), (2, vi x2), (3, vi x3), (5, vi x5), (6, vi x6), (7, vi a6)]) [2, 3, 4, 5, 6, 7, 0] rfl (h85 _ _ _ _ _ _ _ M1m hF)
theorem b_X2_tell_b85 {K : Kt} {X : Xt} (hp : St K) (hB : Bx K X { frames := 0, cells := 0, slots := 0, locals := 0 } cX2_tell 9 RX2 none) {M1 : Mem} {rec59 : Nat → Int32 → Int32 → Int32 → Int32 → Mem → Option Mem}
    (h59 : ∀ n0 x1 x2 x3 x5 M, rec59 n0 x1 x2 x3 x5 M = some M1 → Wt K X (QM K X none M1 0 0) 0 0 M 59 [(0, vr n0), (1, vi x1), (2, vi x2), (3, vi x3), (5, vi x5)] []) (k : Nat) : ∀ (n0 : Nat) (x1 : Int32) (x2 : Int32) (x3 : Int32) (x5 : Int32) (x6 : Int32) (x7 : Int32) M, f_X2_tell_b85 rec59 k n0 x1 x2 x3 x5 x6 x7 M = some M1 → Wt K X (QM K X none M1 0 0) 0 0 M 85 [(0, vr n0), (1, vi x1), (2, vi x2), (3, vi x3), (5, vi x5), (6, vi x6), (7, vi x7)] [] := by
  refine lpN_ind (P := fun (f : Nat → Int32 → Int32 → Int32 → Int32 → Int32 → Int32 → Mem → Option Mem) => ∀ (n0 : Nat) (x1 : Int32) (x2 : Int32) (x3 : Int32) (x5 : Int32) (x6 : Int32) (x7 : Int32) M, f n0 x1 x2 x3 x5 x6 x7 M = some M1 → Wt K X (QM K X none M1 0 0) 0 0 M 85 [(0, vr n0), (1, vi x1), (2, vi x2), (3, vi x3), (5, vi x5), (6, vi x6), (7, vi x7)] []) (fun _ _ _ _ _ _ _ _ h => by cases h) (fun f hf n0 x1 x2 x3 x5 x6 x7 M hF => ?_) k
  exact b_X2_tell_b85_s hp hB h59 hf hF
set_option maxRecDepth 100000 in
set_option maxHeartbeats 4000000 in
theorem b_X2_tell_b59_s {K : Kt} {X : Xt} (hp : St K) (hB : Bx K X { frames := 0, cells := 0, slots := 0, locals := 0 } cX2_tell 9 RX2 none) {M1 : Mem} {rec59 : Nat → Int32 → Int32 → Int32 → Int32 → Mem → Option Mem}
    (h59 : ∀ n0 x1 x2 x3 x5 M, rec59 n0 x1 x2 x3 x5 M = some M1 → Wt K X (QM K X none M1 0 0) 0 0 M 59 [(0, vr n0), (1, vi x1), (2, vi x2), (3, vi x3), (5, vi x5)] []) {n0 : Nat} {x1 : Int32} {x2 : Int32} {x3 : Int32} {x5 : Int32} {M : Mem} (hF : f_X2_tell_b59_s rec59 n0 x1 x2 x3 x5 M = some M1) : Wt K X (QM K X none M1 0 0) 0 0 M 59 [(0, vr n0), (1, vi x1), (2, vi x2), (3, vi x3), (5, vi x5)] [] := by
  unfold f_X2_tell_b59_s at hF
  refine w_iload hB 4 dX2_tell_59 rfl ?_
  refine w_bipush hB 10 (by decide) dX2_tell_61 ?_
  refine w_icmp_ge hB 181 dX2_tell_63 (by decide) (fun hc => ?_) (fun hc => ?_)
  · replace hF := ifT hc hF
    cases hF
    exact w_vret hB dX2_tell_181
  · replace hF := ifF hc hF
    refine w_aload_n hB 0 dX2_tell_66 rfl rfl ?_
    obtain ⟨g1, hF⟩ := gdS hF
    refine w_getC hB (v := cr n0 0) ff_X2_0 (soM hp.1 g1 (by decide)) hp.1 rfl (shc_ne (crc_2_0 g1).1) q_57 dX2_tell_67 ?_
    refine w_iload hB 4 dX2_tell_70 rfl ?_
    refine w_bipush hB 10 (by decide) dX2_tell_72 ?_
    refine w_imul hB dX2_tell_74 ?_
    refine w_iload_n hB 1 dX2_tell_75 rfl rfl ?_
    refine w_iadd hB dX2_tell_76 ?_
    obtain ⟨g2, hF⟩ := gdS hF
    refine w_iald hB (soM hp.1 (crc_2_0 g1).1 (by decide)) (sl_s (crc_2_0 g1).1 (by decide) (crc_2_0 g1).2) g2 dX2_tell_77 ?_
    refine w_iload_n hB 3 dX2_tell_78 rfl rfl ?_
    refine w_iadd hB dX2_tell_79 ?_
    obtain ⟨a1, e_a1, hF⟩ := bndS hF
    refine w_istore hB (L' := [(6, vi a1), (0, vr n0), (1, vi x1), (2, vi x2), (3, vi x3), (5, vi x5)]) dX2_tell_80 (by decide) e_a1 rfl ?_
    refine w_iconst hB 0 (by decide) dX2_tell_82 ?_
    refine w_istore hB (L' := [(7, vi 0), (6, vi a1), (0, vr n0), (1, vi x1), (2, vi x2), (3, vi x3), (5, vi x5)]) dX2_tell_83 (by decide) rfl rfl ?_
    exact Wt.sub (L' := [(0, vr n0), (1, vi x1), (2, vi x2), (3, vi x3), (5, vi x5), (6, vi a1), (7, vi 0)]) [2, 3, 4, 5, 6, 1, 0] rfl (b_X2_tell_b85 hp hB h59 fuel _ _ _ _ _ _ _ M hF)
theorem b_X2_tell_b59 {K : Kt} {X : Xt} (hp : St K) (hB : Bx K X { frames := 0, cells := 0, slots := 0, locals := 0 } cX2_tell 9 RX2 none) {M1 : Mem} (k : Nat) : ∀ (n0 : Nat) (x1 : Int32) (x2 : Int32) (x3 : Int32) (x5 : Int32) M, f_X2_tell_b59 k n0 x1 x2 x3 x5 M = some M1 → Wt K X (QM K X none M1 0 0) 0 0 M 59 [(0, vr n0), (1, vi x1), (2, vi x2), (3, vi x3), (5, vi x5)] [] := by
  refine lpN_ind (P := fun (f : Nat → Int32 → Int32 → Int32 → Int32 → Mem → Option Mem) => ∀ (n0 : Nat) (x1 : Int32) (x2 : Int32) (x3 : Int32) (x5 : Int32) M, f n0 x1 x2 x3 x5 M = some M1 → Wt K X (QM K X none M1 0 0) 0 0 M 59 [(0, vr n0), (1, vi x1), (2, vi x2), (3, vi x3), (5, vi x5)] []) (fun _ _ _ _ _ _ h => by cases h) (fun f hf n0 x1 x2 x3 x5 M hF => ?_) k
  exact b_X2_tell_b59_s hp hB hf hF
set_option maxRecDepth 100000 in
set_option maxHeartbeats 4000000 in
theorem b_X2_tell {K : Kt} {X : Xt} (hp : St K) (hB : Bx K X { frames := 0, cells := 0, slots := 0, locals := 0 } cX2_tell 9 RX2 none) {M1 : Mem} {n0 : Nat} {x1 : Int32} {x2 : Int32} {x3 : Int32} {M : Mem} (hF : f_X2_tell n0 x1 x2 x3 M = some M1) : Wt K X (QM K X none M1 0 0) 0 0 M 0 [(0, vr n0), (1, vi x1), (2, vi x2), (3, vi x3)] [] := by
  unfold f_X2_tell at hF
  refine w_aload_n hB 0 dX2_tell_0 rfl rfl ?_
  obtain ⟨g1, hF⟩ := gdS hF
  refine w_getI hB ff_X2_1 (soM hp.1 g1 (by decide)) q_58 dX2_tell_1 ?_
  refine w_if_ne hB 22 dX2_tell_4 (by decide) (fun hc => ?_) (fun hc => ?_)
  · replace hF := ifF hc hF
    cases hF
    exact w_vret hB dX2_tell_22
  · replace hF := ifT hc hF
    refine w_aload_n hB 0 dX2_tell_7 rfl rfl ?_
    refine w_getC hB (v := cr n0 0) ff_X2_0 (soM hp.1 g1 (by decide)) hp.1 rfl (shc_ne (crc_2_0 g1).1) q_57 dX2_tell_8 ?_
    refine w_iload_n hB 1 dX2_tell_11 rfl rfl ?_
    refine w_bipush hB 10 (by decide) dX2_tell_12 ?_
    refine w_imul hB dX2_tell_14 ?_
    refine w_iload_n hB 2 dX2_tell_15 rfl rfl ?_
    refine w_iadd hB dX2_tell_16 ?_
    obtain ⟨g2, hF⟩ := gdS hF
    refine w_iald hB (soM hp.1 (crc_2_0 g1).1 (by decide)) (sl_s (crc_2_0 g1).1 (by decide) (crc_2_0 g1).2) g2 dX2_tell_17 ?_
    refine w_iload_n hB 3 dX2_tell_18 rfl rfl ?_
    refine w_icmp_gt hB 23 dX2_tell_19 (by decide) (fun hc => ?_) (fun hc => ?_)
    · replace hF := ifT hc hF
      refine w_aload_n hB 0 dX2_tell_23 rfl rfl ?_
      refine w_getC hB (v := cr n0 0) ff_X2_0 (soM hp.1 g1 (by decide)) hp.1 rfl (shc_ne (crc_2_0 g1).1) q_57 dX2_tell_24 ?_
      refine w_iload_n hB 2 dX2_tell_27 rfl rfl ?_
      refine w_bipush hB 10 (by decide) dX2_tell_28 ?_
      refine w_imul hB dX2_tell_30 ?_
      refine w_iload_n hB 1 dX2_tell_31 rfl rfl ?_
      refine w_iadd hB dX2_tell_32 ?_
      obtain ⟨g3, hF⟩ := gdS hF
      refine w_iald hB (soM hp.1 (crc_2_0 g1).1 (by decide)) (sl_s (crc_2_0 g1).1 (by decide) (crc_2_0 g1).2) g3 dX2_tell_33 ?_
      obtain ⟨a1, e_a1, hF⟩ := bndS hF
      refine w_istore hB (L' := [(4, vi a1), (0, vr n0), (1, vi x1), (2, vi x2), (3, vi x3)]) dX2_tell_34 (by decide) e_a1 rfl ?_
      refine w_iload hB 0 dX2_tell_36 rfl ?_
      refine w_ldc hB (v := 268435456) q_192 dX2_tell_38 ?_
      refine w_icmp_eq hB 56 dX2_tell_40 (by decide) (fun hc => ?_) (fun hc => ?_)
      · replace hF := ifT hc hF
        refine w_iconst hB 0 (by decide) dX2_tell_56 ?_
        refine w_istore hB (L' := [(5, vi 0), (4, vi a1), (0, vr n0), (1, vi x1), (2, vi x2), (3, vi x3)]) dX2_tell_57 (by decide) rfl rfl ?_
        exact Wt.sub (L' := [(0, vr n0), (1, vi x1), (2, vi x2), (3, vi x3), (5, vi 0)]) [2, 3, 4, 5, 0] rfl (b_X2_tell_b59 hp hB fuel _ _ _ _ _ M hF)
      · replace hF := ifF hc hF
        refine w_iload hB 0 dX2_tell_43 rfl ?_
        refine w_iload_n hB 4 dX2_tell_45 rfl rfl ?_
        refine w_iadd hB dX2_tell_46 ?_
        refine w_if_ge hB 56 dX2_tell_47 (by decide) (fun hc => ?_) (fun hc => ?_)
        · replace hF := ifT hc hF
          refine w_iconst hB 0 (by decide) dX2_tell_56 ?_
          refine w_istore hB (L' := [(5, vi 0), (4, vi a1), (0, vr n0), (1, vi x1), (2, vi x2), (3, vi x3)]) dX2_tell_57 (by decide) rfl rfl ?_
          exact Wt.sub (L' := [(0, vr n0), (1, vi x1), (2, vi x2), (3, vi x3), (5, vi 0)]) [2, 3, 4, 5, 0] rfl (b_X2_tell_b59 hp hB fuel _ _ _ _ _ M hF)
        · replace hF := ifF hc hF
          refine w_aload_n hB 1 dX2_tell_50 rfl rfl ?_
          refine w_iconst hB 1 (by decide) dX2_tell_51 ?_
          obtain ⟨M1m, e_M1m, hF⟩ := bndS hF
          refine w_putZ hB ff_X2_1 (soM hp.1 g1 (by decide)) q_58 (by decide) e_M1m dX2_tell_52 ?_
          cases hF
          exact w_vret hB dX2_tell_55
    · replace hF := ifF hc hF
      cases hF
      exact w_vret hB dX2_tell_22
theorem c_X2_tell {K : Kt} {l : Launch} (hp : St K) {M1 : Mem} {n0 : Nat} {x1 : Int32} {x2 : Int32} {x3 : Int32} {M : Mem} (hF : f_X2_tell n0 x1 x2 x3 M = some M1) : MT K l yX2_tell cX2_tell 9 none { frames := 0, cells := 0, slots := 0, locals := 0 } [vr n0, vi x1, vi x2, vi x3] M none M1 0 0 :=
  MT_of (by decide) rfl (Nat.le_of_ble_eq_true rfl) (fun X _ hB _ => b_X2_tell hp hB hF)
set_option maxRecDepth 100000 in
set_option maxHeartbeats 4000000 in
theorem b_X2_tellLate {K : Kt} {X : Xt} (hp : St K) (hB : Bx K X { frames := 1, cells := 0, slots := 0, locals := 28 } cX2_tellLate 4 RX2 none) {M1 : Mem} {n0 : Nat} {x1 : Int32} {x2 : Int32} {x3 : Int32} {M : Mem} (hF : f_X2_tellLate n0 x1 x2 x3 M = some M1) : Wt K X (QM K X none M1 0 0) 0 0 M 0 [(0, vr n0), (1, vi x1), (2, vi x2), (3, vi x3)] [] := by
  unfold f_X2_tellLate at hF
  refine w_aload_n hB 0 dX2_tellLate_0 rfl rfl ?_
  refine w_iconst hB 1 (by decide) dX2_tellLate_1 ?_
  refine w_iload_n hB 1 dX2_tellLate_2 rfl rfl ?_
  refine w_iadd hB dX2_tellLate_3 ?_
  refine w_iconst hB 0 (by decide) dX2_tellLate_4 ?_
  refine w_iload_n hB 2 dX2_tellLate_5 rfl rfl ?_
  refine w_ineg hB dX2_tellLate_6 ?_
  obtain ⟨g1, hF⟩ := gdS hF
  obtain ⟨M1m, hc_M1m, hF⟩ := clvS hF
  refine w_callV hB (ci := 1) (As := [vi (1 + x1), vi 0, vi (-x2)]) (st := []) cw_X2_32 q_470 q_471 rfl (soM hp.1 g1 (by decide)) (c_X2_tell hp hc_M1m) ⟨rfl, rfl⟩ (by decide) (by decide) rfl (Nat.le_of_ble_eq_true rfl) dX2_tellLate_7 rfl ?_
  refine w_aload_n hB 0 dX2_tellLate_10 rfl rfl ?_
  refine w_iconst hB 0 (by decide) dX2_tellLate_11 ?_
  refine w_iconst hB 1 (by decide) dX2_tellLate_12 ?_
  refine w_iload_n hB 1 dX2_tellLate_13 rfl rfl ?_
  refine w_iadd hB dX2_tellLate_14 ?_
  refine w_iload_n hB 3 dX2_tellLate_15 rfl rfl ?_
  obtain ⟨M2m, hc_M2m, hF⟩ := clvS hF
  refine w_callV hB (ci := 1) (As := [vi 0, vi (1 + x1), vi x3]) (st := []) cw_X2_32 q_470 q_471 rfl (soM hp.1 g1 (by decide)) (c_X2_tell hp hc_M2m) ⟨rfl, rfl⟩ (by decide) (by decide) rfl (Nat.le_of_ble_eq_true rfl) dX2_tellLate_16 rfl ?_
  cases hF
  exact w_vret hB dX2_tellLate_19
theorem c_X2_tellLate {K : Kt} {l : Launch} (hp : St K) {M1 : Mem} {n0 : Nat} {x1 : Int32} {x2 : Int32} {x3 : Int32} {M : Mem} (hF : f_X2_tellLate n0 x1 x2 x3 M = some M1) : MT K l yX2_tellLate cX2_tellLate 4 none { frames := 1, cells := 0, slots := 0, locals := 28 } [vr n0, vi x1, vi x2, vi x3] M none M1 0 0 :=
  MT_of (by decide) rfl (Nat.le_of_ble_eq_true rfl) (fun X _ hB _ => b_X2_tellLate hp hB hF)
set_option maxRecDepth 100000 in
set_option maxHeartbeats 4000000 in
theorem b_X2_tellFlash {K : Kt} {X : Xt} (hp : St K) (hB : Bx K X { frames := 1, cells := 0, slots := 0, locals := 28 } cX2_tellFlash 5 RX2 none) {M1 : Mem} {n0 : Nat} {x1 : Int32} {x2 : Int32} {x3 : Int32} {x4 : Int32} {M : Mem} (hF : f_X2_tellFlash n0 x1 x2 x3 x4 M = some M1) : Wt K X (QM K X none M1 0 0) 0 0 M 0 [(0, vr n0), (1, vi x1), (2, vi x2), (3, vi x3), (4, vi x4)] [] := by
  unfold f_X2_tellFlash at hF
  refine w_aload_n hB 0 dX2_tellFlash_0 rfl rfl ?_
  refine w_iconst hB 1 (by decide) dX2_tellFlash_1 ?_
  refine w_iload_n hB 1 dX2_tellFlash_2 rfl rfl ?_
  refine w_iadd hB dX2_tellFlash_3 ?_
  refine w_iconst hB 1 (by decide) dX2_tellFlash_4 ?_
  refine w_iload_n hB 3 dX2_tellFlash_5 rfl rfl ?_
  refine w_iadd hB dX2_tellFlash_6 ?_
  refine w_iload hB 4 dX2_tellFlash_7 rfl ?_
  refine w_iload_n hB 2 dX2_tellFlash_9 rfl rfl ?_
  refine w_isub hB dX2_tellFlash_10 ?_
  obtain ⟨g1, hF⟩ := gdS hF
  obtain ⟨M1m, hc_M1m, hF⟩ := clvS hF
  refine w_callV hB (ci := 1) (As := [vi (1 + x1), vi (1 + x3), vi (x4 - x2)]) (st := []) cw_X2_32 q_470 q_471 rfl (soM hp.1 g1 (by decide)) (c_X2_tell hp hc_M1m) ⟨rfl, rfl⟩ (by decide) (by decide) rfl (Nat.le_of_ble_eq_true rfl) dX2_tellFlash_11 rfl ?_
  refine w_aload_n hB 0 dX2_tellFlash_14 rfl rfl ?_
  refine w_iconst hB 1 (by decide) dX2_tellFlash_15 ?_
  refine w_iload_n hB 3 dX2_tellFlash_16 rfl rfl ?_
  refine w_iadd hB dX2_tellFlash_17 ?_
  refine w_iconst hB 1 (by decide) dX2_tellFlash_18 ?_
  refine w_iload_n hB 1 dX2_tellFlash_19 rfl rfl ?_
  refine w_iadd hB dX2_tellFlash_20 ?_
  refine w_iload_n hB 2 dX2_tellFlash_21 rfl rfl ?_
  refine w_iload hB 4 dX2_tellFlash_22 rfl ?_
  refine w_isub hB dX2_tellFlash_24 ?_
  obtain ⟨M2m, hc_M2m, hF⟩ := clvS hF
  refine w_callV hB (ci := 1) (As := [vi (1 + x3), vi (1 + x1), vi (x2 - x4)]) (st := []) cw_X2_32 q_470 q_471 rfl (soM hp.1 g1 (by decide)) (c_X2_tell hp hc_M2m) ⟨rfl, rfl⟩ (by decide) (by decide) rfl (Nat.le_of_ble_eq_true rfl) dX2_tellFlash_25 rfl ?_
  cases hF
  exact w_vret hB dX2_tellFlash_28
theorem c_X2_tellFlash {K : Kt} {l : Launch} (hp : St K) {M1 : Mem} {n0 : Nat} {x1 : Int32} {x2 : Int32} {x3 : Int32} {x4 : Int32} {M : Mem} (hF : f_X2_tellFlash n0 x1 x2 x3 x4 M = some M1) : MT K l yX2_tellFlash cX2_tellFlash 5 none { frames := 1, cells := 0, slots := 0, locals := 28 } [vr n0, vi x1, vi x2, vi x3, vi x4] M none M1 0 0 :=
  MT_of (by decide) rfl (Nat.le_of_ble_eq_true rfl) (fun X _ hB _ => b_X2_tellFlash hp hB hF)
set_option maxRecDepth 100000 in
set_option maxHeartbeats 4000000 in
theorem b_X2_markLess {K : Kt} {X : Xt} (hp : St K) (hB : Bx K X { frames := 0, cells := 0, slots := 0, locals := 0 } cX2_markLess 3 RX2 (some .int)) {r : Int32} {M1 : Mem} {n0 : Nat} {x1 : Int32} {x2 : Int32} {M : Mem} (hF : f_X2_markLess n0 x1 x2 M = some (r, M1)) : Wt K X (QM K X (some (vi r)) M1 0 0) 0 0 M 0 [(0, vr n0), (1, vi x1), (2, vi x2)] [] := by
  unfold f_X2_markLess at hF
  refine w_aload_n hB 0 dX2_markLess_0 rfl rfl ?_
  obtain ⟨g1, hF⟩ := gdS hF
  refine w_getC hB (v := cr n0 0) ff_X2_0 (soM hp.1 g1 (by decide)) hp.1 rfl (shc_ne (crc_2_0 g1).1) q_57 dX2_markLess_1 ?_
  refine w_bipush hB 6 (by decide) dX2_markLess_4 ?_
  refine w_iload_n hB 1 dX2_markLess_6 rfl rfl ?_
  refine w_iadd hB dX2_markLess_7 ?_
  refine w_bipush hB 10 (by decide) dX2_markLess_8 ?_
  refine w_imul hB dX2_markLess_10 ?_
  refine w_bipush hB 6 (by decide) dX2_markLess_11 ?_
  refine w_iadd hB dX2_markLess_13 ?_
  refine w_iload_n hB 2 dX2_markLess_14 rfl rfl ?_
  refine w_iadd hB dX2_markLess_15 ?_
  obtain ⟨g2, hF⟩ := gdS hF
  refine w_iald hB (soM hp.1 (crc_2_0 g1).1 (by decide)) (sl_s (crc_2_0 g1).1 (by decide) (crc_2_0 g1).2) g2 dX2_markLess_16 ?_
  obtain ⟨e1, e2⟩ := retS hF
  subst e2
  exact w_iret hB dX2_markLess_17 e1
theorem c_X2_markLess {K : Kt} {l : Launch} (hp : St K) {r : Int32} {M1 : Mem} {n0 : Nat} {x1 : Int32} {x2 : Int32} {M : Mem} (hF : f_X2_markLess n0 x1 x2 M = some (r, M1)) : MT K l yX2_markLess cX2_markLess 3 (some .int) { frames := 0, cells := 0, slots := 0, locals := 0 } [vr n0, vi x1, vi x2] M (some (vi r)) M1 0 0 :=
  MT_of (by decide) rfl (Nat.le_of_ble_eq_true rfl) (fun X _ hB _ => b_X2_markLess hp hB hF)
set_option maxRecDepth 100000 in
set_option maxHeartbeats 4000000 in
theorem b_X2_lateLeast {K : Kt} {X : Xt} (hp : St K) (hB : Bx K X { frames := 0, cells := 0, slots := 0, locals := 0 } cX2_lateLeast 2 RX2 (some .int)) {r : Int32} {M1 : Mem} {n0 : Nat} {x1 : Int32} {M : Mem} (hF : f_X2_lateLeast n0 x1 M = some (r, M1)) : Wt K X (QM K X (some (vi r)) M1 0 0) 0 0 M 0 [(0, vr n0), (1, vi x1)] [] := by
  unfold f_X2_lateLeast at hF
  refine w_aload_n hB 0 dX2_lateLeast_0 rfl rfl ?_
  obtain ⟨g1, hF⟩ := gdS hF
  refine w_getC hB (v := cr n0 0) ff_X2_0 (soM hp.1 g1 (by decide)) hp.1 rfl (shc_ne (crc_2_0 g1).1) q_57 dX2_lateLeast_1 ?_
  refine w_iconst hB 1 (by decide) dX2_lateLeast_4 ?_
  refine w_iload_n hB 1 dX2_lateLeast_5 rfl rfl ?_
  refine w_iadd hB dX2_lateLeast_6 ?_
  refine w_bipush hB 10 (by decide) dX2_lateLeast_7 ?_
  refine w_imul hB dX2_lateLeast_9 ?_
  refine w_iconst hB 0 (by decide) dX2_lateLeast_10 ?_
  refine w_iadd hB dX2_lateLeast_11 ?_
  obtain ⟨g2, hF⟩ := gdS hF
  refine w_iald hB (soM hp.1 (crc_2_0 g1).1 (by decide)) (sl_s (crc_2_0 g1).1 (by decide) (crc_2_0 g1).2) g2 dX2_lateLeast_12 ?_
  refine w_ineg hB dX2_lateLeast_13 ?_
  obtain ⟨e1, e2⟩ := retS hF
  subst e2
  exact w_iret hB dX2_lateLeast_14 e1
theorem c_X2_lateLeast {K : Kt} {l : Launch} (hp : St K) {r : Int32} {M1 : Mem} {n0 : Nat} {x1 : Int32} {M : Mem} (hF : f_X2_lateLeast n0 x1 M = some (r, M1)) : MT K l yX2_lateLeast cX2_lateLeast 2 (some .int) { frames := 0, cells := 0, slots := 0, locals := 0 } [vr n0, vi x1] M (some (vi r)) M1 0 0 :=
  MT_of (by decide) rfl (Nat.le_of_ble_eq_true rfl) (fun X _ hB _ => b_X2_lateLeast hp hB hF)
set_option maxRecDepth 100000 in
set_option maxHeartbeats 4000000 in
theorem b_X2_lateMost {K : Kt} {X : Xt} (hp : St K) (hB : Bx K X { frames := 0, cells := 0, slots := 0, locals := 0 } cX2_lateMost 2 RX2 (some .int)) {r : Int32} {M1 : Mem} {n0 : Nat} {x1 : Int32} {M : Mem} (hF : f_X2_lateMost n0 x1 M = some (r, M1)) : Wt K X (QM K X (some (vi r)) M1 0 0) 0 0 M 0 [(0, vr n0), (1, vi x1)] [] := by
  unfold f_X2_lateMost at hF
  refine w_aload_n hB 0 dX2_lateMost_0 rfl rfl ?_
  obtain ⟨g1, hF⟩ := gdS hF
  refine w_getC hB (v := cr n0 0) ff_X2_0 (soM hp.1 g1 (by decide)) hp.1 rfl (shc_ne (crc_2_0 g1).1) q_57 dX2_lateMost_1 ?_
  refine w_iconst hB 1 (by decide) dX2_lateMost_4 ?_
  refine w_iload_n hB 1 dX2_lateMost_5 rfl rfl ?_
  refine w_iadd hB dX2_lateMost_6 ?_
  obtain ⟨g2, hF⟩ := gdS hF
  refine w_iald hB (soM hp.1 (crc_2_0 g1).1 (by decide)) (sl_s (crc_2_0 g1).1 (by decide) (crc_2_0 g1).2) g2 dX2_lateMost_7 ?_
  obtain ⟨e1, e2⟩ := retS hF
  subst e2
  exact w_iret hB dX2_lateMost_8 e1
theorem c_X2_lateMost {K : Kt} {l : Launch} (hp : St K) {r : Int32} {M1 : Mem} {n0 : Nat} {x1 : Int32} {M : Mem} (hF : f_X2_lateMost n0 x1 M = some (r, M1)) : MT K l yX2_lateMost cX2_lateMost 2 (some .int) { frames := 0, cells := 0, slots := 0, locals := 0 } [vr n0, vi x1] M (some (vi r)) M1 0 0 :=
  MT_of (by decide) rfl (Nat.le_of_ble_eq_true rfl) (fun X _ hB _ => b_X2_lateMost hp hB hF)
set_option maxRecDepth 100000 in
set_option maxHeartbeats 4000000 in
theorem b_X3_begin_b50 {K : Kt} {X : Xt} (hp : St K) (hB : Bx K X { frames := 1, cells := 0, slots := 0, locals := 23 } cX3_begin 3 RX3 none) {M1 : Mem} {rec22 : Nat → Nat → Int32 → Mem → Option Mem}
    (h22 : ∀ n0 n1 x2 M, rec22 n0 n1 x2 M = some M1 → Wt K X (QM K X none M1 0 0) 0 0 M 22 [(0, vr n0), (1, vr n1), (2, vi x2)] []) {n0 : Nat} {n1 : Nat} {x2 : Int32} {ns0 : Nat} {xs1 : Int32} {xs2 : Int32} {M : Mem} (hF : f_X3_begin_b50 rec22 n0 n1 x2 ns0 xs1 xs2 M = some M1) : Wt K X (QM K X none M1 0 0) 0 0 M 50 [(0, vr n0), (1, vr n1), (2, vi x2)] [vi xs2, vi xs1, vr ns0] := by
  unfold f_X3_begin_b50 at hF
  obtain ⟨g1, hF⟩ := gdS hF
  obtain ⟨g2, hF⟩ := gdS hF
  obtain ⟨M1m, e_M1m, hF⟩ := bndS hF
  refine w_iast hB (soM hp.1 g1 (by decide)) (sl_s g1 (by decide) rfl) g2 e_M1m dX3_begin_50 ?_
  refine w_aload_n hB 0 dX3_begin_51 rfl rfl ?_
  obtain ⟨g3, hF⟩ := gdS hF
  refine w_getC hB (v := cr n0 6) ff_X3_6 (soM hp.1 g3 (by decide)) hp.1 rfl (shc_ne (crc_3_6 g3).1) q_356 dX3_begin_52 ?_
  refine w_iload_n hB 2 dX3_begin_55 rfl rfl ?_
  refine w_iconst hB 0 (by decide) dX3_begin_56 ?_
  obtain ⟨g4, hF⟩ := gdS hF
  obtain ⟨M2m, e_M2m, hF⟩ := bndS hF
  refine w_iast hB (soM hp.1 (crc_3_6 g3).1 (by decide)) (sl_s (crc_3_6 g3).1 (by decide) (crc_3_6 g3).2) g4 e_M2m dX3_begin_57 ?_
  obtain ⟨a1, e_a1, hF⟩ := bndS hF
  refine w_iinc hB 2 (v := 1) (L' := [(2, vi a1), (0, vr n0), (1, vr n1)]) dX3_begin_58 rfl (by decide) (by decide) e_a1 rfl ?_
  refine w_goto hB 22 dX3_begin_61 (by decide) ?_
  exact Wt.sub (L' := [(0, vr n0), (1, vr n1), (2, vi a1)]) [1, 2, 0] rfl (h22 _ _ _ M2m hF)
set_option maxRecDepth 100000 in
set_option maxHeartbeats 4000000 in
theorem b_X3_begin_b22_s {K : Kt} {X : Xt} (hp : St K) (hB : Bx K X { frames := 1, cells := 0, slots := 0, locals := 23 } cX3_begin 3 RX3 none) {M1 : Mem} {rec22 : Nat → Nat → Int32 → Mem → Option Mem}
    (h22 : ∀ n0 n1 x2 M, rec22 n0 n1 x2 M = some M1 → Wt K X (QM K X none M1 0 0) 0 0 M 22 [(0, vr n0), (1, vr n1), (2, vi x2)] []) {n0 : Nat} {n1 : Nat} {x2 : Int32} {M : Mem} (hF : f_X3_begin_b22_s rec22 n0 n1 x2 M = some M1) : Wt K X (QM K X none M1 0 0) 0 0 M 22 [(0, vr n0), (1, vr n1), (2, vi x2)] [] := by
  unfold f_X3_begin_b22_s at hF
  refine w_iload_n hB 2 dX3_begin_22 rfl rfl ?_
  refine w_iconst hB 4 (by decide) dX3_begin_23 ?_
  refine w_icmp_ge hB 64 dX3_begin_24 (by decide) (fun hc => ?_) (fun hc => ?_)
  · replace hF := ifT hc hF
    refine w_aload_n hB 0 dX3_begin_64 rfl rfl ?_
    obtain ⟨g1, hF⟩ := gdS hF
    refine w_getC hB (v := cr n0 7) ff_X3_7 (soM hp.1 g1 (by decide)) hp.1 rfl (shc_ne (crc_3_7 g1).1) q_357 dX3_begin_65 ?_
    refine w_iconst hB 0 (by decide) dX3_begin_68 ?_
    obtain ⟨M1m, hc_M1m, hF⟩ := clvS hF
    refine w_callS hB (As := [vr (cr n0 7), vi 0]) (st := []) cw_X3_48 q_194 (c_J7_fill_53178 hp hc_M1m) ⟨rfl, rfl⟩ (by decide) (by decide) rfl (Nat.le_of_ble_eq_true rfl) dX3_begin_69 rfl ?_
    refine w_aload_n hB 0 dX3_begin_72 rfl rfl ?_
    refine w_iconst hB 0 (by decide) dX3_begin_73 ?_
    obtain ⟨M2m, e_M2m, hF⟩ := bndS hF
    refine w_putI hB ff_X3_9 (soM hp.1 g1 (by decide)) q_359 e_M2m dX3_begin_74 ?_
    cases hF
    exact w_vret hB dX3_begin_77
  · replace hF := ifF hc hF
    refine w_aload_n hB 0 dX3_begin_27 rfl rfl ?_
    obtain ⟨g2, hF⟩ := gdS hF
    refine w_getC hB (v := cr n0 5) ff_X3_5 (soM hp.1 g2 (by decide)) hp.1 rfl (shc_ne (crc_3_5 g2).1) q_355 dX3_begin_28 ?_
    refine w_iload_n hB 2 dX3_begin_31 rfl rfl ?_
    refine w_iload_n hB 2 dX3_begin_32 rfl rfl ?_
    refine w_aload_n hB 1 dX3_begin_33 rfl rfl ?_
    obtain ⟨g3, hF⟩ := gdS hF
    refine w_getI hB ff_X9_5 (soM hp.1 g3 (by decide)) q_214 dX3_begin_34 ?_
    refine w_icmp_ge hB 49 dX3_begin_37 (by decide) (fun hc => ?_) (fun hc => ?_)
    · replace hF := ifT hc hF
      refine w_iconst hB 0 (by decide) dX3_begin_49 ?_
      exact Wt.sub (L' := [(0, vr n0), (1, vr n1), (2, vi x2)]) [0, 1, 2] rfl (b_X3_begin_b50 hp hB h22 hF)
    · replace hF := ifF hc hF
      refine w_aload_n hB 1 dX3_begin_40 rfl rfl ?_
      refine w_getC hB (v := cr n1 6) ff_X9_6 (soM hp.1 g3 (by decide)) hp.1 rfl (shc_ne (crc_8_6 g3).1) q_218 dX3_begin_41 ?_
      refine w_iload_n hB 2 dX3_begin_44 rfl rfl ?_
      obtain ⟨g4, hF⟩ := gdS hF
      refine w_iald hB (soM hp.1 (crc_8_6 g3).1 (by decide)) (sl_s (crc_8_6 g3).1 (by decide) (crc_8_6 g3).2) g4 dX3_begin_45 ?_
      refine w_goto hB 50 dX3_begin_46 (by decide) ?_
      exact Wt.sub (L' := [(0, vr n0), (1, vr n1), (2, vi x2)]) [0, 1, 2] rfl (b_X3_begin_b50 hp hB h22 hF)
theorem b_X3_begin_b22 {K : Kt} {X : Xt} (hp : St K) (hB : Bx K X { frames := 1, cells := 0, slots := 0, locals := 23 } cX3_begin 3 RX3 none) {M1 : Mem} (k : Nat) : ∀ (n0 : Nat) (n1 : Nat) (x2 : Int32) M, f_X3_begin_b22 k n0 n1 x2 M = some M1 → Wt K X (QM K X none M1 0 0) 0 0 M 22 [(0, vr n0), (1, vr n1), (2, vi x2)] [] := by
  refine lpN_ind (P := fun (f : Nat → Nat → Int32 → Mem → Option Mem) => ∀ (n0 : Nat) (n1 : Nat) (x2 : Int32) M, f n0 n1 x2 M = some M1 → Wt K X (QM K X none M1 0 0) 0 0 M 22 [(0, vr n0), (1, vr n1), (2, vi x2)] []) (fun _ _ _ _ h => by cases h) (fun f hf n0 n1 x2 M hF => ?_) k
  exact b_X3_begin_b22_s hp hB hf hF
set_option maxRecDepth 100000 in
set_option maxHeartbeats 4000000 in
theorem b_X3_begin {K : Kt} {X : Xt} (hp : St K) (hB : Bx K X { frames := 1, cells := 0, slots := 0, locals := 23 } cX3_begin 3 RX3 none) {M1 : Mem} {n0 : Nat} {n1 : Nat} {M : Mem} (hF : f_X3_begin n0 n1 M = some M1) : Wt K X (QM K X none M1 0 0) 0 0 M 0 [(0, vr n0), (1, vr n1)] [] := by
  unfold f_X3_begin at hF
  refine w_aload_n hB 0 dX3_begin_0 rfl rfl ?_
  refine w_iconst hB 0 (by decide) dX3_begin_1 ?_
  obtain ⟨g1, hF⟩ := gdS hF
  obtain ⟨M1m, e_M1m, hF⟩ := bndS hF
  refine w_putI hB ff_X3_0 (soM hp.1 g1 (by decide)) q_349 e_M1m dX3_begin_2 ?_
  refine w_aload_n hB 0 dX3_begin_5 rfl rfl ?_
  refine w_iconst hB 0 (by decide) dX3_begin_6 ?_
  obtain ⟨M2m, e_M2m, hF⟩ := bndS hF
  refine w_putI hB ff_X3_1 (soM hp.1 g1 (by decide)) q_351 e_M2m dX3_begin_7 ?_
  refine w_aload_n hB 0 dX3_begin_10 rfl rfl ?_
  refine w_iconst hB 0 (by decide) dX3_begin_11 ?_
  obtain ⟨M3m, e_M3m, hF⟩ := bndS hF
  refine w_putI hB ff_X3_2 (soM hp.1 g1 (by decide)) q_352 e_M3m dX3_begin_12 ?_
  refine w_aload_n hB 0 dX3_begin_15 rfl rfl ?_
  refine w_iconst hB 0 (by decide) dX3_begin_16 ?_
  obtain ⟨M4m, e_M4m, hF⟩ := bndS hF
  refine w_putI hB ff_X3_3 (soM hp.1 g1 (by decide)) q_353 e_M4m dX3_begin_17 ?_
  refine w_iconst hB 0 (by decide) dX3_begin_20 ?_
  refine w_istore_n hB (L' := [(2, vi 0), (0, vr n0), (1, vr n1)]) dX3_begin_21 rfl (by decide) rfl rfl ?_
  exact Wt.sub (L' := [(0, vr n0), (1, vr n1), (2, vi 0)]) [1, 2, 0] rfl (b_X3_begin_b22 hp hB fuel _ _ _ M4m hF)
theorem c_X3_begin {K : Kt} {l : Launch} (hp : St K) {M1 : Mem} {n0 : Nat} {n1 : Nat} {M : Mem} (hF : f_X3_begin n0 n1 M = some M1) : MT K l yX3_begin cX3_begin 3 none { frames := 1, cells := 0, slots := 0, locals := 23 } [vr n0, vr n1] M none M1 0 0 :=
  MT_of (by decide) rfl (Nat.le_of_ble_eq_true rfl) (fun X _ hB _ => b_X3_begin hp hB hF)
set_option maxRecDepth 100000 in
set_option maxHeartbeats 4000000 in
theorem b_X3_call {K : Kt} {X : Xt} (hp : St K) (hB : Bx K X { frames := 0, cells := 0, slots := 0, locals := 0 } cX3_call 2 RX3 (some .int)) {r : Int32} {M1 : Mem} {n0 : Nat} {x1 : Int32} {M : Mem} (hF : f_X3_call n0 x1 M = some (r, M1)) : Wt K X (QM K X (some (vi r)) M1 0 0) 0 0 M 0 [(0, vr n0), (1, vi x1)] [] := by
  unfold f_X3_call at hF
  refine w_aload_n hB 0 dX3_call_0 rfl rfl ?_
  obtain ⟨g1, hF⟩ := gdS hF
  refine w_getI hB ff_X3_1 (soM hp.1 g1 (by decide)) q_351 dX3_call_1 ?_
  refine w_iload_n hB 1 dX3_call_4 rfl rfl ?_
  refine w_ishr hB dX3_call_5 ?_
  refine w_iconst hB 1 (by decide) dX3_call_6 ?_
  refine w_iand hB dX3_call_7 ?_
  obtain ⟨e1, e2⟩ := retS hF
  subst e2
  exact w_iret hB dX3_call_8 e1
theorem c_X3_call {K : Kt} {l : Launch} (hp : St K) {r : Int32} {M1 : Mem} {n0 : Nat} {x1 : Int32} {M : Mem} (hF : f_X3_call n0 x1 M = some (r, M1)) : MT K l yX3_call cX3_call 2 (some .int) { frames := 0, cells := 0, slots := 0, locals := 0 } [vr n0, vi x1] M (some (vi r)) M1 0 0 :=
  MT_of (by decide) rfl (Nat.le_of_ble_eq_true rfl) (fun X _ hB _ => b_X3_call hp hB hF)
set_option maxRecDepth 100000 in
set_option maxHeartbeats 4000000 in
theorem b_X3_isReviewed {K : Kt} {X : Xt} (hp : St K) (hB : Bx K X { frames := 0, cells := 0, slots := 0, locals := 0 } cX3_isReviewed 2 RX3 (some .boolean)) {r : Int32} {M1 : Mem} {n0 : Nat} {x1 : Int32} {M : Mem} (hF : f_X3_isReviewed n0 x1 M = some (r, M1)) : Wt K X (QM K X (some (vi r)) M1 0 0) 0 0 M 0 [(0, vr n0), (1, vi x1)] [] := by
  unfold f_X3_isReviewed at hF
  refine w_aload_n hB 0 dX3_isReviewed_0 rfl rfl ?_
  obtain ⟨g1, hF⟩ := gdS hF
  refine w_getI hB ff_X3_2 (soM hp.1 g1 (by decide)) q_352 dX3_isReviewed_1 ?_
  refine w_iload_n hB 1 dX3_isReviewed_4 rfl rfl ?_
  refine w_ishr hB dX3_isReviewed_5 ?_
  refine w_iconst hB 1 (by decide) dX3_isReviewed_6 ?_
  refine w_iand hB dX3_isReviewed_7 ?_
  refine w_if_eq hB 15 dX3_isReviewed_8 (by decide) (fun hc => ?_) (fun hc => ?_)
  · replace hF := ifT hc hF
    refine w_iconst hB 0 (by decide) dX3_isReviewed_15 ?_
    obtain ⟨e1, e2⟩ := retS hF
    subst e2
    exact w_zret hB (by decide) dX3_isReviewed_16 e1
  · replace hF := ifF hc hF
    refine w_iconst hB 1 (by decide) dX3_isReviewed_11 ?_
    refine w_goto hB 16 dX3_isReviewed_12 (by decide) ?_
    obtain ⟨e1, e2⟩ := retS hF
    subst e2
    exact w_zret hB (by decide) dX3_isReviewed_16 e1
theorem c_X3_isReviewed {K : Kt} {l : Launch} (hp : St K) {r : Int32} {M1 : Mem} {n0 : Nat} {x1 : Int32} {M : Mem} (hF : f_X3_isReviewed n0 x1 M = some (r, M1)) : MT K l yX3_isReviewed cX3_isReviewed 2 (some .boolean) { frames := 0, cells := 0, slots := 0, locals := 0 } [vr n0, vi x1] M (some (vi r)) M1 0 0 :=
  MT_of (by decide) rfl (Nat.le_of_ble_eq_true rfl) (fun X _ hB _ => b_X3_isReviewed hp hB hF)
set_option maxRecDepth 100000 in
set_option maxHeartbeats 4000000 in
theorem b_X3_isBoarded {K : Kt} {X : Xt} (hp : St K) (hB : Bx K X { frames := 0, cells := 0, slots := 0, locals := 0 } cX3_isBoarded 2 RX3 (some .boolean)) {r : Int32} {M1 : Mem} {n0 : Nat} {x1 : Int32} {M : Mem} (hF : f_X3_isBoarded n0 x1 M = some (r, M1)) : Wt K X (QM K X (some (vi r)) M1 0 0) 0 0 M 0 [(0, vr n0), (1, vi x1)] [] := by
  unfold f_X3_isBoarded at hF
  refine w_aload_n hB 0 dX3_isBoarded_0 rfl rfl ?_
  obtain ⟨g1, hF⟩ := gdS hF
  refine w_getI hB ff_X3_3 (soM hp.1 g1 (by decide)) q_353 dX3_isBoarded_1 ?_
  refine w_iload_n hB 1 dX3_isBoarded_4 rfl rfl ?_
  refine w_ishr hB dX3_isBoarded_5 ?_
  refine w_iconst hB 1 (by decide) dX3_isBoarded_6 ?_
  refine w_iand hB dX3_isBoarded_7 ?_
  refine w_if_eq hB 15 dX3_isBoarded_8 (by decide) (fun hc => ?_) (fun hc => ?_)
  · replace hF := ifT hc hF
    refine w_iconst hB 0 (by decide) dX3_isBoarded_15 ?_
    obtain ⟨e1, e2⟩ := retS hF
    subst e2
    exact w_zret hB (by decide) dX3_isBoarded_16 e1
  · replace hF := ifF hc hF
    refine w_iconst hB 1 (by decide) dX3_isBoarded_11 ?_
    refine w_goto hB 16 dX3_isBoarded_12 (by decide) ?_
    obtain ⟨e1, e2⟩ := retS hF
    subst e2
    exact w_zret hB (by decide) dX3_isBoarded_16 e1
theorem c_X3_isBoarded {K : Kt} {l : Launch} (hp : St K) {r : Int32} {M1 : Mem} {n0 : Nat} {x1 : Int32} {M : Mem} (hF : f_X3_isBoarded n0 x1 M = some (r, M1)) : MT K l yX3_isBoarded cX3_isBoarded 2 (some .boolean) { frames := 0, cells := 0, slots := 0, locals := 0 } [vr n0, vi x1] M (some (vi r)) M1 0 0 :=
  MT_of (by decide) rfl (Nat.le_of_ble_eq_true rfl) (fun X _ hB _ => b_X3_isBoarded hp hB hF)
set_option maxRecDepth 100000 in
set_option maxHeartbeats 4000000 in
theorem b_X6_allFrames {K : Kt} {X : Xt} (hp : St K) (hB : Bx K X { frames := 0, cells := 0, slots := 0, locals := 0 } cX6_allFrames 1 RX6 (some .int)) {r : Int32} {M1 : Mem} {n0 : Nat} {M : Mem} (hF : f_X6_allFrames n0 M = some (r, M1)) : Wt K X (QM K X (some (vi r)) M1 0 0) 0 0 M 0 [(0, vr n0)] [] := by
  unfold f_X6_allFrames at hF
  refine w_iconst hB 1 (by decide) dX6_allFrames_0 ?_
  refine w_aload_n hB 0 dX6_allFrames_1 rfl rfl ?_
  obtain ⟨g1, hF⟩ := gdS hF
  refine w_getI hB ff_X6_5 (soM hp.1 g1 (by decide)) q_135 dX6_allFrames_2 ?_
  refine w_ishl hB dX6_allFrames_5 ?_
  refine w_iconst hB 1 (by decide) dX6_allFrames_6 ?_
  refine w_isub hB dX6_allFrames_7 ?_
  obtain ⟨e1, e2⟩ := retS hF
  subst e2
  exact w_iret hB dX6_allFrames_8 e1
theorem c_X6_allFrames {K : Kt} {l : Launch} (hp : St K) {r : Int32} {M1 : Mem} {n0 : Nat} {M : Mem} (hF : f_X6_allFrames n0 M = some (r, M1)) : MT K l yX6_allFrames cX6_allFrames 1 (some .int) { frames := 0, cells := 0, slots := 0, locals := 0 } [vr n0] M (some (vi r)) M1 0 0 :=
  MT_of (by decide) rfl (Nat.le_of_ble_eq_true rfl) (fun X _ hB _ => b_X6_allFrames hp hB hF)
set_option maxRecDepth 100000 in
set_option maxHeartbeats 4000000 in
theorem b_J6_bitCount_0f7a4 {K : Kt} {X : Xt} (hp : St K) (hB : Bx K X { frames := 0, cells := 0, slots := 0, locals := 0 } cJ6_bitCount_0f7a4 1 RJ6 (some .int)) {r : Int32} {M1 : Mem} {x0 : Int32} {M : Mem} (hF : f_J6_bitCount_0f7a4 x0 M = some (r, M1)) : Wt K X (QM K X (some (vi r)) M1 0 0) 0 0 M 0 [(0, vi x0)] [] := by
  unfold f_J6_bitCount_0f7a4 at hF
  refine w_iload_n hB 0 dJ6_bitCount_0f7a4_0 rfl rfl ?_
  refine w_iload_n hB 0 dJ6_bitCount_0f7a4_1 rfl rfl ?_
  refine w_iconst hB 1 (by decide) dJ6_bitCount_0f7a4_2 ?_
  refine w_iushr hB dJ6_bitCount_0f7a4_3 ?_
  refine w_ldcw hB (v := 1431655765) q_531 dJ6_bitCount_0f7a4_4 ?_
  refine w_iand hB dJ6_bitCount_0f7a4_7 ?_
  refine w_isub hB dJ6_bitCount_0f7a4_8 ?_
  obtain ⟨a1, e_a1, hF⟩ := bndS hF
  refine w_istore_n hB (L' := [(0, vi a1)]) dJ6_bitCount_0f7a4_9 rfl (by decide) e_a1 rfl ?_
  refine w_iload_n hB 0 dJ6_bitCount_0f7a4_10 rfl rfl ?_
  refine w_ldcw hB (v := 858993459) q_532 dJ6_bitCount_0f7a4_11 ?_
  refine w_iand hB dJ6_bitCount_0f7a4_14 ?_
  refine w_iload_n hB 0 dJ6_bitCount_0f7a4_15 rfl rfl ?_
  refine w_iconst hB 2 (by decide) dJ6_bitCount_0f7a4_16 ?_
  refine w_iushr hB dJ6_bitCount_0f7a4_17 ?_
  refine w_ldcw hB (v := 858993459) q_532 dJ6_bitCount_0f7a4_18 ?_
  refine w_iand hB dJ6_bitCount_0f7a4_21 ?_
  refine w_iadd hB dJ6_bitCount_0f7a4_22 ?_
  obtain ⟨a2, e_a2, hF⟩ := bndS hF
  refine w_istore_n hB (L' := [(0, vi a2)]) dJ6_bitCount_0f7a4_23 rfl (by decide) e_a2 rfl ?_
  refine w_iload_n hB 0 dJ6_bitCount_0f7a4_24 rfl rfl ?_
  refine w_iload_n hB 0 dJ6_bitCount_0f7a4_25 rfl rfl ?_
  refine w_iconst hB 4 (by decide) dJ6_bitCount_0f7a4_26 ?_
  refine w_iushr hB dJ6_bitCount_0f7a4_27 ?_
  refine w_iadd hB dJ6_bitCount_0f7a4_28 ?_
  refine w_ldcw hB (v := 252645135) q_533 dJ6_bitCount_0f7a4_29 ?_
  refine w_iand hB dJ6_bitCount_0f7a4_32 ?_
  obtain ⟨a3, e_a3, hF⟩ := bndS hF
  refine w_istore_n hB (L' := [(0, vi a3)]) dJ6_bitCount_0f7a4_33 rfl (by decide) e_a3 rfl ?_
  refine w_iload_n hB 0 dJ6_bitCount_0f7a4_34 rfl rfl ?_
  refine w_iload_n hB 0 dJ6_bitCount_0f7a4_35 rfl rfl ?_
  refine w_bipush hB 8 (by decide) dJ6_bitCount_0f7a4_36 ?_
  refine w_iushr hB dJ6_bitCount_0f7a4_38 ?_
  refine w_iadd hB dJ6_bitCount_0f7a4_39 ?_
  obtain ⟨a4, e_a4, hF⟩ := bndS hF
  refine w_istore_n hB (L' := [(0, vi a4)]) dJ6_bitCount_0f7a4_40 rfl (by decide) e_a4 rfl ?_
  refine w_iload_n hB 0 dJ6_bitCount_0f7a4_41 rfl rfl ?_
  refine w_iload_n hB 0 dJ6_bitCount_0f7a4_42 rfl rfl ?_
  refine w_bipush hB 16 (by decide) dJ6_bitCount_0f7a4_43 ?_
  refine w_iushr hB dJ6_bitCount_0f7a4_45 ?_
  refine w_iadd hB dJ6_bitCount_0f7a4_46 ?_
  obtain ⟨a5, e_a5, hF⟩ := bndS hF
  refine w_istore_n hB (L' := [(0, vi a5)]) dJ6_bitCount_0f7a4_47 rfl (by decide) e_a5 rfl ?_
  refine w_iload_n hB 0 dJ6_bitCount_0f7a4_48 rfl rfl ?_
  refine w_bipush hB 63 (by decide) dJ6_bitCount_0f7a4_49 ?_
  refine w_iand hB dJ6_bitCount_0f7a4_51 ?_
  obtain ⟨e1, e2⟩ := retS hF
  subst e2
  exact w_iret hB dJ6_bitCount_0f7a4_52 e1
theorem c_J6_bitCount_0f7a4 {K : Kt} {l : Launch} (hp : St K) {r : Int32} {M1 : Mem} {x0 : Int32} {M : Mem} (hF : f_J6_bitCount_0f7a4 x0 M = some (r, M1)) : MT K l yJ6_bitCount_0f7a4 cJ6_bitCount_0f7a4 1 (some .int) { frames := 0, cells := 0, slots := 0, locals := 0 } [vi x0] M (some (vi r)) M1 0 0 :=
  MT_of (by decide) rfl (Nat.le_of_ble_eq_true rfl) (fun X _ hB _ => b_J6_bitCount_0f7a4 hp hB hF)
set_option maxRecDepth 100000 in
set_option maxHeartbeats 4000000 in
theorem b_X6_framesOf_b4_s {K : Kt} {X : Xt} (hp : St K) (hB : Bx K X { frames := 0, cells := 0, slots := 0, locals := 0 } cX6_framesOf 4 RX6 (some .int)) {r : Int32} {M1 : Mem} {rec4 : Nat → Int32 → Int32 → Int32 → Mem → Option (Int32 × Mem)}
    (h4 : ∀ n0 x1 x2 x3 M, rec4 n0 x1 x2 x3 M = some (r, M1) → Wt K X (QM K X (some (vi r)) M1 0 0) 0 0 M 4 [(0, vr n0), (1, vi x1), (2, vi x2), (3, vi x3)] []) {n0 : Nat} {x1 : Int32} {x2 : Int32} {x3 : Int32} {M : Mem} (hF : f_X6_framesOf_b4_s rec4 n0 x1 x2 x3 M = some (r, M1)) : Wt K X (QM K X (some (vi r)) M1 0 0) 0 0 M 4 [(0, vr n0), (1, vi x1), (2, vi x2), (3, vi x3)] [] := by
  unfold f_X6_framesOf_b4_s at hF
  refine w_iload_n hB 3 dX6_framesOf_4 rfl rfl ?_
  refine w_aload_n hB 0 dX6_framesOf_5 rfl rfl ?_
  obtain ⟨g1, hF⟩ := gdS hF
  refine w_getI hB ff_X6_5 (soM hp.1 g1 (by decide)) q_135 dX6_framesOf_6 ?_
  refine w_icmp_ge hB 37 dX6_framesOf_9 (by decide) (fun hc => ?_) (fun hc => ?_)
  · replace hF := ifT hc hF
    refine w_iload_n hB 2 dX6_framesOf_37 rfl rfl ?_
    obtain ⟨e1, e2⟩ := retS hF
    subst e2
    exact w_iret hB dX6_framesOf_38 e1
  · replace hF := ifF hc hF
    refine w_iload_n hB 1 dX6_framesOf_12 rfl rfl ?_
    refine w_aload_n hB 0 dX6_framesOf_13 rfl rfl ?_
    refine w_getC hB (v := cr n0 6) ff_X6_6 (soM hp.1 g1 (by decide)) hp.1 rfl (shc_ne (crc_6_6 g1).1) q_139 dX6_framesOf_14 ?_
    refine w_iload_n hB 3 dX6_framesOf_17 rfl rfl ?_
    obtain ⟨g2, hF⟩ := gdS hF
    refine w_iald hB (soM hp.1 (crc_6_6 g1).1 (by decide)) (sl_s (crc_6_6 g1).1 (by decide) (crc_6_6 g1).2) g2 dX6_framesOf_18 ?_
    refine w_ishr hB dX6_framesOf_19 ?_
    refine w_iconst hB 1 (by decide) dX6_framesOf_20 ?_
    refine w_iand hB dX6_framesOf_21 ?_
    refine w_if_eq hB 31 dX6_framesOf_22 (by decide) (fun hc => ?_) (fun hc => ?_)
    · replace hF := ifT hc hF
      obtain ⟨a1, e_a1, hF⟩ := bndS hF
      refine w_iinc hB 3 (v := 1) (L' := [(3, vi a1), (0, vr n0), (1, vi x1), (2, vi x2)]) dX6_framesOf_31 rfl (by decide) (by decide) e_a1 rfl ?_
      refine w_goto hB 4 dX6_framesOf_34 (by decide) ?_
      exact Wt.sub (L' := [(0, vr n0), (1, vi x1), (2, vi x2), (3, vi a1)]) [1, 2, 3, 0] rfl (h4 _ _ _ _ M hF)
    · replace hF := ifF hc hF
      refine w_iload_n hB 2 dX6_framesOf_25 rfl rfl ?_
      refine w_iconst hB 1 (by decide) dX6_framesOf_26 ?_
      refine w_iload_n hB 3 dX6_framesOf_27 rfl rfl ?_
      refine w_ishl hB dX6_framesOf_28 ?_
      refine w_ior hB dX6_framesOf_29 ?_
      obtain ⟨a2, e_a2, hF⟩ := bndS hF
      refine w_istore_n hB (L' := [(2, vi a2), (0, vr n0), (1, vi x1), (3, vi x3)]) dX6_framesOf_30 rfl (by decide) e_a2 rfl ?_
      obtain ⟨a3, e_a3, hF⟩ := bndS hF
      refine w_iinc hB 3 (v := 1) (L' := [(3, vi a3), (2, vi a2), (0, vr n0), (1, vi x1)]) dX6_framesOf_31 rfl (by decide) (by decide) e_a3 rfl ?_
      refine w_goto hB 4 dX6_framesOf_34 (by decide) ?_
      exact Wt.sub (L' := [(0, vr n0), (1, vi x1), (2, vi a2), (3, vi a3)]) [2, 3, 1, 0] rfl (h4 _ _ _ _ M hF)
theorem b_X6_framesOf_b4 {K : Kt} {X : Xt} (hp : St K) (hB : Bx K X { frames := 0, cells := 0, slots := 0, locals := 0 } cX6_framesOf 4 RX6 (some .int)) {r : Int32} {M1 : Mem} (k : Nat) : ∀ (n0 : Nat) (x1 : Int32) (x2 : Int32) (x3 : Int32) M, f_X6_framesOf_b4 k n0 x1 x2 x3 M = some (r, M1) → Wt K X (QM K X (some (vi r)) M1 0 0) 0 0 M 4 [(0, vr n0), (1, vi x1), (2, vi x2), (3, vi x3)] [] := by
  refine lpN_ind (P := fun (f : Nat → Int32 → Int32 → Int32 → Mem → Option (Int32 × Mem)) => ∀ (n0 : Nat) (x1 : Int32) (x2 : Int32) (x3 : Int32) M, f n0 x1 x2 x3 M = some (r, M1) → Wt K X (QM K X (some (vi r)) M1 0 0) 0 0 M 4 [(0, vr n0), (1, vi x1), (2, vi x2), (3, vi x3)] []) (fun _ _ _ _ _ h => by cases h) (fun f hf n0 x1 x2 x3 M hF => ?_) k
  exact b_X6_framesOf_b4_s hp hB hf hF
set_option maxRecDepth 100000 in
set_option maxHeartbeats 4000000 in
theorem b_X6_framesOf {K : Kt} {X : Xt} (hp : St K) (hB : Bx K X { frames := 0, cells := 0, slots := 0, locals := 0 } cX6_framesOf 4 RX6 (some .int)) {r : Int32} {M1 : Mem} {n0 : Nat} {x1 : Int32} {M : Mem} (hF : f_X6_framesOf n0 x1 M = some (r, M1)) : Wt K X (QM K X (some (vi r)) M1 0 0) 0 0 M 0 [(0, vr n0), (1, vi x1)] [] := by
  unfold f_X6_framesOf at hF
  refine w_iconst hB 0 (by decide) dX6_framesOf_0 ?_
  refine w_istore_n hB (L' := [(2, vi 0), (0, vr n0), (1, vi x1)]) dX6_framesOf_1 rfl (by decide) rfl rfl ?_
  refine w_iconst hB 0 (by decide) dX6_framesOf_2 ?_
  refine w_istore_n hB (L' := [(3, vi 0), (2, vi 0), (0, vr n0), (1, vi x1)]) dX6_framesOf_3 rfl (by decide) rfl rfl ?_
  exact Wt.sub (L' := [(0, vr n0), (1, vi x1), (2, vi 0), (3, vi 0)]) [2, 3, 1, 0] rfl (b_X6_framesOf_b4 hp hB fuel _ _ _ _ M hF)
theorem c_X6_framesOf {K : Kt} {l : Launch} (hp : St K) {r : Int32} {M1 : Mem} {n0 : Nat} {x1 : Int32} {M : Mem} (hF : f_X6_framesOf n0 x1 M = some (r, M1)) : MT K l yX6_framesOf cX6_framesOf 4 (some .int) { frames := 0, cells := 0, slots := 0, locals := 0 } [vr n0, vi x1] M (some (vi r)) M1 0 0 :=
  MT_of (by decide) rfl (Nat.le_of_ble_eq_true rfl) (fun X _ hB _ => b_X6_framesOf hp hB hF)
set_option maxRecDepth 100000 in
set_option maxHeartbeats 4000000 in
theorem b_X9_allCameras {K : Kt} {X : Xt} (hp : St K) (hB : Bx K X { frames := 0, cells := 0, slots := 0, locals := 0 } cX9_allCameras 1 RX9 (some .int)) {r : Int32} {M1 : Mem} {n0 : Nat} {M : Mem} (hF : f_X9_allCameras n0 M = some (r, M1)) : Wt K X (QM K X (some (vi r)) M1 0 0) 0 0 M 0 [(0, vr n0)] [] := by
  unfold f_X9_allCameras at hF
  refine w_iconst hB 1 (by decide) dX9_allCameras_0 ?_
  refine w_aload_n hB 0 dX9_allCameras_1 rfl rfl ?_
  obtain ⟨g1, hF⟩ := gdS hF
  refine w_getI hB ff_X9_0 (soM hp.1 g1 (by decide)) q_196 dX9_allCameras_2 ?_
  refine w_ishl hB dX9_allCameras_5 ?_
  refine w_iconst hB 1 (by decide) dX9_allCameras_6 ?_
  refine w_isub hB dX9_allCameras_7 ?_
  obtain ⟨e1, e2⟩ := retS hF
  subst e2
  exact w_iret hB dX9_allCameras_8 e1
theorem c_X9_allCameras {K : Kt} {l : Launch} (hp : St K) {r : Int32} {M1 : Mem} {n0 : Nat} {M : Mem} (hF : f_X9_allCameras n0 M = some (r, M1)) : MT K l yX9_allCameras cX9_allCameras 1 (some .int) { frames := 0, cells := 0, slots := 0, locals := 0 } [vr n0] M (some (vi r)) M1 0 0 :=
  MT_of (by decide) rfl (Nat.le_of_ble_eq_true rfl) (fun X _ hB _ => b_X9_allCameras hp hB hF)
set_option maxRecDepth 100000 in
set_option maxHeartbeats 4000000 in
theorem b_X6_clear {K : Kt} {X : Xt} (hp : St K) (hB : Bx K X { frames := 0, cells := 0, slots := 0, locals := 0 } cX6_clear 1 RX6 none) {M1 : Mem} {n0 : Nat} {M : Mem} (hF : f_X6_clear n0 M = some M1) : Wt K X (QM K X none M1 0 0) 0 0 M 0 [(0, vr n0)] [] := by
  unfold f_X6_clear at hF
  refine w_aload_n hB 0 dX6_clear_0 rfl rfl ?_
  refine w_iconst hB 0 (by decide) dX6_clear_1 ?_
  obtain ⟨g1, hF⟩ := gdS hF
  obtain ⟨M1m, e_M1m, hF⟩ := bndS hF
  refine w_putI hB ff_X6_5 (soM hp.1 g1 (by decide)) q_135 e_M1m dX6_clear_2 ?_
  refine w_aload_n hB 0 dX6_clear_5 rfl rfl ?_
  refine w_bipush hB (-3) (by decide) dX6_clear_6 ?_
  obtain ⟨M2m, e_M2m, hF⟩ := bndS hF
  refine w_putI hB ff_X6_10 (soM hp.1 g1 (by decide)) q_155 e_M2m dX6_clear_8 ?_
  refine w_aload_n hB 0 dX6_clear_11 rfl rfl ?_
  refine w_bipush hB (-3) (by decide) dX6_clear_12 ?_
  obtain ⟨M3m, e_M3m, hF⟩ := bndS hF
  refine w_putI hB ff_X6_11 (soM hp.1 g1 (by decide)) q_157 e_M3m dX6_clear_14 ?_
  cases hF
  exact w_vret hB dX6_clear_17
theorem c_X6_clear {K : Kt} {l : Launch} (hp : St K) {M1 : Mem} {n0 : Nat} {M : Mem} (hF : f_X6_clear n0 M = some M1) : MT K l yX6_clear cX6_clear 1 none { frames := 0, cells := 0, slots := 0, locals := 0 } [vr n0] M none M1 0 0 :=
  MT_of (by decide) rfl (Nat.le_of_ble_eq_true rfl) (fun X _ hB _ => b_X6_clear hp hB hF)
set_option maxRecDepth 100000 in
set_option maxHeartbeats 4000000 in
theorem b_X9_clear {K : Kt} {X : Xt} (hp : St K) (hB : Bx K X { frames := 2, cells := 0, slots := 0, locals := 44 } cX9_clear 1 RX9 none) {M1 : Mem} {n0 : Nat} {M : Mem} (hF : f_X9_clear n0 M = some M1) : Wt K X (QM K X none M1 0 0) 0 0 M 0 [(0, vr n0)] [] := by
  unfold f_X9_clear at hF
  refine w_aload_n hB 0 dX9_clear_0 rfl rfl ?_
  refine w_iconst hB 0 (by decide) dX9_clear_1 ?_
  obtain ⟨g1, hF⟩ := gdS hF
  obtain ⟨M1m, e_M1m, hF⟩ := bndS hF
  refine w_putI hB ff_X9_0 (soM hp.1 g1 (by decide)) q_196 e_M1m dX9_clear_2 ?_
  refine w_aload_n hB 0 dX9_clear_5 rfl rfl ?_
  refine w_iconst hB 0 (by decide) dX9_clear_6 ?_
  obtain ⟨M2m, e_M2m, hF⟩ := bndS hF
  refine w_putI hB ff_X9_3 (soM hp.1 g1 (by decide)) q_206 e_M2m dX9_clear_7 ?_
  refine w_aload_n hB 0 dX9_clear_10 rfl rfl ?_
  refine w_getC hB (v := cr n0 4) ff_X9_4 (soM hp.1 g1 (by decide)) hp.1 rfl (shc_ne (crc_8_4 g1).1) q_209 dX9_clear_11 ?_
  obtain ⟨M3m, hc_M3m, hF⟩ := clvS hF
  refine w_callV hB (ci := 1) (As := []) (st := []) cw_X9_62 q_189 q_190 rfl (soM hp.1 (crc_8_4 g1).1 (by decide)) (c_X2_clear hp hc_M3m) ⟨rfl, rfl⟩ (by decide) (by decide) rfl (Nat.le_of_ble_eq_true rfl) dX9_clear_14 rfl ?_
  refine w_aload_n hB 0 dX9_clear_17 rfl rfl ?_
  refine w_iconst hB 0 (by decide) dX9_clear_18 ?_
  obtain ⟨M4m, e_M4m, hF⟩ := bndS hF
  refine w_putI hB ff_X9_5 (soM hp.1 g1 (by decide)) q_213 e_M4m dX9_clear_19 ?_
  refine w_aload_n hB 0 dX9_clear_22 rfl rfl ?_
  refine w_iconst hB 0 (by decide) dX9_clear_23 ?_
  obtain ⟨M5m, e_M5m, hF⟩ := bndS hF
  refine w_putI hB ff_X9_7 (soM hp.1 g1 (by decide)) q_220 e_M5m dX9_clear_24 ?_
  refine w_aload_n hB 0 dX9_clear_27 rfl rfl ?_
  refine w_iconst hB 0 (by decide) dX9_clear_28 ?_
  obtain ⟨M6m, e_M6m, hF⟩ := bndS hF
  refine w_putI hB ff_X9_9 (soM hp.1 g1 (by decide)) q_226 e_M6m dX9_clear_29 ?_
  refine w_aload_n hB 0 dX9_clear_32 rfl rfl ?_
  refine w_iconst hB 0 (by decide) dX9_clear_33 ?_
  obtain ⟨M7m, e_M7m, hF⟩ := bndS hF
  refine w_putI hB ff_X9_11 (soM hp.1 g1 (by decide)) q_231 e_M7m dX9_clear_34 ?_
  refine w_aload_n hB 0 dX9_clear_37 rfl rfl ?_
  refine w_getC hB (v := cr n0 13) ff_X9_13 (soM hp.1 g1 (by decide)) hp.1 rfl (shc_ne (crc_8_13 g1).1) q_237 dX9_clear_38 ?_
  refine w_iconst hB 0 (by decide) dX9_clear_41 ?_
  refine w_bipush hB 60 (by decide) dX9_clear_42 ?_
  obtain ⟨M8m, e_M8m, hF⟩ := bndS hF
  refine w_iast hB (soM hp.1 (crc_8_13 g1).1 (by decide)) (sl_s (crc_8_13 g1).1 (by decide) (crc_8_13 g1).2) (by decide) e_M8m dX9_clear_44 ?_
  refine w_aload_n hB 0 dX9_clear_45 rfl rfl ?_
  refine w_getC hB (v := cr n0 13) ff_X9_13 (soM hp.1 g1 (by decide)) hp.1 rfl (shc_ne (crc_8_13 g1).1) q_237 dX9_clear_46 ?_
  refine w_iconst hB 1 (by decide) dX9_clear_49 ?_
  refine w_iconst hB 0 (by decide) dX9_clear_50 ?_
  obtain ⟨M9m, e_M9m, hF⟩ := bndS hF
  refine w_iast hB (soM hp.1 (crc_8_13 g1).1 (by decide)) (sl_s (crc_8_13 g1).1 (by decide) (crc_8_13 g1).2) (by decide) e_M9m dX9_clear_51 ?_
  refine w_aload_n hB 0 dX9_clear_52 rfl rfl ?_
  refine w_getC hB (v := cr n0 13) ff_X9_13 (soM hp.1 g1 (by decide)) hp.1 rfl (shc_ne (crc_8_13 g1).1) q_237 dX9_clear_53 ?_
  refine w_iconst hB 2 (by decide) dX9_clear_56 ?_
  refine w_sipush hB 1000 (by decide) dX9_clear_57 ?_
  obtain ⟨M10m, e_M10m, hF⟩ := bndS hF
  refine w_iast hB (soM hp.1 (crc_8_13 g1).1 (by decide)) (sl_s (crc_8_13 g1).1 (by decide) (crc_8_13 g1).2) (by decide) e_M10m dX9_clear_60 ?_
  refine w_aload_n hB 0 dX9_clear_61 rfl rfl ?_
  refine w_getC hB (v := cr n0 13) ff_X9_13 (soM hp.1 g1 (by decide)) hp.1 rfl (shc_ne (crc_8_13 g1).1) q_237 dX9_clear_62 ?_
  refine w_iconst hB 3 (by decide) dX9_clear_65 ?_
  refine w_iconst hB 1 (by decide) dX9_clear_66 ?_
  obtain ⟨M11m, e_M11m, hF⟩ := bndS hF
  refine w_iast hB (soM hp.1 (crc_8_13 g1).1 (by decide)) (sl_s (crc_8_13 g1).1 (by decide) (crc_8_13 g1).2) (by decide) e_M11m dX9_clear_67 ?_
  cases hF
  exact w_vret hB dX9_clear_68
theorem c_X9_clear {K : Kt} {l : Launch} (hp : St K) {M1 : Mem} {n0 : Nat} {M : Mem} (hF : f_X9_clear n0 M = some M1) : MT K l yX9_clear cX9_clear 1 none { frames := 2, cells := 0, slots := 0, locals := 44 } [vr n0] M none M1 0 0 :=
  MT_of (by decide) rfl (Nat.le_of_ble_eq_true rfl) (fun X _ hB _ => b_X9_clear hp hB hF)
set_option maxRecDepth 100000 in
set_option maxHeartbeats 4000000 in
theorem b_Jx29ce0_ordinal_8abf5 {K : Kt} {X : Xt} (hp : St K) (hB : Bx K X { frames := 0, cells := 0, slots := 0, locals := 0 } cJx29ce0_ordinal_8abf5 1 RJx29ce0 (some .int)) {r : Int32} {M1 : Mem} {n0 : Nat} {M : Mem} (hF : f_Jx29ce0_ordinal_8abf5 n0 M = some (r, M1)) : Wt K X (QM K X (some (vi r)) M1 0 0) 0 0 M 0 [(0, vr n0)] [] := by
  unfold f_Jx29ce0_ordinal_8abf5 at hF
  refine w_aload_n hB 0 dJx29ce0_ordinal_8abf5_0 rfl rfl ?_
  obtain ⟨g1, hF⟩ := gdS hF
  refine w_tokord hB hp g1 q_1242 dJx29ce0_ordinal_8abf5_1 ?_
  obtain ⟨e1, e2⟩ := retS hF
  subst e2
  exact w_iret hB dJx29ce0_ordinal_8abf5_4 e1
theorem c_Jx29ce0_ordinal_8abf5 {K : Kt} {l : Launch} (hp : St K) {r : Int32} {M1 : Mem} {n0 : Nat} {M : Mem} (hF : f_Jx29ce0_ordinal_8abf5 n0 M = some (r, M1)) : MT K l yJx29ce0_ordinal_8abf5 cJx29ce0_ordinal_8abf5 1 (some .int) { frames := 0, cells := 0, slots := 0, locals := 0 } [vr n0] M (some (vi r)) M1 0 0 :=
  MT_of (by decide) rfl (Nat.le_of_ble_eq_true rfl) (fun X _ hB _ => b_Jx29ce0_ordinal_8abf5 hp hB hF)
