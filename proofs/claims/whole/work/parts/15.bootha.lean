def f_X10_tapeNumber_b3_s (rec3 : Int32 → Int32 → Mem → Option Mem) (x1 : Int32) (x2 : Int32) (M : Mem) : Option Mem :=
  if x2 < 0 then
    some M
  else
    if 600 ≤ (M.1 64 1) then
      some M
    else
      gd (inb (M.1 64 1) 600) <|
      bnd (setI M 65 ((M.1 64 1).toNatClampNeg) (vp_nar .byte ((x1 >>> (x2 &&& 31)).toInt8.toInt32))) fun M1m =>
      bnd (setI M1m 64 1 ((M1m.1 64 1) + 1)) fun M2m =>
      bnd (x2 + (-8)) fun a1 =>
      rec3 x1 a1 M2m
set_option maxRecDepth 100000 in
set_option maxHeartbeats 4000000 in
theorem b_X10_tapeNumber_b3_s {K : Kt} {X : Xt} (hp : St K) (hB : Bx K X { frames := 0, cells := 0, slots := 0, locals := 0 } cX10_tapeNumber 3 RX10 none) {M1 : Mem} {rec3 : Int32 → Int32 → Mem → Option Mem}
    (h3 : ∀ x1 x2 M, rec3 x1 x2 M = some M1 → Wt K X (QM K X none M1 0 0) 0 0 M 3 [(0, vr 64), (1, vi x1), (2, vi x2)] []) {x1 : Int32} {x2 : Int32} {M : Mem} (hF : f_X10_tapeNumber_b3_s rec3 x1 x2 M = some M1) : Wt K X (QM K X none M1 0 0) 0 0 M 3 [(0, vr 64), (1, vi x1), (2, vi x2)] [] := by
  unfold f_X10_tapeNumber_b3_s at hF
  refine w_iload_n hB 2 dX10_tapeNumber_3 rfl rfl ?_
  refine w_if_lt hB 46 dX10_tapeNumber_4 (by decide) (fun hc => ?_) (fun hc => ?_)
  · replace hF := ifT hc hF
    cases hF
    exact w_vret hB dX10_tapeNumber_46
  · replace hF := ifF hc hF
    refine w_aload_n hB 0 dX10_tapeNumber_7 rfl rfl ?_
    refine w_getI hB ff_X10_1 sh_64 (Or.inl hp.1) q_474 dX10_tapeNumber_8 ?_
    refine w_sipush hB 600 (by decide) dX10_tapeNumber_11 ?_
    refine w_icmp_ge hB 46 dX10_tapeNumber_14 (by decide) (fun hc => ?_) (fun hc => ?_)
    · replace hF := ifT hc hF
      cases hF
      exact w_vret hB dX10_tapeNumber_46
    · replace hF := ifF hc hF
      refine w_aload_n hB 0 dX10_tapeNumber_17 rfl rfl ?_
      refine w_getC hB (v := 65) ff_X10_0 sh_64 hp.1 cr_64_0 (by decide) q_473 dX10_tapeNumber_18 ?_
      refine w_aload_n hB 0 dX10_tapeNumber_21 rfl rfl ?_
      refine w_getI hB ff_X10_1 sh_64 (Or.inl hp.1) q_474 dX10_tapeNumber_22 ?_
      refine w_iload_n hB 1 dX10_tapeNumber_25 rfl rfl ?_
      refine w_iload_n hB 2 dX10_tapeNumber_26 rfl rfl ?_
      refine w_ishr hB dX10_tapeNumber_27 ?_
      refine w_i2b hB dX10_tapeNumber_28 ?_
      obtain ⟨g1, hF⟩ := gdS hF
      obtain ⟨M1m, e_M1m, hF⟩ := bndS hF
      refine w_bast hB sh_65 (Or.inl hp.1) sl_65 g1 e_M1m dX10_tapeNumber_29 ?_
      refine w_aload_n hB 0 dX10_tapeNumber_30 rfl rfl ?_
      refine w_dup hB rfl dX10_tapeNumber_31 ?_
      refine w_getI hB ff_X10_1 sh_64 (Or.inl hp.1) q_474 dX10_tapeNumber_32 ?_
      refine w_iconst hB 1 (by decide) dX10_tapeNumber_35 ?_
      refine w_iadd hB dX10_tapeNumber_36 ?_
      obtain ⟨M2m, e_M2m, hF⟩ := bndS hF
      refine w_putI hB ff_X10_1 sh_64 (Or.inl hp.1) q_474 e_M2m dX10_tapeNumber_37 ?_
      obtain ⟨a1, e_a1, hF⟩ := bndS hF
      refine w_iinc hB 2 (v := (-8)) (L' := [(2, vi a1), (0, vr 64), (1, vi x1)]) dX10_tapeNumber_40 rfl (by decide) (by decide) e_a1 rfl ?_
      refine w_goto hB 3 dX10_tapeNumber_43 (by decide) ?_
      exact Wt.sub (L' := [(0, vr 64), (1, vi x1), (2, vi a1)]) [1, 2, 0] rfl (h3 _ _ M2m hF)
def f_X10_tapeNumber_b3 (k : Nat) : Int32 → Int32 → Mem → Option Mem := lpN (fun _ _ _ => none) (f_X10_tapeNumber_b3_s) k
theorem b_X10_tapeNumber_b3 {K : Kt} {X : Xt} (hp : St K) (hB : Bx K X { frames := 0, cells := 0, slots := 0, locals := 0 } cX10_tapeNumber 3 RX10 none) {M1 : Mem} (k : Nat) : ∀ (x1 : Int32) (x2 : Int32) M, f_X10_tapeNumber_b3 k x1 x2 M = some M1 → Wt K X (QM K X none M1 0 0) 0 0 M 3 [(0, vr 64), (1, vi x1), (2, vi x2)] [] := by
  refine lpN_ind (P := fun (f : Int32 → Int32 → Mem → Option Mem) => ∀ (x1 : Int32) (x2 : Int32) M, f x1 x2 M = some M1 → Wt K X (QM K X none M1 0 0) 0 0 M 3 [(0, vr 64), (1, vi x1), (2, vi x2)] []) (fun _ _ _ h => by cases h) (fun f hf x1 x2 M hF => ?_) k
  exact b_X10_tapeNumber_b3_s hp hB hf hF
def f_X10_tapeNumber (x1 : Int32) (M : Mem) : Option Mem :=
  f_X10_tapeNumber_b3 fuel x1 24 M
set_option maxRecDepth 100000 in
set_option maxHeartbeats 4000000 in
theorem b_X10_tapeNumber {K : Kt} {X : Xt} (hp : St K) (hB : Bx K X { frames := 0, cells := 0, slots := 0, locals := 0 } cX10_tapeNumber 3 RX10 none) {M1 : Mem} {x1 : Int32} {M : Mem} (hF : f_X10_tapeNumber x1 M = some M1) : Wt K X (QM K X none M1 0 0) 0 0 M 0 [(0, vr 64), (1, vi x1)] [] := by
  unfold f_X10_tapeNumber at hF
  refine w_bipush hB 24 (by decide) dX10_tapeNumber_0 ?_
  refine w_istore_n hB (L' := [(2, vi 24), (0, vr 64), (1, vi x1)]) dX10_tapeNumber_2 rfl (by decide) rfl rfl ?_
  exact Wt.sub (L' := [(0, vr 64), (1, vi x1), (2, vi 24)]) [1, 2, 0] rfl (b_X10_tapeNumber_b3 hp hB fuel _ _ M hF)
theorem c_X10_tapeNumber {K : Kt} {l : Launch} (hp : St K) {M1 : Mem} {x1 : Int32} {M : Mem} (hF : f_X10_tapeNumber x1 M = some M1) : MT K l yX10_tapeNumber cX10_tapeNumber 3 none { frames := 0, cells := 0, slots := 0, locals := 0 } [vr 64, vi x1] M none M1 0 0 :=
  MT_of (by decide) rfl (Nat.le_of_ble_eq_true rfl) (fun X _ hB _ => b_X10_tapeNumber hp hB hF)
def f_X10_feed (x1 : Int32) (x2 : Int32) (x3 : Int32) (x4 : Int32) (x5 : Int32) (M : Mem) : Option (Int32 × Mem) :=
  if ((M.1 64 1) + 20) ≤ 600 then
    clv (f_X10_tapeNumber x1 M) fun M1m =>
    clv (f_X10_tapeNumber x2 M1m) fun M2m =>
    clv (f_X10_tapeNumber x3 M2m) fun M3m =>
    clv (f_X10_tapeNumber x4 M3m) fun M4m =>
    clv (f_X10_tapeNumber x5 M4m) fun M5m =>
    some (M5m.1 64 1, M5m)
  else
    some ((-1), M)
set_option maxRecDepth 100000 in
set_option maxHeartbeats 4000000 in
theorem b_X10_feed {K : Kt} {X : Xt} (hp : St K) (hB : Bx K X { frames := 1, cells := 0, slots := 0, locals := 22 } cX10_feed 6 RX10 (some .int)) {r : Int32} {M1 : Mem} {x1 : Int32} {x2 : Int32} {x3 : Int32} {x4 : Int32} {x5 : Int32} {M : Mem} (hF : f_X10_feed x1 x2 x3 x4 x5 M = some (r, M1)) : Wt K X (QM K X (some (vi r)) M1 0 0) 0 0 M 0 [(0, vr 64), (1, vi x1), (2, vi x2), (3, vi x3), (4, vi x4), (5, vi x5)] [] := by
  unfold f_X10_feed at hF
  refine w_aload_n hB 0 dX10_feed_0 rfl rfl ?_
  refine w_getI hB ff_X10_1 sh_64 (Or.inl hp.1) q_474 dX10_feed_1 ?_
  refine w_bipush hB 20 (by decide) dX10_feed_4 ?_
  refine w_iadd hB dX10_feed_6 ?_
  refine w_sipush hB 600 (by decide) dX10_feed_7 ?_
  refine w_icmp_le hB 15 dX10_feed_10 (by decide) (fun hc => ?_) (fun hc => ?_)
  · replace hF := ifT hc hF
    refine w_aload_n hB 0 dX10_feed_15 rfl rfl ?_
    refine w_iload_n hB 1 dX10_feed_16 rfl rfl ?_
    obtain ⟨M1m, hc_M1m, hF⟩ := clvS hF
    refine w_callV hB (ci := 8) (As := [vi x1]) (st := []) cw_X10_65 q_523 q_0 rfl sh_64 (Or.inl hp.1) (c_X10_tapeNumber hp hc_M1m) ⟨rfl, rfl⟩ (by decide) (by decide) rfl (Nat.le_of_ble_eq_true rfl) dX10_feed_17 rfl ?_
    refine w_aload_n hB 0 dX10_feed_20 rfl rfl ?_
    refine w_iload_n hB 2 dX10_feed_21 rfl rfl ?_
    obtain ⟨M2m, hc_M2m, hF⟩ := clvS hF
    refine w_callV hB (ci := 8) (As := [vi x2]) (st := []) cw_X10_65 q_523 q_0 rfl sh_64 (Or.inl hp.1) (c_X10_tapeNumber hp hc_M2m) ⟨rfl, rfl⟩ (by decide) (by decide) rfl (Nat.le_of_ble_eq_true rfl) dX10_feed_22 rfl ?_
    refine w_aload_n hB 0 dX10_feed_25 rfl rfl ?_
    refine w_iload_n hB 3 dX10_feed_26 rfl rfl ?_
    obtain ⟨M3m, hc_M3m, hF⟩ := clvS hF
    refine w_callV hB (ci := 8) (As := [vi x3]) (st := []) cw_X10_65 q_523 q_0 rfl sh_64 (Or.inl hp.1) (c_X10_tapeNumber hp hc_M3m) ⟨rfl, rfl⟩ (by decide) (by decide) rfl (Nat.le_of_ble_eq_true rfl) dX10_feed_27 rfl ?_
    refine w_aload_n hB 0 dX10_feed_30 rfl rfl ?_
    refine w_iload hB 4 dX10_feed_31 rfl ?_
    obtain ⟨M4m, hc_M4m, hF⟩ := clvS hF
    refine w_callV hB (ci := 8) (As := [vi x4]) (st := []) cw_X10_65 q_523 q_0 rfl sh_64 (Or.inl hp.1) (c_X10_tapeNumber hp hc_M4m) ⟨rfl, rfl⟩ (by decide) (by decide) rfl (Nat.le_of_ble_eq_true rfl) dX10_feed_33 rfl ?_
    refine w_aload_n hB 0 dX10_feed_36 rfl rfl ?_
    refine w_iload hB 5 dX10_feed_37 rfl ?_
    obtain ⟨M5m, hc_M5m, hF⟩ := clvS hF
    refine w_callV hB (ci := 8) (As := [vi x5]) (st := []) cw_X10_65 q_523 q_0 rfl sh_64 (Or.inl hp.1) (c_X10_tapeNumber hp hc_M5m) ⟨rfl, rfl⟩ (by decide) (by decide) rfl (Nat.le_of_ble_eq_true rfl) dX10_feed_39 rfl ?_
    refine w_aload_n hB 0 dX10_feed_42 rfl rfl ?_
    refine w_getI hB ff_X10_1 sh_64 (Or.inl hp.1) q_474 dX10_feed_43 ?_
    obtain ⟨e1, e2⟩ := retS hF
    subst e2
    exact w_iret hB dX10_feed_46 e1
  · replace hF := ifF hc hF
    refine w_iconst hB (-1) (by decide) dX10_feed_13 ?_
    obtain ⟨e1, e2⟩ := retS hF
    subst e2
    exact w_iret hB dX10_feed_14 e1
theorem c_X10_feed {K : Kt} {l : Launch} (hp : St K) {r : Int32} {M1 : Mem} {x1 : Int32} {x2 : Int32} {x3 : Int32} {x4 : Int32} {x5 : Int32} {M : Mem} (hF : f_X10_feed x1 x2 x3 x4 x5 M = some (r, M1)) : MT K l yX10_feed cX10_feed 6 (some .int) { frames := 1, cells := 0, slots := 0, locals := 22 } [vr 64, vi x1, vi x2, vi x3, vi x4, vi x5] M (some (vi r)) M1 0 0 :=
  MT_of (by decide) rfl (Nat.le_of_ble_eq_true rfl) (fun X _ hB _ => b_X10_feed hp hB hF)
def f_X10_text_b129_s (rec129 : Int32 → Mem → Option (Int32 × Mem)) (x3 : Int32) (M : Mem) : Option (Int32 × Mem) :=
  if 2 ≤ x3 then
    gd (shc (M.2.2.1 64 2) = 8) <|
    some (M.1 (M.2.2.1 64 2) 11, M)
  else
    gd (inb x3 2) <|
    bnd (setI M 225 (x3.toNatClampNeg) (vp_nar .boolean 0)) fun M1m =>
    bnd (x3 + 1) fun a1 =>
    rec129 a1 M1m
set_option maxRecDepth 100000 in
set_option maxHeartbeats 4000000 in
theorem b_X10_text_b129_s {K : Kt} {X : Xt} (hp : St K) (hB : Bx K X { frames := 7, cells := 0, slots := 0, locals := 152 } cX10_text 4 RX10 (some .int)) {r : Int32} {M1 : Mem} {rec129 : Int32 → Mem → Option (Int32 × Mem)}
    (h129 : ∀ x3 M, rec129 x3 M = some (r, M1) → Wt K X (QM K X (some (vi r)) M1 0 0) 0 0 M 129 [(0, vr 64), (3, vi x3)] []) {x3 : Int32} {M : Mem} (hF : f_X10_text_b129_s rec129 x3 M = some (r, M1)) : Wt K X (QM K X (some (vi r)) M1 0 0) 0 0 M 129 [(0, vr 64), (3, vi x3)] [] := by
  unfold f_X10_text_b129_s at hF
  refine w_iload_n hB 1 dX10_text_129 rfl rfl ?_
  refine w_iconst hB 2 (by decide) dX10_text_130 ?_
  refine w_icmp_ge hB 147 dX10_text_131 (by decide) (fun hc => ?_) (fun hc => ?_)
  · replace hF := ifT hc hF
    refine w_aload_n hB 0 dX10_text_147 rfl rfl ?_
    refine w_getR hB ff_X10_2 sh_64 (Or.inl hp.1) q_475 dX10_text_148 ?_
    obtain ⟨g1, hF⟩ := gdS hF
    refine w_getI hB ff_X9_11 g1 (Or.inl hp.1) q_310 dX10_text_151 ?_
    obtain ⟨e1, e2⟩ := retS hF
    subst e2
    exact w_iret hB dX10_text_154 e1
  · replace hF := ifF hc hF
    refine w_aload_n hB 0 dX10_text_134 rfl rfl ?_
    refine w_getC hB (v := 225) ff_X10_11 sh_64 hp.1 cr_64_11 (by decide) q_484 dX10_text_135 ?_
    refine w_iload_n hB 1 dX10_text_138 rfl rfl ?_
    refine w_iconst hB 0 (by decide) dX10_text_139 ?_
    obtain ⟨g2, hF⟩ := gdS hF
    obtain ⟨M1m, e_M1m, hF⟩ := bndS hF
    refine w_zast hB sh_225 (Or.inl hp.1) sl_225 g2 e_M1m dX10_text_140 ?_
    obtain ⟨a1, e_a1, hF⟩ := bndS hF
    refine w_iinc hB 1 (v := 1) (L' := [(3, vi a1), (0, vr 64)]) dX10_text_141 rfl (by decide) (by decide) e_a1 rfl ?_
    refine w_goto hB 129 dX10_text_144 (by decide) ?_
    exact Wt.sub (L' := [(0, vr 64), (3, vi a1)]) [1, 0] rfl (h129 _ M1m hF)
def f_X10_text_b129 (k : Nat) : Int32 → Mem → Option (Int32 × Mem) := lpN (fun _ _ => none) (f_X10_text_b129_s) k
theorem b_X10_text_b129 {K : Kt} {X : Xt} (hp : St K) (hB : Bx K X { frames := 7, cells := 0, slots := 0, locals := 152 } cX10_text 4 RX10 (some .int)) {r : Int32} {M1 : Mem} (k : Nat) : ∀ (x3 : Int32) M, f_X10_text_b129 k x3 M = some (r, M1) → Wt K X (QM K X (some (vi r)) M1 0 0) 0 0 M 129 [(0, vr 64), (3, vi x3)] [] := by
  refine lpN_ind (P := fun (f : Int32 → Mem → Option (Int32 × Mem)) => ∀ (x3 : Int32) M, f x3 M = some (r, M1) → Wt K X (QM K X (some (vi r)) M1 0 0) 0 0 M 129 [(0, vr 64), (3, vi x3)] []) (fun _ _ h => by cases h) (fun f hf x3 M hF => ?_) k
  exact b_X10_text_b129_s hp hB hf hF
def f_X10_text_b93 (M : Mem) : Option (Int32 × Mem) :=
  bnd (M.2.2.1 64 2) fun o1 =>
  bnd (setR M 64 2 (M.2.2.1 64 3)) fun M1m =>
  bnd (setR M1m 64 3 o1) fun M2m =>
  clv (f_X3_begin 217 (M2m.2.2.1 64 2) M2m) fun M3m =>
  bnd (setI M3m 64 9 0) fun M4m =>
  f_X10_text_b129 fuel 0 M4m
set_option maxRecDepth 100000 in
set_option maxHeartbeats 4000000 in
theorem b_X10_text_b93 {K : Kt} {X : Xt} (hp : St K) (hB : Bx K X { frames := 7, cells := 0, slots := 0, locals := 152 } cX10_text 4 RX10 (some .int)) {r : Int32} {M1 : Mem} {M : Mem} (hF : f_X10_text_b93 M = some (r, M1)) : Wt K X (QM K X (some (vi r)) M1 0 0) 0 0 M 93 [(0, vr 64)] [] := by
  unfold f_X10_text_b93 at hF
  refine w_aload_n hB 0 dX10_text_93 rfl rfl ?_
  refine w_getR hB ff_X10_2 sh_64 (Or.inl hp.1) q_475 dX10_text_94 ?_
  obtain ⟨o1, e_o1, hF⟩ := bndS hF
  rw [← e_o1]
  refine w_astore_n hB (L' := [(2, vr o1), (0, vr 64)]) dX10_text_97 rfl (by decide) rfl ?_
  refine w_aload_n hB 1 dX10_text_98 rfl rfl ?_
  refine w_aload_n hB 1 dX10_text_99 rfl rfl ?_
  refine w_getR hB ff_X10_3 sh_64 (Or.inl hp.1) q_476 dX10_text_100 ?_
  obtain ⟨M1m, e_M1m, hF⟩ := bndS hF
  refine w_putR (C := "ReplayBooth$Told") hB ff_X10_2 sh_64 (Or.inl hp.1) q_475 (by decide +kernel) cr_64_2 e_M1m dX10_text_103 ?_
  refine w_aload_n hB 1 dX10_text_106 rfl rfl ?_
  refine w_aload_n hB 0 dX10_text_107 rfl rfl ?_
  obtain ⟨M2m, e_M2m, hF⟩ := bndS hF
  refine w_putR (C := "ReplayBooth$Told") hB ff_X10_3 sh_64 (Or.inl hp.1) q_476 (by decide +kernel) cr_64_3 e_M2m dX10_text_108 ?_
  refine w_aload_n hB 1 dX10_text_111 rfl rfl ?_
  refine w_getC hB (v := 217) ff_X10_6 sh_64 hp.1 cr_64_6 (by decide) q_479 dX10_text_112 ?_
  refine w_aload_n hB 1 dX10_text_115 rfl rfl ?_
  refine w_getR hB ff_X10_2 sh_64 (Or.inl hp.1) q_475 dX10_text_116 ?_
  obtain ⟨M3m, hc_M3m, hF⟩ := clvS hF
  refine w_callV hB (ci := 2) (As := [vr (M2m.2.2.1 64 2)]) (st := []) cw_X10_96 q_727 q_728 rfl sh_217 (Or.inl hp.1) (c_X3_begin hp hc_M3m) ⟨rfl, rfl⟩ (by decide) (by decide) rfl (Nat.le_of_ble_eq_true rfl) dX10_text_119 rfl ?_
  refine w_aload_n hB 1 dX10_text_122 rfl rfl ?_
  refine w_iconst hB 0 (by decide) dX10_text_123 ?_
  obtain ⟨M4m, e_M4m, hF⟩ := bndS hF
  refine w_putI hB ff_X10_9 sh_64 (Or.inl hp.1) q_482 e_M4m dX10_text_124 ?_
  refine w_iconst hB 0 (by decide) dX10_text_127 ?_
  refine w_istore_n hB (L' := [(3, vi 0), (2, vr o1), (0, vr 64)]) dX10_text_128 rfl (by decide) rfl rfl ?_
  exact Wt.sub (L' := [(0, vr 64), (3, vi 0)]) [2, 0] rfl (b_X10_text_b129 hp hB fuel _ M4m hF)
def f_X10_text_b76 (M : Mem) : Option (Int32 × Mem) :=
  some ((-2) - (M.1 208 8), M)
set_option maxRecDepth 100000 in
set_option maxHeartbeats 4000000 in
theorem b_X10_text_b76 {K : Kt} {X : Xt} (hp : St K) (hB : Bx K X { frames := 7, cells := 0, slots := 0, locals := 152 } cX10_text 4 RX10 (some .int)) {r : Int32} {M1 : Mem} {M : Mem} (hF : f_X10_text_b76 M = some (r, M1)) : Wt K X (QM K X (some (vi r)) M1 0 0) 0 0 M 76 [(0, vr 64)] [] := by
  unfold f_X10_text_b76 at hF
  refine w_bipush hB (-2) (by decide) dX10_text_76 ?_
  refine w_aload_n hB 0 dX10_text_78 rfl rfl ?_
  refine w_getC hB (v := 208) ff_X10_4 sh_64 hp.1 cr_64_4 (by decide) q_477 dX10_text_79 ?_
  refine w_getI hB ff_X7_8 sh_208 (Or.inl hp.1) q_367 dX10_text_82 ?_
  refine w_isub hB dX10_text_85 ?_
  obtain ⟨e1, e2⟩ := retS hF
  subst e2
  exact w_iret hB dX10_text_86 e1
def f_X10_text_b33_s (rec33 : Int32 → Mem → Option (Int32 × Mem)) (x2 : Int32) (M : Mem) : Option (Int32 × Mem) :=
  if 600 < x2 then
    f_X10_text_b93 M
  else
    gd ((M.2.2.1 208 4) < 26) <|
    if (M.2.2.1 208 4) = 1 then
      f_X10_text_b93 M
    else
      cl (f_X7_tellLine M) fun r1 M1m =>
      if r1 = 0 then
        f_X10_text_b76 M1m
      else
        cl (f_X7_take 5 M1m) fun r2 M2m =>
        if r2 = 0 then
          f_X10_text_b76 M2m
        else
          bnd (x2 + 1) fun a1 =>
          rec33 a1 M2m
set_option maxRecDepth 100000 in
set_option maxHeartbeats 4000000 in
theorem b_X10_text_b33_s {K : Kt} {X : Xt} (hp : St K) (hB : Bx K X { frames := 7, cells := 0, slots := 0, locals := 152 } cX10_text 4 RX10 (some .int)) {r : Int32} {M1 : Mem} {rec33 : Int32 → Mem → Option (Int32 × Mem)}
    (h33 : ∀ x2 M, rec33 x2 M = some (r, M1) → Wt K X (QM K X (some (vi r)) M1 0 0) 0 0 M 33 [(0, vr 64), (2, vi x2)] []) {x2 : Int32} {M : Mem} (hF : f_X10_text_b33_s rec33 x2 M = some (r, M1)) : Wt K X (QM K X (some (vi r)) M1 0 0) 0 0 M 33 [(0, vr 64), (2, vi x2)] [] := by
  unfold f_X10_text_b33_s at hF
  refine w_iload_n hB 1 dX10_text_33 rfl rfl ?_
  refine w_sipush hB 600 (by decide) dX10_text_34 ?_
  refine w_icmp_gt hB 93 dX10_text_37 (by decide) (fun hc => ?_) (fun hc => ?_)
  · replace hF := ifT hc hF
    exact Wt.sub (L' := [(0, vr 64)]) [0] rfl (b_X10_text_b93 hp hB hF)
  · replace hF := ifF hc hF
    refine w_aload_n hB 0 dX10_text_40 rfl rfl ?_
    refine w_getC hB (v := 208) ff_X10_4 sh_64 hp.1 cr_64_4 (by decide) q_477 dX10_text_41 ?_
    refine w_getR hB ff_X7_4 sh_208 (Or.inl hp.1) q_363 dX10_text_44 ?_
    refine w_gettok hB hp 1 ⟨by decide, by decide⟩ q_583 dX10_text_47 ?_
    obtain ⟨g1, hF⟩ := gdS hF
    refine w_acmp_eq hB 93 g1 (by decide) dX10_text_50 (by decide) (fun hc => ?_) (fun hc => ?_)
    · replace hF := ifT hc hF
      exact Wt.sub (L' := [(0, vr 64)]) [0] rfl (b_X10_text_b93 hp hB hF)
    · replace hF := ifF hc hF
      refine w_aload_n hB 0 dX10_text_53 rfl rfl ?_
      refine w_getC hB (v := 208) ff_X10_4 sh_64 hp.1 cr_64_4 (by decide) q_477 dX10_text_54 ?_
      obtain ⟨r1, M1m, hc_M1m, hF⟩ := clS hF
      refine w_callV hB (ci := 6) (As := []) (st := []) cw_X10_82 q_585 q_586 rfl sh_208 (Or.inl hp.1) (c_X7_tellLine hp hc_M1m) ⟨rfl, rfl⟩ (by decide) (by decide) rfl (Nat.le_of_ble_eq_true rfl) dX10_text_57 rfl ?_
      refine w_if_eq hB 76 dX10_text_60 (by decide) (fun hc => ?_) (fun hc => ?_)
      · replace hF := ifT hc hF
        exact Wt.sub (L' := [(0, vr 64)]) [0] rfl (b_X10_text_b76 hp hB hF)
      · replace hF := ifF hc hF
        refine w_aload_n hB 0 dX10_text_63 rfl rfl ?_
        refine w_getC hB (v := 208) ff_X10_4 sh_64 hp.1 cr_64_4 (by decide) q_477 dX10_text_64 ?_
        refine w_gettok hB hp 5 ⟨by decide, by decide⟩ q_724 dX10_text_67 ?_
        obtain ⟨r2, M2m, hc_M2m, hF⟩ := clS hF
        refine w_callV hB (ci := 6) (As := [vr 5]) (st := []) cw_X10_89 q_682 q_683 rfl sh_208 (Or.inl hp.1) (c_X7_take hp hc_M2m) ⟨rfl, rfl⟩ (by decide) (by decide) rfl (Nat.le_of_ble_eq_true rfl) dX10_text_70 rfl ?_
        refine w_if_ne hB 87 dX10_text_73 (by decide) (fun hc => ?_) (fun hc => ?_)
        · replace hF := ifF hc hF
          obtain ⟨a1, e_a1, hF⟩ := bndS hF
          refine w_iinc hB 1 (v := 1) (L' := [(2, vi a1), (0, vr 64)]) dX10_text_87 rfl (by decide) (by decide) e_a1 rfl ?_
          refine w_goto hB 33 dX10_text_90 (by decide) ?_
          exact Wt.sub (L' := [(0, vr 64), (2, vi a1)]) [1, 0] rfl (h33 _ M2m hF)
        · replace hF := ifT hc hF
          exact Wt.sub (L' := [(0, vr 64)]) [0] rfl (b_X10_text_b76 hp hB hF)
def f_X10_text_b33 (k : Nat) : Int32 → Mem → Option (Int32 × Mem) := lpN (fun _ _ => none) (f_X10_text_b33_s) k
theorem b_X10_text_b33 {K : Kt} {X : Xt} (hp : St K) (hB : Bx K X { frames := 7, cells := 0, slots := 0, locals := 152 } cX10_text 4 RX10 (some .int)) {r : Int32} {M1 : Mem} (k : Nat) : ∀ (x2 : Int32) M, f_X10_text_b33 k x2 M = some (r, M1) → Wt K X (QM K X (some (vi r)) M1 0 0) 0 0 M 33 [(0, vr 64), (2, vi x2)] [] := by
  refine lpN_ind (P := fun (f : Int32 → Mem → Option (Int32 × Mem)) => ∀ (x2 : Int32) M, f x2 M = some (r, M1) → Wt K X (QM K X (some (vi r)) M1 0 0) 0 0 M 33 [(0, vr 64), (2, vi x2)] []) (fun _ _ h => by cases h) (fun f hf x2 M hF => ?_) k
  exact b_X10_text_b33_s hp hB hf hF
def f_X10_text (x1 : Int32) (M : Mem) : Option (Int32 × Mem) :=
  if x1 < 0 then
    some ((-1), M)
  else
    if x1 ≤ (M.1 64 1) then
      bnd (setI M 64 1 0) fun M1m =>
      clv (f_X7_begin (M1m.2.2.1 64 3) x1 M1m) fun M2m =>
      f_X10_text_b33 fuel 0 M2m
    else
      some ((-1), M)
set_option maxRecDepth 100000 in
set_option maxHeartbeats 4000000 in
theorem b_X10_text {K : Kt} {X : Xt} (hp : St K) (hB : Bx K X { frames := 7, cells := 0, slots := 0, locals := 152 } cX10_text 4 RX10 (some .int)) {r : Int32} {M1 : Mem} {x1 : Int32} {M : Mem} (hF : f_X10_text x1 M = some (r, M1)) : Wt K X (QM K X (some (vi r)) M1 0 0) 0 0 M 0 [(0, vr 64), (1, vi x1)] [] := by
  unfold f_X10_text at hF
  refine w_iload_n hB 1 dX10_text_0 rfl rfl ?_
  refine w_if_lt hB 12 dX10_text_1 (by decide) (fun hc => ?_) (fun hc => ?_)
  · replace hF := ifT hc hF
    refine w_iconst hB (-1) (by decide) dX10_text_12 ?_
    obtain ⟨e1, e2⟩ := retS hF
    subst e2
    exact w_iret hB dX10_text_13 e1
  · replace hF := ifF hc hF
    refine w_iload_n hB 1 dX10_text_4 rfl rfl ?_
    refine w_aload_n hB 0 dX10_text_5 rfl rfl ?_
    refine w_getI hB ff_X10_1 sh_64 (Or.inl hp.1) q_474 dX10_text_6 ?_
    refine w_icmp_le hB 14 dX10_text_9 (by decide) (fun hc => ?_) (fun hc => ?_)
    · replace hF := ifT hc hF
      refine w_aload_n hB 0 dX10_text_14 rfl rfl ?_
      refine w_iconst hB 0 (by decide) dX10_text_15 ?_
      obtain ⟨M1m, e_M1m, hF⟩ := bndS hF
      refine w_putI hB ff_X10_1 sh_64 (Or.inl hp.1) q_474 e_M1m dX10_text_16 ?_
      refine w_aload_n hB 0 dX10_text_19 rfl rfl ?_
      refine w_getC hB (v := 208) ff_X10_4 sh_64 hp.1 cr_64_4 (by decide) q_477 dX10_text_20 ?_
      refine w_aload_n hB 0 dX10_text_23 rfl rfl ?_
      refine w_getR hB ff_X10_3 sh_64 (Or.inl hp.1) q_476 dX10_text_24 ?_
      refine w_iload_n hB 1 dX10_text_27 rfl rfl ?_
      obtain ⟨M2m, hc_M2m, hF⟩ := clvS hF
      refine w_callV hB (ci := 6) (As := [vr (M1m.2.2.1 64 3), vi x1]) (st := []) cw_X10_69 q_530 q_531 rfl sh_208 (Or.inl hp.1) (c_X7_begin hp hc_M2m) ⟨rfl, rfl⟩ (by decide) (by decide) rfl (Nat.le_of_ble_eq_true rfl) dX10_text_28 rfl ?_
      refine w_iconst hB 0 (by decide) dX10_text_31 ?_
      refine w_istore_n hB (L' := [(2, vi 0), (0, vr 64), (1, vi x1)]) dX10_text_32 rfl (by decide) rfl rfl ?_
      exact Wt.sub (L' := [(0, vr 64), (2, vi 0)]) [1, 0] rfl (b_X10_text_b33 hp hB fuel _ M2m hF)
    · replace hF := ifF hc hF
      refine w_iconst hB (-1) (by decide) dX10_text_12 ?_
      obtain ⟨e1, e2⟩ := retS hF
      subst e2
      exact w_iret hB dX10_text_13 e1
theorem c_X10_text {K : Kt} {l : Launch} (hp : St K) {r : Int32} {M1 : Mem} {x1 : Int32} {M : Mem} (hF : f_X10_text x1 M = some (r, M1)) : MT K l yX10_text cX10_text 4 (some .int) { frames := 7, cells := 0, slots := 0, locals := 152 } [vr 64, vi x1] M (some (vi r)) M1 0 0 :=
  MT_of (by decide) rfl (Nat.le_of_ble_eq_true rfl) (fun X _ hB _ => b_X10_text hp hB hF)
def f_X10_camera (x1 : Int32) (x2 : Int32) (M : Mem) : Option (Int32 × Mem) :=
  if x1 < 0 then
    some ((-1), M)
  else
    gd (shc (M.2.2.1 64 2) = 8) <|
    if x1 < (M.1 (M.2.2.1 64 2) 0) then
      if x2 = 0 then
        gd (inb x1 5) <|
        some (M.1 (cr (M.2.2.1 64 2) 1) x1.toNatClampNeg, M)
      else
      if x2 = 1 then
        gd (inb x1 5) <|
        some (M.1 (cr (M.2.2.1 64 2) 2) x1.toNatClampNeg, M)
      else
      if x2 = 2 then
        if (M.1 (cr (M.2.2.1 64 2) 4) 1) = 0 then
          cl (f_X2_lateLeast (cr (M.2.2.1 64 2) 4) x1 M) fun r1 M1m =>
          some (r1, M1m)
        else
          some ((-2), M)
      else
      if x2 = 3 then
        if (M.1 (cr (M.2.2.1 64 2) 4) 1) = 0 then
          cl (f_X2_lateMost (cr (M.2.2.1 64 2) 4) x1 M) fun r2 M2m =>
          some (r2, M2m)
        else
          some ((-2), M)
      else
        some ((-1), M)
    else
      some ((-1), M)
set_option maxRecDepth 100000 in
set_option maxHeartbeats 4000000 in
theorem b_X10_camera {K : Kt} {X : Xt} (hp : St K) (hB : Bx K X { frames := 1, cells := 0, slots := 0, locals := 21 } cX10_camera 3 RX10 (some .int)) {r : Int32} {M1 : Mem} {x1 : Int32} {x2 : Int32} {M : Mem} (hF : f_X10_camera x1 x2 M = some (r, M1)) : Wt K X (QM K X (some (vi r)) M1 0 0) 0 0 M 0 [(0, vr 64), (1, vi x1), (2, vi x2)] [] := by
  unfold f_X10_camera at hF
  refine w_iload_n hB 1 dX10_camera_0 rfl rfl ?_
  refine w_if_lt hB 15 dX10_camera_1 (by decide) (fun hc => ?_) (fun hc => ?_)
  · replace hF := ifT hc hF
    refine w_iconst hB (-1) (by decide) dX10_camera_15 ?_
    obtain ⟨e1, e2⟩ := retS hF
    subst e2
    exact w_iret hB dX10_camera_16 e1
  · replace hF := ifF hc hF
    refine w_iload_n hB 1 dX10_camera_4 rfl rfl ?_
    refine w_aload_n hB 0 dX10_camera_5 rfl rfl ?_
    refine w_getR hB ff_X10_2 sh_64 (Or.inl hp.1) q_475 dX10_camera_6 ?_
    obtain ⟨g1, hF⟩ := gdS hF
    refine w_getI hB ff_X9_0 g1 (Or.inl hp.1) q_272 dX10_camera_9 ?_
    refine w_icmp_lt hB 17 dX10_camera_12 (by decide) (fun hc => ?_) (fun hc => ?_)
    · replace hF := ifT hc hF
      refine w_iload_n hB 2 dX10_camera_17 rfl rfl ?_
      by_cases ht0 : x2 = 0
      · replace hF := ifT ht0 hF
        refine w_tsIn hB 48 dX10_camera_18 (off := 30) (by rw [ht0]; decide) (by rw [ht0]; decide) (by rw [ht0]; rfl) (by decide) ?_
        refine w_aload_n hB 0 dX10_camera_48 rfl rfl ?_
        refine w_getR hB ff_X10_2 sh_64 (Or.inl hp.1) q_475 dX10_camera_49 ?_
        refine w_getC hB (v := cr (M.2.2.1 64 2) 1) ff_X9_1 g1 hp.1 rfl (shc_ne (crc_8_1 g1).1) q_276 dX10_camera_52 ?_
        refine w_iload_n hB 1 dX10_camera_55 rfl rfl ?_
        obtain ⟨g2, hF⟩ := gdS hF
        refine w_iald hB (crc_8_1 g1).1 (Or.inl hp.1) (crc_8_1 g1).2 g2 dX10_camera_56 ?_
        obtain ⟨e1, e2⟩ := retS hF
        subst e2
        exact w_iret hB dX10_camera_57 e1
      replace hF := ifF ht0 hF
      by_cases ht1 : x2 = 1
      · replace hF := ifT ht1 hF
        refine w_tsIn hB 58 dX10_camera_18 (off := 40) (by rw [ht1]; decide) (by rw [ht1]; decide) (by rw [ht1]; rfl) (by decide) ?_
        refine w_aload_n hB 0 dX10_camera_58 rfl rfl ?_
        refine w_getR hB ff_X10_2 sh_64 (Or.inl hp.1) q_475 dX10_camera_59 ?_
        refine w_getC hB (v := cr (M.2.2.1 64 2) 2) ff_X9_2 g1 hp.1 rfl (shc_ne (crc_8_2 g1).1) q_279 dX10_camera_62 ?_
        refine w_iload_n hB 1 dX10_camera_65 rfl rfl ?_
        obtain ⟨g3, hF⟩ := gdS hF
        refine w_iald hB (crc_8_2 g1).1 (Or.inl hp.1) (crc_8_2 g1).2 g3 dX10_camera_66 ?_
        obtain ⟨e1, e2⟩ := retS hF
        subst e2
        exact w_iret hB dX10_camera_67 e1
      replace hF := ifF ht1 hF
      by_cases ht2 : x2 = 2
      · replace hF := ifT ht2 hF
        refine w_tsIn hB 68 dX10_camera_18 (off := 50) (by rw [ht2]; decide) (by rw [ht2]; decide) (by rw [ht2]; rfl) (by decide) ?_
        refine w_aload_n hB 0 dX10_camera_68 rfl rfl ?_
        refine w_getR hB ff_X10_2 sh_64 (Or.inl hp.1) q_475 dX10_camera_69 ?_
        refine w_getC hB (v := cr (M.2.2.1 64 2) 4) ff_X9_4 g1 hp.1 rfl (shc_ne (crc_8_4 g1).1) q_286 dX10_camera_72 ?_
        refine w_getI hB ff_X2_1 (crc_8_4 g1).1 (Or.inl hp.1) q_124 dX10_camera_75 ?_
        refine w_if_eq hB 86 dX10_camera_78 (by decide) (fun hc => ?_) (fun hc => ?_)
        · replace hF := ifT hc hF
          refine w_aload_n hB 0 dX10_camera_86 rfl rfl ?_
          refine w_getR hB ff_X10_2 sh_64 (Or.inl hp.1) q_475 dX10_camera_87 ?_
          refine w_getC hB (v := cr (M.2.2.1 64 2) 4) ff_X9_4 g1 hp.1 rfl (shc_ne (crc_8_4 g1).1) q_286 dX10_camera_90 ?_
          refine w_iload_n hB 1 dX10_camera_93 rfl rfl ?_
          obtain ⟨r1, M1m, hc_M1m, hF⟩ := clS hF
          refine w_callV hB (ci := 1) (As := [vi x1]) (st := []) cw_X10_124 q_736 q_737 rfl (crc_8_4 g1).1 (Or.inl hp.1) (c_X2_lateLeast hp hc_M1m) ⟨rfl, rfl⟩ (by decide) (by decide) rfl (Nat.le_of_ble_eq_true rfl) dX10_camera_94 rfl ?_
          obtain ⟨e1, e2⟩ := retS hF
          subst e2
          exact w_iret hB dX10_camera_97 e1
        · replace hF := ifF hc hF
          refine w_bipush hB (-2) (by decide) dX10_camera_81 ?_
          refine w_goto hB 97 dX10_camera_83 (by decide) ?_
          obtain ⟨e1, e2⟩ := retS hF
          subst e2
          exact w_iret hB dX10_camera_97 e1
      replace hF := ifF ht2 hF
      by_cases ht3 : x2 = 3
      · replace hF := ifT ht3 hF
        refine w_tsIn hB 98 dX10_camera_18 (off := 80) (by rw [ht3]; decide) (by rw [ht3]; decide) (by rw [ht3]; rfl) (by decide) ?_
        refine w_aload_n hB 0 dX10_camera_98 rfl rfl ?_
        refine w_getR hB ff_X10_2 sh_64 (Or.inl hp.1) q_475 dX10_camera_99 ?_
        refine w_getC hB (v := cr (M.2.2.1 64 2) 4) ff_X9_4 g1 hp.1 rfl (shc_ne (crc_8_4 g1).1) q_286 dX10_camera_102 ?_
        refine w_getI hB ff_X2_1 (crc_8_4 g1).1 (Or.inl hp.1) q_124 dX10_camera_105 ?_
        refine w_if_eq hB 116 dX10_camera_108 (by decide) (fun hc => ?_) (fun hc => ?_)
        · replace hF := ifT hc hF
          refine w_aload_n hB 0 dX10_camera_116 rfl rfl ?_
          refine w_getR hB ff_X10_2 sh_64 (Or.inl hp.1) q_475 dX10_camera_117 ?_
          refine w_getC hB (v := cr (M.2.2.1 64 2) 4) ff_X9_4 g1 hp.1 rfl (shc_ne (crc_8_4 g1).1) q_286 dX10_camera_120 ?_
          refine w_iload_n hB 1 dX10_camera_123 rfl rfl ?_
          obtain ⟨r2, M2m, hc_M2m, hF⟩ := clS hF
          refine w_callV hB (ci := 1) (As := [vi x1]) (st := []) cw_X10_127 q_740 q_741 rfl (crc_8_4 g1).1 (Or.inl hp.1) (c_X2_lateMost hp hc_M2m) ⟨rfl, rfl⟩ (by decide) (by decide) rfl (Nat.le_of_ble_eq_true rfl) dX10_camera_124 rfl ?_
          obtain ⟨e1, e2⟩ := retS hF
          subst e2
          exact w_iret hB dX10_camera_127 e1
        · replace hF := ifF hc hF
          refine w_bipush hB (-2) (by decide) dX10_camera_111 ?_
          refine w_goto hB 127 dX10_camera_113 (by decide) ?_
          obtain ⟨e1, e2⟩ := retS hF
          subst e2
          exact w_iret hB dX10_camera_127 e1
      replace hF := ifF ht3 hF
      have tht0 := lv_neT ht0 (show (0 : Int32).toInt = 0 by decide)
      have tht1 := lv_neT ht1 (show (1 : Int32).toInt = 1 by decide)
      have tht2 := lv_neT ht2 (show (2 : Int32).toInt = 2 by decide)
      have tht3 := lv_neT ht3 (show (3 : Int32).toInt = 3 by decide)
      refine w_tsOut hB 128 dX10_camera_18 (by omega) (by decide) ?_
      refine w_iconst hB (-1) (by decide) dX10_camera_128 ?_
      obtain ⟨e1, e2⟩ := retS hF
      subst e2
      exact w_iret hB dX10_camera_129 e1
    · replace hF := ifF hc hF
      refine w_iconst hB (-1) (by decide) dX10_camera_15 ?_
      obtain ⟨e1, e2⟩ := retS hF
      subst e2
      exact w_iret hB dX10_camera_16 e1
theorem c_X10_camera {K : Kt} {l : Launch} (hp : St K) {r : Int32} {M1 : Mem} {x1 : Int32} {x2 : Int32} {M : Mem} (hF : f_X10_camera x1 x2 M = some (r, M1)) : MT K l yX10_camera cX10_camera 3 (some .int) { frames := 1, cells := 0, slots := 0, locals := 21 } [vr 64, vi x1, vi x2] M (some (vi r)) M1 0 0 :=
  MT_of (by decide) rfl (Nat.le_of_ble_eq_true rfl) (fun X _ hB _ => b_X10_camera hp hB hF)
def f_X10_kind (x1 : Int32) (x2 : Int32) (M : Mem) : Option (Int32 × Mem) :=
  if x1 < 0 then
    some ((-1), M)
  else
    gd (shc (M.2.2.1 64 2) = 8) <|
    if x1 < (M.1 (M.2.2.1 64 2) 7) then
      gd (inb x1 5) <|
      bnd (cr (cr (M.2.2.1 64 2) 8) x1.toNatClampNeg) fun o1 =>
      if x2 = 0 then
        some (M.1 o1 0, M)
      else
      if x2 = 1 then
        if (M.1 o1 1) = 0 then
          some (0, M)
        else
          some (1, M)
      else
      if x2 = 2 then
        if (M.1 o1 2) = 0 then
          some (0, M)
        else
          some (1, M)
      else
      if x2 = 3 then
        some (M.1 o1 3, M)
      else
        some ((-1), M)
    else
      some ((-1), M)
set_option maxRecDepth 100000 in
set_option maxHeartbeats 4000000 in
theorem b_X10_kind {K : Kt} {X : Xt} (hp : St K) (hB : Bx K X { frames := 0, cells := 0, slots := 0, locals := 0 } cX10_kind 4 RX10 (some .int)) {r : Int32} {M1 : Mem} {x1 : Int32} {x2 : Int32} {M : Mem} (hF : f_X10_kind x1 x2 M = some (r, M1)) : Wt K X (QM K X (some (vi r)) M1 0 0) 0 0 M 0 [(0, vr 64), (1, vi x1), (2, vi x2)] [] := by
  unfold f_X10_kind at hF
  refine w_iload_n hB 1 dX10_kind_0 rfl rfl ?_
  refine w_if_lt hB 15 dX10_kind_1 (by decide) (fun hc => ?_) (fun hc => ?_)
  · replace hF := ifT hc hF
    refine w_iconst hB (-1) (by decide) dX10_kind_15 ?_
    obtain ⟨e1, e2⟩ := retS hF
    subst e2
    exact w_iret hB dX10_kind_16 e1
  · replace hF := ifF hc hF
    refine w_iload_n hB 1 dX10_kind_4 rfl rfl ?_
    refine w_aload_n hB 0 dX10_kind_5 rfl rfl ?_
    refine w_getR hB ff_X10_2 sh_64 (Or.inl hp.1) q_475 dX10_kind_6 ?_
    obtain ⟨g1, hF⟩ := gdS hF
    refine w_getI hB ff_X9_7 g1 (Or.inl hp.1) q_297 dX10_kind_9 ?_
    refine w_icmp_lt hB 17 dX10_kind_12 (by decide) (fun hc => ?_) (fun hc => ?_)
    · replace hF := ifT hc hF
      refine w_aload_n hB 0 dX10_kind_17 rfl rfl ?_
      refine w_getR hB ff_X10_2 sh_64 (Or.inl hp.1) q_475 dX10_kind_18 ?_
      refine w_getC hB (v := cr (M.2.2.1 64 2) 8) ff_X9_8 g1 hp.1 rfl (shc_ne (crc_8_8 g1).1) q_301 dX10_kind_21 ?_
      refine w_iload_n hB 1 dX10_kind_24 rfl rfl ?_
      obtain ⟨g2, hF⟩ := gdS hF
      refine w_aaldC hB (c := 4) (v := cr (cr (M.2.2.1 64 2) 8) x1.toNatClampNeg) (crc_8_8 g1).1 rfl (by decide) hp.1 (crc_8_8 g1).2 g2 rfl (shc_ne (cre_24 (crc_8_8 g1).1 (by rw [(crc_8_8 g1).2]; exact inb_lt g2))) dX10_kind_25 ?_
      obtain ⟨o1, e_o1, hF⟩ := bndS hF
      rw [← e_o1]
      refine w_astore_n hB (L' := [(3, vr o1), (0, vr 64), (1, vi x1), (2, vi x2)]) dX10_kind_26 rfl (by decide) rfl ?_
      refine w_iload_n hB 3 dX10_kind_27 rfl rfl ?_
      by_cases ht0 : x2 = 0
      · replace hF := ifT ht0 hF
        refine w_tsIn hB 60 dX10_kind_28 (off := 32) (by rw [ht0]; decide) (by rw [ht0]; decide) (by rw [ht0]; rfl) (by decide) ?_
        refine w_aload_n hB 0 dX10_kind_60 rfl rfl ?_
        refine w_getI hB ff_X5_0 (by rw [e_o1]; exact (cre_24 (crc_8_8 g1).1 (by rw [(crc_8_8 g1).2]; exact inb_lt g2))) (Or.inl hp.1) q_143 dX10_kind_61 ?_
        obtain ⟨e1, e2⟩ := retS hF
        subst e2
        exact w_iret hB dX10_kind_64 e1
      replace hF := ifF ht0 hF
      by_cases ht1 : x2 = 1
      · replace hF := ifT ht1 hF
        refine w_tsIn hB 65 dX10_kind_28 (off := 37) (by rw [ht1]; decide) (by rw [ht1]; decide) (by rw [ht1]; rfl) (by decide) ?_
        refine w_aload_n hB 0 dX10_kind_65 rfl rfl ?_
        refine w_getI hB ff_X5_1 (by rw [e_o1]; exact (cre_24 (crc_8_8 g1).1 (by rw [(crc_8_8 g1).2]; exact inb_lt g2))) (Or.inl hp.1) q_147 dX10_kind_66 ?_
        refine w_if_eq hB 76 dX10_kind_69 (by decide) (fun hc => ?_) (fun hc => ?_)
        · replace hF := ifT hc hF
          refine w_iconst hB 0 (by decide) dX10_kind_76 ?_
          obtain ⟨e1, e2⟩ := retS hF
          subst e2
          exact w_iret hB dX10_kind_77 e1
        · replace hF := ifF hc hF
          refine w_iconst hB 1 (by decide) dX10_kind_72 ?_
          refine w_goto hB 77 dX10_kind_73 (by decide) ?_
          obtain ⟨e1, e2⟩ := retS hF
          subst e2
          exact w_iret hB dX10_kind_77 e1
      replace hF := ifF ht1 hF
      by_cases ht2 : x2 = 2
      · replace hF := ifT ht2 hF
        refine w_tsIn hB 78 dX10_kind_28 (off := 50) (by rw [ht2]; decide) (by rw [ht2]; decide) (by rw [ht2]; rfl) (by decide) ?_
        refine w_aload_n hB 0 dX10_kind_78 rfl rfl ?_
        refine w_getI hB ff_X5_2 (by rw [e_o1]; exact (cre_24 (crc_8_8 g1).1 (by rw [(crc_8_8 g1).2]; exact inb_lt g2))) (Or.inl hp.1) q_149 dX10_kind_79 ?_
        refine w_if_eq hB 89 dX10_kind_82 (by decide) (fun hc => ?_) (fun hc => ?_)
        · replace hF := ifT hc hF
          refine w_iconst hB 0 (by decide) dX10_kind_89 ?_
          obtain ⟨e1, e2⟩ := retS hF
          subst e2
          exact w_iret hB dX10_kind_90 e1
        · replace hF := ifF hc hF
          refine w_iconst hB 1 (by decide) dX10_kind_85 ?_
          refine w_goto hB 90 dX10_kind_86 (by decide) ?_
          obtain ⟨e1, e2⟩ := retS hF
          subst e2
          exact w_iret hB dX10_kind_90 e1
      replace hF := ifF ht2 hF
      by_cases ht3 : x2 = 3
      · replace hF := ifT ht3 hF
        refine w_tsIn hB 91 dX10_kind_28 (off := 63) (by rw [ht3]; decide) (by rw [ht3]; decide) (by rw [ht3]; rfl) (by decide) ?_
        refine w_aload_n hB 0 dX10_kind_91 rfl rfl ?_
        refine w_getI hB ff_X5_3 (by rw [e_o1]; exact (cre_24 (crc_8_8 g1).1 (by rw [(crc_8_8 g1).2]; exact inb_lt g2))) (Or.inl hp.1) q_152 dX10_kind_92 ?_
        obtain ⟨e1, e2⟩ := retS hF
        subst e2
        exact w_iret hB dX10_kind_95 e1
      replace hF := ifF ht3 hF
      have tht0 := lv_neT ht0 (show (0 : Int32).toInt = 0 by decide)
      have tht1 := lv_neT ht1 (show (1 : Int32).toInt = 1 by decide)
      have tht2 := lv_neT ht2 (show (2 : Int32).toInt = 2 by decide)
      have tht3 := lv_neT ht3 (show (3 : Int32).toInt = 3 by decide)
      refine w_tsOut hB 96 dX10_kind_28 (by omega) (by decide) ?_
      refine w_iconst hB (-1) (by decide) dX10_kind_96 ?_
      obtain ⟨e1, e2⟩ := retS hF
      subst e2
      exact w_iret hB dX10_kind_97 e1
    · replace hF := ifF hc hF
      refine w_iconst hB (-1) (by decide) dX10_kind_15 ?_
      obtain ⟨e1, e2⟩ := retS hF
      subst e2
      exact w_iret hB dX10_kind_16 e1
theorem c_X10_kind {K : Kt} {l : Launch} (hp : St K) {r : Int32} {M1 : Mem} {x1 : Int32} {x2 : Int32} {M : Mem} (hF : f_X10_kind x1 x2 M = some (r, M1)) : MT K l yX10_kind cX10_kind 4 (some .int) { frames := 0, cells := 0, slots := 0, locals := 0 } [vr 64, vi x1, vi x2] M (some (vi r)) M1 0 0 :=
  MT_of (by decide) rfl (Nat.le_of_ble_eq_true rfl) (fun X _ hB _ => b_X10_kind hp hB hF)
def f_X10_isSide (x1 : Int32) (M : Mem) : Option (Int32 × Mem) :=
  if x1 < 0 then
    some (0, M)
  else
    gd (shc (M.2.2.1 64 2) = 8) <|
    if (M.1 (M.2.2.1 64 2) 5) ≤ x1 then
      some (0, M)
    else
      some (1, M)
set_option maxRecDepth 100000 in
set_option maxHeartbeats 4000000 in
theorem b_X10_isSide {K : Kt} {X : Xt} (hp : St K) (hB : Bx K X { frames := 0, cells := 0, slots := 0, locals := 0 } cX10_isSide 2 RX10 (some .boolean)) {r : Int32} {M1 : Mem} {x1 : Int32} {M : Mem} (hF : f_X10_isSide x1 M = some (r, M1)) : Wt K X (QM K X (some (vi r)) M1 0 0) 0 0 M 0 [(0, vr 64), (1, vi x1)] [] := by
  unfold f_X10_isSide at hF
  refine w_iload_n hB 1 dX10_isSide_0 rfl rfl ?_
  refine w_if_lt hB 19 dX10_isSide_1 (by decide) (fun hc => ?_) (fun hc => ?_)
  · replace hF := ifT hc hF
    refine w_iconst hB 0 (by decide) dX10_isSide_19 ?_
    obtain ⟨e1, e2⟩ := retS hF
    subst e2
    exact w_zret hB (by decide) dX10_isSide_20 e1
  · replace hF := ifF hc hF
    refine w_iload_n hB 1 dX10_isSide_4 rfl rfl ?_
    refine w_aload_n hB 0 dX10_isSide_5 rfl rfl ?_
    refine w_getR hB ff_X10_2 sh_64 (Or.inl hp.1) q_475 dX10_isSide_6 ?_
    obtain ⟨g1, hF⟩ := gdS hF
    refine w_getI hB ff_X9_5 g1 (Or.inl hp.1) q_290 dX10_isSide_9 ?_
    refine w_icmp_ge hB 19 dX10_isSide_12 (by decide) (fun hc => ?_) (fun hc => ?_)
    · replace hF := ifT hc hF
      refine w_iconst hB 0 (by decide) dX10_isSide_19 ?_
      obtain ⟨e1, e2⟩ := retS hF
      subst e2
      exact w_zret hB (by decide) dX10_isSide_20 e1
    · replace hF := ifF hc hF
      refine w_iconst hB 1 (by decide) dX10_isSide_15 ?_
      refine w_goto hB 20 dX10_isSide_16 (by decide) ?_
      obtain ⟨e1, e2⟩ := retS hF
      subst e2
      exact w_zret hB (by decide) dX10_isSide_20 e1
theorem c_X10_isSide {K : Kt} {l : Launch} (hp : St K) {r : Int32} {M1 : Mem} {x1 : Int32} {M : Mem} (hF : f_X10_isSide x1 M = some (r, M1)) : MT K l yX10_isSide cX10_isSide 2 (some .boolean) { frames := 0, cells := 0, slots := 0, locals := 0 } [vr 64, vi x1] M (some (vi r)) M1 0 0 :=
  MT_of (by decide) rfl (Nat.le_of_ble_eq_true rfl) (fun X _ hB _ => b_X10_isSide hp hB hF)
def f_X10_pointsNow_b4_s (rec4 : Int32 → Int32 → Int32 → Mem → Option (Int32 × Mem)) (x1 : Int32) (x2 : Int32) (x3 : Int32) (M : Mem) : Option (Int32 × Mem) :=
  if (M.1 217 0) ≤ x3 then
    some (x2, M)
  else
    gd (shc (M.2.2.1 64 2) = 8) <|
    gd (inb x3 8) <|
    if (M.1 (cr (cr (M.2.2.1 64 2) 12) x3.toNatClampNeg) 2) = x1 then
      cl (f_X3_call 217 x3 M) fun r1 M1m =>
      if r1 = 1 then
        gd (shc (M1m.2.2.1 64 2) = 8) <|
        bnd (x2 + (M1m.1 (cr (cr (M1m.2.2.1 64 2) 12) x3.toNatClampNeg) 3)) fun a1 =>
        bnd (x3 + 1) fun a2 =>
        rec4 x1 a1 a2 M1m
      else
        bnd (x3 + 1) fun a3 =>
        rec4 x1 x2 a3 M1m
    else
      bnd (x3 + 1) fun a4 =>
      rec4 x1 x2 a4 M
set_option maxRecDepth 100000 in
set_option maxHeartbeats 4000000 in
theorem b_X10_pointsNow_b4_s {K : Kt} {X : Xt} (hp : St K) (hB : Bx K X { frames := 1, cells := 0, slots := 0, locals := 21 } cX10_pointsNow 4 RX10 (some .int)) {r : Int32} {M1 : Mem} {rec4 : Int32 → Int32 → Int32 → Mem → Option (Int32 × Mem)}
    (h4 : ∀ x1 x2 x3 M, rec4 x1 x2 x3 M = some (r, M1) → Wt K X (QM K X (some (vi r)) M1 0 0) 0 0 M 4 [(0, vr 64), (1, vi x1), (2, vi x2), (3, vi x3)] []) {x1 : Int32} {x2 : Int32} {x3 : Int32} {M : Mem} (hF : f_X10_pointsNow_b4_s rec4 x1 x2 x3 M = some (r, M1)) : Wt K X (QM K X (some (vi r)) M1 0 0) 0 0 M 4 [(0, vr 64), (1, vi x1), (2, vi x2), (3, vi x3)] [] := by
  unfold f_X10_pointsNow_b4_s at hF
  refine w_iload_n hB 3 dX10_pointsNow_4 rfl rfl ?_
  refine w_aload_n hB 0 dX10_pointsNow_5 rfl rfl ?_
  refine w_getC hB (v := 217) ff_X10_6 sh_64 hp.1 cr_64_6 (by decide) q_479 dX10_pointsNow_6 ?_
  refine w_getI hB ff_X3_0 sh_217 (Or.inl hp.1) q_433 dX10_pointsNow_9 ?_
  refine w_icmp_ge hB 64 dX10_pointsNow_12 (by decide) (fun hc => ?_) (fun hc => ?_)
  · replace hF := ifT hc hF
    refine w_iload_n hB 2 dX10_pointsNow_64 rfl rfl ?_
    obtain ⟨e1, e2⟩ := retS hF
    subst e2
    exact w_iret hB dX10_pointsNow_65 e1
  · replace hF := ifF hc hF
    refine w_aload_n hB 0 dX10_pointsNow_15 rfl rfl ?_
    refine w_getR hB ff_X10_2 sh_64 (Or.inl hp.1) q_475 dX10_pointsNow_16 ?_
    obtain ⟨g1, hF⟩ := gdS hF
    refine w_getC hB (v := cr (M.2.2.1 64 2) 12) ff_X9_12 g1 hp.1 rfl (shc_ne (crc_8_12 g1).1) q_313 dX10_pointsNow_19 ?_
    refine w_iload_n hB 3 dX10_pointsNow_22 rfl rfl ?_
    obtain ⟨g2, hF⟩ := gdS hF
    refine w_aaldC hB (c := 6) (v := cr (cr (M.2.2.1 64 2) 12) x3.toNatClampNeg) (crc_8_12 g1).1 rfl (by decide) hp.1 (crc_8_12 g1).2 g2 rfl (shc_ne (cre_26 (crc_8_12 g1).1 (by rw [(crc_8_12 g1).2]; exact inb_lt g2))) dX10_pointsNow_23 ?_
    refine w_getI hB ff_X6_2 (cre_26 (crc_8_12 g1).1 (by rw [(crc_8_12 g1).2]; exact inb_lt g2)) (Or.inl hp.1) q_204 dX10_pointsNow_24 ?_
    refine w_iload_n hB 1 dX10_pointsNow_27 rfl rfl ?_
    refine w_icmp_ne hB 58 dX10_pointsNow_28 (by decide) (fun hc => ?_) (fun hc => ?_)
    · replace hF := ifF hc hF
      obtain ⟨a4, e_a4, hF⟩ := bndS hF
      refine w_iinc hB 3 (v := 1) (L' := [(3, vi a4), (0, vr 64), (1, vi x1), (2, vi x2)]) dX10_pointsNow_58 rfl (by decide) (by decide) e_a4 rfl ?_
      refine w_goto hB 4 dX10_pointsNow_61 (by decide) ?_
      exact Wt.sub (L' := [(0, vr 64), (1, vi x1), (2, vi x2), (3, vi a4)]) [1, 2, 3, 0] rfl (h4 _ _ _ M hF)
    · replace hF := ifT hc hF
      refine w_aload_n hB 0 dX10_pointsNow_31 rfl rfl ?_
      refine w_getC hB (v := 217) ff_X10_6 sh_64 hp.1 cr_64_6 (by decide) q_479 dX10_pointsNow_32 ?_
      refine w_iload_n hB 3 dX10_pointsNow_35 rfl rfl ?_
      obtain ⟨r1, M1m, hc_M1m, hF⟩ := clS hF
      refine w_callV hB (ci := 2) (As := [vi x3]) (st := []) cw_X10_178 q_760 q_761 rfl sh_217 (Or.inl hp.1) (c_X3_call hp hc_M1m) ⟨rfl, rfl⟩ (by decide) (by decide) rfl (Nat.le_of_ble_eq_true rfl) dX10_pointsNow_36 rfl ?_
      refine w_iconst hB 1 (by decide) dX10_pointsNow_39 ?_
      refine w_icmp_ne hB 58 dX10_pointsNow_40 (by decide) (fun hc => ?_) (fun hc => ?_)
      · replace hF := ifF hc hF
        obtain ⟨a3, e_a3, hF⟩ := bndS hF
        refine w_iinc hB 3 (v := 1) (L' := [(3, vi a3), (0, vr 64), (1, vi x1), (2, vi x2)]) dX10_pointsNow_58 rfl (by decide) (by decide) e_a3 rfl ?_
        refine w_goto hB 4 dX10_pointsNow_61 (by decide) ?_
        exact Wt.sub (L' := [(0, vr 64), (1, vi x1), (2, vi x2), (3, vi a3)]) [1, 2, 3, 0] rfl (h4 _ _ _ M1m hF)
      · replace hF := ifT hc hF
        refine w_iload_n hB 2 dX10_pointsNow_43 rfl rfl ?_
        refine w_aload_n hB 0 dX10_pointsNow_44 rfl rfl ?_
        refine w_getR hB ff_X10_2 sh_64 (Or.inl hp.1) q_475 dX10_pointsNow_45 ?_
        obtain ⟨g3, hF⟩ := gdS hF
        refine w_getC hB (v := cr (M1m.2.2.1 64 2) 12) ff_X9_12 g3 hp.1 rfl (shc_ne (crc_8_12 g3).1) q_313 dX10_pointsNow_48 ?_
        refine w_iload_n hB 3 dX10_pointsNow_51 rfl rfl ?_
        refine w_aaldC hB (c := 6) (v := cr (cr (M1m.2.2.1 64 2) 12) x3.toNatClampNeg) (crc_8_12 g3).1 rfl (by decide) hp.1 (crc_8_12 g3).2 g2 rfl (shc_ne (cre_26 (crc_8_12 g3).1 (by rw [(crc_8_12 g3).2]; exact inb_lt g2))) dX10_pointsNow_52 ?_
        refine w_getI hB ff_X6_3 (cre_26 (crc_8_12 g3).1 (by rw [(crc_8_12 g3).2]; exact inb_lt g2)) (Or.inl hp.1) q_206 dX10_pointsNow_53 ?_
        refine w_iadd hB dX10_pointsNow_56 ?_
        obtain ⟨a1, e_a1, hF⟩ := bndS hF
        refine w_istore_n hB (L' := [(2, vi a1), (0, vr 64), (1, vi x1), (3, vi x3)]) dX10_pointsNow_57 rfl (by decide) e_a1 rfl ?_
        obtain ⟨a2, e_a2, hF⟩ := bndS hF
        refine w_iinc hB 3 (v := 1) (L' := [(3, vi a2), (2, vi a1), (0, vr 64), (1, vi x1)]) dX10_pointsNow_58 rfl (by decide) (by decide) e_a2 rfl ?_
        refine w_goto hB 4 dX10_pointsNow_61 (by decide) ?_
        exact Wt.sub (L' := [(0, vr 64), (1, vi x1), (2, vi a1), (3, vi a2)]) [2, 3, 1, 0] rfl (h4 _ _ _ M1m hF)
def f_X10_pointsNow_b4 (k : Nat) : Int32 → Int32 → Int32 → Mem → Option (Int32 × Mem) := lpN (fun _ _ _ _ => none) (f_X10_pointsNow_b4_s) k
theorem b_X10_pointsNow_b4 {K : Kt} {X : Xt} (hp : St K) (hB : Bx K X { frames := 1, cells := 0, slots := 0, locals := 21 } cX10_pointsNow 4 RX10 (some .int)) {r : Int32} {M1 : Mem} (k : Nat) : ∀ (x1 : Int32) (x2 : Int32) (x3 : Int32) M, f_X10_pointsNow_b4 k x1 x2 x3 M = some (r, M1) → Wt K X (QM K X (some (vi r)) M1 0 0) 0 0 M 4 [(0, vr 64), (1, vi x1), (2, vi x2), (3, vi x3)] [] := by
  refine lpN_ind (P := fun (f : Int32 → Int32 → Int32 → Mem → Option (Int32 × Mem)) => ∀ (x1 : Int32) (x2 : Int32) (x3 : Int32) M, f x1 x2 x3 M = some (r, M1) → Wt K X (QM K X (some (vi r)) M1 0 0) 0 0 M 4 [(0, vr 64), (1, vi x1), (2, vi x2), (3, vi x3)] []) (fun _ _ _ _ h => by cases h) (fun f hf x1 x2 x3 M hF => ?_) k
  exact b_X10_pointsNow_b4_s hp hB hf hF
def f_X10_pointsNow (x1 : Int32) (M : Mem) : Option (Int32 × Mem) :=
  f_X10_pointsNow_b4 fuel x1 0 0 M
set_option maxRecDepth 100000 in
set_option maxHeartbeats 4000000 in
theorem b_X10_pointsNow {K : Kt} {X : Xt} (hp : St K) (hB : Bx K X { frames := 1, cells := 0, slots := 0, locals := 21 } cX10_pointsNow 4 RX10 (some .int)) {r : Int32} {M1 : Mem} {x1 : Int32} {M : Mem} (hF : f_X10_pointsNow x1 M = some (r, M1)) : Wt K X (QM K X (some (vi r)) M1 0 0) 0 0 M 0 [(0, vr 64), (1, vi x1)] [] := by
  unfold f_X10_pointsNow at hF
  refine w_iconst hB 0 (by decide) dX10_pointsNow_0 ?_
  refine w_istore_n hB (L' := [(2, vi 0), (0, vr 64), (1, vi x1)]) dX10_pointsNow_1 rfl (by decide) rfl rfl ?_
  refine w_iconst hB 0 (by decide) dX10_pointsNow_2 ?_
  refine w_istore_n hB (L' := [(3, vi 0), (2, vi 0), (0, vr 64), (1, vi x1)]) dX10_pointsNow_3 rfl (by decide) rfl rfl ?_
  exact Wt.sub (L' := [(0, vr 64), (1, vi x1), (2, vi 0), (3, vi 0)]) [2, 3, 1, 0] rfl (b_X10_pointsNow_b4 hp hB fuel _ _ _ M hF)
theorem c_X10_pointsNow {K : Kt} {l : Launch} (hp : St K) {r : Int32} {M1 : Mem} {x1 : Int32} {M : Mem} (hF : f_X10_pointsNow x1 M = some (r, M1)) : MT K l yX10_pointsNow cX10_pointsNow 4 (some .int) { frames := 1, cells := 0, slots := 0, locals := 21 } [vr 64, vi x1] M (some (vi r)) M1 0 0 :=
  MT_of (by decide) rfl (Nat.le_of_ble_eq_true rfl) (fun X _ hB _ => b_X10_pointsNow hp hB hF)
def f_X10_side (x1 : Int32) (x2 : Int32) (M : Mem) : Option (Int32 × Mem) :=
  cl (f_X10_isSide x1 M) fun r1 M1m =>
  if r1 = 0 then
    some ((-1), M1m)
  else
    if x2 = 0 then
      gd (shc (M1m.2.2.1 64 2) = 8) <|
      gd (inb x1 4) <|
      some (M1m.1 (cr (M1m.2.2.1 64 2) 6) x1.toNatClampNeg, M1m)
    else
    if x2 = 1 then
      gd (inb x1 4) <|
      some (M1m.1 219 x1.toNatClampNeg, M1m)
    else
    if x2 = 2 then
      gd (inb x1 4) <|
      some (M1m.1 220 x1.toNatClampNeg, M1m)
    else
    if x2 = 3 then
      cl (f_X10_pointsNow x1 M1m) fun r2 M2m =>
      some (r2, M2m)
    else
      some ((-1), M1m)
set_option maxRecDepth 100000 in
set_option maxHeartbeats 4000000 in
theorem b_X10_side {K : Kt} {X : Xt} (hp : St K) (hB : Bx K X { frames := 2, cells := 0, slots := 0, locals := 44 } cX10_side 3 RX10 (some .int)) {r : Int32} {M1 : Mem} {x1 : Int32} {x2 : Int32} {M : Mem} (hF : f_X10_side x1 x2 M = some (r, M1)) : Wt K X (QM K X (some (vi r)) M1 0 0) 0 0 M 0 [(0, vr 64), (1, vi x1), (2, vi x2)] [] := by
  unfold f_X10_side at hF
  refine w_aload_n hB 0 dX10_side_0 rfl rfl ?_
  refine w_iload_n hB 1 dX10_side_1 rfl rfl ?_
  obtain ⟨r1, M1m, hc_M1m, hF⟩ := clS hF
  refine w_callV hB (ci := 8) (As := [vi x1]) (st := []) cw_X10_150 q_753 q_1 rfl sh_64 (Or.inl hp.1) (c_X10_isSide hp hc_M1m) ⟨rfl, rfl⟩ (by decide) (by decide) rfl (Nat.le_of_ble_eq_true rfl) dX10_side_2 rfl ?_
  refine w_if_ne hB 10 dX10_side_5 (by decide) (fun hc => ?_) (fun hc => ?_)
  · replace hF := ifF hc hF
    refine w_iload_n hB 2 dX10_side_10 rfl rfl ?_
    by_cases ht0 : x2 = 0
    · replace hF := ifT ht0 hF
      refine w_tsIn hB 40 dX10_side_11 (off := 29) (by rw [ht0]; decide) (by rw [ht0]; decide) (by rw [ht0]; rfl) (by decide) ?_
      refine w_aload_n hB 0 dX10_side_40 rfl rfl ?_
      refine w_getR hB ff_X10_2 sh_64 (Or.inl hp.1) q_475 dX10_side_41 ?_
      obtain ⟨g1, hF⟩ := gdS hF
      refine w_getC hB (v := cr (M1m.2.2.1 64 2) 6) ff_X9_6 g1 hp.1 rfl (shc_ne (crc_8_6 g1).1) q_294 dX10_side_44 ?_
      refine w_iload_n hB 1 dX10_side_47 rfl rfl ?_
      obtain ⟨g2, hF⟩ := gdS hF
      refine w_iald hB (crc_8_6 g1).1 (Or.inl hp.1) (crc_8_6 g1).2 g2 dX10_side_48 ?_
      obtain ⟨e1, e2⟩ := retS hF
      subst e2
      exact w_iret hB dX10_side_49 e1
    replace hF := ifF ht0 hF
    by_cases ht1 : x2 = 1
    · replace hF := ifT ht1 hF
      refine w_tsIn hB 50 dX10_side_11 (off := 39) (by rw [ht1]; decide) (by rw [ht1]; decide) (by rw [ht1]; rfl) (by decide) ?_
      refine w_aload_n hB 0 dX10_side_50 rfl rfl ?_
      refine w_getC hB (v := 217) ff_X10_6 sh_64 hp.1 cr_64_6 (by decide) q_479 dX10_side_51 ?_
      refine w_getC hB (v := 219) ff_X3_5 sh_217 hp.1 cr_217_5 (by decide) q_442 dX10_side_54 ?_
      refine w_iload_n hB 1 dX10_side_57 rfl rfl ?_
      obtain ⟨g3, hF⟩ := gdS hF
      refine w_iald hB sh_219 (Or.inl hp.1) sl_219 g3 dX10_side_58 ?_
      obtain ⟨e1, e2⟩ := retS hF
      subst e2
      exact w_iret hB dX10_side_59 e1
    replace hF := ifF ht1 hF
    by_cases ht2 : x2 = 2
    · replace hF := ifT ht2 hF
      refine w_tsIn hB 60 dX10_side_11 (off := 49) (by rw [ht2]; decide) (by rw [ht2]; decide) (by rw [ht2]; rfl) (by decide) ?_
      refine w_aload_n hB 0 dX10_side_60 rfl rfl ?_
      refine w_getC hB (v := 217) ff_X10_6 sh_64 hp.1 cr_64_6 (by decide) q_479 dX10_side_61 ?_
      refine w_getC hB (v := 220) ff_X3_6 sh_217 hp.1 cr_217_6 (by decide) q_444 dX10_side_64 ?_
      refine w_iload_n hB 1 dX10_side_67 rfl rfl ?_
      obtain ⟨g4, hF⟩ := gdS hF
      refine w_iald hB sh_220 (Or.inl hp.1) sl_220 g4 dX10_side_68 ?_
      obtain ⟨e1, e2⟩ := retS hF
      subst e2
      exact w_iret hB dX10_side_69 e1
    replace hF := ifF ht2 hF
    by_cases ht3 : x2 = 3
    · replace hF := ifT ht3 hF
      refine w_tsIn hB 70 dX10_side_11 (off := 59) (by rw [ht3]; decide) (by rw [ht3]; decide) (by rw [ht3]; rfl) (by decide) ?_
      refine w_aload_n hB 0 dX10_side_70 rfl rfl ?_
      refine w_iload_n hB 1 dX10_side_71 rfl rfl ?_
      obtain ⟨r2, M2m, hc_M2m, hF⟩ := clS hF
      refine w_callV hB (ci := 8) (As := [vi x1]) (st := []) cw_X10_163 q_757 q_2 rfl sh_64 (Or.inl hp.1) (c_X10_pointsNow hp hc_M2m) ⟨rfl, rfl⟩ (by decide) (by decide) rfl (Nat.le_of_ble_eq_true rfl) dX10_side_72 rfl ?_
      obtain ⟨e1, e2⟩ := retS hF
      subst e2
      exact w_iret hB dX10_side_75 e1
    replace hF := ifF ht3 hF
    have tht0 := lv_neT ht0 (show (0 : Int32).toInt = 0 by decide)
    have tht1 := lv_neT ht1 (show (1 : Int32).toInt = 1 by decide)
    have tht2 := lv_neT ht2 (show (2 : Int32).toInt = 2 by decide)
    have tht3 := lv_neT ht3 (show (3 : Int32).toInt = 3 by decide)
    refine w_tsOut hB 76 dX10_side_11 (by omega) (by decide) ?_
    refine w_iconst hB (-1) (by decide) dX10_side_76 ?_
    obtain ⟨e1, e2⟩ := retS hF
    subst e2
    exact w_iret hB dX10_side_77 e1
  · replace hF := ifT hc hF
    refine w_iconst hB (-1) (by decide) dX10_side_8 ?_
    obtain ⟨e1, e2⟩ := retS hF
    subst e2
    exact w_iret hB dX10_side_9 e1
theorem c_X10_side {K : Kt} {l : Launch} (hp : St K) {r : Int32} {M1 : Mem} {x1 : Int32} {x2 : Int32} {M : Mem} (hF : f_X10_side x1 x2 M = some (r, M1)) : MT K l yX10_side cX10_side 3 (some .int) { frames := 2, cells := 0, slots := 0, locals := 44 } [vr 64, vi x1, vi x2] M (some (vi r)) M1 0 0 :=
  MT_of (by decide) rfl (Nat.le_of_ble_eq_true rfl) (fun X _ hB _ => b_X10_side hp hB hF)
def f_X10_isPlay (x1 : Int32) (M : Mem) : Option (Int32 × Mem) :=
  if x1 < 0 then
    some (0, M)
  else
    gd (shc (M.2.2.1 64 2) = 8) <|
    if (M.1 (M.2.2.1 64 2) 11) ≤ x1 then
      some (0, M)
    else
      some (1, M)
set_option maxRecDepth 100000 in
set_option maxHeartbeats 4000000 in
theorem b_X10_isPlay {K : Kt} {X : Xt} (hp : St K) (hB : Bx K X { frames := 0, cells := 0, slots := 0, locals := 0 } cX10_isPlay 2 RX10 (some .boolean)) {r : Int32} {M1 : Mem} {x1 : Int32} {M : Mem} (hF : f_X10_isPlay x1 M = some (r, M1)) : Wt K X (QM K X (some (vi r)) M1 0 0) 0 0 M 0 [(0, vr 64), (1, vi x1)] [] := by
  unfold f_X10_isPlay at hF
  refine w_iload_n hB 1 dX10_isPlay_0 rfl rfl ?_
  refine w_if_lt hB 19 dX10_isPlay_1 (by decide) (fun hc => ?_) (fun hc => ?_)
  · replace hF := ifT hc hF
    refine w_iconst hB 0 (by decide) dX10_isPlay_19 ?_
    obtain ⟨e1, e2⟩ := retS hF
    subst e2
    exact w_zret hB (by decide) dX10_isPlay_20 e1
  · replace hF := ifF hc hF
    refine w_iload_n hB 1 dX10_isPlay_4 rfl rfl ?_
    refine w_aload_n hB 0 dX10_isPlay_5 rfl rfl ?_
    refine w_getR hB ff_X10_2 sh_64 (Or.inl hp.1) q_475 dX10_isPlay_6 ?_
    obtain ⟨g1, hF⟩ := gdS hF
    refine w_getI hB ff_X9_11 g1 (Or.inl hp.1) q_310 dX10_isPlay_9 ?_
    refine w_icmp_ge hB 19 dX10_isPlay_12 (by decide) (fun hc => ?_) (fun hc => ?_)
    · replace hF := ifT hc hF
      refine w_iconst hB 0 (by decide) dX10_isPlay_19 ?_
      obtain ⟨e1, e2⟩ := retS hF
      subst e2
      exact w_zret hB (by decide) dX10_isPlay_20 e1
    · replace hF := ifF hc hF
      refine w_iconst hB 1 (by decide) dX10_isPlay_15 ?_
      refine w_goto hB 20 dX10_isPlay_16 (by decide) ?_
      obtain ⟨e1, e2⟩ := retS hF
      subst e2
      exact w_zret hB (by decide) dX10_isPlay_20 e1
theorem c_X10_isPlay {K : Kt} {l : Launch} (hp : St K) {r : Int32} {M1 : Mem} {x1 : Int32} {M : Mem} (hF : f_X10_isPlay x1 M = some (r, M1)) : MT K l yX10_isPlay cX10_isPlay 2 (some .boolean) { frames := 0, cells := 0, slots := 0, locals := 0 } [vr 64, vi x1] M (some (vi r)) M1 0 0 :=
  MT_of (by decide) rfl (Nat.le_of_ble_eq_true rfl) (fun X _ hB _ => b_X10_isPlay hp hB hF)
def f_X10_play (x1 : Int32) (x2 : Int32) (M : Mem) : Option (Int32 × Mem) :=
  cl (f_X10_isPlay x1 M) fun r1 M1m =>
  if r1 = 0 then
    some ((-1), M1m)
  else
    gd (shc (M1m.2.2.1 64 2) = 8) <|
    gd (inb x1 8) <|
    bnd (cr (cr (M1m.2.2.1 64 2) 12) x1.toNatClampNeg) fun o1 =>
    if x2 = 0 then
      some (M1m.1 o1 0, M1m)
    else
    if x2 = 1 then
      some (M1m.1 o1 1, M1m)
    else
    if x2 = 2 then
      some (M1m.1 o1 2, M1m)
    else
    if x2 = 3 then
      some (M1m.1 o1 3, M1m)
    else
    if x2 = 4 then
      some (M1m.1 o1 4, M1m)
    else
    if x2 = 5 then
      some (M1m.1 o1 5, M1m)
    else
    if x2 = 6 then
      if (M1m.1 217 0) ≤ x1 then
        some ((-2), M1m)
      else
        cl (f_X3_call 217 x1 M1m) fun r2 M2m =>
        some (r2, M2m)
    else
    if x2 = 7 then
      cl (f_X3_isReviewed 217 x1 M1m) fun r3 M3m =>
      if r3 = 0 then
        some (0, M3m)
      else
        some (1, M3m)
    else
    if x2 = 8 then
      cl (f_X3_isBoarded 217 x1 M1m) fun r4 M4m =>
      if r4 = 0 then
        some (0, M4m)
      else
        some (1, M4m)
    else
      some ((-1), M1m)
set_option maxRecDepth 100000 in
set_option maxHeartbeats 4000000 in
theorem b_X10_play {K : Kt} {X : Xt} (hp : St K) (hB : Bx K X { frames := 1, cells := 0, slots := 0, locals := 21 } cX10_play 4 RX10 (some .int)) {r : Int32} {M1 : Mem} {x1 : Int32} {x2 : Int32} {M : Mem} (hF : f_X10_play x1 x2 M = some (r, M1)) : Wt K X (QM K X (some (vi r)) M1 0 0) 0 0 M 0 [(0, vr 64), (1, vi x1), (2, vi x2)] [] := by
  unfold f_X10_play at hF
  refine w_aload_n hB 0 dX10_play_0 rfl rfl ?_
  refine w_iload_n hB 1 dX10_play_1 rfl rfl ?_
  obtain ⟨r1, M1m, hc_M1m, hF⟩ := clS hF
  refine w_callV hB (ci := 8) (As := [vi x1]) (st := []) cw_X10_184 q_769 q_3 rfl sh_64 (Or.inl hp.1) (c_X10_isPlay hp hc_M1m) ⟨rfl, rfl⟩ (by decide) (by decide) rfl (Nat.le_of_ble_eq_true rfl) dX10_play_2 rfl ?_
  refine w_if_ne hB 10 dX10_play_5 (by decide) (fun hc => ?_) (fun hc => ?_)
  · replace hF := ifF hc hF
    refine w_aload_n hB 0 dX10_play_10 rfl rfl ?_
    refine w_getR hB ff_X10_2 sh_64 (Or.inl hp.1) q_475 dX10_play_11 ?_
    obtain ⟨g1, hF⟩ := gdS hF
    refine w_getC hB (v := cr (M1m.2.2.1 64 2) 12) ff_X9_12 g1 hp.1 rfl (shc_ne (crc_8_12 g1).1) q_313 dX10_play_14 ?_
    refine w_iload_n hB 1 dX10_play_17 rfl rfl ?_
    obtain ⟨g2, hF⟩ := gdS hF
    refine w_aaldC hB (c := 6) (v := cr (cr (M1m.2.2.1 64 2) 12) x1.toNatClampNeg) (crc_8_12 g1).1 rfl (by decide) hp.1 (crc_8_12 g1).2 g2 rfl (shc_ne (cre_26 (crc_8_12 g1).1 (by rw [(crc_8_12 g1).2]; exact inb_lt g2))) dX10_play_18 ?_
    obtain ⟨o1, e_o1, hF⟩ := bndS hF
    rw [← e_o1]
    refine w_astore_n hB (L' := [(3, vr o1), (0, vr 64), (1, vi x1), (2, vi x2)]) dX10_play_19 rfl (by decide) rfl ?_
    refine w_iload_n hB 3 dX10_play_20 rfl rfl ?_
    by_cases ht0 : x2 = 0
    · replace hF := ifT ht0 hF
      refine w_tsIn hB 72 dX10_play_21 (off := 51) (by rw [ht0]; decide) (by rw [ht0]; decide) (by rw [ht0]; rfl) (by decide) ?_
      refine w_aload_n hB 0 dX10_play_72 rfl rfl ?_
      refine w_getI hB ff_X6_0 (by rw [e_o1]; exact (cre_26 (crc_8_12 g1).1 (by rw [(crc_8_12 g1).2]; exact inb_lt g2))) (Or.inl hp.1) q_198 dX10_play_73 ?_
      obtain ⟨e1, e2⟩ := retS hF
      subst e2
      exact w_iret hB dX10_play_76 e1
    replace hF := ifF ht0 hF
    by_cases ht1 : x2 = 1
    · replace hF := ifT ht1 hF
      refine w_tsIn hB 77 dX10_play_21 (off := 56) (by rw [ht1]; decide) (by rw [ht1]; decide) (by rw [ht1]; rfl) (by decide) ?_
      refine w_aload_n hB 0 dX10_play_77 rfl rfl ?_
      refine w_getI hB ff_X6_1 (by rw [e_o1]; exact (cre_26 (crc_8_12 g1).1 (by rw [(crc_8_12 g1).2]; exact inb_lt g2))) (Or.inl hp.1) q_202 dX10_play_78 ?_
      obtain ⟨e1, e2⟩ := retS hF
      subst e2
      exact w_iret hB dX10_play_81 e1
    replace hF := ifF ht1 hF
    by_cases ht2 : x2 = 2
    · replace hF := ifT ht2 hF
      refine w_tsIn hB 82 dX10_play_21 (off := 61) (by rw [ht2]; decide) (by rw [ht2]; decide) (by rw [ht2]; rfl) (by decide) ?_
      refine w_aload_n hB 0 dX10_play_82 rfl rfl ?_
      refine w_getI hB ff_X6_2 (by rw [e_o1]; exact (cre_26 (crc_8_12 g1).1 (by rw [(crc_8_12 g1).2]; exact inb_lt g2))) (Or.inl hp.1) q_204 dX10_play_83 ?_
      obtain ⟨e1, e2⟩ := retS hF
      subst e2
      exact w_iret hB dX10_play_86 e1
    replace hF := ifF ht2 hF
    by_cases ht3 : x2 = 3
    · replace hF := ifT ht3 hF
      refine w_tsIn hB 87 dX10_play_21 (off := 66) (by rw [ht3]; decide) (by rw [ht3]; decide) (by rw [ht3]; rfl) (by decide) ?_
      refine w_aload_n hB 0 dX10_play_87 rfl rfl ?_
      refine w_getI hB ff_X6_3 (by rw [e_o1]; exact (cre_26 (crc_8_12 g1).1 (by rw [(crc_8_12 g1).2]; exact inb_lt g2))) (Or.inl hp.1) q_206 dX10_play_88 ?_
      obtain ⟨e1, e2⟩ := retS hF
      subst e2
      exact w_iret hB dX10_play_91 e1
    replace hF := ifF ht3 hF
    by_cases ht4 : x2 = 4
    · replace hF := ifT ht4 hF
      refine w_tsIn hB 92 dX10_play_21 (off := 71) (by rw [ht4]; decide) (by rw [ht4]; decide) (by rw [ht4]; rfl) (by decide) ?_
      refine w_aload_n hB 0 dX10_play_92 rfl rfl ?_
      refine w_getI hB ff_X6_4 (by rw [e_o1]; exact (cre_26 (crc_8_12 g1).1 (by rw [(crc_8_12 g1).2]; exact inb_lt g2))) (Or.inl hp.1) q_208 dX10_play_93 ?_
      obtain ⟨e1, e2⟩ := retS hF
      subst e2
      exact w_iret hB dX10_play_96 e1
    replace hF := ifF ht4 hF
    by_cases ht5 : x2 = 5
    · replace hF := ifT ht5 hF
      refine w_tsIn hB 97 dX10_play_21 (off := 76) (by rw [ht5]; decide) (by rw [ht5]; decide) (by rw [ht5]; rfl) (by decide) ?_
      refine w_aload_n hB 0 dX10_play_97 rfl rfl ?_
      refine w_getI hB ff_X6_5 (by rw [e_o1]; exact (cre_26 (crc_8_12 g1).1 (by rw [(crc_8_12 g1).2]; exact inb_lt g2))) (Or.inl hp.1) q_212 dX10_play_98 ?_
      obtain ⟨e1, e2⟩ := retS hF
      subst e2
      exact w_iret hB dX10_play_101 e1
    replace hF := ifF ht5 hF
    by_cases ht6 : x2 = 6
    · replace hF := ifT ht6 hF
      refine w_tsIn hB 102 dX10_play_21 (off := 81) (by rw [ht6]; decide) (by rw [ht6]; decide) (by rw [ht6]; rfl) (by decide) ?_
      refine w_iload_n hB 2 dX10_play_102 rfl rfl ?_
      refine w_aload_n hB 1 dX10_play_103 rfl rfl ?_
      refine w_getC hB (v := 217) ff_X10_6 sh_64 hp.1 cr_64_6 (by decide) q_479 dX10_play_104 ?_
      refine w_getI hB ff_X3_0 sh_217 (Or.inl hp.1) q_433 dX10_play_107 ?_
      refine w_icmp_ge hB 124 dX10_play_110 (by decide) (fun hc => ?_) (fun hc => ?_)
      · replace hF := ifT hc hF
        refine w_bipush hB (-2) (by decide) dX10_play_124 ?_
        obtain ⟨e1, e2⟩ := retS hF
        subst e2
        exact w_iret hB dX10_play_126 e1
      · replace hF := ifF hc hF
        refine w_aload_n hB 1 dX10_play_113 rfl rfl ?_
        refine w_getC hB (v := 217) ff_X10_6 sh_64 hp.1 cr_64_6 (by decide) q_479 dX10_play_114 ?_
        refine w_iload_n hB 2 dX10_play_117 rfl rfl ?_
        obtain ⟨r2, M2m, hc_M2m, hF⟩ := clS hF
        refine w_callV hB (ci := 2) (As := [vi x1]) (st := []) cw_X10_178 q_760 q_761 rfl sh_217 (Or.inl hp.1) (c_X3_call hp hc_M2m) ⟨rfl, rfl⟩ (by decide) (by decide) rfl (Nat.le_of_ble_eq_true rfl) dX10_play_118 rfl ?_
        refine w_goto hB 126 dX10_play_121 (by decide) ?_
        obtain ⟨e1, e2⟩ := retS hF
        subst e2
        exact w_iret hB dX10_play_126 e1
    replace hF := ifF ht6 hF
    by_cases ht7 : x2 = 7
    · replace hF := ifT ht7 hF
      refine w_tsIn hB 127 dX10_play_21 (off := 106) (by rw [ht7]; decide) (by rw [ht7]; decide) (by rw [ht7]; rfl) (by decide) ?_
      refine w_aload_n hB 1 dX10_play_127 rfl rfl ?_
      refine w_getC hB (v := 217) ff_X10_6 sh_64 hp.1 cr_64_6 (by decide) q_479 dX10_play_128 ?_
      refine w_iload_n hB 2 dX10_play_131 rfl rfl ?_
      obtain ⟨r3, M3m, hc_M3m, hF⟩ := clS hF
      refine w_callV hB (ci := 2) (As := [vi x1]) (st := []) cw_X10_197 q_772 q_773 rfl sh_217 (Or.inl hp.1) (c_X3_isReviewed hp hc_M3m) ⟨rfl, rfl⟩ (by decide) (by decide) rfl (Nat.le_of_ble_eq_true rfl) dX10_play_132 rfl ?_
      refine w_if_eq hB 142 dX10_play_135 (by decide) (fun hc => ?_) (fun hc => ?_)
      · replace hF := ifT hc hF
        refine w_iconst hB 0 (by decide) dX10_play_142 ?_
        obtain ⟨e1, e2⟩ := retS hF
        subst e2
        exact w_iret hB dX10_play_143 e1
      · replace hF := ifF hc hF
        refine w_iconst hB 1 (by decide) dX10_play_138 ?_
        refine w_goto hB 143 dX10_play_139 (by decide) ?_
        obtain ⟨e1, e2⟩ := retS hF
        subst e2
        exact w_iret hB dX10_play_143 e1
    replace hF := ifF ht7 hF
    by_cases ht8 : x2 = 8
    · replace hF := ifT ht8 hF
      refine w_tsIn hB 144 dX10_play_21 (off := 123) (by rw [ht8]; decide) (by rw [ht8]; decide) (by rw [ht8]; rfl) (by decide) ?_
      refine w_aload_n hB 1 dX10_play_144 rfl rfl ?_
      refine w_getC hB (v := 217) ff_X10_6 sh_64 hp.1 cr_64_6 (by decide) q_479 dX10_play_145 ?_
      refine w_iload_n hB 2 dX10_play_148 rfl rfl ?_
      obtain ⟨r4, M4m, hc_M4m, hF⟩ := clS hF
      refine w_callV hB (ci := 2) (As := [vi x1]) (st := []) cw_X10_200 q_776 q_777 rfl sh_217 (Or.inl hp.1) (c_X3_isBoarded hp hc_M4m) ⟨rfl, rfl⟩ (by decide) (by decide) rfl (Nat.le_of_ble_eq_true rfl) dX10_play_149 rfl ?_
      refine w_if_eq hB 159 dX10_play_152 (by decide) (fun hc => ?_) (fun hc => ?_)
      · replace hF := ifT hc hF
        refine w_iconst hB 0 (by decide) dX10_play_159 ?_
        obtain ⟨e1, e2⟩ := retS hF
        subst e2
        exact w_iret hB dX10_play_160 e1
      · replace hF := ifF hc hF
        refine w_iconst hB 1 (by decide) dX10_play_155 ?_
        refine w_goto hB 160 dX10_play_156 (by decide) ?_
        obtain ⟨e1, e2⟩ := retS hF
        subst e2
        exact w_iret hB dX10_play_160 e1
    replace hF := ifF ht8 hF
    have tht0 := lv_neT ht0 (show (0 : Int32).toInt = 0 by decide)
    have tht1 := lv_neT ht1 (show (1 : Int32).toInt = 1 by decide)
    have tht2 := lv_neT ht2 (show (2 : Int32).toInt = 2 by decide)
    have tht3 := lv_neT ht3 (show (3 : Int32).toInt = 3 by decide)
    have tht4 := lv_neT ht4 (show (4 : Int32).toInt = 4 by decide)
    have tht5 := lv_neT ht5 (show (5 : Int32).toInt = 5 by decide)
    have tht6 := lv_neT ht6 (show (6 : Int32).toInt = 6 by decide)
    have tht7 := lv_neT ht7 (show (7 : Int32).toInt = 7 by decide)
    have tht8 := lv_neT ht8 (show (8 : Int32).toInt = 8 by decide)
    refine w_tsOut hB 161 dX10_play_21 (by omega) (by decide) ?_
    refine w_iconst hB (-1) (by decide) dX10_play_161 ?_
    obtain ⟨e1, e2⟩ := retS hF
    subst e2
    exact w_iret hB dX10_play_162 e1
  · replace hF := ifT hc hF
    refine w_iconst hB (-1) (by decide) dX10_play_8 ?_
    obtain ⟨e1, e2⟩ := retS hF
    subst e2
    exact w_iret hB dX10_play_9 e1
theorem c_X10_play {K : Kt} {l : Launch} (hp : St K) {r : Int32} {M1 : Mem} {x1 : Int32} {x2 : Int32} {M : Mem} (hF : f_X10_play x1 x2 M = some (r, M1)) : MT K l yX10_play cX10_play 4 (some .int) { frames := 1, cells := 0, slots := 0, locals := 21 } [vr 64, vi x1, vi x2] M (some (vi r)) M1 0 0 :=
  MT_of (by decide) rfl (Nat.le_of_ble_eq_true rfl) (fun X _ hB _ => b_X10_play hp hB hF)
def f_X10_isBoard (x1 : Int32) (M : Mem) : Option (Int32 × Mem) :=
  if x1 < 0 then
    some (0, M)
  else
    gd (shc (M.2.2.1 64 2) = 8) <|
    if (M.1 (M.2.2.1 64 2) 9) ≤ x1 then
      some (0, M)
    else
      some (1, M)
set_option maxRecDepth 100000 in
set_option maxHeartbeats 4000000 in
theorem b_X10_isBoard {K : Kt} {X : Xt} (hp : St K) (hB : Bx K X { frames := 0, cells := 0, slots := 0, locals := 0 } cX10_isBoard 2 RX10 (some .boolean)) {r : Int32} {M1 : Mem} {x1 : Int32} {M : Mem} (hF : f_X10_isBoard x1 M = some (r, M1)) : Wt K X (QM K X (some (vi r)) M1 0 0) 0 0 M 0 [(0, vr 64), (1, vi x1)] [] := by
  unfold f_X10_isBoard at hF
  refine w_iload_n hB 1 dX10_isBoard_0 rfl rfl ?_
  refine w_if_lt hB 19 dX10_isBoard_1 (by decide) (fun hc => ?_) (fun hc => ?_)
  · replace hF := ifT hc hF
    refine w_iconst hB 0 (by decide) dX10_isBoard_19 ?_
    obtain ⟨e1, e2⟩ := retS hF
    subst e2
    exact w_zret hB (by decide) dX10_isBoard_20 e1
  · replace hF := ifF hc hF
    refine w_iload_n hB 1 dX10_isBoard_4 rfl rfl ?_
    refine w_aload_n hB 0 dX10_isBoard_5 rfl rfl ?_
    refine w_getR hB ff_X10_2 sh_64 (Or.inl hp.1) q_475 dX10_isBoard_6 ?_
    obtain ⟨g1, hF⟩ := gdS hF
    refine w_getI hB ff_X9_9 g1 (Or.inl hp.1) q_304 dX10_isBoard_9 ?_
    refine w_icmp_ge hB 19 dX10_isBoard_12 (by decide) (fun hc => ?_) (fun hc => ?_)
    · replace hF := ifT hc hF
      refine w_iconst hB 0 (by decide) dX10_isBoard_19 ?_
      obtain ⟨e1, e2⟩ := retS hF
      subst e2
      exact w_zret hB (by decide) dX10_isBoard_20 e1
    · replace hF := ifF hc hF
      refine w_iconst hB 1 (by decide) dX10_isBoard_15 ?_
      refine w_goto hB 20 dX10_isBoard_16 (by decide) ?_
      obtain ⟨e1, e2⟩ := retS hF
      subst e2
      exact w_zret hB (by decide) dX10_isBoard_20 e1
theorem c_X10_isBoard {K : Kt} {l : Launch} (hp : St K) {r : Int32} {M1 : Mem} {x1 : Int32} {M : Mem} (hF : f_X10_isBoard x1 M = some (r, M1)) : MT K l yX10_isBoard cX10_isBoard 2 (some .boolean) { frames := 0, cells := 0, slots := 0, locals := 0 } [vr 64, vi x1] M (some (vi r)) M1 0 0 :=
  MT_of (by decide) rfl (Nat.le_of_ble_eq_true rfl) (fun X _ hB _ => b_X10_isBoard hp hB hF)
def f_X10_verdict (x1 : Int32) (x2 : Int32) (M : Mem) : Option (Int32 × Mem) :=
  cl (f_X10_isPlay x1 M) fun r1 M1m =>
  if r1 = 0 then
    some ((-1), M1m)
  else
    if x2 < 0 then
      some ((-1), M1m)
    else
      gd (shc (M1m.2.2.1 64 2) = 8) <|
      gd (inb x1 8) <|
      if x2 ≤ (M1m.1 (cr (cr (M1m.2.2.1 64 2) 12) x1.toNatClampNeg) 5) then
        cl (f_X4_byFrames (M1m.2.2.1 64 2) (cr (cr (M1m.2.2.1 64 2) 12) x1.toNatClampNeg) (((1 : Int32) <<< (x2 &&& 31)) - 1) M1m) fun r2 M2m =>
        some (r2, M2m)
      else
        some ((-1), M1m)
set_option maxRecDepth 100000 in
set_option maxHeartbeats 4000000 in
theorem b_X10_verdict {K : Kt} {X : Xt} (hp : St K) (hB : Bx K X { frames := 4, cells := 0, slots := 0, locals := 101 } cX10_verdict 3 RX10 (some .int)) {r : Int32} {M1 : Mem} {x1 : Int32} {x2 : Int32} {M : Mem} (hF : f_X10_verdict x1 x2 M = some (r, M1)) : Wt K X (QM K X (some (vi r)) M1 0 0) 0 0 M 0 [(0, vr 64), (1, vi x1), (2, vi x2)] [] := by
  unfold f_X10_verdict at hF
  refine w_aload_n hB 0 dX10_verdict_0 rfl rfl ?_
  refine w_iload_n hB 1 dX10_verdict_1 rfl rfl ?_
  obtain ⟨r1, M1m, hc_M1m, hF⟩ := clS hF
  refine w_callV hB (ci := 8) (As := [vi x1]) (st := []) cw_X10_184 q_769 q_3 rfl sh_64 (Or.inl hp.1) (c_X10_isPlay hp hc_M1m) ⟨rfl, rfl⟩ (by decide) (by decide) rfl (Nat.le_of_ble_eq_true rfl) dX10_verdict_2 rfl ?_
  refine w_if_eq hB 28 dX10_verdict_5 (by decide) (fun hc => ?_) (fun hc => ?_)
  · replace hF := ifT hc hF
    refine w_iconst hB (-1) (by decide) dX10_verdict_28 ?_
    obtain ⟨e1, e2⟩ := retS hF
    subst e2
    exact w_iret hB dX10_verdict_29 e1
  · replace hF := ifF hc hF
    refine w_iload_n hB 2 dX10_verdict_8 rfl rfl ?_
    refine w_if_lt hB 28 dX10_verdict_9 (by decide) (fun hc => ?_) (fun hc => ?_)
    · replace hF := ifT hc hF
      refine w_iconst hB (-1) (by decide) dX10_verdict_28 ?_
      obtain ⟨e1, e2⟩ := retS hF
      subst e2
      exact w_iret hB dX10_verdict_29 e1
    · replace hF := ifF hc hF
      refine w_iload_n hB 2 dX10_verdict_12 rfl rfl ?_
      refine w_aload_n hB 0 dX10_verdict_13 rfl rfl ?_
      refine w_getR hB ff_X10_2 sh_64 (Or.inl hp.1) q_475 dX10_verdict_14 ?_
      obtain ⟨g1, hF⟩ := gdS hF
      refine w_getC hB (v := cr (M1m.2.2.1 64 2) 12) ff_X9_12 g1 hp.1 rfl (shc_ne (crc_8_12 g1).1) q_313 dX10_verdict_17 ?_
      refine w_iload_n hB 1 dX10_verdict_20 rfl rfl ?_
      obtain ⟨g2, hF⟩ := gdS hF
      refine w_aaldC hB (c := 6) (v := cr (cr (M1m.2.2.1 64 2) 12) x1.toNatClampNeg) (crc_8_12 g1).1 rfl (by decide) hp.1 (crc_8_12 g1).2 g2 rfl (shc_ne (cre_26 (crc_8_12 g1).1 (by rw [(crc_8_12 g1).2]; exact inb_lt g2))) dX10_verdict_21 ?_
      refine w_getI hB ff_X6_5 (cre_26 (crc_8_12 g1).1 (by rw [(crc_8_12 g1).2]; exact inb_lt g2)) (Or.inl hp.1) q_212 dX10_verdict_22 ?_
      refine w_icmp_le hB 30 dX10_verdict_25 (by decide) (fun hc => ?_) (fun hc => ?_)
      · replace hF := ifT hc hF
        refine w_aload_n hB 0 dX10_verdict_30 rfl rfl ?_
        refine w_getC hB (v := 212) ff_X10_5 sh_64 hp.1 cr_64_5 (by decide) q_478 dX10_verdict_31 ?_
        refine w_aload_n hB 0 dX10_verdict_34 rfl rfl ?_
        refine w_getR hB ff_X10_2 sh_64 (Or.inl hp.1) q_475 dX10_verdict_35 ?_
        refine w_aload_n hB 0 dX10_verdict_38 rfl rfl ?_
        refine w_getR hB ff_X10_2 sh_64 (Or.inl hp.1) q_475 dX10_verdict_39 ?_
        refine w_getC hB (v := cr (M1m.2.2.1 64 2) 12) ff_X9_12 g1 hp.1 rfl (shc_ne (crc_8_12 g1).1) q_313 dX10_verdict_42 ?_
        refine w_iload_n hB 1 dX10_verdict_45 rfl rfl ?_
        refine w_aaldC hB (c := 6) (v := cr (cr (M1m.2.2.1 64 2) 12) x1.toNatClampNeg) (crc_8_12 g1).1 rfl (by decide) hp.1 (crc_8_12 g1).2 g2 rfl (shc_ne (cre_26 (crc_8_12 g1).1 (by rw [(crc_8_12 g1).2]; exact inb_lt g2))) dX10_verdict_46 ?_
        refine w_iconst hB 1 (by decide) dX10_verdict_47 ?_
        refine w_iload_n hB 2 dX10_verdict_48 rfl rfl ?_
        refine w_ishl hB dX10_verdict_49 ?_
        refine w_iconst hB 1 (by decide) dX10_verdict_50 ?_
        refine w_isub hB dX10_verdict_51 ?_
        obtain ⟨r2, M2m, hc_M2m, hF⟩ := clS hF
        refine w_callV hB (ci := 3) (As := [vr (M1m.2.2.1 64 2), vr (cr (cr (M1m.2.2.1 64 2) 12) x1.toNatClampNeg), vi (((1 : Int32) <<< (x2 &&& 31)) - 1)]) (st := []) cw_X10_228 q_784 q_785 rfl sh_212 (Or.inl hp.1) (c_X4_byFrames hp hc_M2m) ⟨rfl, rfl⟩ (by decide) (by decide) rfl (Nat.le_of_ble_eq_true rfl) dX10_verdict_52 rfl ?_
        obtain ⟨e1, e2⟩ := retS hF
        subst e2
        exact w_iret hB dX10_verdict_55 e1
      · replace hF := ifF hc hF
        refine w_iconst hB (-1) (by decide) dX10_verdict_28 ?_
        obtain ⟨e1, e2⟩ := retS hF
        subst e2
        exact w_iret hB dX10_verdict_29 e1
theorem c_X10_verdict {K : Kt} {l : Launch} (hp : St K) {r : Int32} {M1 : Mem} {x1 : Int32} {x2 : Int32} {M : Mem} (hF : f_X10_verdict x1 x2 M = some (r, M1)) : MT K l yX10_verdict cX10_verdict 3 (some .int) { frames := 4, cells := 0, slots := 0, locals := 101 } [vr 64, vi x1, vi x2] M (some (vi r)) M1 0 0 :=
  MT_of (by decide) rfl (Nat.le_of_ble_eq_true rfl) (fun X _ hB _ => b_X10_verdict hp hB hF)
def f_X10_by (x1 : Int32) (x2 : Int32) (M : Mem) : Option (Int32 × Mem) :=
  cl (f_X10_isPlay x1 M) fun r1 M1m =>
  if r1 = 0 then
    some ((-1), M1m)
  else
    gd (shc (M1m.2.2.1 64 2) = 8) <|
    cl (f_X9_allCameras (M1m.2.2.1 64 2) M1m) fun r2 M2m =>
    if (x2 &&& (r2 ^^^ (-1))) = 0 then
      gd (shc (M2m.2.2.1 64 2) = 8) <|
      gd (inb x1 8) <|
      cl (f_X6_framesOf (cr (cr (M2m.2.2.1 64 2) 12) x1.toNatClampNeg) x2 M2m) fun r3 M3m =>
      cl (f_X4_byFrames (M2m.2.2.1 64 2) (cr (cr (M2m.2.2.1 64 2) 12) x1.toNatClampNeg) r3 M3m) fun r4 M4m =>
      some (r4, M4m)
    else
      some ((-1), M2m)
set_option maxRecDepth 100000 in
set_option maxHeartbeats 4000000 in
theorem b_X10_by {K : Kt} {X : Xt} (hp : St K) (hB : Bx K X { frames := 4, cells := 0, slots := 0, locals := 101 } cX10_by 3 RX10 (some .int)) {r : Int32} {M1 : Mem} {x1 : Int32} {x2 : Int32} {M : Mem} (hF : f_X10_by x1 x2 M = some (r, M1)) : Wt K X (QM K X (some (vi r)) M1 0 0) 0 0 M 0 [(0, vr 64), (1, vi x1), (2, vi x2)] [] := by
  unfold f_X10_by at hF
  refine w_aload_n hB 0 dX10_by_0 rfl rfl ?_
  refine w_iload_n hB 1 dX10_by_1 rfl rfl ?_
  obtain ⟨r1, M1m, hc_M1m, hF⟩ := clS hF
  refine w_callV hB (ci := 8) (As := [vi x1]) (st := []) cw_X10_184 q_769 q_3 rfl sh_64 (Or.inl hp.1) (c_X10_isPlay hp hc_M1m) ⟨rfl, rfl⟩ (by decide) (by decide) rfl (Nat.le_of_ble_eq_true rfl) dX10_by_2 rfl ?_
  refine w_if_eq hB 22 dX10_by_5 (by decide) (fun hc => ?_) (fun hc => ?_)
  · replace hF := ifT hc hF
    refine w_iconst hB (-1) (by decide) dX10_by_22 ?_
    obtain ⟨e1, e2⟩ := retS hF
    subst e2
    exact w_iret hB dX10_by_23 e1
  · replace hF := ifF hc hF
    refine w_iload_n hB 2 dX10_by_8 rfl rfl ?_
    refine w_aload_n hB 0 dX10_by_9 rfl rfl ?_
    refine w_getR hB ff_X10_2 sh_64 (Or.inl hp.1) q_475 dX10_by_10 ?_
    obtain ⟨g1, hF⟩ := gdS hF
    obtain ⟨r2, M2m, hc_M2m, hF⟩ := clS hF
    refine w_callV hB (ci := 7) (As := []) (st := [vi x2]) cw_X10_232 q_820 q_821 rfl g1 (Or.inl hp.1) (c_X9_allCameras hp hc_M2m) ⟨rfl, rfl⟩ (by decide) (by decide) rfl (Nat.le_of_ble_eq_true rfl) dX10_by_13 rfl ?_
    refine w_iconst hB (-1) (by decide) dX10_by_16 ?_
    refine w_ixor hB dX10_by_17 ?_
    refine w_iand hB dX10_by_18 ?_
    refine w_if_eq hB 24 dX10_by_19 (by decide) (fun hc => ?_) (fun hc => ?_)
    · replace hF := ifT hc hF
      refine w_aload_n hB 0 dX10_by_24 rfl rfl ?_
      refine w_getC hB (v := 212) ff_X10_5 sh_64 hp.1 cr_64_5 (by decide) q_478 dX10_by_25 ?_
      refine w_aload_n hB 0 dX10_by_28 rfl rfl ?_
      refine w_getR hB ff_X10_2 sh_64 (Or.inl hp.1) q_475 dX10_by_29 ?_
      refine w_aload_n hB 0 dX10_by_32 rfl rfl ?_
      refine w_getR hB ff_X10_2 sh_64 (Or.inl hp.1) q_475 dX10_by_33 ?_
      obtain ⟨g2, hF⟩ := gdS hF
      refine w_getC hB (v := cr (M2m.2.2.1 64 2) 12) ff_X9_12 g2 hp.1 rfl (shc_ne (crc_8_12 g2).1) q_313 dX10_by_36 ?_
      refine w_iload_n hB 1 dX10_by_39 rfl rfl ?_
      obtain ⟨g3, hF⟩ := gdS hF
      refine w_aaldC hB (c := 6) (v := cr (cr (M2m.2.2.1 64 2) 12) x1.toNatClampNeg) (crc_8_12 g2).1 rfl (by decide) hp.1 (crc_8_12 g2).2 g3 rfl (shc_ne (cre_26 (crc_8_12 g2).1 (by rw [(crc_8_12 g2).2]; exact inb_lt g3))) dX10_by_40 ?_
      refine w_aload_n hB 0 dX10_by_41 rfl rfl ?_
      refine w_getR hB ff_X10_2 sh_64 (Or.inl hp.1) q_475 dX10_by_42 ?_
      refine w_getC hB (v := cr (M2m.2.2.1 64 2) 12) ff_X9_12 g2 hp.1 rfl (shc_ne (crc_8_12 g2).1) q_313 dX10_by_45 ?_
      refine w_iload_n hB 1 dX10_by_48 rfl rfl ?_
      refine w_aaldC hB (c := 6) (v := cr (cr (M2m.2.2.1 64 2) 12) x1.toNatClampNeg) (crc_8_12 g2).1 rfl (by decide) hp.1 (crc_8_12 g2).2 g3 rfl (shc_ne (cre_26 (crc_8_12 g2).1 (by rw [(crc_8_12 g2).2]; exact inb_lt g3))) dX10_by_49 ?_
      refine w_iload_n hB 2 dX10_by_50 rfl rfl ?_
      obtain ⟨r3, M3m, hc_M3m, hF⟩ := clS hF
      refine w_callV hB (ci := 5) (As := [vi x2]) (st := [vr (cr (cr (M2m.2.2.1 64 2) 12) x1.toNatClampNeg), vr (M2m.2.2.1 64 2), vr 212]) cw_X10_236 q_824 q_825 rfl (cre_26 (crc_8_12 g2).1 (by rw [(crc_8_12 g2).2]; exact inb_lt g3)) (Or.inl hp.1) (c_X6_framesOf hp hc_M3m) ⟨rfl, rfl⟩ (by decide) (by decide) rfl (Nat.le_of_ble_eq_true rfl) dX10_by_51 rfl ?_
      obtain ⟨r4, M4m, hc_M4m, hF⟩ := clS hF
      refine w_callV hB (ci := 3) (As := [vr (M2m.2.2.1 64 2), vr (cr (cr (M2m.2.2.1 64 2) 12) x1.toNatClampNeg), vi r3]) (st := []) cw_X10_228 q_784 q_785 rfl sh_212 (Or.inl hp.1) (c_X4_byFrames hp hc_M4m) ⟨rfl, rfl⟩ (by decide) (by decide) rfl (Nat.le_of_ble_eq_true rfl) dX10_by_54 rfl ?_
      obtain ⟨e1, e2⟩ := retS hF
      subst e2
      exact w_iret hB dX10_by_57 e1
    · replace hF := ifF hc hF
      refine w_iconst hB (-1) (by decide) dX10_by_22 ?_
      obtain ⟨e1, e2⟩ := retS hF
      subst e2
      exact w_iret hB dX10_by_23 e1
theorem c_X10_by {K : Kt} {l : Launch} (hp : St K) {r : Int32} {M1 : Mem} {x1 : Int32} {x2 : Int32} {M : Mem} (hF : f_X10_by x1 x2 M = some (r, M1)) : MT K l yX10_by cX10_by 3 (some .int) { frames := 4, cells := 0, slots := 0, locals := 101 } [vr 64, vi x1, vi x2] M (some (vi r)) M1 0 0 :=
  MT_of (by decide) rfl (Nat.le_of_ble_eq_true rfl) (fun X _ hB _ => b_X10_by hp hB hF)
def f_X10_gap_b96 (x4 : Int32) (xs0 : Int32) (M : Mem) : Option (Int32 × Mem) :=
  if xs0 = 268435456 then
    some (1000000, M)
  else
    if x4 = 0 then
      some (-xs0, M)
    else
      some (xs0, M)
set_option maxRecDepth 100000 in
set_option maxHeartbeats 4000000 in
theorem b_X10_gap_b96 {K : Kt} {X : Xt} (hp : St K) (hB : Bx K X { frames := 3, cells := 0, slots := 0, locals := 77 } cX10_gap 7 RX10 (some .int)) {r : Int32} {M1 : Mem} {x4 : Int32} {xs0 : Int32} {M : Mem} (hF : f_X10_gap_b96 x4 xs0 M = some (r, M1)) : Wt K X (QM K X (some (vi r)) M1 0 0) 0 0 M 96 [(4, vi x4)] [vi xs0] := by
  unfold f_X10_gap_b96 at hF
  refine w_istore hB (L' := [(6, vi xs0), (4, vi x4)]) dX10_gap_96 (by decide) rfl rfl ?_
  refine w_iload hB 0 dX10_gap_98 rfl ?_
  refine w_ldc hB (v := 268435456) q_839 dX10_gap_100 ?_
  refine w_icmp_ne hB 108 dX10_gap_102 (by decide) (fun hc => ?_) (fun hc => ?_)
  · replace hF := ifF hc hF
    refine w_iload hB 1 dX10_gap_108 rfl ?_
    refine w_if_eq hB 118 dX10_gap_110 (by decide) (fun hc => ?_) (fun hc => ?_)
    · replace hF := ifT hc hF
      refine w_iload hB 0 dX10_gap_118 rfl ?_
      refine w_ineg hB dX10_gap_120 ?_
      obtain ⟨e1, e2⟩ := retS hF
      subst e2
      exact w_iret hB dX10_gap_121 e1
    · replace hF := ifF hc hF
      refine w_iload hB 0 dX10_gap_113 rfl ?_
      refine w_goto hB 121 dX10_gap_115 (by decide) ?_
      obtain ⟨e1, e2⟩ := retS hF
      subst e2
      exact w_iret hB dX10_gap_121 e1
  · replace hF := ifT hc hF
    refine w_ldc hB (v := 1000000) q_840 dX10_gap_105 ?_
    obtain ⟨e1, e2⟩ := retS hF
    subst e2
    exact w_iret hB dX10_gap_107 e1
def f_X10_gap (x1 : Int32) (x2 : Int32) (x3 : Int32) (x4 : Int32) (M : Mem) : Option (Int32 × Mem) :=
  cl (f_X10_isPlay x1 M) fun r1 M1m =>
  if r1 = 0 then
    some (3000000, M1m)
  else
    if x2 < 0 then
      some (3000000, M1m)
    else
      if 4 ≤ x2 then
        some (3000000, M1m)
      else
        if x3 < 0 then
          some (3000000, M1m)
        else
          if x3 < 4 then
            gd (shc (M1m.2.2.1 64 2) = 8) <|
            gd (inb x1 8) <|
            cl (f_X6_allFrames (cr (cr (M1m.2.2.1 64 2) 12) x1.toNatClampNeg) M1m) fun r2 M2m =>
            cl (f_X4_sureOf (M1m.2.2.1 64 2) (cr (cr (M1m.2.2.1 64 2) 12) x1.toNatClampNeg) r2 M2m) fun o1 M3m =>
            gd (shc o1 = 2) <|
            if (M3m.1 o1 1) = 0 then
              if x4 = 0 then
                cl (f_X2_markLess o1 x2 x3 M3m) fun r3 M4m =>
                f_X10_gap_b96 x4 r3 M4m
              else
                cl (f_X2_markLess o1 x3 x2 M3m) fun r4 M5m =>
                f_X10_gap_b96 x4 r4 M5m
            else
              some (2000000, M3m)
          else
            some (3000000, M1m)
set_option maxRecDepth 100000 in
set_option maxHeartbeats 4000000 in
theorem b_X10_gap {K : Kt} {X : Xt} (hp : St K) (hB : Bx K X { frames := 3, cells := 0, slots := 0, locals := 77 } cX10_gap 7 RX10 (some .int)) {r : Int32} {M1 : Mem} {x1 : Int32} {x2 : Int32} {x3 : Int32} {x4 : Int32} {M : Mem} (hF : f_X10_gap x1 x2 x3 x4 M = some (r, M1)) : Wt K X (QM K X (some (vi r)) M1 0 0) 0 0 M 0 [(0, vr 64), (1, vi x1), (2, vi x2), (3, vi x3), (4, vi x4)] [] := by
  unfold f_X10_gap at hF
  refine w_aload_n hB 0 dX10_gap_0 rfl rfl ?_
  refine w_iload_n hB 1 dX10_gap_1 rfl rfl ?_
  obtain ⟨r1, M1m, hc_M1m, hF⟩ := clS hF
  refine w_callV hB (ci := 8) (As := [vi x1]) (st := []) cw_X10_184 q_769 q_3 rfl sh_64 (Or.inl hp.1) (c_X10_isPlay hp hc_M1m) ⟨rfl, rfl⟩ (by decide) (by decide) rfl (Nat.le_of_ble_eq_true rfl) dX10_gap_2 rfl ?_
  refine w_if_eq hB 26 dX10_gap_5 (by decide) (fun hc => ?_) (fun hc => ?_)
  · replace hF := ifT hc hF
    refine w_ldc hB (v := 3000000) q_831 dX10_gap_26 ?_
    obtain ⟨e1, e2⟩ := retS hF
    subst e2
    exact w_iret hB dX10_gap_28 e1
  · replace hF := ifF hc hF
    refine w_iload_n hB 2 dX10_gap_8 rfl rfl ?_
    refine w_if_lt hB 26 dX10_gap_9 (by decide) (fun hc => ?_) (fun hc => ?_)
    · replace hF := ifT hc hF
      refine w_ldc hB (v := 3000000) q_831 dX10_gap_26 ?_
      obtain ⟨e1, e2⟩ := retS hF
      subst e2
      exact w_iret hB dX10_gap_28 e1
    · replace hF := ifF hc hF
      refine w_iload_n hB 2 dX10_gap_12 rfl rfl ?_
      refine w_iconst hB 4 (by decide) dX10_gap_13 ?_
      refine w_icmp_ge hB 26 dX10_gap_14 (by decide) (fun hc => ?_) (fun hc => ?_)
      · replace hF := ifT hc hF
        refine w_ldc hB (v := 3000000) q_831 dX10_gap_26 ?_
        obtain ⟨e1, e2⟩ := retS hF
        subst e2
        exact w_iret hB dX10_gap_28 e1
      · replace hF := ifF hc hF
        refine w_iload_n hB 3 dX10_gap_17 rfl rfl ?_
        refine w_if_lt hB 26 dX10_gap_18 (by decide) (fun hc => ?_) (fun hc => ?_)
        · replace hF := ifT hc hF
          refine w_ldc hB (v := 3000000) q_831 dX10_gap_26 ?_
          obtain ⟨e1, e2⟩ := retS hF
          subst e2
          exact w_iret hB dX10_gap_28 e1
        · replace hF := ifF hc hF
          refine w_iload_n hB 3 dX10_gap_21 rfl rfl ?_
          refine w_iconst hB 4 (by decide) dX10_gap_22 ?_
          refine w_icmp_lt hB 29 dX10_gap_23 (by decide) (fun hc => ?_) (fun hc => ?_)
          · replace hF := ifT hc hF
            refine w_aload_n hB 0 dX10_gap_29 rfl rfl ?_
            refine w_getC hB (v := 212) ff_X10_5 sh_64 hp.1 cr_64_5 (by decide) q_478 dX10_gap_30 ?_
            refine w_aload_n hB 0 dX10_gap_33 rfl rfl ?_
            refine w_getR hB ff_X10_2 sh_64 (Or.inl hp.1) q_475 dX10_gap_34 ?_
            refine w_aload_n hB 0 dX10_gap_37 rfl rfl ?_
            refine w_getR hB ff_X10_2 sh_64 (Or.inl hp.1) q_475 dX10_gap_38 ?_
            obtain ⟨g1, hF⟩ := gdS hF
            refine w_getC hB (v := cr (M1m.2.2.1 64 2) 12) ff_X9_12 g1 hp.1 rfl (shc_ne (crc_8_12 g1).1) q_313 dX10_gap_41 ?_
            refine w_iload_n hB 1 dX10_gap_44 rfl rfl ?_
            obtain ⟨g2, hF⟩ := gdS hF
            refine w_aaldC hB (c := 6) (v := cr (cr (M1m.2.2.1 64 2) 12) x1.toNatClampNeg) (crc_8_12 g1).1 rfl (by decide) hp.1 (crc_8_12 g1).2 g2 rfl (shc_ne (cre_26 (crc_8_12 g1).1 (by rw [(crc_8_12 g1).2]; exact inb_lt g2))) dX10_gap_45 ?_
            refine w_aload_n hB 0 dX10_gap_46 rfl rfl ?_
            refine w_getR hB ff_X10_2 sh_64 (Or.inl hp.1) q_475 dX10_gap_47 ?_
            refine w_getC hB (v := cr (M1m.2.2.1 64 2) 12) ff_X9_12 g1 hp.1 rfl (shc_ne (crc_8_12 g1).1) q_313 dX10_gap_50 ?_
            refine w_iload_n hB 1 dX10_gap_53 rfl rfl ?_
            refine w_aaldC hB (c := 6) (v := cr (cr (M1m.2.2.1 64 2) 12) x1.toNatClampNeg) (crc_8_12 g1).1 rfl (by decide) hp.1 (crc_8_12 g1).2 g2 rfl (shc_ne (cre_26 (crc_8_12 g1).1 (by rw [(crc_8_12 g1).2]; exact inb_lt g2))) dX10_gap_54 ?_
            obtain ⟨r2, M2m, hc_M2m, hF⟩ := clS hF
            refine w_callV hB (ci := 5) (As := []) (st := [vr (cr (cr (M1m.2.2.1 64 2) 12) x1.toNatClampNeg), vr (M1m.2.2.1 64 2), vr 212]) cw_X10_240 q_833 q_834 rfl (cre_26 (crc_8_12 g1).1 (by rw [(crc_8_12 g1).2]; exact inb_lt g2)) (Or.inl hp.1) (c_X6_allFrames hp hc_M2m) ⟨rfl, rfl⟩ (by decide) (by decide) rfl (Nat.le_of_ble_eq_true rfl) dX10_gap_55 rfl ?_
            obtain ⟨o1, M3m, hc_M3m, hF⟩ := clS hF
            refine w_callV hB (ci := 3) (As := [vr (M1m.2.2.1 64 2), vr (cr (cr (M1m.2.2.1 64 2) 12) x1.toNatClampNeg), vi r2]) (st := []) cw_X10_243 q_788 q_789 rfl sh_212 (Or.inl hp.1) (c_X4_sureOf hp hc_M3m) ⟨rfl, rfl⟩ (by decide) (by decide) rfl (Nat.le_of_ble_eq_true rfl) dX10_gap_58 rfl ?_
            refine w_astore hB (L' := [(5, vr o1), (0, vr 64), (1, vi x1), (2, vi x2), (3, vi x3), (4, vi x4)]) dX10_gap_61 (by decide) rfl ?_
            refine w_aload hB 0 dX10_gap_63 rfl ?_
            obtain ⟨g3, hF⟩ := gdS hF
            refine w_getI hB ff_X2_1 g3 (Or.inl hp.1) q_124 dX10_gap_65 ?_
            refine w_if_eq hB 74 dX10_gap_68 (by decide) (fun hc => ?_) (fun hc => ?_)
            · replace hF := ifT hc hF
              refine w_iload hB 5 dX10_gap_74 rfl ?_
              refine w_if_eq hB 89 dX10_gap_76 (by decide) (fun hc => ?_) (fun hc => ?_)
              · replace hF := ifT hc hF
                refine w_aload hB 0 dX10_gap_89 rfl ?_
                refine w_iload_n hB 3 dX10_gap_91 rfl rfl ?_
                refine w_iload_n hB 4 dX10_gap_92 rfl rfl ?_
                obtain ⟨r3, M4m, hc_M4m, hF⟩ := clS hF
                refine w_callV hB (ci := 1) (As := [vi x2, vi x3]) (st := []) cw_X10_248 q_808 q_809 rfl g3 (Or.inl hp.1) (c_X2_markLess hp hc_M4m) ⟨rfl, rfl⟩ (by decide) (by decide) rfl (Nat.le_of_ble_eq_true rfl) dX10_gap_93 rfl ?_
                exact Wt.sub (L' := [(4, vi x4)]) [5] rfl (b_X10_gap_b96 hp hB hF)
              · replace hF := ifF hc hF
                refine w_aload hB 0 dX10_gap_79 rfl ?_
                refine w_iload_n hB 4 dX10_gap_81 rfl rfl ?_
                refine w_iload_n hB 3 dX10_gap_82 rfl rfl ?_
                obtain ⟨r4, M5m, hc_M5m, hF⟩ := clS hF
                refine w_callV hB (ci := 1) (As := [vi x3, vi x2]) (st := []) cw_X10_248 q_808 q_809 rfl g3 (Or.inl hp.1) (c_X2_markLess hp hc_M5m) ⟨rfl, rfl⟩ (by decide) (by decide) rfl (Nat.le_of_ble_eq_true rfl) dX10_gap_83 rfl ?_
                refine w_goto hB 96 dX10_gap_86 (by decide) ?_
                exact Wt.sub (L' := [(4, vi x4)]) [5] rfl (b_X10_gap_b96 hp hB hF)
            · replace hF := ifF hc hF
              refine w_ldc hB (v := 2000000) q_837 dX10_gap_71 ?_
              obtain ⟨e1, e2⟩ := retS hF
              subst e2
              exact w_iret hB dX10_gap_73 e1
          · replace hF := ifF hc hF
            refine w_ldc hB (v := 3000000) q_831 dX10_gap_26 ?_
            obtain ⟨e1, e2⟩ := retS hF
            subst e2
            exact w_iret hB dX10_gap_28 e1
theorem c_X10_gap {K : Kt} {l : Launch} (hp : St K) {r : Int32} {M1 : Mem} {x1 : Int32} {x2 : Int32} {x3 : Int32} {x4 : Int32} {M : Mem} (hF : f_X10_gap x1 x2 x3 x4 M = some (r, M1)) : MT K l yX10_gap cX10_gap 7 (some .int) { frames := 3, cells := 0, slots := 0, locals := 77 } [vr 64, vi x1, vi x2, vi x3, vi x4] M (some (vi r)) M1 0 0 :=
  MT_of (by decide) rfl (Nat.le_of_ble_eq_true rfl) (fun X _ hB _ => b_X10_gap hp hB hF)
def f_X10_fewest (x1 : Int32) (M : Mem) : Option (Int32 × Mem) :=
  cl (f_X10_isPlay x1 M) fun r1 M1m =>
  if r1 = 0 then
    some ((-1), M1m)
  else
    gd (shc (M1m.2.2.1 64 2) = 8) <|
    gd (inb x1 8) <|
    cl (f_X4_fewestFrames (M1m.2.2.1 64 2) (cr (cr (M1m.2.2.1 64 2) 12) x1.toNatClampNeg) M1m) fun r2 M2m =>
    some (r2, M2m)
set_option maxRecDepth 100000 in
set_option maxHeartbeats 4000000 in
theorem b_X10_fewest {K : Kt} {X : Xt} (hp : St K) (hB : Bx K X { frames := 6, cells := 0, slots := 0, locals := 149 } cX10_fewest 2 RX10 (some .int)) {r : Int32} {M1 : Mem} {x1 : Int32} {M : Mem} (hF : f_X10_fewest x1 M = some (r, M1)) : Wt K X (QM K X (some (vi r)) M1 0 0) 0 0 M 0 [(0, vr 64), (1, vi x1)] [] := by
  unfold f_X10_fewest at hF
  refine w_aload_n hB 0 dX10_fewest_0 rfl rfl ?_
  refine w_iload_n hB 1 dX10_fewest_1 rfl rfl ?_
  obtain ⟨r1, M1m, hc_M1m, hF⟩ := clS hF
  refine w_callV hB (ci := 8) (As := [vi x1]) (st := []) cw_X10_184 q_769 q_3 rfl sh_64 (Or.inl hp.1) (c_X10_isPlay hp hc_M1m) ⟨rfl, rfl⟩ (by decide) (by decide) rfl (Nat.le_of_ble_eq_true rfl) dX10_fewest_2 rfl ?_
  refine w_if_eq hB 31 dX10_fewest_5 (by decide) (fun hc => ?_) (fun hc => ?_)
  · replace hF := ifT hc hF
    refine w_iconst hB (-1) (by decide) dX10_fewest_31 ?_
    obtain ⟨e1, e2⟩ := retS hF
    subst e2
    exact w_iret hB dX10_fewest_32 e1
  · replace hF := ifF hc hF
    refine w_aload_n hB 0 dX10_fewest_8 rfl rfl ?_
    refine w_getC hB (v := 212) ff_X10_5 sh_64 hp.1 cr_64_5 (by decide) q_478 dX10_fewest_9 ?_
    refine w_aload_n hB 0 dX10_fewest_12 rfl rfl ?_
    refine w_getR hB ff_X10_2 sh_64 (Or.inl hp.1) q_475 dX10_fewest_13 ?_
    refine w_aload_n hB 0 dX10_fewest_16 rfl rfl ?_
    refine w_getR hB ff_X10_2 sh_64 (Or.inl hp.1) q_475 dX10_fewest_17 ?_
    obtain ⟨g1, hF⟩ := gdS hF
    refine w_getC hB (v := cr (M1m.2.2.1 64 2) 12) ff_X9_12 g1 hp.1 rfl (shc_ne (crc_8_12 g1).1) q_313 dX10_fewest_20 ?_
    refine w_iload_n hB 1 dX10_fewest_23 rfl rfl ?_
    obtain ⟨g2, hF⟩ := gdS hF
    refine w_aaldC hB (c := 6) (v := cr (cr (M1m.2.2.1 64 2) 12) x1.toNatClampNeg) (crc_8_12 g1).1 rfl (by decide) hp.1 (crc_8_12 g1).2 g2 rfl (shc_ne (cre_26 (crc_8_12 g1).1 (by rw [(crc_8_12 g1).2]; exact inb_lt g2))) dX10_fewest_24 ?_
    obtain ⟨r2, M2m, hc_M2m, hF⟩ := clS hF
    refine w_callV hB (ci := 3) (As := [vr (M1m.2.2.1 64 2), vr (cr (cr (M1m.2.2.1 64 2) 12) x1.toNatClampNeg)]) (st := []) cw_X10_254 q_846 q_847 rfl sh_212 (Or.inl hp.1) (c_X4_fewestFrames hp hc_M2m) ⟨rfl, rfl⟩ (by decide) (by decide) rfl (Nat.le_of_ble_eq_true rfl) dX10_fewest_25 rfl ?_
    refine w_goto hB 32 dX10_fewest_28 (by decide) ?_
    obtain ⟨e1, e2⟩ := retS hF
    subst e2
    exact w_iret hB dX10_fewest_32 e1
theorem c_X10_fewest {K : Kt} {l : Launch} (hp : St K) {r : Int32} {M1 : Mem} {x1 : Int32} {M : Mem} (hF : f_X10_fewest x1 M = some (r, M1)) : MT K l yX10_fewest cX10_fewest 2 (some .int) { frames := 6, cells := 0, slots := 0, locals := 149 } [vr 64, vi x1] M (some (vi r)) M1 0 0 :=
  MT_of (by decide) rfl (Nat.le_of_ble_eq_true rfl) (fun X _ hB _ => b_X10_fewest hp hB hF)
def f_X10_key (x1 : Int32) (M : Mem) : Option (Int32 × Mem) :=
  cl (f_X10_isPlay x1 M) fun r1 M1m =>
  if r1 = 0 then
    some ((-1), M1m)
  else
    gd (shc (M1m.2.2.1 64 2) = 8) <|
    gd (inb x1 8) <|
    cl (f_X4_keyFrames (M1m.2.2.1 64 2) (cr (cr (M1m.2.2.1 64 2) 12) x1.toNatClampNeg) M1m) fun r2 M2m =>
    some (r2, M2m)
set_option maxRecDepth 100000 in
set_option maxHeartbeats 4000000 in
theorem b_X10_key {K : Kt} {X : Xt} (hp : St K) (hB : Bx K X { frames := 5, cells := 0, slots := 0, locals := 126 } cX10_key 2 RX10 (some .int)) {r : Int32} {M1 : Mem} {x1 : Int32} {M : Mem} (hF : f_X10_key x1 M = some (r, M1)) : Wt K X (QM K X (some (vi r)) M1 0 0) 0 0 M 0 [(0, vr 64), (1, vi x1)] [] := by
  unfold f_X10_key at hF
  refine w_aload_n hB 0 dX10_key_0 rfl rfl ?_
  refine w_iload_n hB 1 dX10_key_1 rfl rfl ?_
  obtain ⟨r1, M1m, hc_M1m, hF⟩ := clS hF
  refine w_callV hB (ci := 8) (As := [vi x1]) (st := []) cw_X10_184 q_769 q_3 rfl sh_64 (Or.inl hp.1) (c_X10_isPlay hp hc_M1m) ⟨rfl, rfl⟩ (by decide) (by decide) rfl (Nat.le_of_ble_eq_true rfl) dX10_key_2 rfl ?_
  refine w_if_eq hB 31 dX10_key_5 (by decide) (fun hc => ?_) (fun hc => ?_)
  · replace hF := ifT hc hF
    refine w_iconst hB (-1) (by decide) dX10_key_31 ?_
    obtain ⟨e1, e2⟩ := retS hF
    subst e2
    exact w_iret hB dX10_key_32 e1
  · replace hF := ifF hc hF
    refine w_aload_n hB 0 dX10_key_8 rfl rfl ?_
    refine w_getC hB (v := 212) ff_X10_5 sh_64 hp.1 cr_64_5 (by decide) q_478 dX10_key_9 ?_
    refine w_aload_n hB 0 dX10_key_12 rfl rfl ?_
    refine w_getR hB ff_X10_2 sh_64 (Or.inl hp.1) q_475 dX10_key_13 ?_
    refine w_aload_n hB 0 dX10_key_16 rfl rfl ?_
    refine w_getR hB ff_X10_2 sh_64 (Or.inl hp.1) q_475 dX10_key_17 ?_
    obtain ⟨g1, hF⟩ := gdS hF
    refine w_getC hB (v := cr (M1m.2.2.1 64 2) 12) ff_X9_12 g1 hp.1 rfl (shc_ne (crc_8_12 g1).1) q_313 dX10_key_20 ?_
    refine w_iload_n hB 1 dX10_key_23 rfl rfl ?_
    obtain ⟨g2, hF⟩ := gdS hF
    refine w_aaldC hB (c := 6) (v := cr (cr (M1m.2.2.1 64 2) 12) x1.toNatClampNeg) (crc_8_12 g1).1 rfl (by decide) hp.1 (crc_8_12 g1).2 g2 rfl (shc_ne (cre_26 (crc_8_12 g1).1 (by rw [(crc_8_12 g1).2]; exact inb_lt g2))) dX10_key_24 ?_
    obtain ⟨r2, M2m, hc_M2m, hF⟩ := clS hF
    refine w_callV hB (ci := 3) (As := [vr (M1m.2.2.1 64 2), vr (cr (cr (M1m.2.2.1 64 2) 12) x1.toNatClampNeg)]) (st := []) cw_X10_258 q_869 q_870 rfl sh_212 (Or.inl hp.1) (c_X4_keyFrames hp hc_M2m) ⟨rfl, rfl⟩ (by decide) (by decide) rfl (Nat.le_of_ble_eq_true rfl) dX10_key_25 rfl ?_
    refine w_goto hB 32 dX10_key_28 (by decide) ?_
    obtain ⟨e1, e2⟩ := retS hF
    subst e2
    exact w_iret hB dX10_key_32 e1
theorem c_X10_key {K : Kt} {l : Launch} (hp : St K) {r : Int32} {M1 : Mem} {x1 : Int32} {M : Mem} (hF : f_X10_key x1 M = some (r, M1)) : MT K l yX10_key cX10_key 2 (some .int) { frames := 5, cells := 0, slots := 0, locals := 126 } [vr 64, vi x1] M (some (vi r)) M1 0 0 :=
  MT_of (by decide) rfl (Nat.le_of_ble_eq_true rfl) (fun X _ hB _ => b_X10_key hp hB hF)
def f_X10_enough (x1 : Int32) (M : Mem) : Option (Int32 × Mem) :=
  cl (f_X10_isPlay x1 M) fun r1 M1m =>
  if r1 = 0 then
    some ((-1), M1m)
  else
    gd (shc (M1m.2.2.1 64 2) = 8) <|
    gd (inb x1 8) <|
    cl (f_X4_fewestCameras (M1m.2.2.1 64 2) (cr (cr (M1m.2.2.1 64 2) 12) x1.toNatClampNeg) M1m) fun r2 M2m =>
    some (r2, M2m)
set_option maxRecDepth 100000 in
set_option maxHeartbeats 4000000 in
theorem b_X10_enough {K : Kt} {X : Xt} (hp : St K) (hB : Bx K X { frames := 5, cells := 0, slots := 0, locals := 127 } cX10_enough 2 RX10 (some .int)) {r : Int32} {M1 : Mem} {x1 : Int32} {M : Mem} (hF : f_X10_enough x1 M = some (r, M1)) : Wt K X (QM K X (some (vi r)) M1 0 0) 0 0 M 0 [(0, vr 64), (1, vi x1)] [] := by
  unfold f_X10_enough at hF
  refine w_aload_n hB 0 dX10_enough_0 rfl rfl ?_
  refine w_iload_n hB 1 dX10_enough_1 rfl rfl ?_
  obtain ⟨r1, M1m, hc_M1m, hF⟩ := clS hF
  refine w_callV hB (ci := 8) (As := [vi x1]) (st := []) cw_X10_184 q_769 q_3 rfl sh_64 (Or.inl hp.1) (c_X10_isPlay hp hc_M1m) ⟨rfl, rfl⟩ (by decide) (by decide) rfl (Nat.le_of_ble_eq_true rfl) dX10_enough_2 rfl ?_
  refine w_if_eq hB 31 dX10_enough_5 (by decide) (fun hc => ?_) (fun hc => ?_)
  · replace hF := ifT hc hF
    refine w_iconst hB (-1) (by decide) dX10_enough_31 ?_
    obtain ⟨e1, e2⟩ := retS hF
    subst e2
    exact w_iret hB dX10_enough_32 e1
  · replace hF := ifF hc hF
    refine w_aload_n hB 0 dX10_enough_8 rfl rfl ?_
    refine w_getC hB (v := 212) ff_X10_5 sh_64 hp.1 cr_64_5 (by decide) q_478 dX10_enough_9 ?_
    refine w_aload_n hB 0 dX10_enough_12 rfl rfl ?_
    refine w_getR hB ff_X10_2 sh_64 (Or.inl hp.1) q_475 dX10_enough_13 ?_
    refine w_aload_n hB 0 dX10_enough_16 rfl rfl ?_
    refine w_getR hB ff_X10_2 sh_64 (Or.inl hp.1) q_475 dX10_enough_17 ?_
    obtain ⟨g1, hF⟩ := gdS hF
    refine w_getC hB (v := cr (M1m.2.2.1 64 2) 12) ff_X9_12 g1 hp.1 rfl (shc_ne (crc_8_12 g1).1) q_313 dX10_enough_20 ?_
    refine w_iload_n hB 1 dX10_enough_23 rfl rfl ?_
    obtain ⟨g2, hF⟩ := gdS hF
    refine w_aaldC hB (c := 6) (v := cr (cr (M1m.2.2.1 64 2) 12) x1.toNatClampNeg) (crc_8_12 g1).1 rfl (by decide) hp.1 (crc_8_12 g1).2 g2 rfl (shc_ne (cre_26 (crc_8_12 g1).1 (by rw [(crc_8_12 g1).2]; exact inb_lt g2))) dX10_enough_24 ?_
    obtain ⟨r2, M2m, hc_M2m, hF⟩ := clS hF
    refine w_callV hB (ci := 3) (As := [vr (M1m.2.2.1 64 2), vr (cr (cr (M1m.2.2.1 64 2) 12) x1.toNatClampNeg)]) (st := []) cw_X10_261 q_877 q_878 rfl sh_212 (Or.inl hp.1) (c_X4_fewestCameras hp hc_M2m) ⟨rfl, rfl⟩ (by decide) (by decide) rfl (Nat.le_of_ble_eq_true rfl) dX10_enough_25 rfl ?_
    refine w_goto hB 32 dX10_enough_28 (by decide) ?_
    obtain ⟨e1, e2⟩ := retS hF
    subst e2
    exact w_iret hB dX10_enough_32 e1
theorem c_X10_enough {K : Kt} {l : Launch} (hp : St K) {r : Int32} {M1 : Mem} {x1 : Int32} {M : Mem} (hF : f_X10_enough x1 M = some (r, M1)) : MT K l yX10_enough cX10_enough 2 (some .int) { frames := 5, cells := 0, slots := 0, locals := 127 } [vr 64, vi x1] M (some (vi r)) M1 0 0 :=
  MT_of (by decide) rfl (Nat.le_of_ble_eq_true rfl) (fun X _ hB _ => b_X10_enough hp hB hF)
def f_X10_mend (x1 : Int32) (M : Mem) : Option (Int32 × Mem) :=
  cl (f_X10_isPlay x1 M) fun r1 M1m =>
  if r1 = 0 then
    some ((-1), M1m)
  else
    gd (shc (M1m.2.2.1 64 2) = 8) <|
    gd (inb x1 8) <|
    cl (f_X4_fewestLeftOut (M1m.2.2.1 64 2) (cr (cr (M1m.2.2.1 64 2) 12) x1.toNatClampNeg) M1m) fun r2 M2m =>
    some (r2, M2m)
set_option maxRecDepth 100000 in
set_option maxHeartbeats 4000000 in
theorem b_X10_mend {K : Kt} {X : Xt} (hp : St K) (hB : Bx K X { frames := 5, cells := 0, slots := 0, locals := 124 } cX10_mend 2 RX10 (some .int)) {r : Int32} {M1 : Mem} {x1 : Int32} {M : Mem} (hF : f_X10_mend x1 M = some (r, M1)) : Wt K X (QM K X (some (vi r)) M1 0 0) 0 0 M 0 [(0, vr 64), (1, vi x1)] [] := by
  unfold f_X10_mend at hF
  refine w_aload_n hB 0 dX10_mend_0 rfl rfl ?_
  refine w_iload_n hB 1 dX10_mend_1 rfl rfl ?_
  obtain ⟨r1, M1m, hc_M1m, hF⟩ := clS hF
  refine w_callV hB (ci := 8) (As := [vi x1]) (st := []) cw_X10_184 q_769 q_3 rfl sh_64 (Or.inl hp.1) (c_X10_isPlay hp hc_M1m) ⟨rfl, rfl⟩ (by decide) (by decide) rfl (Nat.le_of_ble_eq_true rfl) dX10_mend_2 rfl ?_
  refine w_if_eq hB 31 dX10_mend_5 (by decide) (fun hc => ?_) (fun hc => ?_)
  · replace hF := ifT hc hF
    refine w_iconst hB (-1) (by decide) dX10_mend_31 ?_
    obtain ⟨e1, e2⟩ := retS hF
    subst e2
    exact w_iret hB dX10_mend_32 e1
  · replace hF := ifF hc hF
    refine w_aload_n hB 0 dX10_mend_8 rfl rfl ?_
    refine w_getC hB (v := 212) ff_X10_5 sh_64 hp.1 cr_64_5 (by decide) q_478 dX10_mend_9 ?_
    refine w_aload_n hB 0 dX10_mend_12 rfl rfl ?_
    refine w_getR hB ff_X10_2 sh_64 (Or.inl hp.1) q_475 dX10_mend_13 ?_
    refine w_aload_n hB 0 dX10_mend_16 rfl rfl ?_
    refine w_getR hB ff_X10_2 sh_64 (Or.inl hp.1) q_475 dX10_mend_17 ?_
    obtain ⟨g1, hF⟩ := gdS hF
    refine w_getC hB (v := cr (M1m.2.2.1 64 2) 12) ff_X9_12 g1 hp.1 rfl (shc_ne (crc_8_12 g1).1) q_313 dX10_mend_20 ?_
    refine w_iload_n hB 1 dX10_mend_23 rfl rfl ?_
    obtain ⟨g2, hF⟩ := gdS hF
    refine w_aaldC hB (c := 6) (v := cr (cr (M1m.2.2.1 64 2) 12) x1.toNatClampNeg) (crc_8_12 g1).1 rfl (by decide) hp.1 (crc_8_12 g1).2 g2 rfl (shc_ne (cre_26 (crc_8_12 g1).1 (by rw [(crc_8_12 g1).2]; exact inb_lt g2))) dX10_mend_24 ?_
    obtain ⟨r2, M2m, hc_M2m, hF⟩ := clS hF
    refine w_callV hB (ci := 3) (As := [vr (M1m.2.2.1 64 2), vr (cr (cr (M1m.2.2.1 64 2) 12) x1.toNatClampNeg)]) (st := []) cw_X10_264 q_887 q_888 rfl sh_212 (Or.inl hp.1) (c_X4_fewestLeftOut hp hc_M2m) ⟨rfl, rfl⟩ (by decide) (by decide) rfl (Nat.le_of_ble_eq_true rfl) dX10_mend_25 rfl ?_
    refine w_goto hB 32 dX10_mend_28 (by decide) ?_
    obtain ⟨e1, e2⟩ := retS hF
    subst e2
    exact w_iret hB dX10_mend_32 e1
theorem c_X10_mend {K : Kt} {l : Launch} (hp : St K) {r : Int32} {M1 : Mem} {x1 : Int32} {M : Mem} (hF : f_X10_mend x1 M = some (r, M1)) : MT K l yX10_mend cX10_mend 2 (some .int) { frames := 5, cells := 0, slots := 0, locals := 124 } [vr 64, vi x1] M (some (vi r)) M1 0 0 :=
  MT_of (by decide) rfl (Nat.le_of_ble_eq_true rfl) (fun X _ hB _ => b_X10_mend hp hB hF)
def f_X10_callNow (x1 : Int32) (M : Mem) : Option (Int32 × Mem) :=
  if (M.1 217 0) ≤ x1 then
    gd (shc (M.2.2.1 64 2) = 8) <|
    gd (inb x1 8) <|
    some (M.1 (cr (cr (M.2.2.1 64 2) 12) x1.toNatClampNeg) 4, M)
  else
    cl (f_X3_call 217 x1 M) fun r1 M1m =>
    some (r1, M1m)
set_option maxRecDepth 100000 in
set_option maxHeartbeats 4000000 in
theorem b_X10_callNow {K : Kt} {X : Xt} (hp : St K) (hB : Bx K X { frames := 1, cells := 0, slots := 0, locals := 21 } cX10_callNow 2 RX10 (some .int)) {r : Int32} {M1 : Mem} {x1 : Int32} {M : Mem} (hF : f_X10_callNow x1 M = some (r, M1)) : Wt K X (QM K X (some (vi r)) M1 0 0) 0 0 M 0 [(0, vr 64), (1, vi x1)] [] := by
  unfold f_X10_callNow at hF
  refine w_iload_n hB 1 dX10_callNow_0 rfl rfl ?_
  refine w_aload_n hB 0 dX10_callNow_1 rfl rfl ?_
  refine w_getC hB (v := 217) ff_X10_6 sh_64 hp.1 cr_64_6 (by decide) q_479 dX10_callNow_2 ?_
  refine w_getI hB ff_X3_0 sh_217 (Or.inl hp.1) q_433 dX10_callNow_5 ?_
  refine w_icmp_ge hB 22 dX10_callNow_8 (by decide) (fun hc => ?_) (fun hc => ?_)
  · replace hF := ifT hc hF
    refine w_aload_n hB 0 dX10_callNow_22 rfl rfl ?_
    refine w_getR hB ff_X10_2 sh_64 (Or.inl hp.1) q_475 dX10_callNow_23 ?_
    obtain ⟨g1, hF⟩ := gdS hF
    refine w_getC hB (v := cr (M.2.2.1 64 2) 12) ff_X9_12 g1 hp.1 rfl (shc_ne (crc_8_12 g1).1) q_313 dX10_callNow_26 ?_
    refine w_iload_n hB 1 dX10_callNow_29 rfl rfl ?_
    obtain ⟨g2, hF⟩ := gdS hF
    refine w_aaldC hB (c := 6) (v := cr (cr (M.2.2.1 64 2) 12) x1.toNatClampNeg) (crc_8_12 g1).1 rfl (by decide) hp.1 (crc_8_12 g1).2 g2 rfl (shc_ne (cre_26 (crc_8_12 g1).1 (by rw [(crc_8_12 g1).2]; exact inb_lt g2))) dX10_callNow_30 ?_
    refine w_getI hB ff_X6_4 (cre_26 (crc_8_12 g1).1 (by rw [(crc_8_12 g1).2]; exact inb_lt g2)) (Or.inl hp.1) q_208 dX10_callNow_31 ?_
    obtain ⟨e1, e2⟩ := retS hF
    subst e2
    exact w_iret hB dX10_callNow_34 e1
  · replace hF := ifF hc hF
    refine w_aload_n hB 0 dX10_callNow_11 rfl rfl ?_
    refine w_getC hB (v := 217) ff_X10_6 sh_64 hp.1 cr_64_6 (by decide) q_479 dX10_callNow_12 ?_
    refine w_iload_n hB 1 dX10_callNow_15 rfl rfl ?_
    obtain ⟨r1, M1m, hc_M1m, hF⟩ := clS hF
    refine w_callV hB (ci := 2) (As := [vi x1]) (st := []) cw_X10_178 q_760 q_761 rfl sh_217 (Or.inl hp.1) (c_X3_call hp hc_M1m) ⟨rfl, rfl⟩ (by decide) (by decide) rfl (Nat.le_of_ble_eq_true rfl) dX10_callNow_16 rfl ?_
    refine w_goto hB 34 dX10_callNow_19 (by decide) ?_
    obtain ⟨e1, e2⟩ := retS hF
    subst e2
    exact w_iret hB dX10_callNow_34 e1
theorem c_X10_callNow {K : Kt} {l : Launch} (hp : St K) {r : Int32} {M1 : Mem} {x1 : Int32} {M : Mem} (hF : f_X10_callNow x1 M = some (r, M1)) : MT K l yX10_callNow cX10_callNow 2 (some .int) { frames := 1, cells := 0, slots := 0, locals := 21 } [vr 64, vi x1] M (some (vi r)) M1 0 0 :=
  MT_of (by decide) rfl (Nat.le_of_ble_eq_true rfl) (fun X _ hB _ => b_X10_callNow hp hB hF)
def f_X10_look (x1 : Int32) (x2 : Int32) (M : Mem) : Option (Int32 × Mem) :=
  cl (f_X10_isPlay x1 M) fun r1 M1m =>
  if r1 = 0 then
    some ((-1), M1m)
  else
    if x2 < 0 then
      some ((-1), M1m)
    else
      if x2 ≤ 2 then
        gd (shc (M1m.2.2.1 64 2) = 8) <|
        gd (inb x1 8) <|
        cl (f_X10_callNow x1 M1m) fun r2 M2m =>
        cl (f_X4_review (M1m.2.2.1 64 2) (cr (cr (M1m.2.2.1 64 2) 12) x1.toNatClampNeg) r2 M2m) fun r3 M3m =>
        if x2 = 0 then
          some (r3, M3m)
        else
          if x2 = 1 then
            some (M3m.1 212 2, M3m)
          else
            some (M3m.1 212 3, M3m)
      else
        some ((-1), M1m)
set_option maxRecDepth 100000 in
set_option maxHeartbeats 4000000 in
theorem b_X10_look {K : Kt} {X : Xt} (hp : St K) (hB : Bx K X { frames := 5, cells := 0, slots := 0, locals := 127 } cX10_look 4 RX10 (some .int)) {r : Int32} {M1 : Mem} {x1 : Int32} {x2 : Int32} {M : Mem} (hF : f_X10_look x1 x2 M = some (r, M1)) : Wt K X (QM K X (some (vi r)) M1 0 0) 0 0 M 0 [(0, vr 64), (1, vi x1), (2, vi x2)] [] := by
  unfold f_X10_look at hF
  refine w_aload_n hB 0 dX10_look_0 rfl rfl ?_
  refine w_iload_n hB 1 dX10_look_1 rfl rfl ?_
  obtain ⟨r1, M1m, hc_M1m, hF⟩ := clS hF
  refine w_callV hB (ci := 8) (As := [vi x1]) (st := []) cw_X10_184 q_769 q_3 rfl sh_64 (Or.inl hp.1) (c_X10_isPlay hp hc_M1m) ⟨rfl, rfl⟩ (by decide) (by decide) rfl (Nat.le_of_ble_eq_true rfl) dX10_look_2 rfl ?_
  refine w_if_eq hB 17 dX10_look_5 (by decide) (fun hc => ?_) (fun hc => ?_)
  · replace hF := ifT hc hF
    refine w_iconst hB (-1) (by decide) dX10_look_17 ?_
    obtain ⟨e1, e2⟩ := retS hF
    subst e2
    exact w_iret hB dX10_look_18 e1
  · replace hF := ifF hc hF
    refine w_iload_n hB 2 dX10_look_8 rfl rfl ?_
    refine w_if_lt hB 17 dX10_look_9 (by decide) (fun hc => ?_) (fun hc => ?_)
    · replace hF := ifT hc hF
      refine w_iconst hB (-1) (by decide) dX10_look_17 ?_
      obtain ⟨e1, e2⟩ := retS hF
      subst e2
      exact w_iret hB dX10_look_18 e1
    · replace hF := ifF hc hF
      refine w_iload_n hB 2 dX10_look_12 rfl rfl ?_
      refine w_iconst hB 2 (by decide) dX10_look_13 ?_
      refine w_icmp_le hB 19 dX10_look_14 (by decide) (fun hc => ?_) (fun hc => ?_)
      · replace hF := ifT hc hF
        refine w_aload_n hB 0 dX10_look_19 rfl rfl ?_
        refine w_getC hB (v := 212) ff_X10_5 sh_64 hp.1 cr_64_5 (by decide) q_478 dX10_look_20 ?_
        refine w_aload_n hB 0 dX10_look_23 rfl rfl ?_
        refine w_getR hB ff_X10_2 sh_64 (Or.inl hp.1) q_475 dX10_look_24 ?_
        refine w_aload_n hB 0 dX10_look_27 rfl rfl ?_
        refine w_getR hB ff_X10_2 sh_64 (Or.inl hp.1) q_475 dX10_look_28 ?_
        obtain ⟨g1, hF⟩ := gdS hF
        refine w_getC hB (v := cr (M1m.2.2.1 64 2) 12) ff_X9_12 g1 hp.1 rfl (shc_ne (crc_8_12 g1).1) q_313 dX10_look_31 ?_
        refine w_iload_n hB 1 dX10_look_34 rfl rfl ?_
        obtain ⟨g2, hF⟩ := gdS hF
        refine w_aaldC hB (c := 6) (v := cr (cr (M1m.2.2.1 64 2) 12) x1.toNatClampNeg) (crc_8_12 g1).1 rfl (by decide) hp.1 (crc_8_12 g1).2 g2 rfl (shc_ne (cre_26 (crc_8_12 g1).1 (by rw [(crc_8_12 g1).2]; exact inb_lt g2))) dX10_look_35 ?_
        refine w_aload_n hB 0 dX10_look_36 rfl rfl ?_
        refine w_iload_n hB 1 dX10_look_37 rfl rfl ?_
        obtain ⟨r2, M2m, hc_M2m, hF⟩ := clS hF
        refine w_callV hB (ci := 8) (As := [vi x1]) (st := [vr (cr (cr (M1m.2.2.1 64 2) 12) x1.toNatClampNeg), vr (M1m.2.2.1 64 2), vr 212]) cw_X10_267 q_900 q_9 rfl sh_64 (Or.inl hp.1) (c_X10_callNow hp hc_M2m) ⟨rfl, rfl⟩ (by decide) (by decide) rfl (Nat.le_of_ble_eq_true rfl) dX10_look_38 rfl ?_
        obtain ⟨r3, M3m, hc_M3m, hF⟩ := clS hF
        refine w_callV hB (ci := 3) (As := [vr (M1m.2.2.1 64 2), vr (cr (cr (M1m.2.2.1 64 2) 12) x1.toNatClampNeg), vi r2]) (st := []) cw_X10_270 q_903 q_904 rfl sh_212 (Or.inl hp.1) (c_X4_review hp hc_M3m) ⟨rfl, rfl⟩ (by decide) (by decide) rfl (Nat.le_of_ble_eq_true rfl) dX10_look_41 rfl ?_
        refine w_istore_n hB (L' := [(3, vi r3), (0, vr 64), (1, vi x1), (2, vi x2)]) dX10_look_44 rfl (by decide) rfl rfl ?_
        refine w_iload_n hB 3 dX10_look_45 rfl rfl ?_
        refine w_if_ne hB 51 dX10_look_46 (by decide) (fun hc => ?_) (fun hc => ?_)
        · replace hF := ifF hc hF
          refine w_iload_n hB 3 dX10_look_51 rfl rfl ?_
          refine w_iconst hB 1 (by decide) dX10_look_52 ?_
          refine w_icmp_ne hB 66 dX10_look_53 (by decide) (fun hc => ?_) (fun hc => ?_)
          · replace hF := ifF hc hF
            refine w_aload_n hB 1 dX10_look_66 rfl rfl ?_
            refine w_getC hB (v := 212) ff_X10_5 sh_64 hp.1 cr_64_5 (by decide) q_478 dX10_look_67 ?_
            refine w_getI hB ff_X4_3 sh_212 (Or.inl hp.1) q_416 dX10_look_70 ?_
            obtain ⟨e1, e2⟩ := retS hF
            subst e2
            exact w_iret hB dX10_look_73 e1
          · replace hF := ifT hc hF
            refine w_aload_n hB 1 dX10_look_56 rfl rfl ?_
            refine w_getC hB (v := 212) ff_X10_5 sh_64 hp.1 cr_64_5 (by decide) q_478 dX10_look_57 ?_
            refine w_getI hB ff_X4_2 sh_212 (Or.inl hp.1) q_414 dX10_look_60 ?_
            refine w_goto hB 73 dX10_look_63 (by decide) ?_
            obtain ⟨e1, e2⟩ := retS hF
            subst e2
            exact w_iret hB dX10_look_73 e1
        · replace hF := ifT hc hF
          refine w_iload_n hB 0 dX10_look_49 rfl rfl ?_
          obtain ⟨e1, e2⟩ := retS hF
          subst e2
          exact w_iret hB dX10_look_50 e1
      · replace hF := ifF hc hF
        refine w_iconst hB (-1) (by decide) dX10_look_17 ?_
        obtain ⟨e1, e2⟩ := retS hF
        subst e2
        exact w_iret hB dX10_look_18 e1
theorem c_X10_look {K : Kt} {l : Launch} (hp : St K) {r : Int32} {M1 : Mem} {x1 : Int32} {x2 : Int32} {M : Mem} (hF : f_X10_look x1 x2 M = some (r, M1)) : MT K l yX10_look cX10_look 4 (some .int) { frames := 5, cells := 0, slots := 0, locals := 127 } [vr 64, vi x1, vi x2] M (some (vi r)) M1 0 0 :=
  MT_of (by decide) rfl (Nat.le_of_ble_eq_true rfl) (fun X _ hB _ => b_X10_look hp hB hF)
def f_X10_reviewNow (x1 : Int32) (x2 : Int32) (M : Mem) : Option (Int32 × Mem) :=
  gd (shc (M.2.2.1 64 2) = 8) <|
  gd (inb x1 8) <|
  cl (f_X3_call 217 x1 M) fun r1 M1m =>
  cl (f_X4_review (M.2.2.1 64 2) (cr (cr (M.2.2.1 64 2) 12) x1.toNatClampNeg) r1 M1m) fun r2 M2m =>
  bnd (setI M2m 217 2 ((M2m.1 217 2) ||| ((1 : Int32) <<< (x1 &&& 31)))) fun M3m =>
  bnd (setI M3m 221 (x1.toNatClampNeg) ((M3m.1 221 x1.toNatClampNeg) + (M3m.1 212 2))) fun M4m =>
  clv (f_X3_addLog 217 x1 x2 r2 (M4m.1 212 2) M4m) fun M5m =>
  if r2 = 2 then
    clv (f_X3_turn 217 x1 M5m) fun M6m =>
    gd (shc (M6m.2.2.1 64 2) = 8) <|
    gd (inb (M6m.1 (cr (cr (M6m.2.2.1 64 2) 12) x1.toNatClampNeg) 1) 5) <|
    if (M6m.1 (cr (cr (M6m.2.2.1 64 2) 8) (M6m.1 (cr (cr (M6m.2.2.1 64 2) 12) x1.toNatClampNeg) 1).toNatClampNeg) 2) = 0 then
      some (r2, M6m)
    else
      clv (f_X3_restartBehind 217 x1 M6m) fun M7m =>
      some (r2, M7m)
  else
    some (r2, M5m)
set_option maxRecDepth 100000 in
set_option maxHeartbeats 4000000 in
theorem b_X10_reviewNow {K : Kt} {X : Xt} (hp : St K) (hB : Bx K X { frames := 5, cells := 0, slots := 0, locals := 127 } cX10_reviewNow 4 RX10 (some .int)) {r : Int32} {M1 : Mem} {x1 : Int32} {x2 : Int32} {M : Mem} (hF : f_X10_reviewNow x1 x2 M = some (r, M1)) : Wt K X (QM K X (some (vi r)) M1 0 0) 0 0 M 0 [(0, vr 64), (1, vi x1), (2, vi x2)] [] := by
  unfold f_X10_reviewNow at hF
  refine w_aload_n hB 0 dX10_reviewNow_0 rfl rfl ?_
  refine w_getC hB (v := 212) ff_X10_5 sh_64 hp.1 cr_64_5 (by decide) q_478 dX10_reviewNow_1 ?_
  refine w_aload_n hB 0 dX10_reviewNow_4 rfl rfl ?_
  refine w_getR hB ff_X10_2 sh_64 (Or.inl hp.1) q_475 dX10_reviewNow_5 ?_
  refine w_aload_n hB 0 dX10_reviewNow_8 rfl rfl ?_
  refine w_getR hB ff_X10_2 sh_64 (Or.inl hp.1) q_475 dX10_reviewNow_9 ?_
  obtain ⟨g1, hF⟩ := gdS hF
  refine w_getC hB (v := cr (M.2.2.1 64 2) 12) ff_X9_12 g1 hp.1 rfl (shc_ne (crc_8_12 g1).1) q_313 dX10_reviewNow_12 ?_
  refine w_iload_n hB 1 dX10_reviewNow_15 rfl rfl ?_
  obtain ⟨g2, hF⟩ := gdS hF
  refine w_aaldC hB (c := 6) (v := cr (cr (M.2.2.1 64 2) 12) x1.toNatClampNeg) (crc_8_12 g1).1 rfl (by decide) hp.1 (crc_8_12 g1).2 g2 rfl (shc_ne (cre_26 (crc_8_12 g1).1 (by rw [(crc_8_12 g1).2]; exact inb_lt g2))) dX10_reviewNow_16 ?_
  refine w_aload_n hB 0 dX10_reviewNow_17 rfl rfl ?_
  refine w_getC hB (v := 217) ff_X10_6 sh_64 hp.1 cr_64_6 (by decide) q_479 dX10_reviewNow_18 ?_
  refine w_iload_n hB 1 dX10_reviewNow_21 rfl rfl ?_
  obtain ⟨r1, M1m, hc_M1m, hF⟩ := clS hF
  refine w_callV hB (ci := 2) (As := [vi x1]) (st := [vr (cr (cr (M.2.2.1 64 2) 12) x1.toNatClampNeg), vr (M.2.2.1 64 2), vr 212]) cw_X10_178 q_760 q_761 rfl sh_217 (Or.inl hp.1) (c_X3_call hp hc_M1m) ⟨rfl, rfl⟩ (by decide) (by decide) rfl (Nat.le_of_ble_eq_true rfl) dX10_reviewNow_22 rfl ?_
  obtain ⟨r2, M2m, hc_M2m, hF⟩ := clS hF
  refine w_callV hB (ci := 3) (As := [vr (M.2.2.1 64 2), vr (cr (cr (M.2.2.1 64 2) 12) x1.toNatClampNeg), vi r1]) (st := []) cw_X10_270 q_903 q_904 rfl sh_212 (Or.inl hp.1) (c_X4_review hp hc_M2m) ⟨rfl, rfl⟩ (by decide) (by decide) rfl (Nat.le_of_ble_eq_true rfl) dX10_reviewNow_25 rfl ?_
  refine w_istore_n hB (L' := [(3, vi r2), (0, vr 64), (1, vi x1), (2, vi x2)]) dX10_reviewNow_28 rfl (by decide) rfl rfl ?_
  refine w_aload_n hB 1 dX10_reviewNow_29 rfl rfl ?_
  refine w_getC hB (v := 217) ff_X10_6 sh_64 hp.1 cr_64_6 (by decide) q_479 dX10_reviewNow_30 ?_
  refine w_dup hB rfl dX10_reviewNow_33 ?_
  refine w_getI hB ff_X3_2 sh_217 (Or.inl hp.1) q_436 dX10_reviewNow_34 ?_
  refine w_iconst hB 1 (by decide) dX10_reviewNow_37 ?_
  refine w_iload_n hB 2 dX10_reviewNow_38 rfl rfl ?_
  refine w_ishl hB dX10_reviewNow_39 ?_
  refine w_ior hB dX10_reviewNow_40 ?_
  obtain ⟨M3m, e_M3m, hF⟩ := bndS hF
  refine w_putI hB ff_X3_2 sh_217 (Or.inl hp.1) q_436 e_M3m dX10_reviewNow_41 ?_
  refine w_aload_n hB 1 dX10_reviewNow_44 rfl rfl ?_
  refine w_getC hB (v := 217) ff_X10_6 sh_64 hp.1 cr_64_6 (by decide) q_479 dX10_reviewNow_45 ?_
  refine w_getC hB (v := 221) ff_X3_7 sh_217 hp.1 cr_217_7 (by decide) q_446 dX10_reviewNow_48 ?_
  refine w_iload_n hB 2 dX10_reviewNow_51 rfl rfl ?_
  refine w_dup2 hB rfl rfl dX10_reviewNow_52 ?_
  refine w_iald hB sh_221 (Or.inl hp.1) sl_221 g2 dX10_reviewNow_53 ?_
  refine w_aload_n hB 1 dX10_reviewNow_54 rfl rfl ?_
  refine w_getC hB (v := 212) ff_X10_5 sh_64 hp.1 cr_64_5 (by decide) q_478 dX10_reviewNow_55 ?_
  refine w_getI hB ff_X4_2 sh_212 (Or.inl hp.1) q_414 dX10_reviewNow_58 ?_
  refine w_iadd hB dX10_reviewNow_61 ?_
  obtain ⟨M4m, e_M4m, hF⟩ := bndS hF
  refine w_iast hB sh_221 (Or.inl hp.1) sl_221 g2 e_M4m dX10_reviewNow_62 ?_
  refine w_aload_n hB 1 dX10_reviewNow_63 rfl rfl ?_
  refine w_getC hB (v := 217) ff_X10_6 sh_64 hp.1 cr_64_6 (by decide) q_479 dX10_reviewNow_64 ?_
  refine w_iload_n hB 2 dX10_reviewNow_67 rfl rfl ?_
  refine w_iload_n hB 3 dX10_reviewNow_68 rfl rfl ?_
  refine w_iload_n hB 0 dX10_reviewNow_69 rfl rfl ?_
  refine w_aload_n hB 1 dX10_reviewNow_70 rfl rfl ?_
  refine w_getC hB (v := 212) ff_X10_5 sh_64 hp.1 cr_64_5 (by decide) q_478 dX10_reviewNow_71 ?_
  refine w_getI hB ff_X4_2 sh_212 (Or.inl hp.1) q_414 dX10_reviewNow_74 ?_
  obtain ⟨M5m, hc_M5m, hF⟩ := clvS hF
  refine w_callV hB (ci := 2) (As := [vi x1, vi x2, vi r2, vi (M4m.1 212 2)]) (st := []) cw_X10_310 q_933 q_934 rfl sh_217 (Or.inl hp.1) (c_X3_addLog hp hc_M5m) ⟨rfl, rfl⟩ (by decide) (by decide) rfl (Nat.le_of_ble_eq_true rfl) dX10_reviewNow_77 rfl ?_
  refine w_iload_n hB 0 dX10_reviewNow_80 rfl rfl ?_
  refine w_iconst hB 2 (by decide) dX10_reviewNow_81 ?_
  refine w_icmp_ne hB 127 dX10_reviewNow_82 (by decide) (fun hc => ?_) (fun hc => ?_)
  · replace hF := ifF hc hF
    refine w_iload_n hB 0 dX10_reviewNow_127 rfl rfl ?_
    obtain ⟨e1, e2⟩ := retS hF
    subst e2
    exact w_iret hB dX10_reviewNow_128 e1
  · replace hF := ifT hc hF
    refine w_aload_n hB 1 dX10_reviewNow_85 rfl rfl ?_
    refine w_getC hB (v := 217) ff_X10_6 sh_64 hp.1 cr_64_6 (by decide) q_479 dX10_reviewNow_86 ?_
    refine w_iload_n hB 2 dX10_reviewNow_89 rfl rfl ?_
    obtain ⟨M6m, hc_M6m, hF⟩ := clvS hF
    refine w_callV hB (ci := 2) (As := [vi x1]) (st := []) cw_X10_314 q_938 q_939 rfl sh_217 (Or.inl hp.1) (c_X3_turn hp hc_M6m) ⟨rfl, rfl⟩ (by decide) (by decide) rfl (Nat.le_of_ble_eq_true rfl) dX10_reviewNow_90 rfl ?_
    refine w_aload_n hB 1 dX10_reviewNow_93 rfl rfl ?_
    refine w_getR hB ff_X10_2 sh_64 (Or.inl hp.1) q_475 dX10_reviewNow_94 ?_
    obtain ⟨g3, hF⟩ := gdS hF
    refine w_getC hB (v := cr (M6m.2.2.1 64 2) 8) ff_X9_8 g3 hp.1 rfl (shc_ne (crc_8_8 g3).1) q_301 dX10_reviewNow_97 ?_
    refine w_aload_n hB 1 dX10_reviewNow_100 rfl rfl ?_
    refine w_getR hB ff_X10_2 sh_64 (Or.inl hp.1) q_475 dX10_reviewNow_101 ?_
    refine w_getC hB (v := cr (M6m.2.2.1 64 2) 12) ff_X9_12 g3 hp.1 rfl (shc_ne (crc_8_12 g3).1) q_313 dX10_reviewNow_104 ?_
    refine w_iload_n hB 2 dX10_reviewNow_107 rfl rfl ?_
    refine w_aaldC hB (c := 6) (v := cr (cr (M6m.2.2.1 64 2) 12) x1.toNatClampNeg) (crc_8_12 g3).1 rfl (by decide) hp.1 (crc_8_12 g3).2 g2 rfl (shc_ne (cre_26 (crc_8_12 g3).1 (by rw [(crc_8_12 g3).2]; exact inb_lt g2))) dX10_reviewNow_108 ?_
    refine w_getI hB ff_X6_1 (cre_26 (crc_8_12 g3).1 (by rw [(crc_8_12 g3).2]; exact inb_lt g2)) (Or.inl hp.1) q_202 dX10_reviewNow_109 ?_
    obtain ⟨g4, hF⟩ := gdS hF
    refine w_aaldC hB (c := 4) (v := cr (cr (M6m.2.2.1 64 2) 8) (M6m.1 (cr (cr (M6m.2.2.1 64 2) 12) x1.toNatClampNeg) 1).toNatClampNeg) (crc_8_8 g3).1 rfl (by decide) hp.1 (crc_8_8 g3).2 g4 rfl (shc_ne (cre_24 (crc_8_8 g3).1 (by rw [(crc_8_8 g3).2]; exact inb_lt g4))) dX10_reviewNow_112 ?_
    refine w_getI hB ff_X5_2 (cre_24 (crc_8_8 g3).1 (by rw [(crc_8_8 g3).2]; exact inb_lt g4)) (Or.inl hp.1) q_149 dX10_reviewNow_113 ?_
    refine w_if_eq hB 127 dX10_reviewNow_116 (by decide) (fun hc => ?_) (fun hc => ?_)
    · replace hF := ifT hc hF
      refine w_iload_n hB 0 dX10_reviewNow_127 rfl rfl ?_
      obtain ⟨e1, e2⟩ := retS hF
      subst e2
      exact w_iret hB dX10_reviewNow_128 e1
    · replace hF := ifF hc hF
      refine w_aload_n hB 1 dX10_reviewNow_119 rfl rfl ?_
      refine w_getC hB (v := 217) ff_X10_6 sh_64 hp.1 cr_64_6 (by decide) q_479 dX10_reviewNow_120 ?_
      refine w_iload_n hB 2 dX10_reviewNow_123 rfl rfl ?_
      obtain ⟨M7m, hc_M7m, hF⟩ := clvS hF
      refine w_callV hB (ci := 2) (As := [vi x1]) (st := []) cw_X10_317 q_942 q_943 rfl sh_217 (Or.inl hp.1) (c_X3_restartBehind hp hc_M7m) ⟨rfl, rfl⟩ (by decide) (by decide) rfl (Nat.le_of_ble_eq_true rfl) dX10_reviewNow_124 rfl ?_
      refine w_iload_n hB 0 dX10_reviewNow_127 rfl rfl ?_
      obtain ⟨e1, e2⟩ := retS hF
      subst e2
      exact w_iret hB dX10_reviewNow_128 e1
theorem c_X10_reviewNow {K : Kt} {l : Launch} (hp : St K) {r : Int32} {M1 : Mem} {x1 : Int32} {x2 : Int32} {M : Mem} (hF : f_X10_reviewNow x1 x2 M = some (r, M1)) : MT K l yX10_reviewNow cX10_reviewNow 4 (some .int) { frames := 5, cells := 0, slots := 0, locals := 127 } [vr 64, vi x1, vi x2] M (some (vi r)) M1 0 0 :=
  MT_of (by decide) rfl (Nat.le_of_ble_eq_true rfl) (fun X _ hB _ => b_X10_reviewNow hp hB hF)
def f_X10_startAct (M : Mem) : Option Mem :=
  gd (inb (M.1 64 8) 12) <|
  clv (f_X3_copyFrom (cr 223 (M.1 64 8).toNatClampNeg) 217 M) fun M1m =>
  bnd (setI M1m 64 8 (((M1m.1 64 8) + 1) - ((M1m.1 64 8) + 1) / 12 * 12)) fun M2m =>
  bnd (setI M2m 64 9 (min32 ((M2m.1 64 9) + 1) 12)) fun M3m =>
  some M3m
set_option maxRecDepth 100000 in
set_option maxHeartbeats 4000000 in
theorem b_X10_startAct {K : Kt} {X : Xt} (hp : St K) (hB : Bx K X { frames := 2, cells := 0, slots := 0, locals := 47 } cX10_startAct 1 RX10 none) {M1 : Mem} {M : Mem} (hF : f_X10_startAct M = some M1) : Wt K X (QM K X none M1 0 0) 0 0 M 0 [(0, vr 64)] [] := by
  unfold f_X10_startAct at hF
  refine w_aload_n hB 0 dX10_startAct_0 rfl rfl ?_
  refine w_getC hB (v := 223) ff_X10_7 sh_64 hp.1 cr_64_7 (by decide) q_480 dX10_startAct_1 ?_
  refine w_aload_n hB 0 dX10_startAct_4 rfl rfl ?_
  refine w_getI hB ff_X10_8 sh_64 (Or.inl hp.1) q_481 dX10_startAct_5 ?_
  obtain ⟨g1, hF⟩ := gdS hF
  refine w_aaldC hB (c := 7) (v := cr 223 (M.1 64 8).toNatClampNeg) sh_223 rfl (by decide) hp.1 sl_223 g1 rfl (shc_ne (cre_27 sh_223 (by rw [sl_223]; exact inb_lt g1))) dX10_startAct_8 ?_
  refine w_aload_n hB 0 dX10_startAct_9 rfl rfl ?_
  refine w_getC hB (v := 217) ff_X10_6 sh_64 hp.1 cr_64_6 (by decide) q_479 dX10_startAct_10 ?_
  obtain ⟨M1m, hc_M1m, hF⟩ := clvS hF
  refine w_callV hB (ci := 2) (As := [vr 217]) (st := []) cw_X10_323 q_915 q_916 rfl (cre_27 sh_223 (by rw [sl_223]; exact inb_lt g1)) (Or.inl hp.1) (c_X3_copyFrom hp hc_M1m) ⟨rfl, rfl⟩ (by decide) (by decide) rfl (Nat.le_of_ble_eq_true rfl) dX10_startAct_13 rfl ?_
  refine w_aload_n hB 0 dX10_startAct_16 rfl rfl ?_
  refine w_aload_n hB 0 dX10_startAct_17 rfl rfl ?_
  refine w_getI hB ff_X10_8 sh_64 (Or.inl hp.1) q_481 dX10_startAct_18 ?_
  refine w_iconst hB 1 (by decide) dX10_startAct_21 ?_
  refine w_iadd hB dX10_startAct_22 ?_
  refine w_bipush hB 12 (by decide) dX10_startAct_23 ?_
  refine w_irem hB (by decide) dX10_startAct_25 ?_
  obtain ⟨M2m, e_M2m, hF⟩ := bndS hF
  refine w_putI hB ff_X10_8 sh_64 (Or.inl hp.1) q_481 e_M2m dX10_startAct_26 ?_
  refine w_aload_n hB 0 dX10_startAct_29 rfl rfl ?_
  refine w_aload_n hB 0 dX10_startAct_30 rfl rfl ?_
  refine w_getI hB ff_X10_9 sh_64 (Or.inl hp.1) q_482 dX10_startAct_31 ?_
  refine w_iconst hB 1 (by decide) dX10_startAct_34 ?_
  refine w_iadd hB dX10_startAct_35 ?_
  refine w_bipush hB 12 (by decide) dX10_startAct_36 ?_
  refine w_min hB q_919 (by decide) (Nat.le_of_ble_eq_true rfl) (by decide) dX10_startAct_38 ?_
  obtain ⟨M3m, e_M3m, hF⟩ := bndS hF
  refine w_putI hB ff_X10_9 sh_64 (Or.inl hp.1) q_482 e_M3m dX10_startAct_41 ?_
  cases hF
  exact w_vret hB dX10_startAct_44
theorem c_X10_startAct {K : Kt} {l : Launch} (hp : St K) {M1 : Mem} {M : Mem} (hF : f_X10_startAct M = some M1) : MT K l yX10_startAct cX10_startAct 1 none { frames := 2, cells := 0, slots := 0, locals := 47 } [vr 64] M none M1 0 0 :=
  MT_of (by decide) rfl (Nat.le_of_ble_eq_true rfl) (fun X _ hB _ => b_X10_startAct hp hB hF)
def f_X10_next (M : Mem) : Option (Int32 × Mem) :=
  bnd (M.1 217 0) fun a1 =>
  cl (f_X10_isPlay a1 M) fun r1 M1m =>
  if r1 = 0 then
    some ((-1), M1m)
  else
    clv (f_X10_startAct M1m) fun M2m =>
    gd (shc (M2m.2.2.1 64 2) = 8) <|
    gd (inb a1 8) <|
    clv (f_X3_happen 217 a1 (M2m.1 (cr (cr (M2m.2.2.1 64 2) 12) a1.toNatClampNeg) 4) M2m) fun M3m =>
    gd (shc (M3m.2.2.1 64 2) = 8) <|
    cl (f_X9_isReviewedAtOnce (M3m.2.2.1 64 2) a1 M3m) fun r2 M4m =>
    if r2 = 0 then
      some (3, M4m)
    else
      cl (f_X10_reviewNow a1 (-1) M4m) fun r3 M5m =>
      some (r3, M5m)
set_option maxRecDepth 100000 in
set_option maxHeartbeats 4000000 in
theorem b_X10_next {K : Kt} {X : Xt} (hp : St K) (hB : Bx K X { frames := 6, cells := 0, slots := 0, locals := 150 } cX10_next 2 RX10 (some .int)) {r : Int32} {M1 : Mem} {M : Mem} (hF : f_X10_next M = some (r, M1)) : Wt K X (QM K X (some (vi r)) M1 0 0) 0 0 M 0 [(0, vr 64)] [] := by
  unfold f_X10_next at hF
  refine w_aload_n hB 0 dX10_next_0 rfl rfl ?_
  refine w_getC hB (v := 217) ff_X10_6 sh_64 hp.1 cr_64_6 (by decide) q_479 dX10_next_1 ?_
  refine w_getI hB ff_X3_0 sh_217 (Or.inl hp.1) q_433 dX10_next_4 ?_
  obtain ⟨a1, e_a1, hF⟩ := bndS hF
  refine w_istore_n hB (L' := [(1, vi a1), (0, vr 64)]) dX10_next_7 rfl (by decide) e_a1 rfl ?_
  refine w_aload_n hB 1 dX10_next_8 rfl rfl ?_
  refine w_iload_n hB 0 dX10_next_9 rfl rfl ?_
  obtain ⟨r1, M1m, hc_M1m, hF⟩ := clS hF
  refine w_callV hB (ci := 8) (As := [vi a1]) (st := []) cw_X10_184 q_769 q_3 rfl sh_64 (Or.inl hp.1) (c_X10_isPlay hp hc_M1m) ⟨rfl, rfl⟩ (by decide) (by decide) rfl (Nat.le_of_ble_eq_true rfl) dX10_next_10 rfl ?_
  refine w_if_ne hB 18 dX10_next_13 (by decide) (fun hc => ?_) (fun hc => ?_)
  · replace hF := ifF hc hF
    refine w_aload_n hB 1 dX10_next_18 rfl rfl ?_
    obtain ⟨M2m, hc_M2m, hF⟩ := clvS hF
    refine w_callV hB (ci := 8) (As := []) (st := []) cw_X10_279 q_912 q_10 rfl sh_64 (Or.inl hp.1) (c_X10_startAct hp hc_M2m) ⟨rfl, rfl⟩ (by decide) (by decide) rfl (Nat.le_of_ble_eq_true rfl) dX10_next_19 rfl ?_
    refine w_aload_n hB 1 dX10_next_22 rfl rfl ?_
    refine w_getC hB (v := 217) ff_X10_6 sh_64 hp.1 cr_64_6 (by decide) q_479 dX10_next_23 ?_
    refine w_iload_n hB 0 dX10_next_26 rfl rfl ?_
    refine w_aload_n hB 1 dX10_next_27 rfl rfl ?_
    refine w_getR hB ff_X10_2 sh_64 (Or.inl hp.1) q_475 dX10_next_28 ?_
    obtain ⟨g1, hF⟩ := gdS hF
    refine w_getC hB (v := cr (M2m.2.2.1 64 2) 12) ff_X9_12 g1 hp.1 rfl (shc_ne (crc_8_12 g1).1) q_313 dX10_next_31 ?_
    refine w_iload_n hB 0 dX10_next_34 rfl rfl ?_
    obtain ⟨g2, hF⟩ := gdS hF
    refine w_aaldC hB (c := 6) (v := cr (cr (M2m.2.2.1 64 2) 12) a1.toNatClampNeg) (crc_8_12 g1).1 rfl (by decide) hp.1 (crc_8_12 g1).2 g2 rfl (shc_ne (cre_26 (crc_8_12 g1).1 (by rw [(crc_8_12 g1).2]; exact inb_lt g2))) dX10_next_35 ?_
    refine w_getI hB ff_X6_4 (cre_26 (crc_8_12 g1).1 (by rw [(crc_8_12 g1).2]; exact inb_lt g2)) (Or.inl hp.1) q_208 dX10_next_36 ?_
    obtain ⟨M3m, hc_M3m, hF⟩ := clvS hF
    refine w_callV hB (ci := 2) (As := [vi a1, vi (M2m.1 (cr (cr (M2m.2.2.1 64 2) 12) a1.toNatClampNeg) 4)]) (st := []) cw_X10_282 q_921 q_922 rfl sh_217 (Or.inl hp.1) (c_X3_happen hp hc_M3m) ⟨rfl, rfl⟩ (by decide) (by decide) rfl (Nat.le_of_ble_eq_true rfl) dX10_next_39 rfl ?_
    refine w_aload_n hB 1 dX10_next_42 rfl rfl ?_
    refine w_getR hB ff_X10_2 sh_64 (Or.inl hp.1) q_475 dX10_next_43 ?_
    refine w_iload_n hB 0 dX10_next_46 rfl rfl ?_
    obtain ⟨g3, hF⟩ := gdS hF
    obtain ⟨r2, M4m, hc_M4m, hF⟩ := clS hF
    refine w_callV hB (ci := 7) (As := [vi a1]) (st := []) cw_X10_286 q_925 q_926 rfl g3 (Or.inl hp.1) (c_X9_isReviewedAtOnce hp hc_M4m) ⟨rfl, rfl⟩ (by decide) (by decide) rfl (Nat.le_of_ble_eq_true rfl) dX10_next_47 rfl ?_
    refine w_if_eq hB 62 dX10_next_50 (by decide) (fun hc => ?_) (fun hc => ?_)
    · replace hF := ifT hc hF
      refine w_iconst hB 3 (by decide) dX10_next_62 ?_
      obtain ⟨e1, e2⟩ := retS hF
      subst e2
      exact w_iret hB dX10_next_63 e1
    · replace hF := ifF hc hF
      refine w_aload_n hB 1 dX10_next_53 rfl rfl ?_
      refine w_iload_n hB 0 dX10_next_54 rfl rfl ?_
      refine w_iconst hB (-1) (by decide) dX10_next_55 ?_
      obtain ⟨r3, M5m, hc_M5m, hF⟩ := clS hF
      refine w_callV hB (ci := 8) (As := [vi a1, vi (-1)]) (st := []) cw_X10_289 q_930 q_11 rfl sh_64 (Or.inl hp.1) (c_X10_reviewNow hp hc_M5m) ⟨rfl, rfl⟩ (by decide) (by decide) rfl (Nat.le_of_ble_eq_true rfl) dX10_next_56 rfl ?_
      refine w_goto hB 63 dX10_next_59 (by decide) ?_
      obtain ⟨e1, e2⟩ := retS hF
      subst e2
      exact w_iret hB dX10_next_63 e1
  · replace hF := ifT hc hF
    refine w_iconst hB (-1) (by decide) dX10_next_16 ?_
    obtain ⟨e1, e2⟩ := retS hF
    subst e2
    exact w_iret hB dX10_next_17 e1
theorem c_X10_next {K : Kt} {l : Launch} (hp : St K) {r : Int32} {M1 : Mem} {M : Mem} (hF : f_X10_next M = some (r, M1)) : MT K l yX10_next cX10_next 2 (some .int) { frames := 6, cells := 0, slots := 0, locals := 150 } [vr 64] M (some (vi r)) M1 0 0 :=
  MT_of (by decide) rfl (Nat.le_of_ble_eq_true rfl) (fun X _ hB _ => b_X10_next hp hB hF)
def f_X10_canChallenge (x1 : Int32) (x2 : Int32) (M : Mem) : Option (Int32 × Mem) :=
  gd (inb x1 4) <|
  if (M.1 219 x1.toNatClampNeg) ≤ 0 then
    some (0, M)
  else
    if (M.1 217 0) ≤ x2 then
      some (0, M)
    else
      gd (shc (M.2.2.1 64 2) = 8) <|
      if (M.1 (cr (M.2.2.1 64 2) 13) 3) < (((M.1 217 0) - 1) - x2) then
        some (0, M)
      else
        cl (f_X3_isReviewed 217 x2 M) fun r1 M1m =>
        if r1 = 0 then
          cl (f_X3_isBoarded 217 x2 M1m) fun r2 M2m =>
          if r2 = 0 then
            some (1, M2m)
          else
            some (0, M2m)
        else
          some (0, M1m)
set_option maxRecDepth 100000 in
set_option maxHeartbeats 4000000 in
theorem b_X10_canChallenge {K : Kt} {X : Xt} (hp : St K) (hB : Bx K X { frames := 1, cells := 0, slots := 0, locals := 21 } cX10_canChallenge 3 RX10 (some .boolean)) {r : Int32} {M1 : Mem} {x1 : Int32} {x2 : Int32} {M : Mem} (hF : f_X10_canChallenge x1 x2 M = some (r, M1)) : Wt K X (QM K X (some (vi r)) M1 0 0) 0 0 M 0 [(0, vr 64), (1, vi x1), (2, vi x2)] [] := by
  unfold f_X10_canChallenge at hF
  refine w_aload_n hB 0 dX10_canChallenge_0 rfl rfl ?_
  refine w_getC hB (v := 217) ff_X10_6 sh_64 hp.1 cr_64_6 (by decide) q_479 dX10_canChallenge_1 ?_
  refine w_getC hB (v := 219) ff_X3_5 sh_217 hp.1 cr_217_5 (by decide) q_442 dX10_canChallenge_4 ?_
  refine w_iload_n hB 1 dX10_canChallenge_7 rfl rfl ?_
  obtain ⟨g1, hF⟩ := gdS hF
  refine w_iald hB sh_219 (Or.inl hp.1) sl_219 g1 dX10_canChallenge_8 ?_
  refine w_if_le hB 72 dX10_canChallenge_9 (by decide) (fun hc => ?_) (fun hc => ?_)
  · replace hF := ifT hc hF
    refine w_iconst hB 0 (by decide) dX10_canChallenge_72 ?_
    obtain ⟨e1, e2⟩ := retS hF
    subst e2
    exact w_zret hB (by decide) dX10_canChallenge_73 e1
  · replace hF := ifF hc hF
    refine w_iload_n hB 2 dX10_canChallenge_12 rfl rfl ?_
    refine w_aload_n hB 0 dX10_canChallenge_13 rfl rfl ?_
    refine w_getC hB (v := 217) ff_X10_6 sh_64 hp.1 cr_64_6 (by decide) q_479 dX10_canChallenge_14 ?_
    refine w_getI hB ff_X3_0 sh_217 (Or.inl hp.1) q_433 dX10_canChallenge_17 ?_
    refine w_icmp_ge hB 72 dX10_canChallenge_20 (by decide) (fun hc => ?_) (fun hc => ?_)
    · replace hF := ifT hc hF
      refine w_iconst hB 0 (by decide) dX10_canChallenge_72 ?_
      obtain ⟨e1, e2⟩ := retS hF
      subst e2
      exact w_zret hB (by decide) dX10_canChallenge_73 e1
    · replace hF := ifF hc hF
      refine w_aload_n hB 0 dX10_canChallenge_23 rfl rfl ?_
      refine w_getC hB (v := 217) ff_X10_6 sh_64 hp.1 cr_64_6 (by decide) q_479 dX10_canChallenge_24 ?_
      refine w_getI hB ff_X3_0 sh_217 (Or.inl hp.1) q_433 dX10_canChallenge_27 ?_
      refine w_iconst hB 1 (by decide) dX10_canChallenge_30 ?_
      refine w_isub hB dX10_canChallenge_31 ?_
      refine w_iload_n hB 2 dX10_canChallenge_32 rfl rfl ?_
      refine w_isub hB dX10_canChallenge_33 ?_
      refine w_aload_n hB 0 dX10_canChallenge_34 rfl rfl ?_
      refine w_getR hB ff_X10_2 sh_64 (Or.inl hp.1) q_475 dX10_canChallenge_35 ?_
      obtain ⟨g2, hF⟩ := gdS hF
      refine w_getC hB (v := cr (M.2.2.1 64 2) 13) ff_X9_13 g2 hp.1 rfl (shc_ne (crc_8_13 g2).1) q_318 dX10_canChallenge_38 ?_
      refine w_iconst hB 3 (by decide) dX10_canChallenge_41 ?_
      refine w_iald hB (crc_8_13 g2).1 (Or.inl hp.1) (crc_8_13 g2).2 (by decide) dX10_canChallenge_42 ?_
      rw [show (3 : Int32).toNatClampNeg = 3 by decide]
      refine w_icmp_gt hB 72 dX10_canChallenge_43 (by decide) (fun hc => ?_) (fun hc => ?_)
      · replace hF := ifT hc hF
        refine w_iconst hB 0 (by decide) dX10_canChallenge_72 ?_
        obtain ⟨e1, e2⟩ := retS hF
        subst e2
        exact w_zret hB (by decide) dX10_canChallenge_73 e1
      · replace hF := ifF hc hF
        refine w_aload_n hB 0 dX10_canChallenge_46 rfl rfl ?_
        refine w_getC hB (v := 217) ff_X10_6 sh_64 hp.1 cr_64_6 (by decide) q_479 dX10_canChallenge_47 ?_
        refine w_iload_n hB 2 dX10_canChallenge_50 rfl rfl ?_
        obtain ⟨r1, M1m, hc_M1m, hF⟩ := clS hF
        refine w_callV hB (ci := 2) (As := [vi x2]) (st := []) cw_X10_197 q_772 q_773 rfl sh_217 (Or.inl hp.1) (c_X3_isReviewed hp hc_M1m) ⟨rfl, rfl⟩ (by decide) (by decide) rfl (Nat.le_of_ble_eq_true rfl) dX10_canChallenge_51 rfl ?_
        refine w_if_ne hB 72 dX10_canChallenge_54 (by decide) (fun hc => ?_) (fun hc => ?_)
        · replace hF := ifF hc hF
          refine w_iconst hB 0 (by decide) dX10_canChallenge_72 ?_
          obtain ⟨e1, e2⟩ := retS hF
          subst e2
          exact w_zret hB (by decide) dX10_canChallenge_73 e1
        · replace hF := ifT hc hF
          refine w_aload_n hB 0 dX10_canChallenge_57 rfl rfl ?_
          refine w_getC hB (v := 217) ff_X10_6 sh_64 hp.1 cr_64_6 (by decide) q_479 dX10_canChallenge_58 ?_
          refine w_iload_n hB 2 dX10_canChallenge_61 rfl rfl ?_
          obtain ⟨r2, M2m, hc_M2m, hF⟩ := clS hF
          refine w_callV hB (ci := 2) (As := [vi x2]) (st := []) cw_X10_200 q_776 q_777 rfl sh_217 (Or.inl hp.1) (c_X3_isBoarded hp hc_M2m) ⟨rfl, rfl⟩ (by decide) (by decide) rfl (Nat.le_of_ble_eq_true rfl) dX10_canChallenge_62 rfl ?_
          refine w_if_ne hB 72 dX10_canChallenge_65 (by decide) (fun hc => ?_) (fun hc => ?_)
          · replace hF := ifF hc hF
            refine w_iconst hB 0 (by decide) dX10_canChallenge_72 ?_
            obtain ⟨e1, e2⟩ := retS hF
            subst e2
            exact w_zret hB (by decide) dX10_canChallenge_73 e1
          · replace hF := ifT hc hF
            refine w_iconst hB 1 (by decide) dX10_canChallenge_68 ?_
            refine w_goto hB 73 dX10_canChallenge_69 (by decide) ?_
            obtain ⟨e1, e2⟩ := retS hF
            subst e2
            exact w_zret hB (by decide) dX10_canChallenge_73 e1
theorem c_X10_canChallenge {K : Kt} {l : Launch} (hp : St K) {r : Int32} {M1 : Mem} {x1 : Int32} {x2 : Int32} {M : Mem} (hF : f_X10_canChallenge x1 x2 M = some (r, M1)) : MT K l yX10_canChallenge cX10_canChallenge 3 (some .boolean) { frames := 1, cells := 0, slots := 0, locals := 21 } [vr 64, vi x1, vi x2] M (some (vi r)) M1 0 0 :=
  MT_of (by decide) rfl (Nat.le_of_ble_eq_true rfl) (fun X _ hB _ => b_X10_canChallenge hp hB hF)
def f_X10_challenge (x1 : Int32) (x2 : Int32) (M : Mem) : Option (Int32 × Mem) :=
  cl (f_X10_isSide x1 M) fun r1 M1m =>
  if r1 = 0 then
    some ((-1), M1m)
  else
    cl (f_X10_isPlay x2 M1m) fun r2 M2m =>
    if r2 = 0 then
      some ((-1), M2m)
    else
      cl (f_X10_canChallenge x1 x2 M2m) fun r3 M3m =>
      if r3 = 0 then
        some ((-2), M3m)
      else
        clv (f_X10_startAct M3m) fun M4m =>
        cl (f_X10_reviewNow x2 x1 M4m) fun r4 M5m =>
        if r4 = 2 then
          gd (inb x1 4) <|
          bnd (setI M5m 220 (x1.toNatClampNeg) ((M5m.1 220 x1.toNatClampNeg) + 1)) fun M6m =>
          gd (shc (M6m.2.2.1 64 2) = 8) <|
          cl (f_X9_leftWhenWon (M6m.2.2.1 64 2) (M6m.1 219 x1.toNatClampNeg) (M6m.1 220 x1.toNatClampNeg) M6m) fun r5 M7m =>
          bnd (setI M7m 219 (x1.toNatClampNeg) r5) fun M8m =>
          some (r4, M8m)
        else
          gd (inb x1 4) <|
          bnd (setI M5m 219 (x1.toNatClampNeg) ((M5m.1 219 x1.toNatClampNeg) - 1)) fun M9m =>
          gd (inb x2 8) <|
          bnd (setI M9m 218 (x2.toNatClampNeg) x1) fun M10m =>
          some (r4, M10m)
set_option maxRecDepth 100000 in
set_option maxHeartbeats 4000000 in
theorem b_X10_challenge {K : Kt} {X : Xt} (hp : St K) (hB : Bx K X { frames := 6, cells := 0, slots := 0, locals := 150 } cX10_challenge 4 RX10 (some .int)) {r : Int32} {M1 : Mem} {x1 : Int32} {x2 : Int32} {M : Mem} (hF : f_X10_challenge x1 x2 M = some (r, M1)) : Wt K X (QM K X (some (vi r)) M1 0 0) 0 0 M 0 [(0, vr 64), (1, vi x1), (2, vi x2)] [] := by
  unfold f_X10_challenge at hF
  refine w_aload_n hB 0 dX10_challenge_0 rfl rfl ?_
  refine w_iload_n hB 1 dX10_challenge_1 rfl rfl ?_
  obtain ⟨r1, M1m, hc_M1m, hF⟩ := clS hF
  refine w_callV hB (ci := 8) (As := [vi x1]) (st := []) cw_X10_150 q_753 q_1 rfl sh_64 (Or.inl hp.1) (c_X10_isSide hp hc_M1m) ⟨rfl, rfl⟩ (by decide) (by decide) rfl (Nat.le_of_ble_eq_true rfl) dX10_challenge_2 rfl ?_
  refine w_if_eq hB 16 dX10_challenge_5 (by decide) (fun hc => ?_) (fun hc => ?_)
  · replace hF := ifT hc hF
    refine w_iconst hB (-1) (by decide) dX10_challenge_16 ?_
    obtain ⟨e1, e2⟩ := retS hF
    subst e2
    exact w_iret hB dX10_challenge_17 e1
  · replace hF := ifF hc hF
    refine w_aload_n hB 0 dX10_challenge_8 rfl rfl ?_
    refine w_iload_n hB 2 dX10_challenge_9 rfl rfl ?_
    obtain ⟨r2, M2m, hc_M2m, hF⟩ := clS hF
    refine w_callV hB (ci := 8) (As := [vi x2]) (st := []) cw_X10_184 q_769 q_3 rfl sh_64 (Or.inl hp.1) (c_X10_isPlay hp hc_M2m) ⟨rfl, rfl⟩ (by decide) (by decide) rfl (Nat.le_of_ble_eq_true rfl) dX10_challenge_10 rfl ?_
    refine w_if_ne hB 18 dX10_challenge_13 (by decide) (fun hc => ?_) (fun hc => ?_)
    · replace hF := ifF hc hF
      refine w_aload_n hB 0 dX10_challenge_18 rfl rfl ?_
      refine w_iload_n hB 1 dX10_challenge_19 rfl rfl ?_
      refine w_iload_n hB 2 dX10_challenge_20 rfl rfl ?_
      obtain ⟨r3, M3m, hc_M3m, hF⟩ := clS hF
      refine w_callV hB (ci := 8) (As := [vi x1, vi x2]) (st := []) cw_X10_292 q_951 q_12 rfl sh_64 (Or.inl hp.1) (c_X10_canChallenge hp hc_M3m) ⟨rfl, rfl⟩ (by decide) (by decide) rfl (Nat.le_of_ble_eq_true rfl) dX10_challenge_21 rfl ?_
      refine w_if_ne hB 30 dX10_challenge_24 (by decide) (fun hc => ?_) (fun hc => ?_)
      · replace hF := ifF hc hF
        refine w_aload_n hB 0 dX10_challenge_30 rfl rfl ?_
        obtain ⟨M4m, hc_M4m, hF⟩ := clvS hF
        refine w_callV hB (ci := 8) (As := []) (st := []) cw_X10_279 q_912 q_10 rfl sh_64 (Or.inl hp.1) (c_X10_startAct hp hc_M4m) ⟨rfl, rfl⟩ (by decide) (by decide) rfl (Nat.le_of_ble_eq_true rfl) dX10_challenge_31 rfl ?_
        refine w_aload_n hB 0 dX10_challenge_34 rfl rfl ?_
        refine w_iload_n hB 2 dX10_challenge_35 rfl rfl ?_
        refine w_iload_n hB 1 dX10_challenge_36 rfl rfl ?_
        obtain ⟨r4, M5m, hc_M5m, hF⟩ := clS hF
        refine w_callV hB (ci := 8) (As := [vi x2, vi x1]) (st := []) cw_X10_289 q_930 q_11 rfl sh_64 (Or.inl hp.1) (c_X10_reviewNow hp hc_M5m) ⟨rfl, rfl⟩ (by decide) (by decide) rfl (Nat.le_of_ble_eq_true rfl) dX10_challenge_37 rfl ?_
        refine w_istore_n hB (L' := [(3, vi r4), (0, vr 64), (1, vi x1), (2, vi x2)]) dX10_challenge_40 rfl (by decide) rfl rfl ?_
        refine w_iload_n hB 0 dX10_challenge_41 rfl rfl ?_
        refine w_iconst hB 2 (by decide) dX10_challenge_42 ?_
        refine w_icmp_ne hB 96 dX10_challenge_43 (by decide) (fun hc => ?_) (fun hc => ?_)
        · replace hF := ifF hc hF
          refine w_aload_n hB 1 dX10_challenge_96 rfl rfl ?_
          refine w_getC hB (v := 217) ff_X10_6 sh_64 hp.1 cr_64_6 (by decide) q_479 dX10_challenge_97 ?_
          refine w_getC hB (v := 219) ff_X3_5 sh_217 hp.1 cr_217_5 (by decide) q_442 dX10_challenge_100 ?_
          refine w_iload_n hB 2 dX10_challenge_103 rfl rfl ?_
          refine w_dup2 hB rfl rfl dX10_challenge_104 ?_
          obtain ⟨g3, hF⟩ := gdS hF
          refine w_iald hB sh_219 (Or.inl hp.1) sl_219 g3 dX10_challenge_105 ?_
          refine w_iconst hB 1 (by decide) dX10_challenge_106 ?_
          refine w_isub hB dX10_challenge_107 ?_
          obtain ⟨M9m, e_M9m, hF⟩ := bndS hF
          refine w_iast hB sh_219 (Or.inl hp.1) sl_219 g3 e_M9m dX10_challenge_108 ?_
          refine w_aload_n hB 1 dX10_challenge_109 rfl rfl ?_
          refine w_getC hB (v := 217) ff_X10_6 sh_64 hp.1 cr_64_6 (by decide) q_479 dX10_challenge_110 ?_
          refine w_getC hB (v := 218) ff_X3_4 sh_217 hp.1 cr_217_4 (by decide) q_440 dX10_challenge_113 ?_
          refine w_iload_n hB 3 dX10_challenge_116 rfl rfl ?_
          refine w_iload_n hB 2 dX10_challenge_117 rfl rfl ?_
          obtain ⟨g4, hF⟩ := gdS hF
          obtain ⟨M10m, e_M10m, hF⟩ := bndS hF
          refine w_iast hB sh_218 (Or.inl hp.1) sl_218 g4 e_M10m dX10_challenge_118 ?_
          refine w_iload_n hB 0 dX10_challenge_119 rfl rfl ?_
          obtain ⟨e1, e2⟩ := retS hF
          subst e2
          exact w_iret hB dX10_challenge_120 e1
        · replace hF := ifT hc hF
          refine w_aload_n hB 1 dX10_challenge_46 rfl rfl ?_
          refine w_getC hB (v := 217) ff_X10_6 sh_64 hp.1 cr_64_6 (by decide) q_479 dX10_challenge_47 ?_
          refine w_getC hB (v := 220) ff_X3_6 sh_217 hp.1 cr_217_6 (by decide) q_444 dX10_challenge_50 ?_
          refine w_iload_n hB 2 dX10_challenge_53 rfl rfl ?_
          refine w_dup2 hB rfl rfl dX10_challenge_54 ?_
          obtain ⟨g1, hF⟩ := gdS hF
          refine w_iald hB sh_220 (Or.inl hp.1) sl_220 g1 dX10_challenge_55 ?_
          refine w_iconst hB 1 (by decide) dX10_challenge_56 ?_
          refine w_iadd hB dX10_challenge_57 ?_
          obtain ⟨M6m, e_M6m, hF⟩ := bndS hF
          refine w_iast hB sh_220 (Or.inl hp.1) sl_220 g1 e_M6m dX10_challenge_58 ?_
          refine w_aload_n hB 1 dX10_challenge_59 rfl rfl ?_
          refine w_getC hB (v := 217) ff_X10_6 sh_64 hp.1 cr_64_6 (by decide) q_479 dX10_challenge_60 ?_
          refine w_getC hB (v := 219) ff_X3_5 sh_217 hp.1 cr_217_5 (by decide) q_442 dX10_challenge_63 ?_
          refine w_iload_n hB 2 dX10_challenge_66 rfl rfl ?_
          refine w_aload_n hB 1 dX10_challenge_67 rfl rfl ?_
          refine w_getR hB ff_X10_2 sh_64 (Or.inl hp.1) q_475 dX10_challenge_68 ?_
          refine w_aload_n hB 1 dX10_challenge_71 rfl rfl ?_
          refine w_getC hB (v := 217) ff_X10_6 sh_64 hp.1 cr_64_6 (by decide) q_479 dX10_challenge_72 ?_
          refine w_getC hB (v := 219) ff_X3_5 sh_217 hp.1 cr_217_5 (by decide) q_442 dX10_challenge_75 ?_
          refine w_iload_n hB 2 dX10_challenge_78 rfl rfl ?_
          refine w_iald hB sh_219 (Or.inl hp.1) sl_219 g1 dX10_challenge_79 ?_
          refine w_aload_n hB 1 dX10_challenge_80 rfl rfl ?_
          refine w_getC hB (v := 217) ff_X10_6 sh_64 hp.1 cr_64_6 (by decide) q_479 dX10_challenge_81 ?_
          refine w_getC hB (v := 220) ff_X3_6 sh_217 hp.1 cr_217_6 (by decide) q_444 dX10_challenge_84 ?_
          refine w_iload_n hB 2 dX10_challenge_87 rfl rfl ?_
          refine w_iald hB sh_220 (Or.inl hp.1) sl_220 g1 dX10_challenge_88 ?_
          obtain ⟨g2, hF⟩ := gdS hF
          obtain ⟨r5, M7m, hc_M7m, hF⟩ := clS hF
          refine w_callV hB (ci := 7) (As := [vi (M6m.1 219 x1.toNatClampNeg), vi (M6m.1 220 x1.toNatClampNeg)]) (st := [vi x1, vr 219]) cw_X10_296 q_954 q_955 rfl g2 (Or.inl hp.1) (c_X9_leftWhenWon hp hc_M7m) ⟨rfl, rfl⟩ (by decide) (by decide) rfl (Nat.le_of_ble_eq_true rfl) dX10_challenge_89 rfl ?_
          obtain ⟨M8m, e_M8m, hF⟩ := bndS hF
          refine w_iast hB sh_219 (Or.inl hp.1) sl_219 g1 e_M8m dX10_challenge_92 ?_
          refine w_goto hB 119 dX10_challenge_93 (by decide) ?_
          refine w_iload_n hB 0 dX10_challenge_119 rfl rfl ?_
          obtain ⟨e1, e2⟩ := retS hF
          subst e2
          exact w_iret hB dX10_challenge_120 e1
      · replace hF := ifT hc hF
        refine w_bipush hB (-2) (by decide) dX10_challenge_27 ?_
        obtain ⟨e1, e2⟩ := retS hF
        subst e2
        exact w_iret hB dX10_challenge_29 e1
    · replace hF := ifT hc hF
      refine w_iconst hB (-1) (by decide) dX10_challenge_16 ?_
      obtain ⟨e1, e2⟩ := retS hF
      subst e2
      exact w_iret hB dX10_challenge_17 e1
theorem c_X10_challenge {K : Kt} {l : Launch} (hp : St K) {r : Int32} {M1 : Mem} {x1 : Int32} {x2 : Int32} {M : Mem} (hF : f_X10_challenge x1 x2 M = some (r, M1)) : MT K l yX10_challenge cX10_challenge 4 (some .int) { frames := 6, cells := 0, slots := 0, locals := 150 } [vr 64, vi x1, vi x2] M (some (vi r)) M1 0 0 :=
  MT_of (by decide) rfl (Nat.le_of_ble_eq_true rfl) (fun X _ hB _ => b_X10_challenge hp hB hF)
def f_X10_wouldOverturn (x1 : Int32) (x2 : Int32) (M : Mem) : Option (Int32 × Mem) :=
  gd (shc (M.2.2.1 64 2) = 8) <|
  gd (inb x1 3) <|
  bnd (cr (cr (M.2.2.1 64 2) 10) x1.toNatClampNeg) fun o1 =>
  gd (inb x2 8) <|
  cl (f_X10_callNow x2 M) fun r1 M1m =>
  cl (f_X4_membersAgainst (M.2.2.1 64 2) o1 (cr (cr (M.2.2.1 64 2) 12) x2.toNatClampNeg) r1 M1m) fun r2 M2m =>
  cl (f_J6_bitCount_0f7a4 r2 M2m) fun r3 M3m =>
  if r3 < (M3m.1 o1 0) then
    some (0, M3m)
  else
    some (1, M3m)
set_option maxRecDepth 100000 in
set_option maxHeartbeats 4000000 in
theorem b_X10_wouldOverturn {K : Kt} {X : Xt} (hp : St K) (hB : Bx K X { frames := 5, cells := 0, slots := 0, locals := 128 } cX10_wouldOverturn 5 RX10 (some .boolean)) {r : Int32} {M1 : Mem} {x1 : Int32} {x2 : Int32} {M : Mem} (hF : f_X10_wouldOverturn x1 x2 M = some (r, M1)) : Wt K X (QM K X (some (vi r)) M1 0 0) 0 0 M 0 [(0, vr 64), (1, vi x1), (2, vi x2)] [] := by
  unfold f_X10_wouldOverturn at hF
  refine w_aload_n hB 0 dX10_wouldOverturn_0 rfl rfl ?_
  refine w_getR hB ff_X10_2 sh_64 (Or.inl hp.1) q_475 dX10_wouldOverturn_1 ?_
  obtain ⟨g1, hF⟩ := gdS hF
  refine w_getC hB (v := cr (M.2.2.1 64 2) 10) ff_X9_10 g1 hp.1 rfl (shc_ne (crc_8_10 g1).1) q_308 dX10_wouldOverturn_4 ?_
  refine w_iload_n hB 1 dX10_wouldOverturn_7 rfl rfl ?_
  obtain ⟨g2, hF⟩ := gdS hF
  refine w_aaldC hB (c := 5) (v := cr (cr (M.2.2.1 64 2) 10) x1.toNatClampNeg) (crc_8_10 g1).1 rfl (by decide) hp.1 (crc_8_10 g1).2 g2 rfl (shc_ne (cre_25 (crc_8_10 g1).1 (by rw [(crc_8_10 g1).2]; exact inb_lt g2))) dX10_wouldOverturn_8 ?_
  obtain ⟨o1, e_o1, hF⟩ := bndS hF
  rw [← e_o1]
  refine w_astore_n hB (L' := [(3, vr o1), (0, vr 64), (1, vi x1), (2, vi x2)]) dX10_wouldOverturn_9 rfl (by decide) rfl ?_
  refine w_aload_n hB 1 dX10_wouldOverturn_10 rfl rfl ?_
  refine w_getC hB (v := 212) ff_X10_5 sh_64 hp.1 cr_64_5 (by decide) q_478 dX10_wouldOverturn_11 ?_
  refine w_aload_n hB 1 dX10_wouldOverturn_14 rfl rfl ?_
  refine w_getR hB ff_X10_2 sh_64 (Or.inl hp.1) q_475 dX10_wouldOverturn_15 ?_
  refine w_aload_n hB 0 dX10_wouldOverturn_18 rfl rfl ?_
  refine w_aload_n hB 1 dX10_wouldOverturn_19 rfl rfl ?_
  refine w_getR hB ff_X10_2 sh_64 (Or.inl hp.1) q_475 dX10_wouldOverturn_20 ?_
  refine w_getC hB (v := cr (M.2.2.1 64 2) 12) ff_X9_12 g1 hp.1 rfl (shc_ne (crc_8_12 g1).1) q_313 dX10_wouldOverturn_23 ?_
  refine w_iload_n hB 3 dX10_wouldOverturn_26 rfl rfl ?_
  obtain ⟨g3, hF⟩ := gdS hF
  refine w_aaldC hB (c := 6) (v := cr (cr (M.2.2.1 64 2) 12) x2.toNatClampNeg) (crc_8_12 g1).1 rfl (by decide) hp.1 (crc_8_12 g1).2 g3 rfl (shc_ne (cre_26 (crc_8_12 g1).1 (by rw [(crc_8_12 g1).2]; exact inb_lt g3))) dX10_wouldOverturn_27 ?_
  refine w_aload_n hB 1 dX10_wouldOverturn_28 rfl rfl ?_
  refine w_iload_n hB 3 dX10_wouldOverturn_29 rfl rfl ?_
  obtain ⟨r1, M1m, hc_M1m, hF⟩ := clS hF
  refine w_callV hB (ci := 8) (As := [vi x2]) (st := [vr (cr (cr (M.2.2.1 64 2) 12) x2.toNatClampNeg), vr o1, vr (M.2.2.1 64 2), vr 212]) cw_X10_267 q_900 q_9 rfl sh_64 (Or.inl hp.1) (c_X10_callNow hp hc_M1m) ⟨rfl, rfl⟩ (by decide) (by decide) rfl (Nat.le_of_ble_eq_true rfl) dX10_wouldOverturn_30 rfl ?_
  obtain ⟨r2, M2m, hc_M2m, hF⟩ := clS hF
  refine w_callV hB (ci := 3) (As := [vr (M.2.2.1 64 2), vr o1, vr (cr (cr (M.2.2.1 64 2) 12) x2.toNatClampNeg), vi r1]) (st := []) cw_X10_348 q_971 q_972 rfl sh_212 (Or.inl hp.1) (c_X4_membersAgainst hp hc_M2m) ⟨rfl, rfl⟩ (by decide) (by decide) rfl (Nat.le_of_ble_eq_true rfl) dX10_wouldOverturn_33 rfl ?_
  refine w_istore hB (L' := [(4, vi r2), (3, vr o1), (0, vr 64), (1, vi x1), (2, vi x2)]) dX10_wouldOverturn_36 (by decide) rfl rfl ?_
  refine w_iload hB 0 dX10_wouldOverturn_38 rfl ?_
  obtain ⟨r3, M3m, hc_M3m, hF⟩ := clS hF
  refine w_callS hB (As := [vi r2]) (st := []) cw_X10_352 q_859 (c_J6_bitCount_0f7a4 hp hc_M3m) ⟨rfl, rfl⟩ (by decide) (by decide) rfl (Nat.le_of_ble_eq_true rfl) dX10_wouldOverturn_40 rfl ?_
  refine w_aload_n hB 1 dX10_wouldOverturn_43 rfl rfl ?_
  refine w_getI hB ff_X1_0 (by rw [e_o1]; exact (cre_25 (crc_8_10 g1).1 (by rw [(crc_8_10 g1).2]; exact inb_lt g2))) (Or.inl hp.1) q_179 dX10_wouldOverturn_44 ?_
  refine w_icmp_lt hB 54 dX10_wouldOverturn_47 (by decide) (fun hc => ?_) (fun hc => ?_)
  · replace hF := ifT hc hF
    refine w_iconst hB 0 (by decide) dX10_wouldOverturn_54 ?_
    obtain ⟨e1, e2⟩ := retS hF
    subst e2
    exact w_zret hB (by decide) dX10_wouldOverturn_55 e1
  · replace hF := ifF hc hF
    refine w_iconst hB 1 (by decide) dX10_wouldOverturn_50 ?_
    refine w_goto hB 55 dX10_wouldOverturn_51 (by decide) ?_
    obtain ⟨e1, e2⟩ := retS hF
    subst e2
    exact w_zret hB (by decide) dX10_wouldOverturn_55 e1
theorem c_X10_wouldOverturn {K : Kt} {l : Launch} (hp : St K) {r : Int32} {M1 : Mem} {x1 : Int32} {x2 : Int32} {M : Mem} (hF : f_X10_wouldOverturn x1 x2 M = some (r, M1)) : MT K l yX10_wouldOverturn cX10_wouldOverturn 5 (some .boolean) { frames := 5, cells := 0, slots := 0, locals := 128 } [vr 64, vi x1, vi x2] M (some (vi r)) M1 0 0 :=
  MT_of (by decide) rfl (Nat.le_of_ble_eq_true rfl) (fun X _ hB _ => b_X10_wouldOverturn hp hB hF)
def f_X10_put_b111 (x3 : Int32) (M : Mem) : Option (Int32 × Mem) :=
  if x3 = 0 then
    some (0, M)
  else
    some (1, M)
set_option maxRecDepth 100000 in
set_option maxHeartbeats 4000000 in
theorem b_X10_put_b111 {K : Kt} {X : Xt} (hp : St K) (hB : Bx K X { frames := 6, cells := 0, slots := 0, locals := 152 } cX10_put 4 RX10 (some .int)) {r : Int32} {M1 : Mem} {x3 : Int32} {M : Mem} (hF : f_X10_put_b111 x3 M = some (r, M1)) : Wt K X (QM K X (some (vi r)) M1 0 0) 0 0 M 111 [(3, vi x3)] [] := by
  unfold f_X10_put_b111 at hF
  refine w_iload_n hB 0 dX10_put_111 rfl rfl ?_
  refine w_if_eq hB 119 dX10_put_112 (by decide) (fun hc => ?_) (fun hc => ?_)
  · replace hF := ifT hc hF
    refine w_iconst hB 0 (by decide) dX10_put_119 ?_
    obtain ⟨e1, e2⟩ := retS hF
    subst e2
    exact w_iret hB dX10_put_120 e1
  · replace hF := ifF hc hF
    refine w_iconst hB 1 (by decide) dX10_put_115 ?_
    refine w_goto hB 120 dX10_put_116 (by decide) ?_
    obtain ⟨e1, e2⟩ := retS hF
    subst e2
    exact w_iret hB dX10_put_120 e1
def f_X10_put_b87 (x2 : Int32) (x3 : Int32) (xs1 : Int32) (xs2 : Int32) (xs3 : Int32) (M : Mem) : Option (Int32 × Mem) :=
  clv (f_X3_addLog 217 xs1 xs2 xs3 0 M) fun M1m =>
  if x3 = 0 then
    f_X10_put_b111 x3 M1m
  else
    clv (f_X3_turn 217 x2 M1m) fun M2m =>
    clv (f_X3_giveBack 217 x2 M2m) fun M3m =>
    f_X10_put_b111 x3 M3m
set_option maxRecDepth 100000 in
set_option maxHeartbeats 4000000 in
theorem b_X10_put_b87 {K : Kt} {X : Xt} (hp : St K) (hB : Bx K X { frames := 6, cells := 0, slots := 0, locals := 152 } cX10_put 4 RX10 (some .int)) {r : Int32} {M1 : Mem} {x2 : Int32} {x3 : Int32} {xs1 : Int32} {xs2 : Int32} {xs3 : Int32} {M : Mem} (hF : f_X10_put_b87 x2 x3 xs1 xs2 xs3 M = some (r, M1)) : Wt K X (QM K X (some (vi r)) M1 0 0) 0 0 M 87 [(0, vr 64), (2, vi x2), (3, vi x3)] [vi xs3, vi xs2, vi xs1, vr 217] := by
  unfold f_X10_put_b87 at hF
  refine w_iconst hB 0 (by decide) dX10_put_87 ?_
  obtain ⟨M1m, hc_M1m, hF⟩ := clvS hF
  refine w_callV hB (ci := 2) (As := [vi xs1, vi xs2, vi xs3, vi 0]) (st := []) cw_X10_310 q_933 q_934 rfl sh_217 (Or.inl hp.1) (c_X3_addLog hp hc_M1m) ⟨rfl, rfl⟩ (by decide) (by decide) rfl (Nat.le_of_ble_eq_true rfl) dX10_put_88 rfl ?_
  refine w_iload_n hB 2 dX10_put_91 rfl rfl ?_
  refine w_if_eq hB 111 dX10_put_92 (by decide) (fun hc => ?_) (fun hc => ?_)
  · replace hF := ifT hc hF
    exact Wt.sub (L' := [(3, vi x3)]) [2] rfl (b_X10_put_b111 hp hB hF)
  · replace hF := ifF hc hF
    refine w_aload_n hB 0 dX10_put_95 rfl rfl ?_
    refine w_getC hB (v := 217) ff_X10_6 sh_64 hp.1 cr_64_6 (by decide) q_479 dX10_put_96 ?_
    refine w_iload_n hB 1 dX10_put_99 rfl rfl ?_
    obtain ⟨M2m, hc_M2m, hF⟩ := clvS hF
    refine w_callV hB (ci := 2) (As := [vi x2]) (st := []) cw_X10_314 q_938 q_939 rfl sh_217 (Or.inl hp.1) (c_X3_turn hp hc_M2m) ⟨rfl, rfl⟩ (by decide) (by decide) rfl (Nat.le_of_ble_eq_true rfl) dX10_put_100 rfl ?_
    refine w_aload_n hB 0 dX10_put_103 rfl rfl ?_
    refine w_getC hB (v := 217) ff_X10_6 sh_64 hp.1 cr_64_6 (by decide) q_479 dX10_put_104 ?_
    refine w_iload_n hB 1 dX10_put_107 rfl rfl ?_
    obtain ⟨M3m, hc_M3m, hF⟩ := clvS hF
    refine w_callV hB (ci := 2) (As := [vi x2]) (st := []) cw_X10_341 q_976 q_977 rfl sh_217 (Or.inl hp.1) (c_X3_giveBack hp hc_M3m) ⟨rfl, rfl⟩ (by decide) (by decide) rfl (Nat.le_of_ble_eq_true rfl) dX10_put_108 rfl ?_
    exact Wt.sub (L' := [(3, vi x3)]) [2] rfl (b_X10_put_b111 hp hB hF)
def f_X10_put (x1 : Int32) (x2 : Int32) (M : Mem) : Option (Int32 × Mem) :=
  cl (f_X10_isBoard x1 M) fun r1 M1m =>
  if r1 = 0 then
    some ((-1), M1m)
  else
    cl (f_X10_isPlay x2 M1m) fun r2 M2m =>
    if r2 = 0 then
      some ((-1), M2m)
    else
      if (M2m.1 217 0) ≤ x2 then
        some ((-2), M2m)
      else
        cl (f_X3_isBoarded 217 x2 M2m) fun r3 M3m =>
        if r3 = 0 then
          clv (f_X10_startAct M3m) fun M4m =>
          cl (f_X10_wouldOverturn x1 x2 M4m) fun r4 M5m =>
          bnd (setI M5m 217 3 ((M5m.1 217 3) ||| ((1 : Int32) <<< (x2 &&& 31)))) fun M6m =>
          if r4 = 0 then
            f_X10_put_b87 x2 r4 x2 (10 + x1) 0 M6m
          else
            f_X10_put_b87 x2 r4 x2 (10 + x1) 2 M6m
        else
          some ((-2), M3m)
set_option maxRecDepth 100000 in
set_option maxHeartbeats 4000000 in
theorem b_X10_put {K : Kt} {X : Xt} (hp : St K) (hB : Bx K X { frames := 6, cells := 0, slots := 0, locals := 152 } cX10_put 4 RX10 (some .int)) {r : Int32} {M1 : Mem} {x1 : Int32} {x2 : Int32} {M : Mem} (hF : f_X10_put x1 x2 M = some (r, M1)) : Wt K X (QM K X (some (vi r)) M1 0 0) 0 0 M 0 [(0, vr 64), (1, vi x1), (2, vi x2)] [] := by
  unfold f_X10_put at hF
  refine w_aload_n hB 0 dX10_put_0 rfl rfl ?_
  refine w_iload_n hB 1 dX10_put_1 rfl rfl ?_
  obtain ⟨r1, M1m, hc_M1m, hF⟩ := clS hF
  refine w_callV hB (ci := 8) (As := [vi x1]) (st := []) cw_X10_332 q_964 q_13 rfl sh_64 (Or.inl hp.1) (c_X10_isBoard hp hc_M1m) ⟨rfl, rfl⟩ (by decide) (by decide) rfl (Nat.le_of_ble_eq_true rfl) dX10_put_2 rfl ?_
  refine w_if_eq hB 16 dX10_put_5 (by decide) (fun hc => ?_) (fun hc => ?_)
  · replace hF := ifT hc hF
    refine w_iconst hB (-1) (by decide) dX10_put_16 ?_
    obtain ⟨e1, e2⟩ := retS hF
    subst e2
    exact w_iret hB dX10_put_17 e1
  · replace hF := ifF hc hF
    refine w_aload_n hB 0 dX10_put_8 rfl rfl ?_
    refine w_iload_n hB 2 dX10_put_9 rfl rfl ?_
    obtain ⟨r2, M2m, hc_M2m, hF⟩ := clS hF
    refine w_callV hB (ci := 8) (As := [vi x2]) (st := []) cw_X10_184 q_769 q_3 rfl sh_64 (Or.inl hp.1) (c_X10_isPlay hp hc_M2m) ⟨rfl, rfl⟩ (by decide) (by decide) rfl (Nat.le_of_ble_eq_true rfl) dX10_put_10 rfl ?_
    refine w_if_ne hB 18 dX10_put_13 (by decide) (fun hc => ?_) (fun hc => ?_)
    · replace hF := ifF hc hF
      refine w_iload_n hB 2 dX10_put_18 rfl rfl ?_
      refine w_aload_n hB 0 dX10_put_19 rfl rfl ?_
      refine w_getC hB (v := 217) ff_X10_6 sh_64 hp.1 cr_64_6 (by decide) q_479 dX10_put_20 ?_
      refine w_getI hB ff_X3_0 sh_217 (Or.inl hp.1) q_433 dX10_put_23 ?_
      refine w_icmp_ge hB 40 dX10_put_26 (by decide) (fun hc => ?_) (fun hc => ?_)
      · replace hF := ifT hc hF
        refine w_bipush hB (-2) (by decide) dX10_put_40 ?_
        obtain ⟨e1, e2⟩ := retS hF
        subst e2
        exact w_iret hB dX10_put_42 e1
      · replace hF := ifF hc hF
        refine w_aload_n hB 0 dX10_put_29 rfl rfl ?_
        refine w_getC hB (v := 217) ff_X10_6 sh_64 hp.1 cr_64_6 (by decide) q_479 dX10_put_30 ?_
        refine w_iload_n hB 2 dX10_put_33 rfl rfl ?_
        obtain ⟨r3, M3m, hc_M3m, hF⟩ := clS hF
        refine w_callV hB (ci := 2) (As := [vi x2]) (st := []) cw_X10_200 q_776 q_777 rfl sh_217 (Or.inl hp.1) (c_X3_isBoarded hp hc_M3m) ⟨rfl, rfl⟩ (by decide) (by decide) rfl (Nat.le_of_ble_eq_true rfl) dX10_put_34 rfl ?_
        refine w_if_eq hB 43 dX10_put_37 (by decide) (fun hc => ?_) (fun hc => ?_)
        · replace hF := ifT hc hF
          refine w_aload_n hB 0 dX10_put_43 rfl rfl ?_
          obtain ⟨M4m, hc_M4m, hF⟩ := clvS hF
          refine w_callV hB (ci := 8) (As := []) (st := []) cw_X10_279 q_912 q_10 rfl sh_64 (Or.inl hp.1) (c_X10_startAct hp hc_M4m) ⟨rfl, rfl⟩ (by decide) (by decide) rfl (Nat.le_of_ble_eq_true rfl) dX10_put_44 rfl ?_
          refine w_aload_n hB 0 dX10_put_47 rfl rfl ?_
          refine w_iload_n hB 1 dX10_put_48 rfl rfl ?_
          refine w_iload_n hB 2 dX10_put_49 rfl rfl ?_
          obtain ⟨r4, M5m, hc_M5m, hF⟩ := clS hF
          refine w_callV hB (ci := 8) (As := [vi x1, vi x2]) (st := []) cw_X10_335 q_968 q_14 rfl sh_64 (Or.inl hp.1) (c_X10_wouldOverturn hp hc_M5m) ⟨rfl, rfl⟩ (by decide) (by decide) rfl (Nat.le_of_ble_eq_true rfl) dX10_put_50 rfl ?_
          refine w_istore_n hB (L' := [(3, vi r4), (0, vr 64), (1, vi x1), (2, vi x2)]) dX10_put_53 rfl (by decide) rfl rfl ?_
          refine w_aload_n hB 1 dX10_put_54 rfl rfl ?_
          refine w_getC hB (v := 217) ff_X10_6 sh_64 hp.1 cr_64_6 (by decide) q_479 dX10_put_55 ?_
          refine w_dup hB rfl dX10_put_58 ?_
          refine w_getI hB ff_X3_3 sh_217 (Or.inl hp.1) q_438 dX10_put_59 ?_
          refine w_iconst hB 1 (by decide) dX10_put_62 ?_
          refine w_iload_n hB 3 dX10_put_63 rfl rfl ?_
          refine w_ishl hB dX10_put_64 ?_
          refine w_ior hB dX10_put_65 ?_
          obtain ⟨M6m, e_M6m, hF⟩ := bndS hF
          refine w_putI hB ff_X3_3 sh_217 (Or.inl hp.1) q_438 e_M6m dX10_put_66 ?_
          refine w_aload_n hB 1 dX10_put_69 rfl rfl ?_
          refine w_getC hB (v := 217) ff_X10_6 sh_64 hp.1 cr_64_6 (by decide) q_479 dX10_put_70 ?_
          refine w_iload_n hB 3 dX10_put_73 rfl rfl ?_
          refine w_bipush hB 10 (by decide) dX10_put_74 ?_
          refine w_iload_n hB 2 dX10_put_76 rfl rfl ?_
          refine w_iadd hB dX10_put_77 ?_
          refine w_iload_n hB 0 dX10_put_78 rfl rfl ?_
          refine w_if_eq hB 86 dX10_put_79 (by decide) (fun hc => ?_) (fun hc => ?_)
          · replace hF := ifT hc hF
            refine w_iconst hB 0 (by decide) dX10_put_86 ?_
            exact Wt.sub (L' := [(0, vr 64), (2, vi x2), (3, vi r4)]) [1, 3, 0] rfl (b_X10_put_b87 hp hB hF)
          · replace hF := ifF hc hF
            refine w_iconst hB 2 (by decide) dX10_put_82 ?_
            refine w_goto hB 87 dX10_put_83 (by decide) ?_
            exact Wt.sub (L' := [(0, vr 64), (2, vi x2), (3, vi r4)]) [1, 3, 0] rfl (b_X10_put_b87 hp hB hF)
        · replace hF := ifF hc hF
          refine w_bipush hB (-2) (by decide) dX10_put_40 ?_
          obtain ⟨e1, e2⟩ := retS hF
          subst e2
          exact w_iret hB dX10_put_42 e1
    · replace hF := ifT hc hF
      refine w_iconst hB (-1) (by decide) dX10_put_16 ?_
      obtain ⟨e1, e2⟩ := retS hF
      subst e2
      exact w_iret hB dX10_put_17 e1
theorem c_X10_put {K : Kt} {l : Launch} (hp : St K) {r : Int32} {M1 : Mem} {x1 : Int32} {x2 : Int32} {M : Mem} (hF : f_X10_put x1 x2 M = some (r, M1)) : MT K l yX10_put cX10_put 4 (some .int) { frames := 6, cells := 0, slots := 0, locals := 152 } [vr 64, vi x1, vi x2] M (some (vi r)) M1 0 0 :=
  MT_of (by decide) rfl (Nat.le_of_ble_eq_true rfl) (fun X _ hB _ => b_X10_put hp hB hF)
def f_X10_votes (x1 : Int32) (x2 : Int32) (M : Mem) : Option (Int32 × Mem) :=
  cl (f_X10_isBoard x1 M) fun r1 M1m =>
  if r1 = 0 then
    some ((-1), M1m)
  else
    cl (f_X10_isPlay x2 M1m) fun r2 M2m =>
    if r2 = 0 then
      some ((-1), M2m)
    else
      gd (shc (M2m.2.2.1 64 2) = 8) <|
      gd (inb x1 3) <|
      gd (inb x2 8) <|
      cl (f_X10_callNow x2 M2m) fun r3 M3m =>
      cl (f_X4_membersAgainst (M2m.2.2.1 64 2) (cr (cr (M2m.2.2.1 64 2) 10) x1.toNatClampNeg) (cr (cr (M2m.2.2.1 64 2) 12) x2.toNatClampNeg) r3 M3m) fun r4 M4m =>
      some (r4, M4m)
set_option maxRecDepth 100000 in
set_option maxHeartbeats 4000000 in
theorem b_X10_votes {K : Kt} {X : Xt} (hp : St K) (hB : Bx K X { frames := 5, cells := 0, slots := 0, locals := 128 } cX10_votes 3 RX10 (some .int)) {r : Int32} {M1 : Mem} {x1 : Int32} {x2 : Int32} {M : Mem} (hF : f_X10_votes x1 x2 M = some (r, M1)) : Wt K X (QM K X (some (vi r)) M1 0 0) 0 0 M 0 [(0, vr 64), (1, vi x1), (2, vi x2)] [] := by
  unfold f_X10_votes at hF
  refine w_aload_n hB 0 dX10_votes_0 rfl rfl ?_
  refine w_iload_n hB 1 dX10_votes_1 rfl rfl ?_
  obtain ⟨r1, M1m, hc_M1m, hF⟩ := clS hF
  refine w_callV hB (ci := 8) (As := [vi x1]) (st := []) cw_X10_332 q_964 q_13 rfl sh_64 (Or.inl hp.1) (c_X10_isBoard hp hc_M1m) ⟨rfl, rfl⟩ (by decide) (by decide) rfl (Nat.le_of_ble_eq_true rfl) dX10_votes_2 rfl ?_
  refine w_if_eq hB 16 dX10_votes_5 (by decide) (fun hc => ?_) (fun hc => ?_)
  · replace hF := ifT hc hF
    refine w_iconst hB (-1) (by decide) dX10_votes_16 ?_
    obtain ⟨e1, e2⟩ := retS hF
    subst e2
    exact w_iret hB dX10_votes_17 e1
  · replace hF := ifF hc hF
    refine w_aload_n hB 0 dX10_votes_8 rfl rfl ?_
    refine w_iload_n hB 2 dX10_votes_9 rfl rfl ?_
    obtain ⟨r2, M2m, hc_M2m, hF⟩ := clS hF
    refine w_callV hB (ci := 8) (As := [vi x2]) (st := []) cw_X10_184 q_769 q_3 rfl sh_64 (Or.inl hp.1) (c_X10_isPlay hp hc_M2m) ⟨rfl, rfl⟩ (by decide) (by decide) rfl (Nat.le_of_ble_eq_true rfl) dX10_votes_10 rfl ?_
    refine w_if_ne hB 18 dX10_votes_13 (by decide) (fun hc => ?_) (fun hc => ?_)
    · replace hF := ifF hc hF
      refine w_aload_n hB 0 dX10_votes_18 rfl rfl ?_
      refine w_getC hB (v := 212) ff_X10_5 sh_64 hp.1 cr_64_5 (by decide) q_478 dX10_votes_19 ?_
      refine w_aload_n hB 0 dX10_votes_22 rfl rfl ?_
      refine w_getR hB ff_X10_2 sh_64 (Or.inl hp.1) q_475 dX10_votes_23 ?_
      refine w_aload_n hB 0 dX10_votes_26 rfl rfl ?_
      refine w_getR hB ff_X10_2 sh_64 (Or.inl hp.1) q_475 dX10_votes_27 ?_
      obtain ⟨g1, hF⟩ := gdS hF
      refine w_getC hB (v := cr (M2m.2.2.1 64 2) 10) ff_X9_10 g1 hp.1 rfl (shc_ne (crc_8_10 g1).1) q_308 dX10_votes_30 ?_
      refine w_iload_n hB 1 dX10_votes_33 rfl rfl ?_
      obtain ⟨g2, hF⟩ := gdS hF
      refine w_aaldC hB (c := 5) (v := cr (cr (M2m.2.2.1 64 2) 10) x1.toNatClampNeg) (crc_8_10 g1).1 rfl (by decide) hp.1 (crc_8_10 g1).2 g2 rfl (shc_ne (cre_25 (crc_8_10 g1).1 (by rw [(crc_8_10 g1).2]; exact inb_lt g2))) dX10_votes_34 ?_
      refine w_aload_n hB 0 dX10_votes_35 rfl rfl ?_
      refine w_getR hB ff_X10_2 sh_64 (Or.inl hp.1) q_475 dX10_votes_36 ?_
      refine w_getC hB (v := cr (M2m.2.2.1 64 2) 12) ff_X9_12 g1 hp.1 rfl (shc_ne (crc_8_12 g1).1) q_313 dX10_votes_39 ?_
      refine w_iload_n hB 2 dX10_votes_42 rfl rfl ?_
      obtain ⟨g3, hF⟩ := gdS hF
      refine w_aaldC hB (c := 6) (v := cr (cr (M2m.2.2.1 64 2) 12) x2.toNatClampNeg) (crc_8_12 g1).1 rfl (by decide) hp.1 (crc_8_12 g1).2 g3 rfl (shc_ne (cre_26 (crc_8_12 g1).1 (by rw [(crc_8_12 g1).2]; exact inb_lt g3))) dX10_votes_43 ?_
      refine w_aload_n hB 0 dX10_votes_44 rfl rfl ?_
      refine w_iload_n hB 2 dX10_votes_45 rfl rfl ?_
      obtain ⟨r3, M3m, hc_M3m, hF⟩ := clS hF
      refine w_callV hB (ci := 8) (As := [vi x2]) (st := [vr (cr (cr (M2m.2.2.1 64 2) 12) x2.toNatClampNeg), vr (cr (cr (M2m.2.2.1 64 2) 10) x1.toNatClampNeg), vr (M2m.2.2.1 64 2), vr 212]) cw_X10_267 q_900 q_9 rfl sh_64 (Or.inl hp.1) (c_X10_callNow hp hc_M3m) ⟨rfl, rfl⟩ (by decide) (by decide) rfl (Nat.le_of_ble_eq_true rfl) dX10_votes_46 rfl ?_
      obtain ⟨r4, M4m, hc_M4m, hF⟩ := clS hF
      refine w_callV hB (ci := 3) (As := [vr (M2m.2.2.1 64 2), vr (cr (cr (M2m.2.2.1 64 2) 10) x1.toNatClampNeg), vr (cr (cr (M2m.2.2.1 64 2) 12) x2.toNatClampNeg), vi r3]) (st := []) cw_X10_348 q_971 q_972 rfl sh_212 (Or.inl hp.1) (c_X4_membersAgainst hp hc_M4m) ⟨rfl, rfl⟩ (by decide) (by decide) rfl (Nat.le_of_ble_eq_true rfl) dX10_votes_49 rfl ?_
      obtain ⟨e1, e2⟩ := retS hF
      subst e2
      exact w_iret hB dX10_votes_52 e1
    · replace hF := ifT hc hF
      refine w_iconst hB (-1) (by decide) dX10_votes_16 ?_
      obtain ⟨e1, e2⟩ := retS hF
      subst e2
      exact w_iret hB dX10_votes_17 e1
theorem c_X10_votes {K : Kt} {l : Launch} (hp : St K) {r : Int32} {M1 : Mem} {x1 : Int32} {x2 : Int32} {M : Mem} (hF : f_X10_votes x1 x2 M = some (r, M1)) : MT K l yX10_votes cX10_votes 3 (some .int) { frames := 5, cells := 0, slots := 0, locals := 128 } [vr 64, vi x1, vi x2] M (some (vi r)) M1 0 0 :=
  MT_of (by decide) rfl (Nat.le_of_ble_eq_true rfl) (fun X _ hB _ => b_X10_votes hp hB hF)
def f_X10_pivot (x1 : Int32) (x2 : Int32) (M : Mem) : Option (Int32 × Mem) :=
  cl (f_X10_isBoard x1 M) fun r1 M1m =>
  if r1 = 0 then
    some ((-1), M1m)
  else
    cl (f_X10_isPlay x2 M1m) fun r2 M2m =>
    if r2 = 0 then
      some ((-1), M2m)
    else
      gd (shc (M2m.2.2.1 64 2) = 8) <|
      gd (inb x1 3) <|
      gd (inb x2 8) <|
      cl (f_X10_callNow x2 M2m) fun r3 M3m =>
      cl (f_X4_membersAgainst (M2m.2.2.1 64 2) (cr (cr (M2m.2.2.1 64 2) 10) x1.toNatClampNeg) (cr (cr (M2m.2.2.1 64 2) 12) x2.toNatClampNeg) r3 M3m) fun r4 M4m =>
      cl (f_J6_bitCount_0f7a4 r4 M4m) fun r5 M5m =>
      gd (shc (M5m.2.2.1 64 2) = 8) <|
      if r5 = (M5m.1 (cr (cr (M5m.2.2.1 64 2) 10) x1.toNatClampNeg) 0) then
        some (r4, M5m)
      else
        some (0, M5m)
set_option maxRecDepth 100000 in
set_option maxHeartbeats 4000000 in
theorem b_X10_pivot {K : Kt} {X : Xt} (hp : St K) (hB : Bx K X { frames := 5, cells := 0, slots := 0, locals := 128 } cX10_pivot 4 RX10 (some .int)) {r : Int32} {M1 : Mem} {x1 : Int32} {x2 : Int32} {M : Mem} (hF : f_X10_pivot x1 x2 M = some (r, M1)) : Wt K X (QM K X (some (vi r)) M1 0 0) 0 0 M 0 [(0, vr 64), (1, vi x1), (2, vi x2)] [] := by
  unfold f_X10_pivot at hF
  refine w_aload_n hB 0 dX10_pivot_0 rfl rfl ?_
  refine w_iload_n hB 1 dX10_pivot_1 rfl rfl ?_
  obtain ⟨r1, M1m, hc_M1m, hF⟩ := clS hF
  refine w_callV hB (ci := 8) (As := [vi x1]) (st := []) cw_X10_332 q_964 q_13 rfl sh_64 (Or.inl hp.1) (c_X10_isBoard hp hc_M1m) ⟨rfl, rfl⟩ (by decide) (by decide) rfl (Nat.le_of_ble_eq_true rfl) dX10_pivot_2 rfl ?_
  refine w_if_eq hB 16 dX10_pivot_5 (by decide) (fun hc => ?_) (fun hc => ?_)
  · replace hF := ifT hc hF
    refine w_iconst hB (-1) (by decide) dX10_pivot_16 ?_
    obtain ⟨e1, e2⟩ := retS hF
    subst e2
    exact w_iret hB dX10_pivot_17 e1
  · replace hF := ifF hc hF
    refine w_aload_n hB 0 dX10_pivot_8 rfl rfl ?_
    refine w_iload_n hB 2 dX10_pivot_9 rfl rfl ?_
    obtain ⟨r2, M2m, hc_M2m, hF⟩ := clS hF
    refine w_callV hB (ci := 8) (As := [vi x2]) (st := []) cw_X10_184 q_769 q_3 rfl sh_64 (Or.inl hp.1) (c_X10_isPlay hp hc_M2m) ⟨rfl, rfl⟩ (by decide) (by decide) rfl (Nat.le_of_ble_eq_true rfl) dX10_pivot_10 rfl ?_
    refine w_if_ne hB 18 dX10_pivot_13 (by decide) (fun hc => ?_) (fun hc => ?_)
    · replace hF := ifF hc hF
      refine w_aload_n hB 0 dX10_pivot_18 rfl rfl ?_
      refine w_getC hB (v := 212) ff_X10_5 sh_64 hp.1 cr_64_5 (by decide) q_478 dX10_pivot_19 ?_
      refine w_aload_n hB 0 dX10_pivot_22 rfl rfl ?_
      refine w_getR hB ff_X10_2 sh_64 (Or.inl hp.1) q_475 dX10_pivot_23 ?_
      refine w_aload_n hB 0 dX10_pivot_26 rfl rfl ?_
      refine w_getR hB ff_X10_2 sh_64 (Or.inl hp.1) q_475 dX10_pivot_27 ?_
      obtain ⟨g1, hF⟩ := gdS hF
      refine w_getC hB (v := cr (M2m.2.2.1 64 2) 10) ff_X9_10 g1 hp.1 rfl (shc_ne (crc_8_10 g1).1) q_308 dX10_pivot_30 ?_
      refine w_iload_n hB 1 dX10_pivot_33 rfl rfl ?_
      obtain ⟨g2, hF⟩ := gdS hF
      refine w_aaldC hB (c := 5) (v := cr (cr (M2m.2.2.1 64 2) 10) x1.toNatClampNeg) (crc_8_10 g1).1 rfl (by decide) hp.1 (crc_8_10 g1).2 g2 rfl (shc_ne (cre_25 (crc_8_10 g1).1 (by rw [(crc_8_10 g1).2]; exact inb_lt g2))) dX10_pivot_34 ?_
      refine w_aload_n hB 0 dX10_pivot_35 rfl rfl ?_
      refine w_getR hB ff_X10_2 sh_64 (Or.inl hp.1) q_475 dX10_pivot_36 ?_
      refine w_getC hB (v := cr (M2m.2.2.1 64 2) 12) ff_X9_12 g1 hp.1 rfl (shc_ne (crc_8_12 g1).1) q_313 dX10_pivot_39 ?_
      refine w_iload_n hB 2 dX10_pivot_42 rfl rfl ?_
      obtain ⟨g3, hF⟩ := gdS hF
      refine w_aaldC hB (c := 6) (v := cr (cr (M2m.2.2.1 64 2) 12) x2.toNatClampNeg) (crc_8_12 g1).1 rfl (by decide) hp.1 (crc_8_12 g1).2 g3 rfl (shc_ne (cre_26 (crc_8_12 g1).1 (by rw [(crc_8_12 g1).2]; exact inb_lt g3))) dX10_pivot_43 ?_
      refine w_aload_n hB 0 dX10_pivot_44 rfl rfl ?_
      refine w_iload_n hB 2 dX10_pivot_45 rfl rfl ?_
      obtain ⟨r3, M3m, hc_M3m, hF⟩ := clS hF
      refine w_callV hB (ci := 8) (As := [vi x2]) (st := [vr (cr (cr (M2m.2.2.1 64 2) 12) x2.toNatClampNeg), vr (cr (cr (M2m.2.2.1 64 2) 10) x1.toNatClampNeg), vr (M2m.2.2.1 64 2), vr 212]) cw_X10_267 q_900 q_9 rfl sh_64 (Or.inl hp.1) (c_X10_callNow hp hc_M3m) ⟨rfl, rfl⟩ (by decide) (by decide) rfl (Nat.le_of_ble_eq_true rfl) dX10_pivot_46 rfl ?_
      obtain ⟨r4, M4m, hc_M4m, hF⟩ := clS hF
      refine w_callV hB (ci := 3) (As := [vr (M2m.2.2.1 64 2), vr (cr (cr (M2m.2.2.1 64 2) 10) x1.toNatClampNeg), vr (cr (cr (M2m.2.2.1 64 2) 12) x2.toNatClampNeg), vi r3]) (st := []) cw_X10_348 q_971 q_972 rfl sh_212 (Or.inl hp.1) (c_X4_membersAgainst hp hc_M4m) ⟨rfl, rfl⟩ (by decide) (by decide) rfl (Nat.le_of_ble_eq_true rfl) dX10_pivot_49 rfl ?_
      refine w_istore_n hB (L' := [(3, vi r4), (0, vr 64), (1, vi x1), (2, vi x2)]) dX10_pivot_52 rfl (by decide) rfl rfl ?_
      refine w_iload_n hB 0 dX10_pivot_53 rfl rfl ?_
      obtain ⟨r5, M5m, hc_M5m, hF⟩ := clS hF
      refine w_callS hB (As := [vi r4]) (st := []) cw_X10_352 q_859 (c_J6_bitCount_0f7a4 hp hc_M5m) ⟨rfl, rfl⟩ (by decide) (by decide) rfl (Nat.le_of_ble_eq_true rfl) dX10_pivot_54 rfl ?_
      refine w_aload_n hB 1 dX10_pivot_57 rfl rfl ?_
      refine w_getR hB ff_X10_2 sh_64 (Or.inl hp.1) q_475 dX10_pivot_58 ?_
      obtain ⟨g4, hF⟩ := gdS hF
      refine w_getC hB (v := cr (M5m.2.2.1 64 2) 10) ff_X9_10 g4 hp.1 rfl (shc_ne (crc_8_10 g4).1) q_308 dX10_pivot_61 ?_
      refine w_iload_n hB 2 dX10_pivot_64 rfl rfl ?_
      refine w_aaldC hB (c := 5) (v := cr (cr (M5m.2.2.1 64 2) 10) x1.toNatClampNeg) (crc_8_10 g4).1 rfl (by decide) hp.1 (crc_8_10 g4).2 g2 rfl (shc_ne (cre_25 (crc_8_10 g4).1 (by rw [(crc_8_10 g4).2]; exact inb_lt g2))) dX10_pivot_65 ?_
      refine w_getI hB ff_X1_0 (cre_25 (crc_8_10 g4).1 (by rw [(crc_8_10 g4).2]; exact inb_lt g2)) (Or.inl hp.1) q_179 dX10_pivot_66 ?_
      refine w_icmp_ne hB 76 dX10_pivot_69 (by decide) (fun hc => ?_) (fun hc => ?_)
      · replace hF := ifF hc hF
        refine w_iconst hB 0 (by decide) dX10_pivot_76 ?_
        obtain ⟨e1, e2⟩ := retS hF
        subst e2
        exact w_iret hB dX10_pivot_77 e1
      · replace hF := ifT hc hF
        refine w_iload_n hB 0 dX10_pivot_72 rfl rfl ?_
        refine w_goto hB 77 dX10_pivot_73 (by decide) ?_
        obtain ⟨e1, e2⟩ := retS hF
        subst e2
        exact w_iret hB dX10_pivot_77 e1
    · replace hF := ifT hc hF
      refine w_iconst hB (-1) (by decide) dX10_pivot_16 ?_
      obtain ⟨e1, e2⟩ := retS hF
      subst e2
      exact w_iret hB dX10_pivot_17 e1
theorem c_X10_pivot {K : Kt} {l : Launch} (hp : St K) {r : Int32} {M1 : Mem} {x1 : Int32} {x2 : Int32} {M : Mem} (hF : f_X10_pivot x1 x2 M = some (r, M1)) : MT K l yX10_pivot cX10_pivot 4 (some .int) { frames := 5, cells := 0, slots := 0, locals := 128 } [vr 64, vi x1, vi x2] M (some (vi r)) M1 0 0 :=
  MT_of (by decide) rfl (Nat.le_of_ble_eq_true rfl) (fun X _ hB _ => b_X10_pivot hp hB hF)
def f_X10_boards_b14_s (rec14 : Int32 → Int32 → Int32 → Mem → Option (Int32 × Mem)) (x1 : Int32) (x2 : Int32) (x3 : Int32) (M : Mem) : Option (Int32 × Mem) :=
  gd (shc (M.2.2.1 64 2) = 8) <|
  if (M.1 (M.2.2.1 64 2) 9) ≤ x3 then
    some (x2, M)
  else
    cl (f_X10_wouldOverturn x3 x1 M) fun r1 M1m =>
    if r1 = 0 then
      bnd (x3 + 1) fun a1 =>
      rec14 x1 x2 a1 M1m
    else
      bnd (x2 ||| ((1 : Int32) <<< (x3 &&& 31))) fun a2 =>
      bnd (x3 + 1) fun a3 =>
      rec14 x1 a2 a3 M1m
set_option maxRecDepth 100000 in
set_option maxHeartbeats 4000000 in
theorem b_X10_boards_b14_s {K : Kt} {X : Xt} (hp : St K) (hB : Bx K X { frames := 6, cells := 0, slots := 0, locals := 152 } cX10_boards 4 RX10 (some .int)) {r : Int32} {M1 : Mem} {rec14 : Int32 → Int32 → Int32 → Mem → Option (Int32 × Mem)}
    (h14 : ∀ x1 x2 x3 M, rec14 x1 x2 x3 M = some (r, M1) → Wt K X (QM K X (some (vi r)) M1 0 0) 0 0 M 14 [(0, vr 64), (1, vi x1), (2, vi x2), (3, vi x3)] []) {x1 : Int32} {x2 : Int32} {x3 : Int32} {M : Mem} (hF : f_X10_boards_b14_s rec14 x1 x2 x3 M = some (r, M1)) : Wt K X (QM K X (some (vi r)) M1 0 0) 0 0 M 14 [(0, vr 64), (1, vi x1), (2, vi x2), (3, vi x3)] [] := by
  unfold f_X10_boards_b14_s at hF
  refine w_iload_n hB 3 dX10_boards_14 rfl rfl ?_
  refine w_aload_n hB 0 dX10_boards_15 rfl rfl ?_
  refine w_getR hB ff_X10_2 sh_64 (Or.inl hp.1) q_475 dX10_boards_16 ?_
  obtain ⟨g1, hF⟩ := gdS hF
  refine w_getI hB ff_X9_9 g1 (Or.inl hp.1) q_304 dX10_boards_19 ?_
  refine w_icmp_ge hB 46 dX10_boards_22 (by decide) (fun hc => ?_) (fun hc => ?_)
  · replace hF := ifT hc hF
    refine w_iload_n hB 2 dX10_boards_46 rfl rfl ?_
    obtain ⟨e1, e2⟩ := retS hF
    subst e2
    exact w_iret hB dX10_boards_47 e1
  · replace hF := ifF hc hF
    refine w_aload_n hB 0 dX10_boards_25 rfl rfl ?_
    refine w_iload_n hB 3 dX10_boards_26 rfl rfl ?_
    refine w_iload_n hB 1 dX10_boards_27 rfl rfl ?_
    obtain ⟨r1, M1m, hc_M1m, hF⟩ := clS hF
    refine w_callV hB (ci := 8) (As := [vi x3, vi x1]) (st := []) cw_X10_335 q_968 q_14 rfl sh_64 (Or.inl hp.1) (c_X10_wouldOverturn hp hc_M1m) ⟨rfl, rfl⟩ (by decide) (by decide) rfl (Nat.le_of_ble_eq_true rfl) dX10_boards_28 rfl ?_
    refine w_if_eq hB 40 dX10_boards_31 (by decide) (fun hc => ?_) (fun hc => ?_)
    · replace hF := ifT hc hF
      obtain ⟨a1, e_a1, hF⟩ := bndS hF
      refine w_iinc hB 3 (v := 1) (L' := [(3, vi a1), (0, vr 64), (1, vi x1), (2, vi x2)]) dX10_boards_40 rfl (by decide) (by decide) e_a1 rfl ?_
      refine w_goto hB 14 dX10_boards_43 (by decide) ?_
      exact Wt.sub (L' := [(0, vr 64), (1, vi x1), (2, vi x2), (3, vi a1)]) [1, 2, 3, 0] rfl (h14 _ _ _ M1m hF)
    · replace hF := ifF hc hF
      refine w_iload_n hB 2 dX10_boards_34 rfl rfl ?_
      refine w_iconst hB 1 (by decide) dX10_boards_35 ?_
      refine w_iload_n hB 3 dX10_boards_36 rfl rfl ?_
      refine w_ishl hB dX10_boards_37 ?_
      refine w_ior hB dX10_boards_38 ?_
      obtain ⟨a2, e_a2, hF⟩ := bndS hF
      refine w_istore_n hB (L' := [(2, vi a2), (0, vr 64), (1, vi x1), (3, vi x3)]) dX10_boards_39 rfl (by decide) e_a2 rfl ?_
      obtain ⟨a3, e_a3, hF⟩ := bndS hF
      refine w_iinc hB 3 (v := 1) (L' := [(3, vi a3), (2, vi a2), (0, vr 64), (1, vi x1)]) dX10_boards_40 rfl (by decide) (by decide) e_a3 rfl ?_
      refine w_goto hB 14 dX10_boards_43 (by decide) ?_
      exact Wt.sub (L' := [(0, vr 64), (1, vi x1), (2, vi a2), (3, vi a3)]) [2, 3, 1, 0] rfl (h14 _ _ _ M1m hF)
def f_X10_boards_b14 (k : Nat) : Int32 → Int32 → Int32 → Mem → Option (Int32 × Mem) := lpN (fun _ _ _ _ => none) (f_X10_boards_b14_s) k
theorem b_X10_boards_b14 {K : Kt} {X : Xt} (hp : St K) (hB : Bx K X { frames := 6, cells := 0, slots := 0, locals := 152 } cX10_boards 4 RX10 (some .int)) {r : Int32} {M1 : Mem} (k : Nat) : ∀ (x1 : Int32) (x2 : Int32) (x3 : Int32) M, f_X10_boards_b14 k x1 x2 x3 M = some (r, M1) → Wt K X (QM K X (some (vi r)) M1 0 0) 0 0 M 14 [(0, vr 64), (1, vi x1), (2, vi x2), (3, vi x3)] [] := by
  refine lpN_ind (P := fun (f : Int32 → Int32 → Int32 → Mem → Option (Int32 × Mem)) => ∀ (x1 : Int32) (x2 : Int32) (x3 : Int32) M, f x1 x2 x3 M = some (r, M1) → Wt K X (QM K X (some (vi r)) M1 0 0) 0 0 M 14 [(0, vr 64), (1, vi x1), (2, vi x2), (3, vi x3)] []) (fun _ _ _ _ h => by cases h) (fun f hf x1 x2 x3 M hF => ?_) k
  exact b_X10_boards_b14_s hp hB hf hF
def f_X10_boards (x1 : Int32) (M : Mem) : Option (Int32 × Mem) :=
  cl (f_X10_isPlay x1 M) fun r1 M1m =>
  if r1 = 0 then
    some ((-1), M1m)
  else
    f_X10_boards_b14 fuel x1 0 0 M1m
set_option maxRecDepth 100000 in
set_option maxHeartbeats 4000000 in
theorem b_X10_boards {K : Kt} {X : Xt} (hp : St K) (hB : Bx K X { frames := 6, cells := 0, slots := 0, locals := 152 } cX10_boards 4 RX10 (some .int)) {r : Int32} {M1 : Mem} {x1 : Int32} {M : Mem} (hF : f_X10_boards x1 M = some (r, M1)) : Wt K X (QM K X (some (vi r)) M1 0 0) 0 0 M 0 [(0, vr 64), (1, vi x1)] [] := by
  unfold f_X10_boards at hF
  refine w_aload_n hB 0 dX10_boards_0 rfl rfl ?_
  refine w_iload_n hB 1 dX10_boards_1 rfl rfl ?_
  obtain ⟨r1, M1m, hc_M1m, hF⟩ := clS hF
  refine w_callV hB (ci := 8) (As := [vi x1]) (st := []) cw_X10_184 q_769 q_3 rfl sh_64 (Or.inl hp.1) (c_X10_isPlay hp hc_M1m) ⟨rfl, rfl⟩ (by decide) (by decide) rfl (Nat.le_of_ble_eq_true rfl) dX10_boards_2 rfl ?_
  refine w_if_ne hB 10 dX10_boards_5 (by decide) (fun hc => ?_) (fun hc => ?_)
  · replace hF := ifF hc hF
    refine w_iconst hB 0 (by decide) dX10_boards_10 ?_
    refine w_istore_n hB (L' := [(2, vi 0), (0, vr 64), (1, vi x1)]) dX10_boards_11 rfl (by decide) rfl rfl ?_
    refine w_iconst hB 0 (by decide) dX10_boards_12 ?_
    refine w_istore_n hB (L' := [(3, vi 0), (2, vi 0), (0, vr 64), (1, vi x1)]) dX10_boards_13 rfl (by decide) rfl rfl ?_
    exact Wt.sub (L' := [(0, vr 64), (1, vi x1), (2, vi 0), (3, vi 0)]) [2, 3, 1, 0] rfl (b_X10_boards_b14 hp hB fuel _ _ _ M1m hF)
  · replace hF := ifT hc hF
    refine w_iconst hB (-1) (by decide) dX10_boards_8 ?_
    obtain ⟨e1, e2⟩ := retS hF
    subst e2
    exact w_iret hB dX10_boards_9 e1
theorem c_X10_boards {K : Kt} {l : Launch} (hp : St K) {r : Int32} {M1 : Mem} {x1 : Int32} {M : Mem} (hF : f_X10_boards x1 M = some (r, M1)) : MT K l yX10_boards cX10_boards 4 (some .int) { frames := 6, cells := 0, slots := 0, locals := 152 } [vr 64, vi x1] M (some (vi r)) M1 0 0 :=
  MT_of (by decide) rfl (Nat.le_of_ble_eq_true rfl) (fun X _ hB _ => b_X10_boards hp hB hF)
