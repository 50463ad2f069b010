def f_X11_thrown (M : Mem) : Option (Int32 × Mem) :=
  some (M.1 311 0, M)
set_option maxRecDepth 100000 in
set_option maxHeartbeats 4000000 in
theorem b_X11_thrown {K : Kt} {X : Xt} (hp : St K) (hB : Bx K X { frames := 0, cells := 0, slots := 0, locals := 0 } cX11_thrown 1 RX11 (some .int)) {r : Int32} {M1 : Mem} {M : Mem} (hF : f_X11_thrown M = some (r, M1)) : Wt K X (QM K X (some (vi r)) M1 0 0) 0 0 M 0 [(0, vr 311)] [] := by
  unfold f_X11_thrown at hF
  refine w_aload_n hB 0 dX11_thrown_0 rfl rfl ?_
  refine w_getI hB ff_X11_0 sh_311 (Or.inl hp.1) q_1160 dX11_thrown_1 ?_
  obtain ⟨e1, e2⟩ := retS hF
  subst e2
  exact w_iret hB dX11_thrown_4 e1
theorem c_X11_thrown {K : Kt} {l : Launch} (hp : St K) {r : Int32} {M1 : Mem} {M : Mem} (hF : f_X11_thrown M = some (r, M1)) : MT K l yX11_thrown cX11_thrown 1 (some .int) { frames := 0, cells := 0, slots := 0, locals := 0 } [vr 311] M (some (vi r)) M1 0 0 :=
  MT_of (by decide) rfl (Nat.le_of_ble_eq_true rfl) (fun X _ hB _ => b_X11_thrown hp hB hF)
def f_X11_within (y0 : Int64) (y2 : Int64) (y4 : Int64) (M : Mem) : Option (Int32 × Mem) :=
  if (lg_cmp y0 y2) < 0 then
    some (0, M)
  else
    if 0 < (lg_cmp y0 y4) then
      some (0, M)
    else
      some (1, M)
set_option maxRecDepth 100000 in
set_option maxHeartbeats 4000000 in
theorem b_X11_within {K : Kt} {X : Xt} (hp : St K) (hB : Bx K X { frames := 0, cells := 0, slots := 0, locals := 0 } cX11_within 6 RX11 (some .boolean)) {r : Int32} {M1 : Mem} {y0 : Int64} {y2 : Int64} {y4 : Int64} {M : Mem} (hF : f_X11_within y0 y2 y4 M = some (r, M1)) : Wt K X (QM K X (some (vi r)) M1 0 0) 0 0 M 0 [(0, vl y0), (2, vl y2), (4, vl y4)] [] := by
  unfold f_X11_within at hF
  refine w_lload_n hB 0 dX11_within_0 rfl rfl ?_
  refine w_lload_n hB 1 dX11_within_1 rfl rfl ?_
  refine w_lcmp hB dX11_within_2 ?_
  refine w_if_lt hB 17 dX11_within_3 (by decide) (fun hc => ?_) (fun hc => ?_)
  · replace hF := ifT hc hF
    refine w_iconst hB 0 (by decide) dX11_within_17 ?_
    obtain ⟨e1, e2⟩ := retS hF
    subst e2
    exact w_zret hB (by decide) dX11_within_18 e1
  · replace hF := ifF hc hF
    refine w_lload_n hB 0 dX11_within_6 rfl rfl ?_
    refine w_lload hB 2 dX11_within_7 rfl ?_
    refine w_lcmp hB dX11_within_9 ?_
    refine w_if_gt hB 17 dX11_within_10 (by decide) (fun hc => ?_) (fun hc => ?_)
    · replace hF := ifT hc hF
      refine w_iconst hB 0 (by decide) dX11_within_17 ?_
      obtain ⟨e1, e2⟩ := retS hF
      subst e2
      exact w_zret hB (by decide) dX11_within_18 e1
    · replace hF := ifF hc hF
      refine w_iconst hB 1 (by decide) dX11_within_13 ?_
      refine w_goto hB 18 dX11_within_14 (by decide) ?_
      obtain ⟨e1, e2⟩ := retS hF
      subst e2
      exact w_zret hB (by decide) dX11_within_18 e1
theorem c_X11_within {K : Kt} {l : Launch} (hp : St K) {r : Int32} {M1 : Mem} {y0 : Int64} {y2 : Int64} {y4 : Int64} {M : Mem} (hF : f_X11_within y0 y2 y4 M = some (r, M1)) : MT K l yX11_within cX11_within 6 (some .boolean) { frames := 0, cells := 0, slots := 0, locals := 0 } [vl y0, vl y2, vl y4] M (some (vi r)) M1 0 0 :=
  MT_of (by decide) rfl (Nat.le_of_ble_eq_true rfl) (fun X _ hB _ => b_X11_within hp hB hF)
def f_X11_has (x0 : Int32) (x1 : Int32) (M : Mem) : Option (Int32 × Mem) :=
  if ((x0 >>> (x1 &&& 31)) &&& 1) = 1 then
    some (1, M)
  else
    some (0, M)
set_option maxRecDepth 100000 in
set_option maxHeartbeats 4000000 in
theorem b_X11_has {K : Kt} {X : Xt} (hp : St K) (hB : Bx K X { frames := 0, cells := 0, slots := 0, locals := 0 } cX11_has 2 RX11 (some .boolean)) {r : Int32} {M1 : Mem} {x0 : Int32} {x1 : Int32} {M : Mem} (hF : f_X11_has x0 x1 M = some (r, M1)) : Wt K X (QM K X (some (vi r)) M1 0 0) 0 0 M 0 [(0, vi x0), (1, vi x1)] [] := by
  unfold f_X11_has at hF
  refine w_iload_n hB 0 dX11_has_0 rfl rfl ?_
  refine w_iload_n hB 1 dX11_has_1 rfl rfl ?_
  refine w_ishr hB dX11_has_2 ?_
  refine w_iconst hB 1 (by decide) dX11_has_3 ?_
  refine w_iand hB dX11_has_4 ?_
  refine w_iconst hB 1 (by decide) dX11_has_5 ?_
  refine w_icmp_ne hB 13 dX11_has_6 (by decide) (fun hc => ?_) (fun hc => ?_)
  · replace hF := ifF hc hF
    refine w_iconst hB 0 (by decide) dX11_has_13 ?_
    obtain ⟨e1, e2⟩ := retS hF
    subst e2
    exact w_zret hB (by decide) dX11_has_14 e1
  · replace hF := ifT hc hF
    refine w_iconst hB 1 (by decide) dX11_has_9 ?_
    refine w_goto hB 14 dX11_has_10 (by decide) ?_
    obtain ⟨e1, e2⟩ := retS hF
    subst e2
    exact w_zret hB (by decide) dX11_has_14 e1
theorem c_X11_has {K : Kt} {l : Launch} (hp : St K) {r : Int32} {M1 : Mem} {x0 : Int32} {x1 : Int32} {M : Mem} (hF : f_X11_has x0 x1 M = some (r, M1)) : MT K l yX11_has cX11_has 2 (some .boolean) { frames := 0, cells := 0, slots := 0, locals := 0 } [vi x0, vi x1] M (some (vi r)) M1 0 0 :=
  MT_of (by decide) rfl (Nat.le_of_ble_eq_true rfl) (fun X _ hB _ => b_X11_has hp hB hF)
def f_X11_bits_b4_s (rec4 : Int32 → Int32 → Mem → Option (Int32 × Mem)) (x1 : Int32) (x2 : Int32) (M : Mem) : Option (Int32 × Mem) :=
  if x2 = 0 then
    some (x1, M)
  else
    bnd (x1 + 1) fun a1 =>
    bnd (x2 &&& (x2 - 1)) fun a2 =>
    rec4 a1 a2 M
set_option maxRecDepth 100000 in
set_option maxHeartbeats 4000000 in
theorem b_X11_bits_b4_s {K : Kt} {X : Xt} (hp : St K) (hB : Bx K X { frames := 0, cells := 0, slots := 0, locals := 0 } cX11_bits 3 RX11 (some .int)) {r : Int32} {M1 : Mem} {rec4 : Int32 → Int32 → Mem → Option (Int32 × Mem)}
    (h4 : ∀ x1 x2 M, rec4 x1 x2 M = some (r, M1) → Wt K X (QM K X (some (vi r)) M1 0 0) 0 0 M 4 [(1, vi x1), (2, vi x2)] []) {x1 : Int32} {x2 : Int32} {M : Mem} (hF : f_X11_bits_b4_s rec4 x1 x2 M = some (r, M1)) : Wt K X (QM K X (some (vi r)) M1 0 0) 0 0 M 4 [(1, vi x1), (2, vi x2)] [] := by
  unfold f_X11_bits_b4_s at hF
  refine w_iload_n hB 1 dX11_bits_4 rfl rfl ?_
  refine w_if_eq hB 20 dX11_bits_5 (by decide) (fun hc => ?_) (fun hc => ?_)
  · replace hF := ifT hc hF
    refine w_iload_n hB 0 dX11_bits_20 rfl rfl ?_
    obtain ⟨e1, e2⟩ := retS hF
    subst e2
    exact w_iret hB dX11_bits_21 e1
  · replace hF := ifF hc hF
    obtain ⟨a1, e_a1, hF⟩ := bndS hF
    refine w_iinc hB 0 (v := 1) (L' := [(1, vi a1), (2, vi x2)]) dX11_bits_8 rfl (by decide) (by decide) e_a1 rfl ?_
    refine w_iload_n hB 1 dX11_bits_11 rfl rfl ?_
    refine w_iload_n hB 1 dX11_bits_12 rfl rfl ?_
    refine w_iconst hB 1 (by decide) dX11_bits_13 ?_
    refine w_isub hB dX11_bits_14 ?_
    refine w_iand hB dX11_bits_15 ?_
    obtain ⟨a2, e_a2, hF⟩ := bndS hF
    refine w_istore_n hB (L' := [(2, vi a2), (1, vi a1)]) dX11_bits_16 rfl (by decide) e_a2 rfl ?_
    refine w_goto hB 4 dX11_bits_17 (by decide) ?_
    exact Wt.sub (L' := [(1, vi a1), (2, vi a2)]) [1, 0] rfl (h4 _ _ M hF)
def f_X11_bits_b4 (k : Nat) : Int32 → Int32 → Mem → Option (Int32 × Mem) := lpN (fun _ _ _ => none) (f_X11_bits_b4_s) k
theorem b_X11_bits_b4 {K : Kt} {X : Xt} (hp : St K) (hB : Bx K X { frames := 0, cells := 0, slots := 0, locals := 0 } cX11_bits 3 RX11 (some .int)) {r : Int32} {M1 : Mem} (k : Nat) : ∀ (x1 : Int32) (x2 : Int32) M, f_X11_bits_b4 k x1 x2 M = some (r, M1) → Wt K X (QM K X (some (vi r)) M1 0 0) 0 0 M 4 [(1, vi x1), (2, vi x2)] [] := by
  refine lpN_ind (P := fun (f : Int32 → Int32 → Mem → Option (Int32 × Mem)) => ∀ (x1 : Int32) (x2 : Int32) M, f x1 x2 M = some (r, M1) → Wt K X (QM K X (some (vi r)) M1 0 0) 0 0 M 4 [(1, vi x1), (2, vi x2)] []) (fun _ _ _ h => by cases h) (fun f hf x1 x2 M hF => ?_) k
  exact b_X11_bits_b4_s hp hB hf hF
def f_X11_bits (x0 : Int32) (M : Mem) : Option (Int32 × Mem) :=
  f_X11_bits_b4 fuel 0 x0 M
set_option maxRecDepth 100000 in
set_option maxHeartbeats 4000000 in
theorem b_X11_bits {K : Kt} {X : Xt} (hp : St K) (hB : Bx K X { frames := 0, cells := 0, slots := 0, locals := 0 } cX11_bits 3 RX11 (some .int)) {r : Int32} {M1 : Mem} {x0 : Int32} {M : Mem} (hF : f_X11_bits x0 M = some (r, M1)) : Wt K X (QM K X (some (vi r)) M1 0 0) 0 0 M 0 [(0, vi x0)] [] := by
  unfold f_X11_bits at hF
  refine w_iconst hB 0 (by decide) dX11_bits_0 ?_
  refine w_istore_n hB (L' := [(1, vi 0), (0, vi x0)]) dX11_bits_1 rfl (by decide) rfl rfl ?_
  refine w_iload_n hB 1 dX11_bits_2 rfl rfl ?_
  refine w_istore_n hB (L' := [(2, vi x0), (1, vi 0), (0, vi x0)]) dX11_bits_3 rfl (by decide) rfl rfl ?_
  exact Wt.sub (L' := [(1, vi 0), (2, vi x0)]) [1, 0] rfl (b_X11_bits_b4 hp hB fuel _ _ M hF)
theorem c_X11_bits {K : Kt} {l : Launch} (hp : St K) {r : Int32} {M1 : Mem} {x0 : Int32} {M : Mem} (hF : f_X11_bits x0 M = some (r, M1)) : MT K l yX11_bits cX11_bits 3 (some .int) { frames := 0, cells := 0, slots := 0, locals := 0 } [vi x0] M (some (vi r)) M1 0 0 :=
  MT_of (by decide) rfl (Nat.le_of_ble_eq_true rfl) (fun X _ hB _ => b_X11_bits hp hB hF)
def f_X11_puts_b3_s (rec3 : Int32 → Int32 → Mem → Option Mem) (x1 : Int32) (x2 : Int32) (M : Mem) : Option Mem :=
  if x2 < 0 then
    some M
  else
    gd (inb (M.1 311 2) 600) <|
    bnd (setI M 312 ((M.1 311 2).toNatClampNeg) (vp_nar .byte ((x1 >>> (x2 &&& 31)).toInt8.toInt32))) fun M1m =>
    bnd (setI M1m 311 2 ((M1m.1 311 2) + 1)) fun M2m =>
    bnd (x2 + (-8)) fun a1 =>
    rec3 x1 a1 M2m
set_option maxRecDepth 100000 in
set_option maxHeartbeats 4000000 in
theorem b_X11_puts_b3_s {K : Kt} {X : Xt} (hp : St K) (hB : Bx K X { frames := 0, cells := 0, slots := 0, locals := 0 } cX11_puts 3 RX11 none) {M1 : Mem} {rec3 : Int32 → Int32 → Mem → Option Mem}
    (h3 : ∀ x1 x2 M, rec3 x1 x2 M = some M1 → Wt K X (QM K X none M1 0 0) 0 0 M 3 [(0, vr 311), (1, vi x1), (2, vi x2)] []) {x1 : Int32} {x2 : Int32} {M : Mem} (hF : f_X11_puts_b3_s rec3 x1 x2 M = some M1) : Wt K X (QM K X none M1 0 0) 0 0 M 3 [(0, vr 311), (1, vi x1), (2, vi x2)] [] := by
  unfold f_X11_puts_b3_s at hF
  refine w_iload_n hB 2 dX11_puts_3 rfl rfl ?_
  refine w_if_lt hB 36 dX11_puts_4 (by decide) (fun hc => ?_) (fun hc => ?_)
  · replace hF := ifT hc hF
    cases hF
    exact w_vret hB dX11_puts_36
  · replace hF := ifF hc hF
    refine w_aload_n hB 0 dX11_puts_7 rfl rfl ?_
    refine w_getC hB (v := 312) ff_X11_1 sh_311 hp.1 cr_311_1 (by decide) q_1161 dX11_puts_8 ?_
    refine w_aload_n hB 0 dX11_puts_11 rfl rfl ?_
    refine w_getI hB ff_X11_2 sh_311 (Or.inl hp.1) q_1162 dX11_puts_12 ?_
    refine w_iload_n hB 1 dX11_puts_15 rfl rfl ?_
    refine w_iload_n hB 2 dX11_puts_16 rfl rfl ?_
    refine w_ishr hB dX11_puts_17 ?_
    refine w_i2b hB dX11_puts_18 ?_
    obtain ⟨g1, hF⟩ := gdS hF
    obtain ⟨M1m, e_M1m, hF⟩ := bndS hF
    refine w_bast hB sh_312 (Or.inl hp.1) sl_312 g1 e_M1m dX11_puts_19 ?_
    refine w_aload_n hB 0 dX11_puts_20 rfl rfl ?_
    refine w_dup hB rfl dX11_puts_21 ?_
    refine w_getI hB ff_X11_2 sh_311 (Or.inl hp.1) q_1162 dX11_puts_22 ?_
    refine w_iconst hB 1 (by decide) dX11_puts_25 ?_
    refine w_iadd hB dX11_puts_26 ?_
    obtain ⟨M2m, e_M2m, hF⟩ := bndS hF
    refine w_putI hB ff_X11_2 sh_311 (Or.inl hp.1) q_1162 e_M2m dX11_puts_27 ?_
    obtain ⟨a1, e_a1, hF⟩ := bndS hF
    refine w_iinc hB 2 (v := (-8)) (L' := [(2, vi a1), (0, vr 311), (1, vi x1)]) dX11_puts_30 rfl (by decide) (by decide) e_a1 rfl ?_
    refine w_goto hB 3 dX11_puts_33 (by decide) ?_
    exact Wt.sub (L' := [(0, vr 311), (1, vi x1), (2, vi a1)]) [1, 2, 0] rfl (h3 _ _ M2m hF)
def f_X11_puts_b3 (k : Nat) : Int32 → Int32 → Mem → Option Mem := lpN (fun _ _ _ => none) (f_X11_puts_b3_s) k
theorem b_X11_puts_b3 {K : Kt} {X : Xt} (hp : St K) (hB : Bx K X { frames := 0, cells := 0, slots := 0, locals := 0 } cX11_puts 3 RX11 none) {M1 : Mem} (k : Nat) : ∀ (x1 : Int32) (x2 : Int32) M, f_X11_puts_b3 k x1 x2 M = some M1 → Wt K X (QM K X none M1 0 0) 0 0 M 3 [(0, vr 311), (1, vi x1), (2, vi x2)] [] := by
  refine lpN_ind (P := fun (f : Int32 → Int32 → Mem → Option Mem) => ∀ (x1 : Int32) (x2 : Int32) M, f x1 x2 M = some M1 → Wt K X (QM K X none M1 0 0) 0 0 M 3 [(0, vr 311), (1, vi x1), (2, vi x2)] []) (fun _ _ _ h => by cases h) (fun f hf x1 x2 M hF => ?_) k
  exact b_X11_puts_b3_s hp hB hf hF
def f_X11_puts (x1 : Int32) (M : Mem) : Option Mem :=
  f_X11_puts_b3 fuel x1 24 M
set_option maxRecDepth 100000 in
set_option maxHeartbeats 4000000 in
theorem b_X11_puts {K : Kt} {X : Xt} (hp : St K) (hB : Bx K X { frames := 0, cells := 0, slots := 0, locals := 0 } cX11_puts 3 RX11 none) {M1 : Mem} {x1 : Int32} {M : Mem} (hF : f_X11_puts x1 M = some M1) : Wt K X (QM K X none M1 0 0) 0 0 M 0 [(0, vr 311), (1, vi x1)] [] := by
  unfold f_X11_puts at hF
  refine w_bipush hB 24 (by decide) dX11_puts_0 ?_
  refine w_istore_n hB (L' := [(2, vi 24), (0, vr 311), (1, vi x1)]) dX11_puts_2 rfl (by decide) rfl rfl ?_
  exact Wt.sub (L' := [(0, vr 311), (1, vi x1), (2, vi 24)]) [1, 2, 0] rfl (b_X11_puts_b3 hp hB fuel _ _ M hF)
theorem c_X11_puts {K : Kt} {l : Launch} (hp : St K) {M1 : Mem} {x1 : Int32} {M : Mem} (hF : f_X11_puts x1 M = some M1) : MT K l yX11_puts cX11_puts 3 none { frames := 0, cells := 0, slots := 0, locals := 0 } [vr 311, vi x1] M none M1 0 0 :=
  MT_of (by decide) rfl (Nat.le_of_ble_eq_true rfl) (fun X _ hB _ => b_X11_puts hp hB hF)
def f_X11_feed (x1 : Int32) (x2 : Int32) (x3 : Int32) (x4 : Int32) (x5 : Int32) (M : Mem) : Option (Int32 × Mem) :=
  bnd (setI M 311 0 0) fun M1m =>
  if ((M1m.1 311 2) + 20) ≤ 600 then
    clv (f_X11_puts x1 M1m) fun M2m =>
    clv (f_X11_puts x2 M2m) fun M3m =>
    clv (f_X11_puts x3 M3m) fun M4m =>
    clv (f_X11_puts x4 M4m) fun M5m =>
    clv (f_X11_puts x5 M5m) fun M6m =>
    some (M6m.1 311 2, M6m)
  else
    some ((-1), M1m)
set_option maxRecDepth 100000 in
set_option maxHeartbeats 4000000 in
theorem b_X11_feed {K : Kt} {X : Xt} (hp : St K) (hB : Bx K X { frames := 1, cells := 0, slots := 0, locals := 22 } cX11_feed 6 RX11 (some .int)) {r : Int32} {M1 : Mem} {x1 : Int32} {x2 : Int32} {x3 : Int32} {x4 : Int32} {x5 : Int32} {M : Mem} (hF : f_X11_feed x1 x2 x3 x4 x5 M = some (r, M1)) : Wt K X (QM K X (some (vi r)) M1 0 0) 0 0 M 0 [(0, vr 311), (1, vi x1), (2, vi x2), (3, vi x3), (4, vi x4), (5, vi x5)] [] := by
  unfold f_X11_feed at hF
  refine w_aload_n hB 0 dX11_feed_0 rfl rfl ?_
  refine w_iconst hB 0 (by decide) dX11_feed_1 ?_
  obtain ⟨M1m, e_M1m, hF⟩ := bndS hF
  refine w_putI hB ff_X11_0 sh_311 (Or.inl hp.1) q_1160 e_M1m dX11_feed_2 ?_
  refine w_aload_n hB 0 dX11_feed_5 rfl rfl ?_
  refine w_getI hB ff_X11_2 sh_311 (Or.inl hp.1) q_1162 dX11_feed_6 ?_
  refine w_bipush hB 20 (by decide) dX11_feed_9 ?_
  refine w_iadd hB dX11_feed_11 ?_
  refine w_sipush hB 600 (by decide) dX11_feed_12 ?_
  refine w_icmp_le hB 20 dX11_feed_15 (by decide) (fun hc => ?_) (fun hc => ?_)
  · replace hF := ifT hc hF
    refine w_aload_n hB 0 dX11_feed_20 rfl rfl ?_
    refine w_iload_n hB 1 dX11_feed_21 rfl rfl ?_
    obtain ⟨M2m, hc_M2m, hF⟩ := clvS hF
    refine w_callV hB (ci := 9) (As := [vi x1]) (st := []) cw_X11_126 q_1313 q_21 rfl sh_311 (Or.inl hp.1) (c_X11_puts hp hc_M2m) ⟨rfl, rfl⟩ (by decide) (by decide) rfl (Nat.le_of_ble_eq_true rfl) dX11_feed_22 rfl ?_
    refine w_aload_n hB 0 dX11_feed_25 rfl rfl ?_
    refine w_iload_n hB 2 dX11_feed_26 rfl rfl ?_
    obtain ⟨M3m, hc_M3m, hF⟩ := clvS hF
    refine w_callV hB (ci := 9) (As := [vi x2]) (st := []) cw_X11_126 q_1313 q_21 rfl sh_311 (Or.inl hp.1) (c_X11_puts hp hc_M3m) ⟨rfl, rfl⟩ (by decide) (by decide) rfl (Nat.le_of_ble_eq_true rfl) dX11_feed_27 rfl ?_
    refine w_aload_n hB 0 dX11_feed_30 rfl rfl ?_
    refine w_iload_n hB 3 dX11_feed_31 rfl rfl ?_
    obtain ⟨M4m, hc_M4m, hF⟩ := clvS hF
    refine w_callV hB (ci := 9) (As := [vi x3]) (st := []) cw_X11_126 q_1313 q_21 rfl sh_311 (Or.inl hp.1) (c_X11_puts hp hc_M4m) ⟨rfl, rfl⟩ (by decide) (by decide) rfl (Nat.le_of_ble_eq_true rfl) dX11_feed_32 rfl ?_
    refine w_aload_n hB 0 dX11_feed_35 rfl rfl ?_
    refine w_iload hB 4 dX11_feed_36 rfl ?_
    obtain ⟨M5m, hc_M5m, hF⟩ := clvS hF
    refine w_callV hB (ci := 9) (As := [vi x4]) (st := []) cw_X11_126 q_1313 q_21 rfl sh_311 (Or.inl hp.1) (c_X11_puts hp hc_M5m) ⟨rfl, rfl⟩ (by decide) (by decide) rfl (Nat.le_of_ble_eq_true rfl) dX11_feed_38 rfl ?_
    refine w_aload_n hB 0 dX11_feed_41 rfl rfl ?_
    refine w_iload hB 5 dX11_feed_42 rfl ?_
    obtain ⟨M6m, hc_M6m, hF⟩ := clvS hF
    refine w_callV hB (ci := 9) (As := [vi x5]) (st := []) cw_X11_126 q_1313 q_21 rfl sh_311 (Or.inl hp.1) (c_X11_puts hp hc_M6m) ⟨rfl, rfl⟩ (by decide) (by decide) rfl (Nat.le_of_ble_eq_true rfl) dX11_feed_44 rfl ?_
    refine w_aload_n hB 0 dX11_feed_47 rfl rfl ?_
    refine w_getI hB ff_X11_2 sh_311 (Or.inl hp.1) q_1162 dX11_feed_48 ?_
    obtain ⟨e1, e2⟩ := retS hF
    subst e2
    exact w_iret hB dX11_feed_51 e1
  · replace hF := ifF hc hF
    refine w_iconst hB (-1) (by decide) dX11_feed_18 ?_
    obtain ⟨e1, e2⟩ := retS hF
    subst e2
    exact w_iret hB dX11_feed_19 e1
theorem c_X11_feed {K : Kt} {l : Launch} (hp : St K) {r : Int32} {M1 : Mem} {x1 : Int32} {x2 : Int32} {x3 : Int32} {x4 : Int32} {x5 : Int32} {M : Mem} (hF : f_X11_feed x1 x2 x3 x4 x5 M = some (r, M1)) : MT K l yX11_feed cX11_feed 6 (some .int) { frames := 1, cells := 0, slots := 0, locals := 22 } [vr 311, vi x1, vi x2, vi x3, vi x4, vi x5] M (some (vi r)) M1 0 0 :=
  MT_of (by decide) rfl (Nat.le_of_ble_eq_true rfl) (fun X _ hB _ => b_X11_feed hp hB hF)
def f_X11_see (x1 : Int32) (M : Mem) : Option (Int32 × Mem) :=
  if (M.1 311 3) ≤ x1 then
    some ((-1), M)
  else
    gd (inb x1 600) <|
    some ((M.1 312 x1.toNatClampNeg) &&& 255, M)
set_option maxRecDepth 100000 in
set_option maxHeartbeats 4000000 in
theorem b_X11_see {K : Kt} {X : Xt} (hp : St K) (hB : Bx K X { frames := 0, cells := 0, slots := 0, locals := 0 } cX11_see 2 RX11 (some .int)) {r : Int32} {M1 : Mem} {x1 : Int32} {M : Mem} (hF : f_X11_see x1 M = some (r, M1)) : Wt K X (QM K X (some (vi r)) M1 0 0) 0 0 M 0 [(0, vr 311), (1, vi x1)] [] := by
  unfold f_X11_see at hF
  refine w_iload_n hB 1 dX11_see_0 rfl rfl ?_
  refine w_aload_n hB 0 dX11_see_1 rfl rfl ?_
  refine w_getI hB ff_X11_3 sh_311 (Or.inl hp.1) q_1163 dX11_see_2 ?_
  refine w_icmp_ge hB 21 dX11_see_5 (by decide) (fun hc => ?_) (fun hc => ?_)
  · replace hF := ifT hc hF
    refine w_iconst hB (-1) (by decide) dX11_see_21 ?_
    obtain ⟨e1, e2⟩ := retS hF
    subst e2
    exact w_iret hB dX11_see_22 e1
  · replace hF := ifF hc hF
    refine w_aload_n hB 0 dX11_see_8 rfl rfl ?_
    refine w_getC hB (v := 312) ff_X11_1 sh_311 hp.1 cr_311_1 (by decide) q_1161 dX11_see_9 ?_
    refine w_iload_n hB 1 dX11_see_12 rfl rfl ?_
    obtain ⟨g1, hF⟩ := gdS hF
    refine w_bald hB sh_312 (Or.inl hp.1) sl_312 g1 dX11_see_13 ?_
    refine w_sipush hB 255 (by decide) dX11_see_14 ?_
    refine w_iand hB dX11_see_17 ?_
    refine w_goto hB 22 dX11_see_18 (by decide) ?_
    obtain ⟨e1, e2⟩ := retS hF
    subst e2
    exact w_iret hB dX11_see_22 e1
theorem c_X11_see {K : Kt} {l : Launch} (hp : St K) {r : Int32} {M1 : Mem} {x1 : Int32} {M : Mem} (hF : f_X11_see x1 M = some (r, M1)) : MT K l yX11_see cX11_see 2 (some .int) { frames := 0, cells := 0, slots := 0, locals := 0 } [vr 311, vi x1] M (some (vi r)) M1 0 0 :=
  MT_of (by decide) rfl (Nat.le_of_ble_eq_true rfl) (fun X _ hB _ => b_X11_see hp hB hF)
def f_X11_steps_b34 (rec8 : Mem → Option Mem) (M : Mem) : Option Mem :=
  bnd (setI M 311 4 ((M.1 311 4) + 1)) fun M1m =>
  rec8 M1m
set_option maxRecDepth 100000 in
set_option maxHeartbeats 4000000 in
theorem b_X11_steps_b34 {K : Kt} {X : Xt} (hp : St K) (hB : Bx K X { frames := 1, cells := 0, slots := 0, locals := 25 } cX11_steps 2 RX11 none) {M1 : Mem} {rec8 : Mem → Option Mem}
    (h8 : ∀ M, rec8 M = some M1 → Wt K X (QM K X none M1 0 0) 0 0 M 8 [(0, vr 311)] []) {M : Mem} (hF : f_X11_steps_b34 rec8 M = some M1) : Wt K X (QM K X none M1 0 0) 0 0 M 34 [(0, vr 311)] [] := by
  unfold f_X11_steps_b34 at hF
  refine w_aload_n hB 0 dX11_steps_34 rfl rfl ?_
  refine w_dup hB rfl dX11_steps_35 ?_
  refine w_getI hB ff_X11_4 sh_311 (Or.inl hp.1) q_1164 dX11_steps_36 ?_
  refine w_iconst hB 1 (by decide) dX11_steps_39 ?_
  refine w_iadd hB dX11_steps_40 ?_
  obtain ⟨M1m, e_M1m, hF⟩ := bndS hF
  refine w_putI hB ff_X11_4 sh_311 (Or.inl hp.1) q_1164 e_M1m dX11_steps_41 ?_
  refine w_goto hB 8 dX11_steps_44 (by decide) ?_
  exact Wt.sub (L' := [(0, vr 311)]) [0] rfl (h8 M1m hF)
def f_X11_steps_b132 (x1 : Int32) (M : Mem) : Option Mem :=
  bnd (setI M 311 6 x1) fun M1m =>
  some M1m
set_option maxRecDepth 100000 in
set_option maxHeartbeats 4000000 in
theorem b_X11_steps_b132 {K : Kt} {X : Xt} (hp : St K) (hB : Bx K X { frames := 1, cells := 0, slots := 0, locals := 25 } cX11_steps 2 RX11 none) {M1 : Mem} {x1 : Int32} {M : Mem} (hF : f_X11_steps_b132 x1 M = some M1) : Wt K X (QM K X none M1 0 0) 0 0 M 132 [(0, vr 311), (1, vi x1)] [] := by
  unfold f_X11_steps_b132 at hF
  refine w_aload_n hB 0 dX11_steps_132 rfl rfl ?_
  refine w_iload_n hB 1 dX11_steps_133 rfl rfl ?_
  obtain ⟨M1m, e_M1m, hF⟩ := bndS hF
  refine w_putI hB ff_X11_6 sh_311 (Or.inl hp.1) q_1166 e_M1m dX11_steps_134 ?_
  refine w_goto hB 388 dX11_steps_137 (by decide) ?_
  cases hF
  exact w_vret hB dX11_steps_388
def f_X11_steps_b385 (xs1 : Int32) (M : Mem) : Option Mem :=
  bnd (setI M 311 6 xs1) fun M1m =>
  some M1m
set_option maxRecDepth 100000 in
set_option maxHeartbeats 4000000 in
theorem b_X11_steps_b385 {K : Kt} {X : Xt} (hp : St K) (hB : Bx K X { frames := 1, cells := 0, slots := 0, locals := 25 } cX11_steps 2 RX11 none) {M1 : Mem} {xs1 : Int32} {M : Mem} (hF : f_X11_steps_b385 xs1 M = some M1) : Wt K X (QM K X none M1 0 0) 0 0 M 385 [] [vi xs1, vr 311] := by
  unfold f_X11_steps_b385 at hF
  obtain ⟨M1m, e_M1m, hF⟩ := bndS hF
  refine w_putI hB ff_X11_6 sh_311 (Or.inl hp.1) q_1166 e_M1m dX11_steps_385 ?_
  cases hF
  exact w_vret hB dX11_steps_388
def f_X11_steps_b350 (rec289 : Mem → Option Mem) (xs1 : Int32) (M : Mem) : Option Mem :=
  bnd (setI M 311 7 xs1) fun M1m =>
  bnd (setI M1m 311 5 ((M1m.1 311 5) + 1)) fun M2m =>
  rec289 M2m
set_option maxRecDepth 100000 in
set_option maxHeartbeats 4000000 in
theorem b_X11_steps_b350 {K : Kt} {X : Xt} (hp : St K) (hB : Bx K X { frames := 1, cells := 0, slots := 0, locals := 25 } cX11_steps 2 RX11 none) {M1 : Mem} {rec289 : Mem → Option Mem}
    (h289 : ∀ M, rec289 M = some M1 → Wt K X (QM K X none M1 0 0) 0 0 M 289 [(0, vr 311)] []) {xs1 : Int32} {M : Mem} (hF : f_X11_steps_b350 rec289 xs1 M = some M1) : Wt K X (QM K X none M1 0 0) 0 0 M 350 [(0, vr 311)] [vi xs1, vr 311] := by
  unfold f_X11_steps_b350 at hF
  obtain ⟨M1m, e_M1m, hF⟩ := bndS hF
  refine w_putI hB ff_X11_7 sh_311 (Or.inl hp.1) q_1167 e_M1m dX11_steps_350 ?_
  refine w_aload_n hB 0 dX11_steps_353 rfl rfl ?_
  refine w_dup hB rfl dX11_steps_354 ?_
  refine w_getI hB ff_X11_5 sh_311 (Or.inl hp.1) q_1165 dX11_steps_355 ?_
  refine w_iconst hB 1 (by decide) dX11_steps_358 ?_
  refine w_iadd hB dX11_steps_359 ?_
  obtain ⟨M2m, e_M2m, hF⟩ := bndS hF
  refine w_putI hB ff_X11_5 sh_311 (Or.inl hp.1) q_1165 e_M2m dX11_steps_360 ?_
  refine w_goto hB 289 dX11_steps_363 (by decide) ?_
  exact Wt.sub (L' := [(0, vr 311)]) [0] rfl (h289 M2m hF)
def f_X11_steps_b289_s (rec289 : Mem → Option Mem) (M : Mem) : Option Mem :=
  cl (f_X11_see (M.1 311 5) M) fun r1 M1m =>
  cl (f_X11_within (r1.toInt64) 48 57 M1m) fun r2 M2m =>
  if r2 = 0 then
    if 5 ≤ ((M2m.1 311 5) - (M2m.1 311 4)) then
      f_X11_steps_b385 3 M2m
    else
      f_X11_steps_b385 2 M2m
  else
    if 4 ≤ ((M2m.1 311 5) - (M2m.1 311 4)) then
      f_X11_steps_b350 rec289 (M2m.1 311 7) M2m
    else
      cl (f_X11_see (M2m.1 311 5) M2m) fun r3 M3m =>
      f_X11_steps_b350 rec289 (((10 * (M2m.1 311 7)) + r3) - 48) M3m
set_option maxRecDepth 100000 in
set_option maxHeartbeats 4000000 in
theorem b_X11_steps_b289_s {K : Kt} {X : Xt} (hp : St K) (hB : Bx K X { frames := 1, cells := 0, slots := 0, locals := 25 } cX11_steps 2 RX11 none) {M1 : Mem} {rec289 : Mem → Option Mem}
    (h289 : ∀ M, rec289 M = some M1 → Wt K X (QM K X none M1 0 0) 0 0 M 289 [(0, vr 311)] []) {M : Mem} (hF : f_X11_steps_b289_s rec289 M = some M1) : Wt K X (QM K X none M1 0 0) 0 0 M 289 [(0, vr 311)] [] := by
  unfold f_X11_steps_b289_s at hF
  refine w_aload_n hB 0 dX11_steps_289 rfl rfl ?_
  refine w_aload_n hB 0 dX11_steps_290 rfl rfl ?_
  refine w_getI hB ff_X11_5 sh_311 (Or.inl hp.1) q_1165 dX11_steps_291 ?_
  obtain ⟨r1, M1m, hc_M1m, hF⟩ := clS hF
  refine w_callV hB (ci := 9) (As := [vi (M.1 311 5)]) (st := []) cw_X11_138 q_1328 q_23 rfl sh_311 (Or.inl hp.1) (c_X11_see hp hc_M1m) ⟨rfl, rfl⟩ (by decide) (by decide) rfl (Nat.le_of_ble_eq_true rfl) dX11_steps_294 rfl ?_
  refine w_i2l hB dX11_steps_297 ?_
  refine w_ldc2 hB (v := 48) q_1333 dX11_steps_298 ?_
  refine w_ldc2 hB (v := 57) q_1334 dX11_steps_301 ?_
  obtain ⟨r2, M2m, hc_M2m, hF⟩ := clS hF
  refine w_callS hB (As := [vl (r1.toInt64), vl 48, vl 57]) (st := []) cw_X11_156 q_1320 (c_X11_within hp hc_M2m) ⟨rfl, rfl⟩ (by decide) (by decide) rfl (Nat.le_of_ble_eq_true rfl) dX11_steps_304 rfl ?_
  refine w_if_eq hB 366 dX11_steps_307 (by decide) (fun hc => ?_) (fun hc => ?_)
  · replace hF := ifT hc hF
    refine w_aload_n hB 0 dX11_steps_366 rfl rfl ?_
    refine w_aload_n hB 0 dX11_steps_367 rfl rfl ?_
    refine w_getI hB ff_X11_5 sh_311 (Or.inl hp.1) q_1165 dX11_steps_368 ?_
    refine w_aload_n hB 0 dX11_steps_371 rfl rfl ?_
    refine w_getI hB ff_X11_4 sh_311 (Or.inl hp.1) q_1164 dX11_steps_372 ?_
    refine w_isub hB dX11_steps_375 ?_
    refine w_iconst hB 5 (by decide) dX11_steps_376 ?_
    refine w_icmp_ge hB 384 dX11_steps_377 (by decide) (fun hc => ?_) (fun hc => ?_)
    · replace hF := ifT hc hF
      refine w_iconst hB 3 (by decide) dX11_steps_384 ?_
      exact Wt.sub (L' := []) [] rfl (b_X11_steps_b385 hp hB hF)
    · replace hF := ifF hc hF
      refine w_iconst hB 2 (by decide) dX11_steps_380 ?_
      refine w_goto hB 385 dX11_steps_381 (by decide) ?_
      exact Wt.sub (L' := []) [] rfl (b_X11_steps_b385 hp hB hF)
  · replace hF := ifF hc hF
    refine w_aload_n hB 0 dX11_steps_310 rfl rfl ?_
    refine w_aload_n hB 0 dX11_steps_311 rfl rfl ?_
    refine w_getI hB ff_X11_5 sh_311 (Or.inl hp.1) q_1165 dX11_steps_312 ?_
    refine w_aload_n hB 0 dX11_steps_315 rfl rfl ?_
    refine w_getI hB ff_X11_4 sh_311 (Or.inl hp.1) q_1164 dX11_steps_316 ?_
    refine w_isub hB dX11_steps_319 ?_
    refine w_iconst hB 4 (by decide) dX11_steps_320 ?_
    refine w_icmp_ge hB 346 dX11_steps_321 (by decide) (fun hc => ?_) (fun hc => ?_)
    · replace hF := ifT hc hF
      refine w_aload_n hB 0 dX11_steps_346 rfl rfl ?_
      refine w_getI hB ff_X11_7 sh_311 (Or.inl hp.1) q_1167 dX11_steps_347 ?_
      exact Wt.sub (L' := [(0, vr 311)]) [0] rfl (b_X11_steps_b350 hp hB h289 hF)
    · replace hF := ifF hc hF
      refine w_bipush hB 10 (by decide) dX11_steps_324 ?_
      refine w_aload_n hB 0 dX11_steps_326 rfl rfl ?_
      refine w_getI hB ff_X11_7 sh_311 (Or.inl hp.1) q_1167 dX11_steps_327 ?_
      refine w_imul hB dX11_steps_330 ?_
      refine w_aload_n hB 0 dX11_steps_331 rfl rfl ?_
      refine w_aload_n hB 0 dX11_steps_332 rfl rfl ?_
      refine w_getI hB ff_X11_5 sh_311 (Or.inl hp.1) q_1165 dX11_steps_333 ?_
      obtain ⟨r3, M3m, hc_M3m, hF⟩ := clS hF
      refine w_callV hB (ci := 9) (As := [vi (M2m.1 311 5)]) (st := [vi (10 * (M2m.1 311 7)), vr 311]) cw_X11_138 q_1328 q_23 rfl sh_311 (Or.inl hp.1) (c_X11_see hp hc_M3m) ⟨rfl, rfl⟩ (by decide) (by decide) rfl (Nat.le_of_ble_eq_true rfl) dX11_steps_336 rfl ?_
      refine w_iadd hB dX11_steps_339 ?_
      refine w_bipush hB 48 (by decide) dX11_steps_340 ?_
      refine w_isub hB dX11_steps_342 ?_
      refine w_goto hB 350 dX11_steps_343 (by decide) ?_
      exact Wt.sub (L' := [(0, vr 311)]) [0] rfl (b_X11_steps_b350 hp hB h289 hF)
def f_X11_steps_b289 (k : Nat) : Mem → Option Mem := lpN (fun _ => none) (f_X11_steps_b289_s) k
theorem b_X11_steps_b289 {K : Kt} {X : Xt} (hp : St K) (hB : Bx K X { frames := 1, cells := 0, slots := 0, locals := 25 } cX11_steps 2 RX11 none) {M1 : Mem} (k : Nat) : ∀ M, f_X11_steps_b289 k M = some M1 → Wt K X (QM K X none M1 0 0) 0 0 M 289 [(0, vr 311)] [] := by
  refine lpN_ind (P := fun (f : Mem → Option Mem) => ∀ M, f M = some M1 → Wt K X (QM K X none M1 0 0) 0 0 M 289 [(0, vr 311)] []) (fun _ h => by cases h) (fun f hf M hF => ?_) k
  exact b_X11_steps_b289_s hp hB hf hF
def f_X11_steps_b261 (xs1 : Int32) (M : Mem) : Option Mem :=
  bnd (setI M 311 6 xs1) fun M1m =>
  some M1m
set_option maxRecDepth 100000 in
set_option maxHeartbeats 4000000 in
theorem b_X11_steps_b261 {K : Kt} {X : Xt} (hp : St K) (hB : Bx K X { frames := 1, cells := 0, slots := 0, locals := 25 } cX11_steps 2 RX11 none) {M1 : Mem} {xs1 : Int32} {M : Mem} (hF : f_X11_steps_b261 xs1 M = some M1) : Wt K X (QM K X none M1 0 0) 0 0 M 261 [] [vi xs1, vr 311] := by
  unfold f_X11_steps_b261 at hF
  obtain ⟨M1m, e_M1m, hF⟩ := bndS hF
  refine w_putI hB ff_X11_6 sh_311 (Or.inl hp.1) q_1166 e_M1m dX11_steps_261 ?_
  refine w_goto hB 388 dX11_steps_264 (by decide) ?_
  cases hF
  exact w_vret hB dX11_steps_388
def f_X11_steps_b225 (rec162 : Mem → Option Mem) (ys1 : Int64) (M : Mem) : Option Mem :=
  bnd (setL M 311 8 ys1) fun M1m =>
  bnd (setI M1m 311 5 ((M1m.1 311 5) + 1)) fun M2m =>
  rec162 M2m
set_option maxRecDepth 100000 in
set_option maxHeartbeats 4000000 in
theorem b_X11_steps_b225 {K : Kt} {X : Xt} (hp : St K) (hB : Bx K X { frames := 1, cells := 0, slots := 0, locals := 25 } cX11_steps 2 RX11 none) {M1 : Mem} {rec162 : Mem → Option Mem}
    (h162 : ∀ M, rec162 M = some M1 → Wt K X (QM K X none M1 0 0) 0 0 M 162 [(0, vr 311)] []) {ys1 : Int64} {M : Mem} (hF : f_X11_steps_b225 rec162 ys1 M = some M1) : Wt K X (QM K X none M1 0 0) 0 0 M 225 [(0, vr 311)] [vl ys1, vr 311] := by
  unfold f_X11_steps_b225 at hF
  obtain ⟨M1m, e_M1m, hF⟩ := bndS hF
  refine w_putJ hB ff_X11_8 sh_311 (Or.inl hp.1) q_1168 e_M1m dX11_steps_225 ?_
  refine w_aload_n hB 0 dX11_steps_228 rfl rfl ?_
  refine w_dup hB rfl dX11_steps_229 ?_
  refine w_getI hB ff_X11_5 sh_311 (Or.inl hp.1) q_1165 dX11_steps_230 ?_
  refine w_iconst hB 1 (by decide) dX11_steps_233 ?_
  refine w_iadd hB dX11_steps_234 ?_
  obtain ⟨M2m, e_M2m, hF⟩ := bndS hF
  refine w_putI hB ff_X11_5 sh_311 (Or.inl hp.1) q_1165 e_M2m dX11_steps_235 ?_
  refine w_goto hB 162 dX11_steps_238 (by decide) ?_
  exact Wt.sub (L' := [(0, vr 311)]) [0] rfl (h162 M2m hF)
def f_X11_steps_b162_s (rec162 : Mem → Option Mem) (M : Mem) : Option Mem :=
  cl (f_X11_see (M.1 311 5) M) fun r1 M1m =>
  cl (f_X11_within (r1.toInt64) 97 122 M1m) fun r2 M2m =>
  if r2 = 0 then
    if 7 ≤ ((M2m.1 311 5) - (M2m.1 311 4)) then
      f_X11_steps_b261 3 M2m
    else
      f_X11_steps_b261 1 M2m
  else
    if 6 ≤ ((M2m.1 311 5) - (M2m.1 311 4)) then
      f_X11_steps_b225 rec162 (M2m.2.1 311 8) M2m
    else
      cl (f_X11_see (M2m.1 311 5) M2m) fun r3 M3m =>
      f_X11_steps_b225 rec162 (((M2m.2.1 311 8) <<< ((5 : Int32).toInt64 &&& 63)) ||| ((r3.toInt64) - 96)) M3m
set_option maxRecDepth 100000 in
set_option maxHeartbeats 4000000 in
theorem b_X11_steps_b162_s {K : Kt} {X : Xt} (hp : St K) (hB : Bx K X { frames := 1, cells := 0, slots := 0, locals := 25 } cX11_steps 2 RX11 none) {M1 : Mem} {rec162 : Mem → Option Mem}
    (h162 : ∀ M, rec162 M = some M1 → Wt K X (QM K X none M1 0 0) 0 0 M 162 [(0, vr 311)] []) {M : Mem} (hF : f_X11_steps_b162_s rec162 M = some M1) : Wt K X (QM K X none M1 0 0) 0 0 M 162 [(0, vr 311)] [] := by
  unfold f_X11_steps_b162_s at hF
  refine w_aload_n hB 0 dX11_steps_162 rfl rfl ?_
  refine w_aload_n hB 0 dX11_steps_163 rfl rfl ?_
  refine w_getI hB ff_X11_5 sh_311 (Or.inl hp.1) q_1165 dX11_steps_164 ?_
  obtain ⟨r1, M1m, hc_M1m, hF⟩ := clS hF
  refine w_callV hB (ci := 9) (As := [vi (M.1 311 5)]) (st := []) cw_X11_138 q_1328 q_23 rfl sh_311 (Or.inl hp.1) (c_X11_see hp hc_M1m) ⟨rfl, rfl⟩ (by decide) (by decide) rfl (Nat.le_of_ble_eq_true rfl) dX11_steps_167 rfl ?_
  refine w_i2l hB dX11_steps_170 ?_
  refine w_ldc2 hB (v := 97) q_1330 dX11_steps_171 ?_
  refine w_ldc2 hB (v := 122) q_1331 dX11_steps_174 ?_
  obtain ⟨r2, M2m, hc_M2m, hF⟩ := clS hF
  refine w_callS hB (As := [vl (r1.toInt64), vl 97, vl 122]) (st := []) cw_X11_156 q_1320 (c_X11_within hp hc_M2m) ⟨rfl, rfl⟩ (by decide) (by decide) rfl (Nat.le_of_ble_eq_true rfl) dX11_steps_177 rfl ?_
  refine w_if_eq hB 241 dX11_steps_180 (by decide) (fun hc => ?_) (fun hc => ?_)
  · replace hF := ifT hc hF
    refine w_aload_n hB 0 dX11_steps_241 rfl rfl ?_
    refine w_aload_n hB 0 dX11_steps_242 rfl rfl ?_
    refine w_getI hB ff_X11_5 sh_311 (Or.inl hp.1) q_1165 dX11_steps_243 ?_
    refine w_aload_n hB 0 dX11_steps_246 rfl rfl ?_
    refine w_getI hB ff_X11_4 sh_311 (Or.inl hp.1) q_1164 dX11_steps_247 ?_
    refine w_isub hB dX11_steps_250 ?_
    refine w_bipush hB 7 (by decide) dX11_steps_251 ?_
    refine w_icmp_ge hB 260 dX11_steps_253 (by decide) (fun hc => ?_) (fun hc => ?_)
    · replace hF := ifT hc hF
      refine w_iconst hB 3 (by decide) dX11_steps_260 ?_
      exact Wt.sub (L' := []) [] rfl (b_X11_steps_b261 hp hB hF)
    · replace hF := ifF hc hF
      refine w_iconst hB 1 (by decide) dX11_steps_256 ?_
      refine w_goto hB 261 dX11_steps_257 (by decide) ?_
      exact Wt.sub (L' := []) [] rfl (b_X11_steps_b261 hp hB hF)
  · replace hF := ifF hc hF
    refine w_aload_n hB 0 dX11_steps_183 rfl rfl ?_
    refine w_aload_n hB 0 dX11_steps_184 rfl rfl ?_
    refine w_getI hB ff_X11_5 sh_311 (Or.inl hp.1) q_1165 dX11_steps_185 ?_
    refine w_aload_n hB 0 dX11_steps_188 rfl rfl ?_
    refine w_getI hB ff_X11_4 sh_311 (Or.inl hp.1) q_1164 dX11_steps_189 ?_
    refine w_isub hB dX11_steps_192 ?_
    refine w_bipush hB 6 (by decide) dX11_steps_193 ?_
    refine w_icmp_ge hB 221 dX11_steps_195 (by decide) (fun hc => ?_) (fun hc => ?_)
    · replace hF := ifT hc hF
      refine w_aload_n hB 0 dX11_steps_221 rfl rfl ?_
      refine w_getL hB ff_X11_8 sh_311 (Or.inl hp.1) q_1168 dX11_steps_222 ?_
      exact Wt.sub (L' := [(0, vr 311)]) [0] rfl (b_X11_steps_b225 hp hB h162 hF)
    · replace hF := ifF hc hF
      refine w_aload_n hB 0 dX11_steps_198 rfl rfl ?_
      refine w_getL hB ff_X11_8 sh_311 (Or.inl hp.1) q_1168 dX11_steps_199 ?_
      refine w_iconst hB 5 (by decide) dX11_steps_202 ?_
      refine w_lshl hB dX11_steps_203 ?_
      refine w_aload_n hB 0 dX11_steps_204 rfl rfl ?_
      refine w_aload_n hB 0 dX11_steps_205 rfl rfl ?_
      refine w_getI hB ff_X11_5 sh_311 (Or.inl hp.1) q_1165 dX11_steps_206 ?_
      obtain ⟨r3, M3m, hc_M3m, hF⟩ := clS hF
      refine w_callV hB (ci := 9) (As := [vi (M2m.1 311 5)]) (st := [vl ((M2m.2.1 311 8) <<< ((5 : Int32).toInt64 &&& 63)), vr 311]) cw_X11_138 q_1328 q_23 rfl sh_311 (Or.inl hp.1) (c_X11_see hp hc_M3m) ⟨rfl, rfl⟩ (by decide) (by decide) rfl (Nat.le_of_ble_eq_true rfl) dX11_steps_209 rfl ?_
      refine w_i2l hB dX11_steps_212 ?_
      refine w_ldc2 hB (v := 96) q_1332 dX11_steps_213 ?_
      refine w_lsub hB dX11_steps_216 ?_
      refine w_lor hB dX11_steps_217 ?_
      refine w_goto hB 225 dX11_steps_218 (by decide) ?_
      exact Wt.sub (L' := [(0, vr 311)]) [0] rfl (b_X11_steps_b225 hp hB h162 hF)
def f_X11_steps_b162 (k : Nat) : Mem → Option Mem := lpN (fun _ => none) (f_X11_steps_b162_s) k
theorem b_X11_steps_b162 {K : Kt} {X : Xt} (hp : St K) (hB : Bx K X { frames := 1, cells := 0, slots := 0, locals := 25 } cX11_steps 2 RX11 none) {M1 : Mem} (k : Nat) : ∀ M, f_X11_steps_b162 k M = some M1 → Wt K X (QM K X none M1 0 0) 0 0 M 162 [(0, vr 311)] [] := by
  refine lpN_ind (P := fun (f : Mem → Option Mem) => ∀ M, f M = some M1 → Wt K X (QM K X none M1 0 0) 0 0 M 162 [(0, vr 311)] []) (fun _ h => by cases h) (fun f hf M hF => ?_) k
  exact b_X11_steps_b162_s hp hB hf hF
def f_X11_steps_b8_s (rec8 : Mem → Option Mem) (M : Mem) : Option Mem :=
  cl (f_X11_see (M.1 311 4) M) fun r1 M1m =>
  if r1 = 32 then
    f_X11_steps_b34 rec8 M1m
  else
    cl (f_X11_see (M1m.1 311 4) M1m) fun r2 M2m =>
    if r2 = 10 then
      f_X11_steps_b34 rec8 M2m
    else
      cl (f_X11_see (M2m.1 311 4) M2m) fun r3 M3m =>
      bnd (setI M3m 311 5 ((M3m.1 311 4) + 1)) fun M4m =>
      bnd (setI M4m 311 6 3) fun M5m =>
      bnd (setI M5m 311 7 0) fun M6m =>
      bnd (setL M6m 311 8 0) fun M7m =>
      if r3 = (-1) then
        bnd (setI M7m 311 5 (M7m.1 311 4)) fun M8m =>
        bnd (setI M8m 311 6 0) fun M9m =>
        some M9m
      else
        if r3 = 59 then
          f_X11_steps_b132 r3 M7m
        else
          if r3 = 40 then
            f_X11_steps_b132 r3 M7m
          else
            if r3 = 41 then
              f_X11_steps_b132 r3 M7m
            else
              if r3 = 33 then
                f_X11_steps_b132 r3 M7m
              else
                if r3 = 63 then
                  f_X11_steps_b132 r3 M7m
                else
                  cl (f_X11_within (r3.toInt64) 97 122 M7m) fun r4 M10m =>
                  if r4 = 0 then
                    cl (f_X11_within (r3.toInt64) 48 57 M10m) fun r5 M11m =>
                    if r5 = 0 then
                      some M11m
                    else
                      bnd (setI M11m 311 5 (M11m.1 311 4)) fun M12m =>
                      f_X11_steps_b289 fuel M12m
                  else
                    bnd (setI M10m 311 5 (M10m.1 311 4)) fun M13m =>
                    f_X11_steps_b162 fuel M13m
set_option maxRecDepth 100000 in
set_option maxHeartbeats 4000000 in
theorem b_X11_steps_b8_s {K : Kt} {X : Xt} (hp : St K) (hB : Bx K X { frames := 1, cells := 0, slots := 0, locals := 25 } cX11_steps 2 RX11 none) {M1 : Mem} {rec8 : Mem → Option Mem}
    (h8 : ∀ M, rec8 M = some M1 → Wt K X (QM K X none M1 0 0) 0 0 M 8 [(0, vr 311)] []) {M : Mem} (hF : f_X11_steps_b8_s rec8 M = some M1) : Wt K X (QM K X none M1 0 0) 0 0 M 8 [(0, vr 311)] [] := by
  unfold f_X11_steps_b8_s at hF
  refine w_aload_n hB 0 dX11_steps_8 rfl rfl ?_
  refine w_aload_n hB 0 dX11_steps_9 rfl rfl ?_
  refine w_getI hB ff_X11_4 sh_311 (Or.inl hp.1) q_1164 dX11_steps_10 ?_
  obtain ⟨r1, M1m, hc_M1m, hF⟩ := clS hF
  refine w_callV hB (ci := 9) (As := [vi (M.1 311 4)]) (st := []) cw_X11_138 q_1328 q_23 rfl sh_311 (Or.inl hp.1) (c_X11_see hp hc_M1m) ⟨rfl, rfl⟩ (by decide) (by decide) rfl (Nat.le_of_ble_eq_true rfl) dX11_steps_13 rfl ?_
  refine w_bipush hB 32 (by decide) dX11_steps_16 ?_
  refine w_icmp_eq hB 34 dX11_steps_18 (by decide) (fun hc => ?_) (fun hc => ?_)
  · replace hF := ifT hc hF
    exact Wt.sub (L' := [(0, vr 311)]) [0] rfl (b_X11_steps_b34 hp hB h8 hF)
  · replace hF := ifF hc hF
    refine w_aload_n hB 0 dX11_steps_21 rfl rfl ?_
    refine w_aload_n hB 0 dX11_steps_22 rfl rfl ?_
    refine w_getI hB ff_X11_4 sh_311 (Or.inl hp.1) q_1164 dX11_steps_23 ?_
    obtain ⟨r2, M2m, hc_M2m, hF⟩ := clS hF
    refine w_callV hB (ci := 9) (As := [vi (M1m.1 311 4)]) (st := []) cw_X11_138 q_1328 q_23 rfl sh_311 (Or.inl hp.1) (c_X11_see hp hc_M2m) ⟨rfl, rfl⟩ (by decide) (by decide) rfl (Nat.le_of_ble_eq_true rfl) dX11_steps_26 rfl ?_
    refine w_bipush hB 10 (by decide) dX11_steps_29 ?_
    refine w_icmp_ne hB 47 dX11_steps_31 (by decide) (fun hc => ?_) (fun hc => ?_)
    · replace hF := ifF hc hF
      refine w_aload_n hB 0 dX11_steps_47 rfl rfl ?_
      refine w_aload_n hB 0 dX11_steps_48 rfl rfl ?_
      refine w_getI hB ff_X11_4 sh_311 (Or.inl hp.1) q_1164 dX11_steps_49 ?_
      obtain ⟨r3, M3m, hc_M3m, hF⟩ := clS hF
      refine w_callV hB (ci := 9) (As := [vi (M2m.1 311 4)]) (st := []) cw_X11_138 q_1328 q_23 rfl sh_311 (Or.inl hp.1) (c_X11_see hp hc_M3m) ⟨rfl, rfl⟩ (by decide) (by decide) rfl (Nat.le_of_ble_eq_true rfl) dX11_steps_52 rfl ?_
      refine w_istore_n hB (L' := [(1, vi r3), (0, vr 311)]) dX11_steps_55 rfl (by decide) rfl rfl ?_
      refine w_aload_n hB 1 dX11_steps_56 rfl rfl ?_
      refine w_aload_n hB 1 dX11_steps_57 rfl rfl ?_
      refine w_getI hB ff_X11_4 sh_311 (Or.inl hp.1) q_1164 dX11_steps_58 ?_
      refine w_iconst hB 1 (by decide) dX11_steps_61 ?_
      refine w_iadd hB dX11_steps_62 ?_
      obtain ⟨M4m, e_M4m, hF⟩ := bndS hF
      refine w_putI hB ff_X11_5 sh_311 (Or.inl hp.1) q_1165 e_M4m dX11_steps_63 ?_
      refine w_aload_n hB 1 dX11_steps_66 rfl rfl ?_
      refine w_iconst hB 3 (by decide) dX11_steps_67 ?_
      obtain ⟨M5m, e_M5m, hF⟩ := bndS hF
      refine w_putI hB ff_X11_6 sh_311 (Or.inl hp.1) q_1166 e_M5m dX11_steps_68 ?_
      refine w_aload_n hB 1 dX11_steps_71 rfl rfl ?_
      refine w_iconst hB 0 (by decide) dX11_steps_72 ?_
      obtain ⟨M6m, e_M6m, hF⟩ := bndS hF
      refine w_putI hB ff_X11_7 sh_311 (Or.inl hp.1) q_1167 e_M6m dX11_steps_73 ?_
      refine w_aload_n hB 1 dX11_steps_76 rfl rfl ?_
      refine w_lconst hB 0 (by decide) dX11_steps_77 ?_
      obtain ⟨M7m, e_M7m, hF⟩ := bndS hF
      refine w_putJ hB ff_X11_8 sh_311 (Or.inl hp.1) q_1168 e_M7m dX11_steps_78 ?_
      refine w_iload_n hB 0 dX11_steps_81 rfl rfl ?_
      refine w_iconst hB (-1) (by decide) dX11_steps_82 ?_
      refine w_icmp_ne hB 102 dX11_steps_83 (by decide) (fun hc => ?_) (fun hc => ?_)
      · replace hF := ifF hc hF
        refine w_iload_n hB 0 dX11_steps_102 rfl rfl ?_
        refine w_bipush hB 59 (by decide) dX11_steps_103 ?_
        refine w_icmp_eq hB 132 dX11_steps_105 (by decide) (fun hc => ?_) (fun hc => ?_)
        · replace hF := ifT hc hF
          exact Wt.sub (L' := [(0, vr 311), (1, vi r3)]) [1, 0] rfl (b_X11_steps_b132 hp hB hF)
        · replace hF := ifF hc hF
          refine w_iload_n hB 0 dX11_steps_108 rfl rfl ?_
          refine w_bipush hB 40 (by decide) dX11_steps_109 ?_
          refine w_icmp_eq hB 132 dX11_steps_111 (by decide) (fun hc => ?_) (fun hc => ?_)
          · replace hF := ifT hc hF
            exact Wt.sub (L' := [(0, vr 311), (1, vi r3)]) [1, 0] rfl (b_X11_steps_b132 hp hB hF)
          · replace hF := ifF hc hF
            refine w_iload_n hB 0 dX11_steps_114 rfl rfl ?_
            refine w_bipush hB 41 (by decide) dX11_steps_115 ?_
            refine w_icmp_eq hB 132 dX11_steps_117 (by decide) (fun hc => ?_) (fun hc => ?_)
            · replace hF := ifT hc hF
              exact Wt.sub (L' := [(0, vr 311), (1, vi r3)]) [1, 0] rfl (b_X11_steps_b132 hp hB hF)
            · replace hF := ifF hc hF
              refine w_iload_n hB 0 dX11_steps_120 rfl rfl ?_
              refine w_bipush hB 33 (by decide) dX11_steps_121 ?_
              refine w_icmp_eq hB 132 dX11_steps_123 (by decide) (fun hc => ?_) (fun hc => ?_)
              · replace hF := ifT hc hF
                exact Wt.sub (L' := [(0, vr 311), (1, vi r3)]) [1, 0] rfl (b_X11_steps_b132 hp hB hF)
              · replace hF := ifF hc hF
                refine w_iload_n hB 0 dX11_steps_126 rfl rfl ?_
                refine w_bipush hB 63 (by decide) dX11_steps_127 ?_
                refine w_icmp_ne hB 140 dX11_steps_129 (by decide) (fun hc => ?_) (fun hc => ?_)
                · replace hF := ifF hc hF
                  refine w_iload_n hB 0 dX11_steps_140 rfl rfl ?_
                  refine w_i2l hB dX11_steps_141 ?_
                  refine w_ldc2 hB (v := 97) q_1330 dX11_steps_142 ?_
                  refine w_ldc2 hB (v := 122) q_1331 dX11_steps_145 ?_
                  obtain ⟨r4, M10m, hc_M10m, hF⟩ := clS hF
                  refine w_callS hB (As := [vl (r3.toInt64), vl 97, vl 122]) (st := []) cw_X11_156 q_1320 (c_X11_within hp hc_M10m) ⟨rfl, rfl⟩ (by decide) (by decide) rfl (Nat.le_of_ble_eq_true rfl) dX11_steps_148 rfl ?_
                  refine w_if_eq hB 267 dX11_steps_151 (by decide) (fun hc => ?_) (fun hc => ?_)
                  · replace hF := ifT hc hF
                    refine w_iload_n hB 0 dX11_steps_267 rfl rfl ?_
                    refine w_i2l hB dX11_steps_268 ?_
                    refine w_ldc2 hB (v := 48) q_1333 dX11_steps_269 ?_
                    refine w_ldc2 hB (v := 57) q_1334 dX11_steps_272 ?_
                    obtain ⟨r5, M11m, hc_M11m, hF⟩ := clS hF
                    refine w_callS hB (As := [vl (r3.toInt64), vl 48, vl 57]) (st := []) cw_X11_156 q_1320 (c_X11_within hp hc_M11m) ⟨rfl, rfl⟩ (by decide) (by decide) rfl (Nat.le_of_ble_eq_true rfl) dX11_steps_275 rfl ?_
                    refine w_if_eq hB 388 dX11_steps_278 (by decide) (fun hc => ?_) (fun hc => ?_)
                    · replace hF := ifT hc hF
                      cases hF
                      exact w_vret hB dX11_steps_388
                    · replace hF := ifF hc hF
                      refine w_aload_n hB 1 dX11_steps_281 rfl rfl ?_
                      refine w_aload_n hB 1 dX11_steps_282 rfl rfl ?_
                      refine w_getI hB ff_X11_4 sh_311 (Or.inl hp.1) q_1164 dX11_steps_283 ?_
                      obtain ⟨M12m, e_M12m, hF⟩ := bndS hF
                      refine w_putI hB ff_X11_5 sh_311 (Or.inl hp.1) q_1165 e_M12m dX11_steps_286 ?_
                      exact Wt.sub (L' := [(0, vr 311)]) [1] rfl (b_X11_steps_b289 hp hB fuel M12m hF)
                  · replace hF := ifF hc hF
                    refine w_aload_n hB 1 dX11_steps_154 rfl rfl ?_
                    refine w_aload_n hB 1 dX11_steps_155 rfl rfl ?_
                    refine w_getI hB ff_X11_4 sh_311 (Or.inl hp.1) q_1164 dX11_steps_156 ?_
                    obtain ⟨M13m, e_M13m, hF⟩ := bndS hF
                    refine w_putI hB ff_X11_5 sh_311 (Or.inl hp.1) q_1165 e_M13m dX11_steps_159 ?_
                    exact Wt.sub (L' := [(0, vr 311)]) [1] rfl (b_X11_steps_b162 hp hB fuel M13m hF)
                · replace hF := ifT hc hF
                  exact Wt.sub (L' := [(0, vr 311), (1, vi r3)]) [1, 0] rfl (b_X11_steps_b132 hp hB hF)
      · replace hF := ifT hc hF
        refine w_aload_n hB 1 dX11_steps_86 rfl rfl ?_
        refine w_aload_n hB 1 dX11_steps_87 rfl rfl ?_
        refine w_getI hB ff_X11_4 sh_311 (Or.inl hp.1) q_1164 dX11_steps_88 ?_
        obtain ⟨M8m, e_M8m, hF⟩ := bndS hF
        refine w_putI hB ff_X11_5 sh_311 (Or.inl hp.1) q_1165 e_M8m dX11_steps_91 ?_
        refine w_aload_n hB 1 dX11_steps_94 rfl rfl ?_
        refine w_iconst hB 0 (by decide) dX11_steps_95 ?_
        obtain ⟨M9m, e_M9m, hF⟩ := bndS hF
        refine w_putI hB ff_X11_6 sh_311 (Or.inl hp.1) q_1166 e_M9m dX11_steps_96 ?_
        refine w_goto hB 388 dX11_steps_99 (by decide) ?_
        cases hF
        exact w_vret hB dX11_steps_388
    · replace hF := ifT hc hF
      exact Wt.sub (L' := [(0, vr 311)]) [0] rfl (b_X11_steps_b34 hp hB h8 hF)
def f_X11_steps_b8 (k : Nat) : Mem → Option Mem := lpN (fun _ => none) (f_X11_steps_b8_s) k
theorem b_X11_steps_b8 {K : Kt} {X : Xt} (hp : St K) (hB : Bx K X { frames := 1, cells := 0, slots := 0, locals := 25 } cX11_steps 2 RX11 none) {M1 : Mem} (k : Nat) : ∀ M, f_X11_steps_b8 k M = some M1 → Wt K X (QM K X none M1 0 0) 0 0 M 8 [(0, vr 311)] [] := by
  refine lpN_ind (P := fun (f : Mem → Option Mem) => ∀ M, f M = some M1 → Wt K X (QM K X none M1 0 0) 0 0 M 8 [(0, vr 311)] []) (fun _ h => by cases h) (fun f hf M hF => ?_) k
  exact b_X11_steps_b8_s hp hB hf hF
def f_X11_steps (M : Mem) : Option Mem :=
  bnd (setI M 311 4 (M.1 311 5)) fun M1m =>
  f_X11_steps_b8 fuel M1m
set_option maxRecDepth 100000 in
set_option maxHeartbeats 4000000 in
theorem b_X11_steps {K : Kt} {X : Xt} (hp : St K) (hB : Bx K X { frames := 1, cells := 0, slots := 0, locals := 25 } cX11_steps 2 RX11 none) {M1 : Mem} {M : Mem} (hF : f_X11_steps M = some M1) : Wt K X (QM K X none M1 0 0) 0 0 M 0 [(0, vr 311)] [] := by
  unfold f_X11_steps at hF
  refine w_aload_n hB 0 dX11_steps_0 rfl rfl ?_
  refine w_aload_n hB 0 dX11_steps_1 rfl rfl ?_
  refine w_getI hB ff_X11_5 sh_311 (Or.inl hp.1) q_1165 dX11_steps_2 ?_
  obtain ⟨M1m, e_M1m, hF⟩ := bndS hF
  refine w_putI hB ff_X11_4 sh_311 (Or.inl hp.1) q_1164 e_M1m dX11_steps_5 ?_
  exact Wt.sub (L' := [(0, vr 311)]) [0] rfl (b_X11_steps_b8 hp hB fuel M1m hF)
theorem c_X11_steps {K : Kt} {l : Launch} (hp : St K) {M1 : Mem} {M : Mem} (hF : f_X11_steps M = some M1) : MT K l yX11_steps cX11_steps 2 none { frames := 1, cells := 0, slots := 0, locals := 25 } [vr 311] M none M1 0 0 :=
  MT_of (by decide) rfl (Nat.le_of_ble_eq_true rfl) (fun X _ hB _ => b_X11_steps hp hB hF)
def f_X11_must_b24 (M : Mem) : Option (Int32 × Mem) :=
  if (M.1 311 9) = 0 then
    some (1, M)
  else
    some (0, M)
set_option maxRecDepth 100000 in
set_option maxHeartbeats 4000000 in
theorem b_X11_must_b24 {K : Kt} {X : Xt} (hp : St K) (hB : Bx K X { frames := 0, cells := 0, slots := 0, locals := 0 } cX11_must 3 RX11 (some .boolean)) {r : Int32} {M1 : Mem} {M : Mem} (hF : f_X11_must_b24 M = some (r, M1)) : Wt K X (QM K X (some (vi r)) M1 0 0) 0 0 M 24 [(0, vr 311)] [] := by
  unfold f_X11_must_b24 at hF
  refine w_aload_n hB 0 dX11_must_24 rfl rfl ?_
  refine w_getI hB ff_X11_9 sh_311 (Or.inl hp.1) q_1169 dX11_must_25 ?_
  refine w_if_ne hB 35 dX11_must_28 (by decide) (fun hc => ?_) (fun hc => ?_)
  · replace hF := ifF hc hF
    refine w_iconst hB 0 (by decide) dX11_must_35 ?_
    obtain ⟨e1, e2⟩ := retS hF
    subst e2
    exact w_zret hB (by decide) dX11_must_36 e1
  · replace hF := ifT hc hF
    refine w_iconst hB 1 (by decide) dX11_must_31 ?_
    refine w_goto hB 36 dX11_must_32 (by decide) ?_
    obtain ⟨e1, e2⟩ := retS hF
    subst e2
    exact w_zret hB (by decide) dX11_must_36 e1
def f_X11_must (x1 : Int32) (x2 : Int32) (M : Mem) : Option (Int32 × Mem) :=
  if (M.1 311 9) = 0 then
    if x1 = 0 then
      bnd (setI M 311 9 x2) fun M1m =>
      bnd (setI M1m 311 10 (M1m.1 311 4)) fun M2m =>
      f_X11_must_b24 M2m
    else
      f_X11_must_b24 M
  else
    f_X11_must_b24 M
set_option maxRecDepth 100000 in
set_option maxHeartbeats 4000000 in
theorem b_X11_must {K : Kt} {X : Xt} (hp : St K) (hB : Bx K X { frames := 0, cells := 0, slots := 0, locals := 0 } cX11_must 3 RX11 (some .boolean)) {r : Int32} {M1 : Mem} {x1 : Int32} {x2 : Int32} {M : Mem} (hF : f_X11_must x1 x2 M = some (r, M1)) : Wt K X (QM K X (some (vi r)) M1 0 0) 0 0 M 0 [(0, vr 311), (1, vi x1), (2, vi x2)] [] := by
  unfold f_X11_must at hF
  refine w_aload_n hB 0 dX11_must_0 rfl rfl ?_
  refine w_getI hB ff_X11_9 sh_311 (Or.inl hp.1) q_1169 dX11_must_1 ?_
  refine w_if_ne hB 24 dX11_must_4 (by decide) (fun hc => ?_) (fun hc => ?_)
  · replace hF := ifF hc hF
    exact Wt.sub (L' := [(0, vr 311)]) [0] rfl (b_X11_must_b24 hp hB hF)
  · replace hF := ifT hc hF
    refine w_iload_n hB 1 dX11_must_7 rfl rfl ?_
    refine w_if_ne hB 24 dX11_must_8 (by decide) (fun hc => ?_) (fun hc => ?_)
    · replace hF := ifF hc hF
      exact Wt.sub (L' := [(0, vr 311)]) [0] rfl (b_X11_must_b24 hp hB hF)
    · replace hF := ifT hc hF
      refine w_aload_n hB 0 dX11_must_11 rfl rfl ?_
      refine w_iload_n hB 2 dX11_must_12 rfl rfl ?_
      obtain ⟨M1m, e_M1m, hF⟩ := bndS hF
      refine w_putI hB ff_X11_9 sh_311 (Or.inl hp.1) q_1169 e_M1m dX11_must_13 ?_
      refine w_aload_n hB 0 dX11_must_16 rfl rfl ?_
      refine w_aload_n hB 0 dX11_must_17 rfl rfl ?_
      refine w_getI hB ff_X11_4 sh_311 (Or.inl hp.1) q_1164 dX11_must_18 ?_
      obtain ⟨M2m, e_M2m, hF⟩ := bndS hF
      refine w_putI hB ff_X11_10 sh_311 (Or.inl hp.1) q_1170 e_M2m dX11_must_21 ?_
      exact Wt.sub (L' := [(0, vr 311)]) [0] rfl (b_X11_must_b24 hp hB hF)
theorem c_X11_must {K : Kt} {l : Launch} (hp : St K) {r : Int32} {M1 : Mem} {x1 : Int32} {x2 : Int32} {M : Mem} (hF : f_X11_must x1 x2 M = some (r, M1)) : MT K l yX11_must cX11_must 3 (some .boolean) { frames := 0, cells := 0, slots := 0, locals := 0 } [vr 311, vi x1, vi x2] M (some (vi r)) M1 0 0 :=
  MT_of (by decide) rfl (Nat.le_of_ble_eq_true rfl) (fun X _ hB _ => b_X11_must hp hB hF)
def f_X11_spelled_b4_s (rec4 : Nat → Int64 → Int32 → Mem → Option (Int64 × Mem)) (n0 : Nat) (y1 : Int64) (x3 : Int32) (M : Mem) : Option (Int64 × Mem) :=
  gd (28 ≤ n0 ∧ n0 < 44) <|
  cl (f_J0_length_8abf5 n0 M) fun r1 M1m =>
  if r1 ≤ x3 then
    some (y1, M1m)
  else
    cl (f_J0_charAt_5068e n0 x3 M1m) fun r2 M2m =>
    bnd ((y1 <<< ((5 : Int32).toInt64 &&& 63)) ||| ((r2.toInt64) - 96)) fun c1 =>
    bnd (x3 + 1) fun a1 =>
    rec4 n0 c1 a1 M2m
set_option maxRecDepth 100000 in
set_option maxHeartbeats 4000000 in
theorem b_X11_spelled_b4_s {K : Kt} {X : Xt} (hp : St K) (hB : Bx K X { frames := 4, cells := 0, slots := 0, locals := 85 } cX11_spelled 4 RX11 (some .long)) {r : Int64} {M1 : Mem} {rec4 : Nat → Int64 → Int32 → Mem → Option (Int64 × Mem)}
    (h4 : ∀ n0 y1 x3 M, rec4 n0 y1 x3 M = some (r, M1) → Wt K X (QM K X (some (vl r)) M1 0 0) 0 0 M 4 [(0, vr n0), (1, vl y1), (3, vi x3)] []) {n0 : Nat} {y1 : Int64} {x3 : Int32} {M : Mem} (hF : f_X11_spelled_b4_s rec4 n0 y1 x3 M = some (r, M1)) : Wt K X (QM K X (some (vl r)) M1 0 0) 0 0 M 4 [(0, vr n0), (1, vl y1), (3, vi x3)] [] := by
  unfold f_X11_spelled_b4_s at hF
  refine w_iload_n hB 2 dX11_spelled_4 rfl rfl ?_
  refine w_aload_n hB 0 dX11_spelled_5 rfl rfl ?_
  obtain ⟨g1, hF⟩ := gdS hF
  obtain ⟨r1, M1m, hc_M1m, hF⟩ := clS hF
  refine w_callStr hB hp g1 (As := []) (st := [vi x3]) cw_X11_172 q_1348 q_1349 (c_J0_length_8abf5 hp hc_M1m) ⟨rfl, rfl⟩ (by decide) (by decide) rfl (Nat.le_of_ble_eq_true rfl) dX11_spelled_6 rfl ?_
  refine w_icmp_ge hB 33 dX11_spelled_9 (by decide) (fun hc => ?_) (fun hc => ?_)
  · replace hF := ifT hc hF
    refine w_lload_n hB 1 dX11_spelled_33 rfl rfl ?_
    obtain ⟨e1, e2⟩ := retS hF
    subst e2
    exact w_lret hB dX11_spelled_34 e1
  · replace hF := ifF hc hF
    refine w_lload_n hB 1 dX11_spelled_12 rfl rfl ?_
    refine w_iconst hB 5 (by decide) dX11_spelled_13 ?_
    refine w_lshl hB dX11_spelled_14 ?_
    refine w_aload_n hB 0 dX11_spelled_15 rfl rfl ?_
    refine w_iload_n hB 2 dX11_spelled_16 rfl rfl ?_
    obtain ⟨r2, M2m, hc_M2m, hF⟩ := clS hF
    refine w_callStr hB hp g1 (As := [vi x3]) (st := [vl (y1 <<< ((5 : Int32).toInt64 &&& 63))]) cw_X11_178 q_1358 q_1359 (c_J0_charAt_5068e hp hc_M2m) ⟨rfl, rfl⟩ (by decide) (by decide) rfl (Nat.le_of_ble_eq_true rfl) dX11_spelled_17 rfl ?_
    refine w_i2l hB dX11_spelled_20 ?_
    refine w_ldc2 hB (v := 96) q_1332 dX11_spelled_21 ?_
    refine w_lsub hB dX11_spelled_24 ?_
    refine w_lor hB dX11_spelled_25 ?_
    obtain ⟨c1, e_c1, hF⟩ := bndS hF
    refine w_lstore_n hB (L' := [(1, vl c1), (0, vr n0), (3, vi x3)]) dX11_spelled_26 rfl (by decide) e_c1 rfl ?_
    obtain ⟨a1, e_a1, hF⟩ := bndS hF
    refine w_iinc hB 2 (v := 1) (L' := [(3, vi a1), (1, vl c1), (0, vr n0)]) dX11_spelled_27 rfl (by decide) (by decide) e_a1 rfl ?_
    refine w_goto hB 4 dX11_spelled_30 (by decide) ?_
    exact Wt.sub (L' := [(0, vr n0), (1, vl c1), (3, vi a1)]) [2, 1, 0] rfl (h4 _ _ _ M2m hF)
def f_X11_spelled_b4 (k : Nat) : Nat → Int64 → Int32 → Mem → Option (Int64 × Mem) := lpN (fun _ _ _ _ => none) (f_X11_spelled_b4_s) k
theorem b_X11_spelled_b4 {K : Kt} {X : Xt} (hp : St K) (hB : Bx K X { frames := 4, cells := 0, slots := 0, locals := 85 } cX11_spelled 4 RX11 (some .long)) {r : Int64} {M1 : Mem} (k : Nat) : ∀ (n0 : Nat) (y1 : Int64) (x3 : Int32) M, f_X11_spelled_b4 k n0 y1 x3 M = some (r, M1) → Wt K X (QM K X (some (vl r)) M1 0 0) 0 0 M 4 [(0, vr n0), (1, vl y1), (3, vi x3)] [] := by
  refine lpN_ind (P := fun (f : Nat → Int64 → Int32 → Mem → Option (Int64 × Mem)) => ∀ (n0 : Nat) (y1 : Int64) (x3 : Int32) M, f n0 y1 x3 M = some (r, M1) → Wt K X (QM K X (some (vl r)) M1 0 0) 0 0 M 4 [(0, vr n0), (1, vl y1), (3, vi x3)] []) (fun _ _ _ _ h => by cases h) (fun f hf n0 y1 x3 M hF => ?_) k
  exact b_X11_spelled_b4_s hp hB hf hF
def f_X11_spelled (n0 : Nat) (M : Mem) : Option (Int64 × Mem) :=
  f_X11_spelled_b4 fuel n0 0 0 M
set_option maxRecDepth 100000 in
set_option maxHeartbeats 4000000 in
theorem b_X11_spelled {K : Kt} {X : Xt} (hp : St K) (hB : Bx K X { frames := 4, cells := 0, slots := 0, locals := 85 } cX11_spelled 4 RX11 (some .long)) {r : Int64} {M1 : Mem} {n0 : Nat} {M : Mem} (hF : f_X11_spelled n0 M = some (r, M1)) : Wt K X (QM K X (some (vl r)) M1 0 0) 0 0 M 0 [(0, vr n0)] [] := by
  unfold f_X11_spelled at hF
  refine w_lconst hB 0 (by decide) dX11_spelled_0 ?_
  refine w_lstore_n hB (L' := [(1, vl 0), (0, vr n0)]) dX11_spelled_1 rfl (by decide) rfl rfl ?_
  refine w_iconst hB 0 (by decide) dX11_spelled_2 ?_
  refine w_istore_n hB (L' := [(3, vi 0), (1, vl 0), (0, vr n0)]) dX11_spelled_3 rfl (by decide) rfl rfl ?_
  exact Wt.sub (L' := [(0, vr n0), (1, vl 0), (3, vi 0)]) [2, 1, 0] rfl (b_X11_spelled_b4 hp hB fuel _ _ _ M hF)
theorem c_X11_spelled {K : Kt} {l : Launch} (hp : St K) {r : Int64} {M1 : Mem} {n0 : Nat} {M : Mem} (hF : f_X11_spelled n0 M = some (r, M1)) : MT K l yX11_spelled cX11_spelled 4 (some .long) { frames := 4, cells := 0, slots := 0, locals := 85 } [vr n0] M (some (vl r)) M1 0 0 :=
  MT_of (by decide) rfl (Nat.le_of_ble_eq_true rfl) (fun X _ hB _ => b_X11_spelled hp hB hF)
def f_X11_is (n1 : Nat) (M : Mem) : Option (Int32 × Mem) :=
  if (M.1 311 9) = 0 then
    if (M.1 311 6) = 1 then
      cl (f_X11_spelled n1 M) fun s1 M1m =>
      if (lg_cmp (M.2.1 311 8) s1) = 0 then
        some (1, M1m)
      else
        some (0, M1m)
    else
      some (0, M)
  else
    some (0, M)
set_option maxRecDepth 100000 in
set_option maxHeartbeats 4000000 in
theorem b_X11_is {K : Kt} {X : Xt} (hp : St K) (hB : Bx K X { frames := 5, cells := 0, slots := 0, locals := 108 } cX11_is 2 RX11 (some .boolean)) {r : Int32} {M1 : Mem} {n1 : Nat} {M : Mem} (hF : f_X11_is n1 M = some (r, M1)) : Wt K X (QM K X (some (vi r)) M1 0 0) 0 0 M 0 [(0, vr 311), (1, vr n1)] [] := by
  unfold f_X11_is at hF
  refine w_aload_n hB 0 dX11_is_0 rfl rfl ?_
  refine w_getI hB ff_X11_9 sh_311 (Or.inl hp.1) q_1169 dX11_is_1 ?_
  refine w_if_ne hB 31 dX11_is_4 (by decide) (fun hc => ?_) (fun hc => ?_)
  · replace hF := ifF hc hF
    refine w_iconst hB 0 (by decide) dX11_is_31 ?_
    obtain ⟨e1, e2⟩ := retS hF
    subst e2
    exact w_zret hB (by decide) dX11_is_32 e1
  · replace hF := ifT hc hF
    refine w_aload_n hB 0 dX11_is_7 rfl rfl ?_
    refine w_getI hB ff_X11_6 sh_311 (Or.inl hp.1) q_1166 dX11_is_8 ?_
    refine w_iconst hB 1 (by decide) dX11_is_11 ?_
    refine w_icmp_ne hB 31 dX11_is_12 (by decide) (fun hc => ?_) (fun hc => ?_)
    · replace hF := ifF hc hF
      refine w_iconst hB 0 (by decide) dX11_is_31 ?_
      obtain ⟨e1, e2⟩ := retS hF
      subst e2
      exact w_zret hB (by decide) dX11_is_32 e1
    · replace hF := ifT hc hF
      refine w_aload_n hB 0 dX11_is_15 rfl rfl ?_
      refine w_getL hB ff_X11_8 sh_311 (Or.inl hp.1) q_1168 dX11_is_16 ?_
      refine w_aload_n hB 1 dX11_is_19 rfl rfl ?_
      obtain ⟨s1, M1m, hc_M1m, hF⟩ := clS hF
      refine w_callS hB (As := [vr n1]) (st := [vl (M.2.1 311 8)]) cw_X11_182 q_1345 (c_X11_spelled hp hc_M1m) ⟨rfl, rfl⟩ (by decide) (by decide) rfl (Nat.le_of_ble_eq_true rfl) dX11_is_20 rfl ?_
      refine w_lcmp hB dX11_is_23 ?_
      refine w_if_ne hB 31 dX11_is_24 (by decide) (fun hc => ?_) (fun hc => ?_)
      · replace hF := ifF hc hF
        refine w_iconst hB 0 (by decide) dX11_is_31 ?_
        obtain ⟨e1, e2⟩ := retS hF
        subst e2
        exact w_zret hB (by decide) dX11_is_32 e1
      · replace hF := ifT hc hF
        refine w_iconst hB 1 (by decide) dX11_is_27 ?_
        refine w_goto hB 32 dX11_is_28 (by decide) ?_
        obtain ⟨e1, e2⟩ := retS hF
        subst e2
        exact w_zret hB (by decide) dX11_is_32 e1
theorem c_X11_is {K : Kt} {l : Launch} (hp : St K) {r : Int32} {M1 : Mem} {n1 : Nat} {M : Mem} (hF : f_X11_is n1 M = some (r, M1)) : MT K l yX11_is cX11_is 2 (some .boolean) { frames := 5, cells := 0, slots := 0, locals := 108 } [vr 311, vr n1] M (some (vi r)) M1 0 0 :=
  MT_of (by decide) rfl (Nat.le_of_ble_eq_true rfl) (fun X _ hB _ => b_X11_is hp hB hF)
def f_X11_isOwn_b95 (xs0 : Int32) (M : Mem) : Option (Int32 × Mem) :=
  if xs0 = 0 then
    cl (f_X11_is 38 M) fun r1 M1m =>
    if r1 = 0 then
      cl (f_X11_is 39 M1m) fun r2 M2m =>
      if r2 = 0 then
        cl (f_X11_is 40 M2m) fun r3 M3m =>
        if r3 = 0 then
          cl (f_X11_is 41 M3m) fun r4 M4m =>
          if r4 = 0 then
            cl (f_X11_is 42 M4m) fun r5 M5m =>
            if r5 = 0 then
              cl (f_X11_is 43 M5m) fun r6 M6m =>
              if r6 = 0 then
                some (0, M6m)
              else
                some (1, M6m)
            else
              some (1, M5m)
          else
            some (1, M4m)
        else
          some (1, M3m)
      else
        some (1, M2m)
    else
      some (1, M1m)
  else
    some (1, M)
set_option maxRecDepth 100000 in
set_option maxHeartbeats 4000000 in
theorem b_X11_isOwn_b95 {K : Kt} {X : Xt} (hp : St K) (hB : Bx K X { frames := 6, cells := 0, slots := 0, locals := 129 } cX11_isOwn 2 RX11 (some .boolean)) {r : Int32} {M1 : Mem} {xs0 : Int32} {M : Mem} (hF : f_X11_isOwn_b95 xs0 M = some (r, M1)) : Wt K X (QM K X (some (vi r)) M1 0 0) 0 0 M 95 [(0, vr 311)] [vi xs0] := by
  unfold f_X11_isOwn_b95 at hF
  refine w_istore_n hB (L' := [(1, vi xs0), (0, vr 311)]) dX11_isOwn_95 rfl (by decide) rfl rfl ?_
  refine w_iload_n hB 0 dX11_isOwn_96 rfl rfl ?_
  refine w_if_ne hB 154 dX11_isOwn_97 (by decide) (fun hc => ?_) (fun hc => ?_)
  · replace hF := ifF hc hF
    refine w_iconst hB 1 (by decide) dX11_isOwn_154 ?_
    refine w_goto hB 159 dX11_isOwn_155 (by decide) ?_
    obtain ⟨e1, e2⟩ := retS hF
    subst e2
    exact w_zret hB (by decide) dX11_isOwn_159 e1
  · replace hF := ifT hc hF
    refine w_aload_n hB 1 dX11_isOwn_100 rfl rfl ?_
    refine w_ldcs hB hp 38 (by decide) dX11_isOwn_101 ?_
    obtain ⟨r1, M1m, hc_M1m, hF⟩ := clS hF
    refine w_callV hB (ci := 9) (As := [vr 38]) (st := []) cw_X11_188 q_1342 q_25 rfl sh_311 (Or.inl hp.1) (c_X11_is hp hc_M1m) ⟨rfl, rfl⟩ (by decide) (by decide) rfl (Nat.le_of_ble_eq_true rfl) dX11_isOwn_103 rfl ?_
    refine w_if_ne hB 154 dX11_isOwn_106 (by decide) (fun hc => ?_) (fun hc => ?_)
    · replace hF := ifF hc hF
      refine w_iconst hB 1 (by decide) dX11_isOwn_154 ?_
      refine w_goto hB 159 dX11_isOwn_155 (by decide) ?_
      obtain ⟨e1, e2⟩ := retS hF
      subst e2
      exact w_zret hB (by decide) dX11_isOwn_159 e1
    · replace hF := ifT hc hF
      refine w_aload_n hB 1 dX11_isOwn_109 rfl rfl ?_
      refine w_ldcs hB hp 39 (by decide) dX11_isOwn_110 ?_
      obtain ⟨r2, M2m, hc_M2m, hF⟩ := clS hF
      refine w_callV hB (ci := 9) (As := [vr 39]) (st := []) cw_X11_188 q_1342 q_25 rfl sh_311 (Or.inl hp.1) (c_X11_is hp hc_M2m) ⟨rfl, rfl⟩ (by decide) (by decide) rfl (Nat.le_of_ble_eq_true rfl) dX11_isOwn_112 rfl ?_
      refine w_if_ne hB 154 dX11_isOwn_115 (by decide) (fun hc => ?_) (fun hc => ?_)
      · replace hF := ifF hc hF
        refine w_iconst hB 1 (by decide) dX11_isOwn_154 ?_
        refine w_goto hB 159 dX11_isOwn_155 (by decide) ?_
        obtain ⟨e1, e2⟩ := retS hF
        subst e2
        exact w_zret hB (by decide) dX11_isOwn_159 e1
      · replace hF := ifT hc hF
        refine w_aload_n hB 1 dX11_isOwn_118 rfl rfl ?_
        refine w_ldcs hB hp 40 (by decide) dX11_isOwn_119 ?_
        obtain ⟨r3, M3m, hc_M3m, hF⟩ := clS hF
        refine w_callV hB (ci := 9) (As := [vr 40]) (st := []) cw_X11_188 q_1342 q_25 rfl sh_311 (Or.inl hp.1) (c_X11_is hp hc_M3m) ⟨rfl, rfl⟩ (by decide) (by decide) rfl (Nat.le_of_ble_eq_true rfl) dX11_isOwn_121 rfl ?_
        refine w_if_ne hB 154 dX11_isOwn_124 (by decide) (fun hc => ?_) (fun hc => ?_)
        · replace hF := ifF hc hF
          refine w_iconst hB 1 (by decide) dX11_isOwn_154 ?_
          refine w_goto hB 159 dX11_isOwn_155 (by decide) ?_
          obtain ⟨e1, e2⟩ := retS hF
          subst e2
          exact w_zret hB (by decide) dX11_isOwn_159 e1
        · replace hF := ifT hc hF
          refine w_aload_n hB 1 dX11_isOwn_127 rfl rfl ?_
          refine w_ldcs hB hp 41 (by decide) dX11_isOwn_128 ?_
          obtain ⟨r4, M4m, hc_M4m, hF⟩ := clS hF
          refine w_callV hB (ci := 9) (As := [vr 41]) (st := []) cw_X11_188 q_1342 q_25 rfl sh_311 (Or.inl hp.1) (c_X11_is hp hc_M4m) ⟨rfl, rfl⟩ (by decide) (by decide) rfl (Nat.le_of_ble_eq_true rfl) dX11_isOwn_130 rfl ?_
          refine w_if_ne hB 154 dX11_isOwn_133 (by decide) (fun hc => ?_) (fun hc => ?_)
          · replace hF := ifF hc hF
            refine w_iconst hB 1 (by decide) dX11_isOwn_154 ?_
            refine w_goto hB 159 dX11_isOwn_155 (by decide) ?_
            obtain ⟨e1, e2⟩ := retS hF
            subst e2
            exact w_zret hB (by decide) dX11_isOwn_159 e1
          · replace hF := ifT hc hF
            refine w_aload_n hB 1 dX11_isOwn_136 rfl rfl ?_
            refine w_ldcs hB hp 42 (by decide) dX11_isOwn_137 ?_
            obtain ⟨r5, M5m, hc_M5m, hF⟩ := clS hF
            refine w_callV hB (ci := 9) (As := [vr 42]) (st := []) cw_X11_188 q_1342 q_25 rfl sh_311 (Or.inl hp.1) (c_X11_is hp hc_M5m) ⟨rfl, rfl⟩ (by decide) (by decide) rfl (Nat.le_of_ble_eq_true rfl) dX11_isOwn_139 rfl ?_
            refine w_if_ne hB 154 dX11_isOwn_142 (by decide) (fun hc => ?_) (fun hc => ?_)
            · replace hF := ifF hc hF
              refine w_iconst hB 1 (by decide) dX11_isOwn_154 ?_
              refine w_goto hB 159 dX11_isOwn_155 (by decide) ?_
              obtain ⟨e1, e2⟩ := retS hF
              subst e2
              exact w_zret hB (by decide) dX11_isOwn_159 e1
            · replace hF := ifT hc hF
              refine w_aload_n hB 1 dX11_isOwn_145 rfl rfl ?_
              refine w_ldcs hB hp 43 (by decide) dX11_isOwn_146 ?_
              obtain ⟨r6, M6m, hc_M6m, hF⟩ := clS hF
              refine w_callV hB (ci := 9) (As := [vr 43]) (st := []) cw_X11_188 q_1342 q_25 rfl sh_311 (Or.inl hp.1) (c_X11_is hp hc_M6m) ⟨rfl, rfl⟩ (by decide) (by decide) rfl (Nat.le_of_ble_eq_true rfl) dX11_isOwn_148 rfl ?_
              refine w_if_eq hB 158 dX11_isOwn_151 (by decide) (fun hc => ?_) (fun hc => ?_)
              · replace hF := ifT hc hF
                refine w_iconst hB 0 (by decide) dX11_isOwn_158 ?_
                obtain ⟨e1, e2⟩ := retS hF
                subst e2
                exact w_zret hB (by decide) dX11_isOwn_159 e1
              · replace hF := ifF hc hF
                refine w_iconst hB 1 (by decide) dX11_isOwn_154 ?_
                refine w_goto hB 159 dX11_isOwn_155 (by decide) ?_
                obtain ⟨e1, e2⟩ := retS hF
                subst e2
                exact w_zret hB (by decide) dX11_isOwn_159 e1
def f_X11_isOwn_b90 (M : Mem) : Option (Int32 × Mem) :=
  f_X11_isOwn_b95 1 M
set_option maxRecDepth 100000 in
set_option maxHeartbeats 4000000 in
theorem b_X11_isOwn_b90 {K : Kt} {X : Xt} (hp : St K) (hB : Bx K X { frames := 6, cells := 0, slots := 0, locals := 129 } cX11_isOwn 2 RX11 (some .boolean)) {r : Int32} {M1 : Mem} {M : Mem} (hF : f_X11_isOwn_b90 M = some (r, M1)) : Wt K X (QM K X (some (vi r)) M1 0 0) 0 0 M 90 [(0, vr 311)] [] := by
  unfold f_X11_isOwn_b90 at hF
  refine w_iconst hB 1 (by decide) dX11_isOwn_90 ?_
  refine w_goto hB 95 dX11_isOwn_91 (by decide) ?_
  exact Wt.sub (L' := [(0, vr 311)]) [0] rfl (b_X11_isOwn_b95 hp hB hF)
def f_X11_isOwn (M : Mem) : Option (Int32 × Mem) :=
  cl (f_X11_is 28 M) fun r1 M1m =>
  if r1 = 0 then
    cl (f_X11_is 29 M1m) fun r2 M2m =>
    if r2 = 0 then
      cl (f_X11_is 30 M2m) fun r3 M3m =>
      if r3 = 0 then
        cl (f_X11_is 31 M3m) fun r4 M4m =>
        if r4 = 0 then
          cl (f_X11_is 32 M4m) fun r5 M5m =>
          if r5 = 0 then
            cl (f_X11_is 33 M5m) fun r6 M6m =>
            if r6 = 0 then
              cl (f_X11_is 34 M6m) fun r7 M7m =>
              if r7 = 0 then
                cl (f_X11_is 35 M7m) fun r8 M8m =>
                if r8 = 0 then
                  cl (f_X11_is 36 M8m) fun r9 M9m =>
                  if r9 = 0 then
                    cl (f_X11_is 37 M9m) fun r10 M10m =>
                    if r10 = 0 then
                      f_X11_isOwn_b95 0 M10m
                    else
                      f_X11_isOwn_b90 M10m
                  else
                    f_X11_isOwn_b90 M9m
                else
                  f_X11_isOwn_b90 M8m
              else
                f_X11_isOwn_b90 M7m
            else
              f_X11_isOwn_b90 M6m
          else
            f_X11_isOwn_b90 M5m
        else
          f_X11_isOwn_b90 M4m
      else
        f_X11_isOwn_b90 M3m
    else
      f_X11_isOwn_b90 M2m
  else
    f_X11_isOwn_b90 M1m
set_option maxRecDepth 100000 in
set_option maxHeartbeats 4000000 in
theorem b_X11_isOwn {K : Kt} {X : Xt} (hp : St K) (hB : Bx K X { frames := 6, cells := 0, slots := 0, locals := 129 } cX11_isOwn 2 RX11 (some .boolean)) {r : Int32} {M1 : Mem} {M : Mem} (hF : f_X11_isOwn M = some (r, M1)) : Wt K X (QM K X (some (vi r)) M1 0 0) 0 0 M 0 [(0, vr 311)] [] := by
  unfold f_X11_isOwn at hF
  refine w_aload_n hB 0 dX11_isOwn_0 rfl rfl ?_
  refine w_ldcs hB hp 28 (by decide) dX11_isOwn_1 ?_
  obtain ⟨r1, M1m, hc_M1m, hF⟩ := clS hF
  refine w_callV hB (ci := 9) (As := [vr 28]) (st := []) cw_X11_188 q_1342 q_25 rfl sh_311 (Or.inl hp.1) (c_X11_is hp hc_M1m) ⟨rfl, rfl⟩ (by decide) (by decide) rfl (Nat.le_of_ble_eq_true rfl) dX11_isOwn_3 rfl ?_
  refine w_if_ne hB 90 dX11_isOwn_6 (by decide) (fun hc => ?_) (fun hc => ?_)
  · replace hF := ifF hc hF
    exact Wt.sub (L' := [(0, vr 311)]) [0] rfl (b_X11_isOwn_b90 hp hB hF)
  · replace hF := ifT hc hF
    refine w_aload_n hB 0 dX11_isOwn_9 rfl rfl ?_
    refine w_ldcs hB hp 29 (by decide) dX11_isOwn_10 ?_
    obtain ⟨r2, M2m, hc_M2m, hF⟩ := clS hF
    refine w_callV hB (ci := 9) (As := [vr 29]) (st := []) cw_X11_188 q_1342 q_25 rfl sh_311 (Or.inl hp.1) (c_X11_is hp hc_M2m) ⟨rfl, rfl⟩ (by decide) (by decide) rfl (Nat.le_of_ble_eq_true rfl) dX11_isOwn_12 rfl ?_
    refine w_if_ne hB 90 dX11_isOwn_15 (by decide) (fun hc => ?_) (fun hc => ?_)
    · replace hF := ifF hc hF
      exact Wt.sub (L' := [(0, vr 311)]) [0] rfl (b_X11_isOwn_b90 hp hB hF)
    · replace hF := ifT hc hF
      refine w_aload_n hB 0 dX11_isOwn_18 rfl rfl ?_
      refine w_ldcs hB hp 30 (by decide) dX11_isOwn_19 ?_
      obtain ⟨r3, M3m, hc_M3m, hF⟩ := clS hF
      refine w_callV hB (ci := 9) (As := [vr 30]) (st := []) cw_X11_188 q_1342 q_25 rfl sh_311 (Or.inl hp.1) (c_X11_is hp hc_M3m) ⟨rfl, rfl⟩ (by decide) (by decide) rfl (Nat.le_of_ble_eq_true rfl) dX11_isOwn_21 rfl ?_
      refine w_if_ne hB 90 dX11_isOwn_24 (by decide) (fun hc => ?_) (fun hc => ?_)
      · replace hF := ifF hc hF
        exact Wt.sub (L' := [(0, vr 311)]) [0] rfl (b_X11_isOwn_b90 hp hB hF)
      · replace hF := ifT hc hF
        refine w_aload_n hB 0 dX11_isOwn_27 rfl rfl ?_
        refine w_ldcs hB hp 31 (by decide) dX11_isOwn_28 ?_
        obtain ⟨r4, M4m, hc_M4m, hF⟩ := clS hF
        refine w_callV hB (ci := 9) (As := [vr 31]) (st := []) cw_X11_188 q_1342 q_25 rfl sh_311 (Or.inl hp.1) (c_X11_is hp hc_M4m) ⟨rfl, rfl⟩ (by decide) (by decide) rfl (Nat.le_of_ble_eq_true rfl) dX11_isOwn_30 rfl ?_
        refine w_if_ne hB 90 dX11_isOwn_33 (by decide) (fun hc => ?_) (fun hc => ?_)
        · replace hF := ifF hc hF
          exact Wt.sub (L' := [(0, vr 311)]) [0] rfl (b_X11_isOwn_b90 hp hB hF)
        · replace hF := ifT hc hF
          refine w_aload_n hB 0 dX11_isOwn_36 rfl rfl ?_
          refine w_ldcs hB hp 32 (by decide) dX11_isOwn_37 ?_
          obtain ⟨r5, M5m, hc_M5m, hF⟩ := clS hF
          refine w_callV hB (ci := 9) (As := [vr 32]) (st := []) cw_X11_188 q_1342 q_25 rfl sh_311 (Or.inl hp.1) (c_X11_is hp hc_M5m) ⟨rfl, rfl⟩ (by decide) (by decide) rfl (Nat.le_of_ble_eq_true rfl) dX11_isOwn_39 rfl ?_
          refine w_if_ne hB 90 dX11_isOwn_42 (by decide) (fun hc => ?_) (fun hc => ?_)
          · replace hF := ifF hc hF
            exact Wt.sub (L' := [(0, vr 311)]) [0] rfl (b_X11_isOwn_b90 hp hB hF)
          · replace hF := ifT hc hF
            refine w_aload_n hB 0 dX11_isOwn_45 rfl rfl ?_
            refine w_ldcs hB hp 33 (by decide) dX11_isOwn_46 ?_
            obtain ⟨r6, M6m, hc_M6m, hF⟩ := clS hF
            refine w_callV hB (ci := 9) (As := [vr 33]) (st := []) cw_X11_188 q_1342 q_25 rfl sh_311 (Or.inl hp.1) (c_X11_is hp hc_M6m) ⟨rfl, rfl⟩ (by decide) (by decide) rfl (Nat.le_of_ble_eq_true rfl) dX11_isOwn_48 rfl ?_
            refine w_if_ne hB 90 dX11_isOwn_51 (by decide) (fun hc => ?_) (fun hc => ?_)
            · replace hF := ifF hc hF
              exact Wt.sub (L' := [(0, vr 311)]) [0] rfl (b_X11_isOwn_b90 hp hB hF)
            · replace hF := ifT hc hF
              refine w_aload_n hB 0 dX11_isOwn_54 rfl rfl ?_
              refine w_ldcs hB hp 34 (by decide) dX11_isOwn_55 ?_
              obtain ⟨r7, M7m, hc_M7m, hF⟩ := clS hF
              refine w_callV hB (ci := 9) (As := [vr 34]) (st := []) cw_X11_188 q_1342 q_25 rfl sh_311 (Or.inl hp.1) (c_X11_is hp hc_M7m) ⟨rfl, rfl⟩ (by decide) (by decide) rfl (Nat.le_of_ble_eq_true rfl) dX11_isOwn_57 rfl ?_
              refine w_if_ne hB 90 dX11_isOwn_60 (by decide) (fun hc => ?_) (fun hc => ?_)
              · replace hF := ifF hc hF
                exact Wt.sub (L' := [(0, vr 311)]) [0] rfl (b_X11_isOwn_b90 hp hB hF)
              · replace hF := ifT hc hF
                refine w_aload_n hB 0 dX11_isOwn_63 rfl rfl ?_
                refine w_ldcs hB hp 35 (by decide) dX11_isOwn_64 ?_
                obtain ⟨r8, M8m, hc_M8m, hF⟩ := clS hF
                refine w_callV hB (ci := 9) (As := [vr 35]) (st := []) cw_X11_188 q_1342 q_25 rfl sh_311 (Or.inl hp.1) (c_X11_is hp hc_M8m) ⟨rfl, rfl⟩ (by decide) (by decide) rfl (Nat.le_of_ble_eq_true rfl) dX11_isOwn_66 rfl ?_
                refine w_if_ne hB 90 dX11_isOwn_69 (by decide) (fun hc => ?_) (fun hc => ?_)
                · replace hF := ifF hc hF
                  exact Wt.sub (L' := [(0, vr 311)]) [0] rfl (b_X11_isOwn_b90 hp hB hF)
                · replace hF := ifT hc hF
                  refine w_aload_n hB 0 dX11_isOwn_72 rfl rfl ?_
                  refine w_ldcs hB hp 36 (by decide) dX11_isOwn_73 ?_
                  obtain ⟨r9, M9m, hc_M9m, hF⟩ := clS hF
                  refine w_callV hB (ci := 9) (As := [vr 36]) (st := []) cw_X11_188 q_1342 q_25 rfl sh_311 (Or.inl hp.1) (c_X11_is hp hc_M9m) ⟨rfl, rfl⟩ (by decide) (by decide) rfl (Nat.le_of_ble_eq_true rfl) dX11_isOwn_75 rfl ?_
                  refine w_if_ne hB 90 dX11_isOwn_78 (by decide) (fun hc => ?_) (fun hc => ?_)
                  · replace hF := ifF hc hF
                    exact Wt.sub (L' := [(0, vr 311)]) [0] rfl (b_X11_isOwn_b90 hp hB hF)
                  · replace hF := ifT hc hF
                    refine w_aload_n hB 0 dX11_isOwn_81 rfl rfl ?_
                    refine w_ldcs hB hp 37 (by decide) dX11_isOwn_82 ?_
                    obtain ⟨r10, M10m, hc_M10m, hF⟩ := clS hF
                    refine w_callV hB (ci := 9) (As := [vr 37]) (st := []) cw_X11_188 q_1342 q_25 rfl sh_311 (Or.inl hp.1) (c_X11_is hp hc_M10m) ⟨rfl, rfl⟩ (by decide) (by decide) rfl (Nat.le_of_ble_eq_true rfl) dX11_isOwn_84 rfl ?_
                    refine w_if_eq hB 94 dX11_isOwn_87 (by decide) (fun hc => ?_) (fun hc => ?_)
                    · replace hF := ifT hc hF
                      refine w_iconst hB 0 (by decide) dX11_isOwn_94 ?_
                      exact Wt.sub (L' := [(0, vr 311)]) [0] rfl (b_X11_isOwn_b95 hp hB hF)
                    · replace hF := ifF hc hF
                      exact Wt.sub (L' := [(0, vr 311)]) [0] rfl (b_X11_isOwn_b90 hp hB hF)
theorem c_X11_isOwn {K : Kt} {l : Launch} (hp : St K) {r : Int32} {M1 : Mem} {M : Mem} (hF : f_X11_isOwn M = some (r, M1)) : MT K l yX11_isOwn cX11_isOwn 2 (some .boolean) { frames := 6, cells := 0, slots := 0, locals := 129 } [vr 311] M (some (vi r)) M1 0 0 :=
  MT_of (by decide) rfl (Nat.le_of_ble_eq_true rfl) (fun X _ hB _ => b_X11_isOwn hp hB hF)
def f_X11_isName (M : Mem) : Option (Int32 × Mem) :=
  if (M.1 311 6) = 1 then
    cl (f_X11_isOwn M) fun r1 M1m =>
    if r1 = 0 then
      some (1, M1m)
    else
      some (0, M1m)
  else
    some (0, M)
set_option maxRecDepth 100000 in
set_option maxHeartbeats 4000000 in
theorem b_X11_isName {K : Kt} {X : Xt} (hp : St K) (hB : Bx K X { frames := 7, cells := 0, slots := 0, locals := 150 } cX11_isName 1 RX11 (some .boolean)) {r : Int32} {M1 : Mem} {M : Mem} (hF : f_X11_isName M = some (r, M1)) : Wt K X (QM K X (some (vi r)) M1 0 0) 0 0 M 0 [(0, vr 311)] [] := by
  unfold f_X11_isName at hF
  refine w_aload_n hB 0 dX11_isName_0 rfl rfl ?_
  refine w_getI hB ff_X11_6 sh_311 (Or.inl hp.1) q_1166 dX11_isName_1 ?_
  refine w_iconst hB 1 (by decide) dX11_isName_4 ?_
  refine w_icmp_ne hB 19 dX11_isName_5 (by decide) (fun hc => ?_) (fun hc => ?_)
  · replace hF := ifF hc hF
    refine w_iconst hB 0 (by decide) dX11_isName_19 ?_
    obtain ⟨e1, e2⟩ := retS hF
    subst e2
    exact w_zret hB (by decide) dX11_isName_20 e1
  · replace hF := ifT hc hF
    refine w_aload_n hB 0 dX11_isName_8 rfl rfl ?_
    obtain ⟨r1, M1m, hc_M1m, hF⟩ := clS hF
    refine w_callV hB (ci := 9) (As := []) (st := []) cw_X11_220 q_1421 q_32 rfl sh_311 (Or.inl hp.1) (c_X11_isOwn hp hc_M1m) ⟨rfl, rfl⟩ (by decide) (by decide) rfl (Nat.le_of_ble_eq_true rfl) dX11_isName_9 rfl ?_
    refine w_if_ne hB 19 dX11_isName_12 (by decide) (fun hc => ?_) (fun hc => ?_)
    · replace hF := ifF hc hF
      refine w_iconst hB 0 (by decide) dX11_isName_19 ?_
      obtain ⟨e1, e2⟩ := retS hF
      subst e2
      exact w_zret hB (by decide) dX11_isName_20 e1
    · replace hF := ifT hc hF
      refine w_iconst hB 1 (by decide) dX11_isName_15 ?_
      refine w_goto hB 20 dX11_isName_16 (by decide) ?_
      obtain ⟨e1, e2⟩ := retS hF
      subst e2
      exact w_zret hB (by decide) dX11_isName_20 e1
theorem c_X11_isName {K : Kt} {l : Launch} (hp : St K) {r : Int32} {M1 : Mem} {M : Mem} (hF : f_X11_isName M = some (r, M1)) : MT K l yX11_isName cX11_isName 1 (some .boolean) { frames := 7, cells := 0, slots := 0, locals := 150 } [vr 311] M (some (vi r)) M1 0 0 :=
  MT_of (by decide) rfl (Nat.le_of_ble_eq_true rfl) (fun X _ hB _ => b_X11_isName hp hB hF)
def f_X11_number_b14 (x1 : Int32) (x2 : Int32) (xs1 : Int32) (M : Mem) : Option (Int32 × Mem) :=
  cl (f_X11_must xs1 1 M) fun r1 M1m =>
  if r1 = 0 then
    some (x1, M1m)
  else
    cl (f_X11_within ((M1m.1 311 7).toInt64) (x1.toInt64) (x2.toInt64) M1m) fun r2 M2m =>
    cl (f_X11_must r2 3 M2m) fun r3 M3m =>
    if r3 = 0 then
      some (x1, M3m)
    else
      bnd (M3m.1 311 7) fun a1 =>
      clv (f_X11_steps M3m) fun M4m =>
      some (a1, M4m)
set_option maxRecDepth 100000 in
set_option maxHeartbeats 4000000 in
theorem b_X11_number_b14 {K : Kt} {X : Xt} (hp : St K) (hB : Bx K X { frames := 2, cells := 0, slots := 0, locals := 46 } cX11_number 4 RX11 (some .int)) {r : Int32} {M1 : Mem} {x1 : Int32} {x2 : Int32} {xs1 : Int32} {M : Mem} (hF : f_X11_number_b14 x1 x2 xs1 M = some (r, M1)) : Wt K X (QM K X (some (vi r)) M1 0 0) 0 0 M 14 [(0, vr 311), (1, vi x1), (2, vi x2)] [vi xs1, vr 311] := by
  unfold f_X11_number_b14 at hF
  refine w_iconst hB 1 (by decide) dX11_number_14 ?_
  obtain ⟨r1, M1m, hc_M1m, hF⟩ := clS hF
  refine w_callV hB (ci := 9) (As := [vi xs1, vi 1]) (st := []) cw_X11_224 q_1405 q_28 rfl sh_311 (Or.inl hp.1) (c_X11_must hp hc_M1m) ⟨rfl, rfl⟩ (by decide) (by decide) rfl (Nat.le_of_ble_eq_true rfl) dX11_number_15 rfl ?_
  refine w_if_eq hB 41 dX11_number_18 (by decide) (fun hc => ?_) (fun hc => ?_)
  · replace hF := ifT hc hF
    refine w_iload_n hB 1 dX11_number_41 rfl rfl ?_
    obtain ⟨e1, e2⟩ := retS hF
    subst e2
    exact w_iret hB dX11_number_42 e1
  · replace hF := ifF hc hF
    refine w_aload_n hB 0 dX11_number_21 rfl rfl ?_
    refine w_aload_n hB 0 dX11_number_22 rfl rfl ?_
    refine w_getI hB ff_X11_7 sh_311 (Or.inl hp.1) q_1167 dX11_number_23 ?_
    refine w_i2l hB dX11_number_26 ?_
    refine w_iload_n hB 1 dX11_number_27 rfl rfl ?_
    refine w_i2l hB dX11_number_28 ?_
    refine w_iload_n hB 2 dX11_number_29 rfl rfl ?_
    refine w_i2l hB dX11_number_30 ?_
    obtain ⟨r2, M2m, hc_M2m, hF⟩ := clS hF
    refine w_callS hB (As := [vl ((M1m.1 311 7).toInt64), vl (x1.toInt64), vl (x2.toInt64)]) (st := [vr 311]) cw_X11_156 q_1320 (c_X11_within hp hc_M2m) ⟨rfl, rfl⟩ (by decide) (by decide) rfl (Nat.le_of_ble_eq_true rfl) dX11_number_31 rfl ?_
    refine w_iconst hB 3 (by decide) dX11_number_34 ?_
    obtain ⟨r3, M3m, hc_M3m, hF⟩ := clS hF
    refine w_callV hB (ci := 9) (As := [vi r2, vi 3]) (st := []) cw_X11_224 q_1405 q_28 rfl sh_311 (Or.inl hp.1) (c_X11_must hp hc_M3m) ⟨rfl, rfl⟩ (by decide) (by decide) rfl (Nat.le_of_ble_eq_true rfl) dX11_number_35 rfl ?_
    refine w_if_ne hB 43 dX11_number_38 (by decide) (fun hc => ?_) (fun hc => ?_)
    · replace hF := ifF hc hF
      refine w_aload_n hB 0 dX11_number_43 rfl rfl ?_
      refine w_getI hB ff_X11_7 sh_311 (Or.inl hp.1) q_1167 dX11_number_44 ?_
      obtain ⟨a1, e_a1, hF⟩ := bndS hF
      refine w_istore_n hB (L' := [(3, vi a1), (0, vr 311), (1, vi x1), (2, vi x2)]) dX11_number_47 rfl (by decide) e_a1 rfl ?_
      refine w_aload_n hB 1 dX11_number_48 rfl rfl ?_
      obtain ⟨M4m, hc_M4m, hF⟩ := clvS hF
      refine w_callV hB (ci := 9) (As := []) (st := []) cw_X11_228 q_1324 q_22 rfl sh_311 (Or.inl hp.1) (c_X11_steps hp hc_M4m) ⟨rfl, rfl⟩ (by decide) (by decide) rfl (Nat.le_of_ble_eq_true rfl) dX11_number_49 rfl ?_
      refine w_iload_n hB 0 dX11_number_52 rfl rfl ?_
      obtain ⟨e1, e2⟩ := retS hF
      subst e2
      exact w_iret hB dX11_number_53 e1
    · replace hF := ifT hc hF
      refine w_iload_n hB 1 dX11_number_41 rfl rfl ?_
      obtain ⟨e1, e2⟩ := retS hF
      subst e2
      exact w_iret hB dX11_number_42 e1
def f_X11_number (x1 : Int32) (x2 : Int32) (M : Mem) : Option (Int32 × Mem) :=
  if (M.1 311 6) = 2 then
    f_X11_number_b14 x1 x2 1 M
  else
    f_X11_number_b14 x1 x2 0 M
set_option maxRecDepth 100000 in
set_option maxHeartbeats 4000000 in
theorem b_X11_number {K : Kt} {X : Xt} (hp : St K) (hB : Bx K X { frames := 2, cells := 0, slots := 0, locals := 46 } cX11_number 4 RX11 (some .int)) {r : Int32} {M1 : Mem} {x1 : Int32} {x2 : Int32} {M : Mem} (hF : f_X11_number x1 x2 M = some (r, M1)) : Wt K X (QM K X (some (vi r)) M1 0 0) 0 0 M 0 [(0, vr 311), (1, vi x1), (2, vi x2)] [] := by
  unfold f_X11_number at hF
  refine w_aload_n hB 0 dX11_number_0 rfl rfl ?_
  refine w_aload_n hB 0 dX11_number_1 rfl rfl ?_
  refine w_getI hB ff_X11_6 sh_311 (Or.inl hp.1) q_1166 dX11_number_2 ?_
  refine w_iconst hB 2 (by decide) dX11_number_5 ?_
  refine w_icmp_ne hB 13 dX11_number_6 (by decide) (fun hc => ?_) (fun hc => ?_)
  · replace hF := ifF hc hF
    refine w_iconst hB 0 (by decide) dX11_number_13 ?_
    exact Wt.sub (L' := [(0, vr 311), (1, vi x1), (2, vi x2)]) [0, 1, 2] rfl (b_X11_number_b14 hp hB hF)
  · replace hF := ifT hc hF
    refine w_iconst hB 1 (by decide) dX11_number_9 ?_
    refine w_goto hB 14 dX11_number_10 (by decide) ?_
    exact Wt.sub (L' := [(0, vr 311), (1, vi x1), (2, vi x2)]) [0, 1, 2] rfl (b_X11_number_b14 hp hB hF)
theorem c_X11_number {K : Kt} {l : Launch} (hp : St K) {r : Int32} {M1 : Mem} {x1 : Int32} {x2 : Int32} {M : Mem} (hF : f_X11_number x1 x2 M = some (r, M1)) : MT K l yX11_number cX11_number 4 (some .int) { frames := 2, cells := 0, slots := 0, locals := 46 } [vr 311, vi x1, vi x2] M (some (vi r)) M1 0 0 :=
  MT_of (by decide) rfl (Nat.le_of_ble_eq_true rfl) (fun X _ hB _ => b_X11_number hp hB hF)
def f_X11_takes_b14 (xs1 : Int32) (M : Mem) : Option Mem :=
  cl (f_X11_must xs1 1 M) fun r1 M1m =>
  if r1 = 0 then
    some M1m
  else
    clv (f_X11_steps M1m) fun M2m =>
    some M2m
set_option maxRecDepth 100000 in
set_option maxHeartbeats 4000000 in
theorem b_X11_takes_b14 {K : Kt} {X : Xt} (hp : St K) (hB : Bx K X { frames := 2, cells := 0, slots := 0, locals := 46 } cX11_takes 2 RX11 none) {M1 : Mem} {xs1 : Int32} {M : Mem} (hF : f_X11_takes_b14 xs1 M = some M1) : Wt K X (QM K X none M1 0 0) 0 0 M 14 [(0, vr 311)] [vi xs1, vr 311] := by
  unfold f_X11_takes_b14 at hF
  refine w_iconst hB 1 (by decide) dX11_takes_14 ?_
  obtain ⟨r1, M1m, hc_M1m, hF⟩ := clS hF
  refine w_callV hB (ci := 9) (As := [vi xs1, vi 1]) (st := []) cw_X11_224 q_1405 q_28 rfl sh_311 (Or.inl hp.1) (c_X11_must hp hc_M1m) ⟨rfl, rfl⟩ (by decide) (by decide) rfl (Nat.le_of_ble_eq_true rfl) dX11_takes_15 rfl ?_
  refine w_if_eq hB 25 dX11_takes_18 (by decide) (fun hc => ?_) (fun hc => ?_)
  · replace hF := ifT hc hF
    cases hF
    exact w_vret hB dX11_takes_25
  · replace hF := ifF hc hF
    refine w_aload_n hB 0 dX11_takes_21 rfl rfl ?_
    obtain ⟨M2m, hc_M2m, hF⟩ := clvS hF
    refine w_callV hB (ci := 9) (As := []) (st := []) cw_X11_228 q_1324 q_22 rfl sh_311 (Or.inl hp.1) (c_X11_steps hp hc_M2m) ⟨rfl, rfl⟩ (by decide) (by decide) rfl (Nat.le_of_ble_eq_true rfl) dX11_takes_22 rfl ?_
    cases hF
    exact w_vret hB dX11_takes_25
def f_X11_takes (x1 : Int32) (M : Mem) : Option Mem :=
  if (M.1 311 6) = x1 then
    f_X11_takes_b14 1 M
  else
    f_X11_takes_b14 0 M
set_option maxRecDepth 100000 in
set_option maxHeartbeats 4000000 in
theorem b_X11_takes {K : Kt} {X : Xt} (hp : St K) (hB : Bx K X { frames := 2, cells := 0, slots := 0, locals := 46 } cX11_takes 2 RX11 none) {M1 : Mem} {x1 : Int32} {M : Mem} (hF : f_X11_takes x1 M = some M1) : Wt K X (QM K X none M1 0 0) 0 0 M 0 [(0, vr 311), (1, vi x1)] [] := by
  unfold f_X11_takes at hF
  refine w_aload_n hB 0 dX11_takes_0 rfl rfl ?_
  refine w_aload_n hB 0 dX11_takes_1 rfl rfl ?_
  refine w_getI hB ff_X11_6 sh_311 (Or.inl hp.1) q_1166 dX11_takes_2 ?_
  refine w_iload_n hB 1 dX11_takes_5 rfl rfl ?_
  refine w_icmp_ne hB 13 dX11_takes_6 (by decide) (fun hc => ?_) (fun hc => ?_)
  · replace hF := ifF hc hF
    refine w_iconst hB 0 (by decide) dX11_takes_13 ?_
    exact Wt.sub (L' := [(0, vr 311)]) [0] rfl (b_X11_takes_b14 hp hB hF)
  · replace hF := ifT hc hF
    refine w_iconst hB 1 (by decide) dX11_takes_9 ?_
    refine w_goto hB 14 dX11_takes_10 (by decide) ?_
    exact Wt.sub (L' := [(0, vr 311)]) [0] rfl (b_X11_takes_b14 hp hB hF)
theorem c_X11_takes {K : Kt} {l : Launch} (hp : St K) {M1 : Mem} {x1 : Int32} {M : Mem} (hF : f_X11_takes x1 M = some M1) : MT K l yX11_takes cX11_takes 2 none { frames := 2, cells := 0, slots := 0, locals := 46 } [vr 311, vi x1] M none M1 0 0 :=
  MT_of (by decide) rfl (Nat.le_of_ble_eq_true rfl) (fun X _ hB _ => b_X11_takes hp hB hF)
def f_X11_takesWord (n1 : Nat) (M : Mem) : Option Mem :=
  cl (f_X11_is n1 M) fun r1 M1m =>
  cl (f_X11_must r1 1 M1m) fun r2 M2m =>
  if r2 = 0 then
    some M2m
  else
    clv (f_X11_steps M2m) fun M3m =>
    some M3m
set_option maxRecDepth 100000 in
set_option maxHeartbeats 4000000 in
theorem b_X11_takesWord {K : Kt} {X : Xt} (hp : St K) (hB : Bx K X { frames := 6, cells := 0, slots := 0, locals := 129 } cX11_takesWord 2 RX11 none) {M1 : Mem} {n1 : Nat} {M : Mem} (hF : f_X11_takesWord n1 M = some M1) : Wt K X (QM K X none M1 0 0) 0 0 M 0 [(0, vr 311), (1, vr n1)] [] := by
  unfold f_X11_takesWord at hF
  refine w_aload_n hB 0 dX11_takesWord_0 rfl rfl ?_
  refine w_aload_n hB 0 dX11_takesWord_1 rfl rfl ?_
  refine w_aload_n hB 1 dX11_takesWord_2 rfl rfl ?_
  obtain ⟨r1, M1m, hc_M1m, hF⟩ := clS hF
  refine w_callV hB (ci := 9) (As := [vr n1]) (st := [vr 311]) cw_X11_188 q_1342 q_25 rfl sh_311 (Or.inl hp.1) (c_X11_is hp hc_M1m) ⟨rfl, rfl⟩ (by decide) (by decide) rfl (Nat.le_of_ble_eq_true rfl) dX11_takesWord_3 rfl ?_
  refine w_iconst hB 1 (by decide) dX11_takesWord_6 ?_
  obtain ⟨r2, M2m, hc_M2m, hF⟩ := clS hF
  refine w_callV hB (ci := 9) (As := [vi r1, vi 1]) (st := []) cw_X11_224 q_1405 q_28 rfl sh_311 (Or.inl hp.1) (c_X11_must hp hc_M2m) ⟨rfl, rfl⟩ (by decide) (by decide) rfl (Nat.le_of_ble_eq_true rfl) dX11_takesWord_7 rfl ?_
  refine w_if_eq hB 17 dX11_takesWord_10 (by decide) (fun hc => ?_) (fun hc => ?_)
  · replace hF := ifT hc hF
    cases hF
    exact w_vret hB dX11_takesWord_17
  · replace hF := ifF hc hF
    refine w_aload_n hB 0 dX11_takesWord_13 rfl rfl ?_
    obtain ⟨M3m, hc_M3m, hF⟩ := clvS hF
    refine w_callV hB (ci := 9) (As := []) (st := []) cw_X11_228 q_1324 q_22 rfl sh_311 (Or.inl hp.1) (c_X11_steps hp hc_M3m) ⟨rfl, rfl⟩ (by decide) (by decide) rfl (Nat.le_of_ble_eq_true rfl) dX11_takesWord_14 rfl ?_
    cases hF
    exact w_vret hB dX11_takesWord_17
theorem c_X11_takesWord {K : Kt} {l : Launch} (hp : St K) {M1 : Mem} {n1 : Nat} {M : Mem} (hF : f_X11_takesWord n1 M = some M1) : MT K l yX11_takesWord cX11_takesWord 2 none { frames := 6, cells := 0, slots := 0, locals := 129 } [vr 311, vr n1] M none M1 0 0 :=
  MT_of (by decide) rfl (Nat.le_of_ble_eq_true rfl) (fun X _ hB _ => b_X11_takesWord hp hB hF)
def f_X11_maybe (n1 : Nat) (M : Mem) : Option (Int32 × Mem) :=
  cl (f_X11_is n1 M) fun r1 M1m =>
  if r1 = 0 then
    gd (vp_nar .boolean r1 = r1) <|
    some (r1, M1m)
  else
    clv (f_X11_steps M1m) fun M2m =>
    gd (vp_nar .boolean r1 = r1) <|
    some (r1, M2m)
set_option maxRecDepth 100000 in
set_option maxHeartbeats 4000000 in
theorem b_X11_maybe {K : Kt} {X : Xt} (hp : St K) (hB : Bx K X { frames := 6, cells := 0, slots := 0, locals := 129 } cX11_maybe 3 RX11 (some .boolean)) {r : Int32} {M1 : Mem} {n1 : Nat} {M : Mem} (hF : f_X11_maybe n1 M = some (r, M1)) : Wt K X (QM K X (some (vi r)) M1 0 0) 0 0 M 0 [(0, vr 311), (1, vr n1)] [] := by
  unfold f_X11_maybe at hF
  refine w_aload_n hB 0 dX11_maybe_0 rfl rfl ?_
  refine w_aload_n hB 1 dX11_maybe_1 rfl rfl ?_
  obtain ⟨r1, M1m, hc_M1m, hF⟩ := clS hF
  refine w_callV hB (ci := 9) (As := [vr n1]) (st := []) cw_X11_188 q_1342 q_25 rfl sh_311 (Or.inl hp.1) (c_X11_is hp hc_M1m) ⟨rfl, rfl⟩ (by decide) (by decide) rfl (Nat.le_of_ble_eq_true rfl) dX11_maybe_2 rfl ?_
  refine w_istore_n hB (L' := [(2, vi r1), (0, vr 311), (1, vr n1)]) dX11_maybe_5 rfl (by decide) rfl rfl ?_
  refine w_iload_n hB 0 dX11_maybe_6 rfl rfl ?_
  refine w_if_eq hB 14 dX11_maybe_7 (by decide) (fun hc => ?_) (fun hc => ?_)
  · replace hF := ifT hc hF
    refine w_iload_n hB 0 dX11_maybe_14 rfl rfl ?_
    obtain ⟨g1, hF⟩ := gdS hF
    obtain ⟨e1, e2⟩ := retS hF
    subst e2
    exact w_zret hB g1 dX11_maybe_15 e1
  · replace hF := ifF hc hF
    refine w_aload_n hB 1 dX11_maybe_10 rfl rfl ?_
    obtain ⟨M2m, hc_M2m, hF⟩ := clvS hF
    refine w_callV hB (ci := 9) (As := []) (st := []) cw_X11_228 q_1324 q_22 rfl sh_311 (Or.inl hp.1) (c_X11_steps hp hc_M2m) ⟨rfl, rfl⟩ (by decide) (by decide) rfl (Nat.le_of_ble_eq_true rfl) dX11_maybe_11 rfl ?_
    refine w_iload_n hB 0 dX11_maybe_14 rfl rfl ?_
    obtain ⟨g2, hF⟩ := gdS hF
    obtain ⟨e1, e2⟩ := retS hF
    subst e2
    exact w_zret hB g2 dX11_maybe_15 e1
theorem c_X11_maybe {K : Kt} {l : Launch} (hp : St K) {r : Int32} {M1 : Mem} {n1 : Nat} {M : Mem} (hF : f_X11_maybe n1 M = some (r, M1)) : MT K l yX11_maybe cX11_maybe 3 (some .boolean) { frames := 6, cells := 0, slots := 0, locals := 129 } [vr 311, vr n1] M (some (vi r)) M1 0 0 :=
  MT_of (by decide) rfl (Nat.le_of_ble_eq_true rfl) (fun X _ hB _ => b_X11_maybe hp hB hF)
def f_X11_usual_b75_s (rec75 : Int32 → Mem → Option Mem) (x2 : Int32) (M : Mem) : Option Mem :=
  if 4 ≤ x2 then
    some M
  else
    gd (inb x2 4) <|
    bnd (setI M 315 (x2.toNatClampNeg) (vp_nar .boolean 0)) fun M1m =>
    bnd (x2 + 1) fun a1 =>
    rec75 a1 M1m
set_option maxRecDepth 100000 in
set_option maxHeartbeats 4000000 in
theorem b_X11_usual_b75_s {K : Kt} {X : Xt} (hp : St K) (hB : Bx K X { frames := 0, cells := 0, slots := 0, locals := 0 } cX11_usual 3 RX11 none) {M1 : Mem} {rec75 : Int32 → Mem → Option Mem}
    (h75 : ∀ x2 M, rec75 x2 M = some M1 → Wt K X (QM K X none M1 0 0) 0 0 M 75 [(0, vr 311), (2, vi x2)] []) {x2 : Int32} {M : Mem} (hF : f_X11_usual_b75_s rec75 x2 M = some M1) : Wt K X (QM K X none M1 0 0) 0 0 M 75 [(0, vr 311), (2, vi x2)] [] := by
  unfold f_X11_usual_b75_s at hF
  refine w_iload_n hB 1 dX11_usual_75 rfl rfl ?_
  refine w_iconst hB 4 (by decide) dX11_usual_76 ?_
  refine w_icmp_ge hB 93 dX11_usual_77 (by decide) (fun hc => ?_) (fun hc => ?_)
  · replace hF := ifT hc hF
    cases hF
    exact w_vret hB dX11_usual_93
  · replace hF := ifF hc hF
    refine w_aload_n hB 0 dX11_usual_80 rfl rfl ?_
    refine w_getC hB (v := 315) ff_X11_13 sh_311 hp.1 cr_311_13 (by decide) q_1173 dX11_usual_81 ?_
    refine w_iload_n hB 1 dX11_usual_84 rfl rfl ?_
    refine w_iconst hB 0 (by decide) dX11_usual_85 ?_
    obtain ⟨g1, hF⟩ := gdS hF
    obtain ⟨M1m, e_M1m, hF⟩ := bndS hF
    refine w_zast hB sh_315 (Or.inl hp.1) sl_315 g1 e_M1m dX11_usual_86 ?_
    obtain ⟨a1, e_a1, hF⟩ := bndS hF
    refine w_iinc hB 1 (v := 1) (L' := [(2, vi a1), (0, vr 311)]) dX11_usual_87 rfl (by decide) (by decide) e_a1 rfl ?_
    refine w_goto hB 75 dX11_usual_90 (by decide) ?_
    exact Wt.sub (L' := [(0, vr 311), (2, vi a1)]) [1, 0] rfl (h75 _ M1m hF)
def f_X11_usual_b75 (k : Nat) : Int32 → Mem → Option Mem := lpN (fun _ _ => none) (f_X11_usual_b75_s) k
theorem b_X11_usual_b75 {K : Kt} {X : Xt} (hp : St K) (hB : Bx K X { frames := 0, cells := 0, slots := 0, locals := 0 } cX11_usual 3 RX11 none) {M1 : Mem} (k : Nat) : ∀ (x2 : Int32) M, f_X11_usual_b75 k x2 M = some M1 → Wt K X (QM K X none M1 0 0) 0 0 M 75 [(0, vr 311), (2, vi x2)] [] := by
  refine lpN_ind (P := fun (f : Int32 → Mem → Option Mem) => ∀ (x2 : Int32) M, f x2 M = some M1 → Wt K X (QM K X none M1 0 0) 0 0 M 75 [(0, vr 311), (2, vi x2)] []) (fun _ _ h => by cases h) (fun f hf x2 M hF => ?_) k
  exact b_X11_usual_b75_s hp hB hf hF
def f_X11_usual_b49_s (rec49 : Int32 → Int32 → Mem → Option Mem) (x1 : Int32) (x2 : Int32) (M : Mem) : Option Mem :=
  if 6 ≤ x2 then
    f_X11_usual_b75 fuel 0 M
  else
    gd (inb ((6 * x1) + x2) 12) <|
    bnd (setI M 313 (((6 * x1) + x2).toNatClampNeg) 0) fun M1m =>
    bnd (x2 + 1) fun a1 =>
    rec49 x1 a1 M1m
set_option maxRecDepth 100000 in
set_option maxHeartbeats 4000000 in
theorem b_X11_usual_b49_s {K : Kt} {X : Xt} (hp : St K) (hB : Bx K X { frames := 0, cells := 0, slots := 0, locals := 0 } cX11_usual 3 RX11 none) {M1 : Mem} {rec49 : Int32 → Int32 → Mem → Option Mem}
    (h49 : ∀ x1 x2 M, rec49 x1 x2 M = some M1 → Wt K X (QM K X none M1 0 0) 0 0 M 49 [(0, vr 311), (1, vi x1), (2, vi x2)] []) {x1 : Int32} {x2 : Int32} {M : Mem} (hF : f_X11_usual_b49_s rec49 x1 x2 M = some M1) : Wt K X (QM K X none M1 0 0) 0 0 M 49 [(0, vr 311), (1, vi x1), (2, vi x2)] [] := by
  unfold f_X11_usual_b49_s at hF
  refine w_iload_n hB 2 dX11_usual_49 rfl rfl ?_
  refine w_bipush hB 6 (by decide) dX11_usual_50 ?_
  refine w_icmp_ge hB 73 dX11_usual_52 (by decide) (fun hc => ?_) (fun hc => ?_)
  · replace hF := ifT hc hF
    refine w_iconst hB 0 (by decide) dX11_usual_73 ?_
    refine w_istore_n hB (L' := [(2, vi 0), (0, vr 311), (1, vi x1)]) dX11_usual_74 rfl (by decide) rfl rfl ?_
    exact Wt.sub (L' := [(0, vr 311), (2, vi 0)]) [1, 0] rfl (b_X11_usual_b75 hp hB fuel _ M hF)
  · replace hF := ifF hc hF
    refine w_aload_n hB 0 dX11_usual_55 rfl rfl ?_
    refine w_getC hB (v := 313) ff_X11_11 sh_311 hp.1 cr_311_11 (by decide) q_1171 dX11_usual_56 ?_
    refine w_bipush hB 6 (by decide) dX11_usual_59 ?_
    refine w_iload_n hB 1 dX11_usual_61 rfl rfl ?_
    refine w_imul hB dX11_usual_62 ?_
    refine w_iload_n hB 2 dX11_usual_63 rfl rfl ?_
    refine w_iadd hB dX11_usual_64 ?_
    refine w_iconst hB 0 (by decide) dX11_usual_65 ?_
    obtain ⟨g1, hF⟩ := gdS hF
    obtain ⟨M1m, e_M1m, hF⟩ := bndS hF
    refine w_iast hB sh_313 (Or.inl hp.1) sl_313 g1 e_M1m dX11_usual_66 ?_
    obtain ⟨a1, e_a1, hF⟩ := bndS hF
    refine w_iinc hB 2 (v := 1) (L' := [(2, vi a1), (0, vr 311), (1, vi x1)]) dX11_usual_67 rfl (by decide) (by decide) e_a1 rfl ?_
    refine w_goto hB 49 dX11_usual_70 (by decide) ?_
    exact Wt.sub (L' := [(0, vr 311), (1, vi x1), (2, vi a1)]) [1, 2, 0] rfl (h49 _ _ M1m hF)
def f_X11_usual_b49 (k : Nat) : Int32 → Int32 → Mem → Option Mem := lpN (fun _ _ _ => none) (f_X11_usual_b49_s) k
theorem b_X11_usual_b49 {K : Kt} {X : Xt} (hp : St K) (hB : Bx K X { frames := 0, cells := 0, slots := 0, locals := 0 } cX11_usual 3 RX11 none) {M1 : Mem} (k : Nat) : ∀ (x1 : Int32) (x2 : Int32) M, f_X11_usual_b49 k x1 x2 M = some M1 → Wt K X (QM K X none M1 0 0) 0 0 M 49 [(0, vr 311), (1, vi x1), (2, vi x2)] [] := by
  refine lpN_ind (P := fun (f : Int32 → Int32 → Mem → Option Mem) => ∀ (x1 : Int32) (x2 : Int32) M, f x1 x2 M = some M1 → Wt K X (QM K X none M1 0 0) 0 0 M 49 [(0, vr 311), (1, vi x1), (2, vi x2)] []) (fun _ _ _ h => by cases h) (fun f hf x1 x2 M hF => ?_) k
  exact b_X11_usual_b49_s hp hB hf hF
def f_X11_usual (x1 : Int32) (M : Mem) : Option Mem :=
  gd (inb ((4 * x1) + 0) 8) <|
  bnd (setI M 314 (((4 * x1) + 0).toNatClampNeg) 60) fun M1m =>
  gd (inb ((4 * x1) + 1) 8) <|
  bnd (setI M1m 314 (((4 * x1) + 1).toNatClampNeg) 0) fun M2m =>
  gd (inb ((4 * x1) + 2) 8) <|
  bnd (setI M2m 314 (((4 * x1) + 2).toNatClampNeg) 1000) fun M3m =>
  gd (inb ((4 * x1) + 3) 8) <|
  bnd (setI M3m 314 (((4 * x1) + 3).toNatClampNeg) 1) fun M4m =>
  f_X11_usual_b49 fuel x1 0 M4m
set_option maxRecDepth 100000 in
set_option maxHeartbeats 4000000 in
theorem b_X11_usual {K : Kt} {X : Xt} (hp : St K) (hB : Bx K X { frames := 0, cells := 0, slots := 0, locals := 0 } cX11_usual 3 RX11 none) {M1 : Mem} {x1 : Int32} {M : Mem} (hF : f_X11_usual x1 M = some M1) : Wt K X (QM K X none M1 0 0) 0 0 M 0 [(0, vr 311), (1, vi x1)] [] := by
  unfold f_X11_usual at hF
  refine w_aload_n hB 0 dX11_usual_0 rfl rfl ?_
  refine w_getC hB (v := 314) ff_X11_12 sh_311 hp.1 cr_311_12 (by decide) q_1172 dX11_usual_1 ?_
  refine w_iconst hB 4 (by decide) dX11_usual_4 ?_
  refine w_iload_n hB 1 dX11_usual_5 rfl rfl ?_
  refine w_imul hB dX11_usual_6 ?_
  refine w_iconst hB 0 (by decide) dX11_usual_7 ?_
  refine w_iadd hB dX11_usual_8 ?_
  refine w_bipush hB 60 (by decide) dX11_usual_9 ?_
  obtain ⟨g1, hF⟩ := gdS hF
  obtain ⟨M1m, e_M1m, hF⟩ := bndS hF
  refine w_iast hB sh_314 (Or.inl hp.1) sl_314 g1 e_M1m dX11_usual_11 ?_
  refine w_aload_n hB 0 dX11_usual_12 rfl rfl ?_
  refine w_getC hB (v := 314) ff_X11_12 sh_311 hp.1 cr_311_12 (by decide) q_1172 dX11_usual_13 ?_
  refine w_iconst hB 4 (by decide) dX11_usual_16 ?_
  refine w_iload_n hB 1 dX11_usual_17 rfl rfl ?_
  refine w_imul hB dX11_usual_18 ?_
  refine w_iconst hB 1 (by decide) dX11_usual_19 ?_
  refine w_iadd hB dX11_usual_20 ?_
  refine w_iconst hB 0 (by decide) dX11_usual_21 ?_
  obtain ⟨g2, hF⟩ := gdS hF
  obtain ⟨M2m, e_M2m, hF⟩ := bndS hF
  refine w_iast hB sh_314 (Or.inl hp.1) sl_314 g2 e_M2m dX11_usual_22 ?_
  refine w_aload_n hB 0 dX11_usual_23 rfl rfl ?_
  refine w_getC hB (v := 314) ff_X11_12 sh_311 hp.1 cr_311_12 (by decide) q_1172 dX11_usual_24 ?_
  refine w_iconst hB 4 (by decide) dX11_usual_27 ?_
  refine w_iload_n hB 1 dX11_usual_28 rfl rfl ?_
  refine w_imul hB dX11_usual_29 ?_
  refine w_iconst hB 2 (by decide) dX11_usual_30 ?_
  refine w_iadd hB dX11_usual_31 ?_
  refine w_sipush hB 1000 (by decide) dX11_usual_32 ?_
  obtain ⟨g3, hF⟩ := gdS hF
  obtain ⟨M3m, e_M3m, hF⟩ := bndS hF
  refine w_iast hB sh_314 (Or.inl hp.1) sl_314 g3 e_M3m dX11_usual_35 ?_
  refine w_aload_n hB 0 dX11_usual_36 rfl rfl ?_
  refine w_getC hB (v := 314) ff_X11_12 sh_311 hp.1 cr_311_12 (by decide) q_1172 dX11_usual_37 ?_
  refine w_iconst hB 4 (by decide) dX11_usual_40 ?_
  refine w_iload_n hB 1 dX11_usual_41 rfl rfl ?_
  refine w_imul hB dX11_usual_42 ?_
  refine w_iconst hB 3 (by decide) dX11_usual_43 ?_
  refine w_iadd hB dX11_usual_44 ?_
  refine w_iconst hB 1 (by decide) dX11_usual_45 ?_
  obtain ⟨g4, hF⟩ := gdS hF
  obtain ⟨M4m, e_M4m, hF⟩ := bndS hF
  refine w_iast hB sh_314 (Or.inl hp.1) sl_314 g4 e_M4m dX11_usual_46 ?_
  refine w_iconst hB 0 (by decide) dX11_usual_47 ?_
  refine w_istore_n hB (L' := [(2, vi 0), (0, vr 311), (1, vi x1)]) dX11_usual_48 rfl (by decide) rfl rfl ?_
  exact Wt.sub (L' := [(0, vr 311), (1, vi x1), (2, vi 0)]) [1, 2, 0] rfl (b_X11_usual_b49 hp hB fuel _ _ M4m hF)
theorem c_X11_usual {K : Kt} {l : Launch} (hp : St K) {M1 : Mem} {x1 : Int32} {M : Mem} (hF : f_X11_usual x1 M = some M1) : MT K l yX11_usual cX11_usual 3 none { frames := 0, cells := 0, slots := 0, locals := 0 } [vr 311, vi x1] M none M1 0 0 :=
  MT_of (by decide) rfl (Nat.le_of_ble_eq_true rfl) (fun X _ hB _ => b_X11_usual hp hB hF)
def f_X11_read (x1 : Int32) (M : Mem) : Option (Int32 × Mem) :=
  gd (inb (6 + x1) 12) <|
  some (M.1 313 (6 + x1).toNatClampNeg, M)
set_option maxRecDepth 100000 in
set_option maxHeartbeats 4000000 in
theorem b_X11_read {K : Kt} {X : Xt} (hp : St K) (hB : Bx K X { frames := 0, cells := 0, slots := 0, locals := 0 } cX11_read 2 RX11 (some .int)) {r : Int32} {M1 : Mem} {x1 : Int32} {M : Mem} (hF : f_X11_read x1 M = some (r, M1)) : Wt K X (QM K X (some (vi r)) M1 0 0) 0 0 M 0 [(0, vr 311), (1, vi x1)] [] := by
  unfold f_X11_read at hF
  refine w_aload_n hB 0 dX11_read_0 rfl rfl ?_
  refine w_getC hB (v := 313) ff_X11_11 sh_311 hp.1 cr_311_11 (by decide) q_1171 dX11_read_1 ?_
  refine w_bipush hB 6 (by decide) dX11_read_4 ?_
  refine w_iload_n hB 1 dX11_read_6 rfl rfl ?_
  refine w_iadd hB dX11_read_7 ?_
  obtain ⟨g1, hF⟩ := gdS hF
  refine w_iald hB sh_313 (Or.inl hp.1) sl_313 g1 dX11_read_8 ?_
  obtain ⟨e1, e2⟩ := retS hF
  subst e2
  exact w_iret hB dX11_read_9 e1
theorem c_X11_read {K : Kt} {l : Launch} (hp : St K) {r : Int32} {M1 : Mem} {x1 : Int32} {M : Mem} (hF : f_X11_read x1 M = some (r, M1)) : MT K l yX11_read cX11_read 2 (some .int) { frames := 0, cells := 0, slots := 0, locals := 0 } [vr 311, vi x1] M (some (vi r)) M1 0 0 :=
  MT_of (by decide) rfl (Nat.le_of_ble_eq_true rfl) (fun X _ hB _ => b_X11_read hp hB hF)
def f_X11_named_b2_s (rec2 : Int32 → Int32 → Mem → Option (Int32 × Mem)) (x1 : Int32) (x2 : Int32) (M : Mem) : Option (Int32 × Mem) :=
  cl (f_X11_read x1 M) fun r1 M1m =>
  if r1 ≤ x2 then
    some ((-1), M1m)
  else
    gd (inb ((40 + (8 * x1)) + x2) 80) <|
    if (lg_cmp (M1m.2.1 316 ((40 + (8 * x1)) + x2).toNatClampNeg) (M1m.2.1 311 8)) = 0 then
      some (x2, M1m)
    else
      bnd (x2 + 1) fun a1 =>
      rec2 x1 a1 M1m
set_option maxRecDepth 100000 in
set_option maxHeartbeats 4000000 in
theorem b_X11_named_b2_s {K : Kt} {X : Xt} (hp : St K) (hB : Bx K X { frames := 1, cells := 0, slots := 0, locals := 21 } cX11_named 3 RX11 (some .int)) {r : Int32} {M1 : Mem} {rec2 : Int32 → Int32 → Mem → Option (Int32 × Mem)}
    (h2 : ∀ x1 x2 M, rec2 x1 x2 M = some (r, M1) → Wt K X (QM K X (some (vi r)) M1 0 0) 0 0 M 2 [(0, vr 311), (1, vi x1), (2, vi x2)] []) {x1 : Int32} {x2 : Int32} {M : Mem} (hF : f_X11_named_b2_s rec2 x1 x2 M = some (r, M1)) : Wt K X (QM K X (some (vi r)) M1 0 0) 0 0 M 2 [(0, vr 311), (1, vi x1), (2, vi x2)] [] := by
  unfold f_X11_named_b2_s at hF
  refine w_iload_n hB 2 dX11_named_2 rfl rfl ?_
  refine w_aload_n hB 0 dX11_named_3 rfl rfl ?_
  refine w_iload_n hB 1 dX11_named_4 rfl rfl ?_
  obtain ⟨r1, M1m, hc_M1m, hF⟩ := clS hF
  refine w_callV hB (ci := 9) (As := [vi x1]) (st := [vi x2]) cw_X11_231 q_1401 q_27 rfl sh_311 (Or.inl hp.1) (c_X11_read hp hc_M1m) ⟨rfl, rfl⟩ (by decide) (by decide) rfl (Nat.le_of_ble_eq_true rfl) dX11_named_5 rfl ?_
  refine w_icmp_ge hB 41 dX11_named_8 (by decide) (fun hc => ?_) (fun hc => ?_)
  · replace hF := ifT hc hF
    refine w_iconst hB (-1) (by decide) dX11_named_41 ?_
    obtain ⟨e1, e2⟩ := retS hF
    subst e2
    exact w_iret hB dX11_named_42 e1
  · replace hF := ifF hc hF
    refine w_aload_n hB 0 dX11_named_11 rfl rfl ?_
    refine w_getC hB (v := 316) ff_X11_14 sh_311 hp.1 cr_311_14 (by decide) q_1174 dX11_named_12 ?_
    refine w_bipush hB 40 (by decide) dX11_named_15 ?_
    refine w_bipush hB 8 (by decide) dX11_named_17 ?_
    refine w_iload_n hB 1 dX11_named_19 rfl rfl ?_
    refine w_imul hB dX11_named_20 ?_
    refine w_iadd hB dX11_named_21 ?_
    refine w_iload_n hB 2 dX11_named_22 rfl rfl ?_
    refine w_iadd hB dX11_named_23 ?_
    obtain ⟨g1, hF⟩ := gdS hF
    refine w_lald hB sh_316 (Or.inl hp.1) sl_316 g1 dX11_named_24 ?_
    refine w_aload_n hB 0 dX11_named_25 rfl rfl ?_
    refine w_getL hB ff_X11_8 sh_311 (Or.inl hp.1) q_1168 dX11_named_26 ?_
    refine w_lcmp hB dX11_named_29 ?_
    refine w_if_ne hB 35 dX11_named_30 (by decide) (fun hc => ?_) (fun hc => ?_)
    · replace hF := ifF hc hF
      obtain ⟨a1, e_a1, hF⟩ := bndS hF
      refine w_iinc hB 2 (v := 1) (L' := [(2, vi a1), (0, vr 311), (1, vi x1)]) dX11_named_35 rfl (by decide) (by decide) e_a1 rfl ?_
      refine w_goto hB 2 dX11_named_38 (by decide) ?_
      exact Wt.sub (L' := [(0, vr 311), (1, vi x1), (2, vi a1)]) [1, 2, 0] rfl (h2 _ _ M1m hF)
    · replace hF := ifT hc hF
      refine w_iload_n hB 2 dX11_named_33 rfl rfl ?_
      obtain ⟨e1, e2⟩ := retS hF
      subst e2
      exact w_iret hB dX11_named_34 e1
def f_X11_named_b2 (k : Nat) : Int32 → Int32 → Mem → Option (Int32 × Mem) := lpN (fun _ _ _ => none) (f_X11_named_b2_s) k
theorem b_X11_named_b2 {K : Kt} {X : Xt} (hp : St K) (hB : Bx K X { frames := 1, cells := 0, slots := 0, locals := 21 } cX11_named 3 RX11 (some .int)) {r : Int32} {M1 : Mem} (k : Nat) : ∀ (x1 : Int32) (x2 : Int32) M, f_X11_named_b2 k x1 x2 M = some (r, M1) → Wt K X (QM K X (some (vi r)) M1 0 0) 0 0 M 2 [(0, vr 311), (1, vi x1), (2, vi x2)] [] := by
  refine lpN_ind (P := fun (f : Int32 → Int32 → Mem → Option (Int32 × Mem)) => ∀ (x1 : Int32) (x2 : Int32) M, f x1 x2 M = some (r, M1) → Wt K X (QM K X (some (vi r)) M1 0 0) 0 0 M 2 [(0, vr 311), (1, vi x1), (2, vi x2)] []) (fun _ _ _ h => by cases h) (fun f hf x1 x2 M hF => ?_) k
  exact b_X11_named_b2_s hp hB hf hF
def f_X11_named (x1 : Int32) (M : Mem) : Option (Int32 × Mem) :=
  f_X11_named_b2 fuel x1 0 M
set_option maxRecDepth 100000 in
set_option maxHeartbeats 4000000 in
theorem b_X11_named {K : Kt} {X : Xt} (hp : St K) (hB : Bx K X { frames := 1, cells := 0, slots := 0, locals := 21 } cX11_named 3 RX11 (some .int)) {r : Int32} {M1 : Mem} {x1 : Int32} {M : Mem} (hF : f_X11_named x1 M = some (r, M1)) : Wt K X (QM K X (some (vi r)) M1 0 0) 0 0 M 0 [(0, vr 311), (1, vi x1)] [] := by
  unfold f_X11_named at hF
  refine w_iconst hB 0 (by decide) dX11_named_0 ?_
  refine w_istore_n hB (L' := [(2, vi 0), (0, vr 311), (1, vi x1)]) dX11_named_1 rfl (by decide) rfl rfl ?_
  exact Wt.sub (L' := [(0, vr 311), (1, vi x1), (2, vi 0)]) [1, 2, 0] rfl (b_X11_named_b2 hp hB fuel _ _ M hF)
theorem c_X11_named {K : Kt} {l : Launch} (hp : St K) {r : Int32} {M1 : Mem} {x1 : Int32} {M : Mem} (hF : f_X11_named x1 M = some (r, M1)) : MT K l yX11_named cX11_named 3 (some .int) { frames := 1, cells := 0, slots := 0, locals := 21 } [vr 311, vi x1] M (some (vi r)) M1 0 0 :=
  MT_of (by decide) rfl (Nat.le_of_ble_eq_true rfl) (fun X _ hB _ => b_X11_named hp hB hF)
def f_X11_newName_b17_s (rec17 : Int32 → Int32 → Int32 → Mem → Option Mem) (x1 : Int32) (x2 : Int32) (x3 : Int32) (M : Mem) : Option Mem :=
  if 5 ≤ x3 then
    cl (f_X11_must x2 2 M) fun r1 M1m =>
    if r1 = 0 then
      some M1m
    else
      cl (f_X11_read x1 M1m) fun r2 M2m =>
      gd (inb ((40 + (8 * x1)) + r2) 80) <|
      bnd (setL M2m 316 (((40 + (8 * x1)) + r2).toNatClampNeg) (M2m.2.1 311 8)) fun M3m =>
      clv (f_X11_steps M3m) fun M4m =>
      some M4m
  else
    cl (f_X11_named x3 M) fun r3 M5m =>
    if 0 ≤ r3 then
      bnd (x2 &&& 0) fun a1 =>
      bnd (x3 + 1) fun a2 =>
      rec17 x1 a1 a2 M5m
    else
      bnd (x2 &&& 1) fun a3 =>
      bnd (x3 + 1) fun a4 =>
      rec17 x1 a3 a4 M5m
set_option maxRecDepth 100000 in
set_option maxHeartbeats 4000000 in
theorem b_X11_newName_b17_s {K : Kt} {X : Xt} (hp : St K) (hB : Bx K X { frames := 8, cells := 0, slots := 0, locals := 170 } cX11_newName 4 RX11 none) {M1 : Mem} {rec17 : Int32 → Int32 → Int32 → Mem → Option Mem}
    (h17 : ∀ x1 x2 x3 M, rec17 x1 x2 x3 M = some M1 → Wt K X (QM K X none M1 0 0) 0 0 M 17 [(0, vr 311), (1, vi x1), (2, vi x2), (3, vi x3)] []) {x1 : Int32} {x2 : Int32} {x3 : Int32} {M : Mem} (hF : f_X11_newName_b17_s rec17 x1 x2 x3 M = some M1) : Wt K X (QM K X none M1 0 0) 0 0 M 17 [(0, vr 311), (1, vi x1), (2, vi x2), (3, vi x3)] [] := by
  unfold f_X11_newName_b17_s at hF
  refine w_iload_n hB 3 dX11_newName_17 rfl rfl ?_
  refine w_iconst hB 5 (by decide) dX11_newName_18 ?_
  refine w_icmp_ge hB 44 dX11_newName_19 (by decide) (fun hc => ?_) (fun hc => ?_)
  · replace hF := ifT hc hF
    refine w_aload_n hB 0 dX11_newName_44 rfl rfl ?_
    refine w_iload_n hB 2 dX11_newName_45 rfl rfl ?_
    refine w_iconst hB 2 (by decide) dX11_newName_46 ?_
    obtain ⟨r1, M1m, hc_M1m, hF⟩ := clS hF
    refine w_callV hB (ci := 9) (As := [vi x2, vi 2]) (st := []) cw_X11_224 q_1405 q_28 rfl sh_311 (Or.inl hp.1) (c_X11_must hp hc_M1m) ⟨rfl, rfl⟩ (by decide) (by decide) rfl (Nat.le_of_ble_eq_true rfl) dX11_newName_47 rfl ?_
    refine w_if_ne hB 54 dX11_newName_50 (by decide) (fun hc => ?_) (fun hc => ?_)
    · replace hF := ifF hc hF
      refine w_aload_n hB 0 dX11_newName_54 rfl rfl ?_
      refine w_getC hB (v := 316) ff_X11_14 sh_311 hp.1 cr_311_14 (by decide) q_1174 dX11_newName_55 ?_
      refine w_bipush hB 40 (by decide) dX11_newName_58 ?_
      refine w_bipush hB 8 (by decide) dX11_newName_60 ?_
      refine w_iload_n hB 1 dX11_newName_62 rfl rfl ?_
      refine w_imul hB dX11_newName_63 ?_
      refine w_iadd hB dX11_newName_64 ?_
      refine w_aload_n hB 0 dX11_newName_65 rfl rfl ?_
      refine w_iload_n hB 1 dX11_newName_66 rfl rfl ?_
      obtain ⟨r2, M2m, hc_M2m, hF⟩ := clS hF
      refine w_callV hB (ci := 9) (As := [vi x1]) (st := [vi (40 + (8 * x1)), vr 316]) cw_X11_231 q_1401 q_27 rfl sh_311 (Or.inl hp.1) (c_X11_read hp hc_M2m) ⟨rfl, rfl⟩ (by decide) (by decide) rfl (Nat.le_of_ble_eq_true rfl) dX11_newName_67 rfl ?_
      refine w_iadd hB dX11_newName_70 ?_
      refine w_aload_n hB 0 dX11_newName_71 rfl rfl ?_
      refine w_getL hB ff_X11_8 sh_311 (Or.inl hp.1) q_1168 dX11_newName_72 ?_
      obtain ⟨g1, hF⟩ := gdS hF
      obtain ⟨M3m, e_M3m, hF⟩ := bndS hF
      refine w_last hB sh_316 (Or.inl hp.1) sl_316 g1 e_M3m dX11_newName_75 ?_
      refine w_aload_n hB 0 dX11_newName_76 rfl rfl ?_
      obtain ⟨M4m, hc_M4m, hF⟩ := clvS hF
      refine w_callV hB (ci := 9) (As := []) (st := []) cw_X11_228 q_1324 q_22 rfl sh_311 (Or.inl hp.1) (c_X11_steps hp hc_M4m) ⟨rfl, rfl⟩ (by decide) (by decide) rfl (Nat.le_of_ble_eq_true rfl) dX11_newName_77 rfl ?_
      cases hF
      exact w_vret hB dX11_newName_80
    · replace hF := ifT hc hF
      cases hF
      exact w_vret hB dX11_newName_53
  · replace hF := ifF hc hF
    refine w_iload_n hB 2 dX11_newName_22 rfl rfl ?_
    refine w_aload_n hB 0 dX11_newName_23 rfl rfl ?_
    refine w_iload_n hB 3 dX11_newName_24 rfl rfl ?_
    obtain ⟨r3, M5m, hc_M5m, hF⟩ := clS hF
    refine w_callV hB (ci := 9) (As := [vi x3]) (st := [vi x2]) cw_X11_237 q_1440 q_33 rfl sh_311 (Or.inl hp.1) (c_X11_named hp hc_M5m) ⟨rfl, rfl⟩ (by decide) (by decide) rfl (Nat.le_of_ble_eq_true rfl) dX11_newName_25 rfl ?_
    refine w_if_ge hB 35 dX11_newName_28 (by decide) (fun hc => ?_) (fun hc => ?_)
    · replace hF := ifT hc hF
      refine w_iconst hB 0 (by decide) dX11_newName_35 ?_
      refine w_iand hB dX11_newName_36 ?_
      obtain ⟨a1, e_a1, hF⟩ := bndS hF
      refine w_istore_n hB (L' := [(2, vi a1), (0, vr 311), (1, vi x1), (3, vi x3)]) dX11_newName_37 rfl (by decide) e_a1 rfl ?_
      obtain ⟨a2, e_a2, hF⟩ := bndS hF
      refine w_iinc hB 3 (v := 1) (L' := [(3, vi a2), (2, vi a1), (0, vr 311), (1, vi x1)]) dX11_newName_38 rfl (by decide) (by decide) e_a2 rfl ?_
      refine w_goto hB 17 dX11_newName_41 (by decide) ?_
      exact Wt.sub (L' := [(0, vr 311), (1, vi x1), (2, vi a1), (3, vi a2)]) [2, 3, 1, 0] rfl (h17 _ _ _ M5m hF)
    · replace hF := ifF hc hF
      refine w_iconst hB 1 (by decide) dX11_newName_31 ?_
      refine w_goto hB 36 dX11_newName_32 (by decide) ?_
      refine w_iand hB dX11_newName_36 ?_
      obtain ⟨a3, e_a3, hF⟩ := bndS hF
      refine w_istore_n hB (L' := [(2, vi a3), (0, vr 311), (1, vi x1), (3, vi x3)]) dX11_newName_37 rfl (by decide) e_a3 rfl ?_
      obtain ⟨a4, e_a4, hF⟩ := bndS hF
      refine w_iinc hB 3 (v := 1) (L' := [(3, vi a4), (2, vi a3), (0, vr 311), (1, vi x1)]) dX11_newName_38 rfl (by decide) (by decide) e_a4 rfl ?_
      refine w_goto hB 17 dX11_newName_41 (by decide) ?_
      exact Wt.sub (L' := [(0, vr 311), (1, vi x1), (2, vi a3), (3, vi a4)]) [2, 3, 1, 0] rfl (h17 _ _ _ M5m hF)
def f_X11_newName_b17 (k : Nat) : Int32 → Int32 → Int32 → Mem → Option Mem := lpN (fun _ _ _ _ => none) (f_X11_newName_b17_s) k
theorem b_X11_newName_b17 {K : Kt} {X : Xt} (hp : St K) (hB : Bx K X { frames := 8, cells := 0, slots := 0, locals := 170 } cX11_newName 4 RX11 none) {M1 : Mem} (k : Nat) : ∀ (x1 : Int32) (x2 : Int32) (x3 : Int32) M, f_X11_newName_b17 k x1 x2 x3 M = some M1 → Wt K X (QM K X none M1 0 0) 0 0 M 17 [(0, vr 311), (1, vi x1), (2, vi x2), (3, vi x3)] [] := by
  refine lpN_ind (P := fun (f : Int32 → Int32 → Int32 → Mem → Option Mem) => ∀ (x1 : Int32) (x2 : Int32) (x3 : Int32) M, f x1 x2 x3 M = some M1 → Wt K X (QM K X none M1 0 0) 0 0 M 17 [(0, vr 311), (1, vi x1), (2, vi x2), (3, vi x3)] []) (fun _ _ _ _ h => by cases h) (fun f hf x1 x2 x3 M hF => ?_) k
  exact b_X11_newName_b17_s hp hB hf hF
def f_X11_newName (x1 : Int32) (M : Mem) : Option Mem :=
  cl (f_X11_isName M) fun r1 M1m =>
  cl (f_X11_must r1 1 M1m) fun r2 M2m =>
  if r2 = 0 then
    some M2m
  else
    f_X11_newName_b17 fuel x1 1 0 M2m
set_option maxRecDepth 100000 in
set_option maxHeartbeats 4000000 in
theorem b_X11_newName {K : Kt} {X : Xt} (hp : St K) (hB : Bx K X { frames := 8, cells := 0, slots := 0, locals := 170 } cX11_newName 4 RX11 none) {M1 : Mem} {x1 : Int32} {M : Mem} (hF : f_X11_newName x1 M = some M1) : Wt K X (QM K X none M1 0 0) 0 0 M 0 [(0, vr 311), (1, vi x1)] [] := by
  unfold f_X11_newName at hF
  refine w_iconst hB 1 (by decide) dX11_newName_0 ?_
  refine w_istore_n hB (L' := [(2, vi 1), (0, vr 311), (1, vi x1)]) dX11_newName_1 rfl (by decide) rfl rfl ?_
  refine w_aload_n hB 1 dX11_newName_2 rfl rfl ?_
  refine w_aload_n hB 1 dX11_newName_3 rfl rfl ?_
  obtain ⟨r1, M1m, hc_M1m, hF⟩ := clS hF
  refine w_callV hB (ci := 9) (As := []) (st := [vr 311]) cw_X11_234 q_1417 q_31 rfl sh_311 (Or.inl hp.1) (c_X11_isName hp hc_M1m) ⟨rfl, rfl⟩ (by decide) (by decide) rfl (Nat.le_of_ble_eq_true rfl) dX11_newName_4 rfl ?_
  refine w_iconst hB 1 (by decide) dX11_newName_7 ?_
  obtain ⟨r2, M2m, hc_M2m, hF⟩ := clS hF
  refine w_callV hB (ci := 9) (As := [vi r1, vi 1]) (st := []) cw_X11_224 q_1405 q_28 rfl sh_311 (Or.inl hp.1) (c_X11_must hp hc_M2m) ⟨rfl, rfl⟩ (by decide) (by decide) rfl (Nat.le_of_ble_eq_true rfl) dX11_newName_8 rfl ?_
  refine w_if_ne hB 15 dX11_newName_11 (by decide) (fun hc => ?_) (fun hc => ?_)
  · replace hF := ifF hc hF
    refine w_iconst hB 0 (by decide) dX11_newName_15 ?_
    refine w_istore_n hB (L' := [(3, vi 0), (2, vi 1), (0, vr 311), (1, vi x1)]) dX11_newName_16 rfl (by decide) rfl rfl ?_
    exact Wt.sub (L' := [(0, vr 311), (1, vi x1), (2, vi 1), (3, vi 0)]) [2, 3, 1, 0] rfl (b_X11_newName_b17 hp hB fuel _ _ _ M2m hF)
  · replace hF := ifT hc hF
    cases hF
    exact w_vret hB dX11_newName_14
theorem c_X11_newName {K : Kt} {l : Launch} (hp : St K) {M1 : Mem} {x1 : Int32} {M : Mem} (hF : f_X11_newName x1 M = some M1) : MT K l yX11_newName cX11_newName 4 none { frames := 8, cells := 0, slots := 0, locals := 170 } [vr 311, vi x1] M none M1 0 0 :=
  MT_of (by decide) rfl (Nat.le_of_ble_eq_true rfl) (fun X _ hB _ => b_X11_newName hp hB hF)
def f_X11_looksUp_b26 (x1 : Int32) (xs1 : Int32) (M : Mem) : Option (Int32 × Mem) :=
  cl (f_X11_must xs1 4 M) fun r1 M1m =>
  if r1 = 0 then
    some (0, M1m)
  else
    cl (f_X11_named x1 M1m) fun r2 M2m =>
    some (r2, M2m)
set_option maxRecDepth 100000 in
set_option maxHeartbeats 4000000 in
theorem b_X11_looksUp_b26 {K : Kt} {X : Xt} (hp : St K) (hB : Bx K X { frames := 8, cells := 0, slots := 0, locals := 170 } cX11_looksUp 2 RX11 (some .int)) {r : Int32} {M1 : Mem} {x1 : Int32} {xs1 : Int32} {M : Mem} (hF : f_X11_looksUp_b26 x1 xs1 M = some (r, M1)) : Wt K X (QM K X (some (vi r)) M1 0 0) 0 0 M 26 [(0, vr 311), (1, vi x1)] [vi xs1, vr 311] := by
  unfold f_X11_looksUp_b26 at hF
  refine w_iconst hB 4 (by decide) dX11_looksUp_26 ?_
  obtain ⟨r1, M1m, hc_M1m, hF⟩ := clS hF
  refine w_callV hB (ci := 9) (As := [vi xs1, vi 4]) (st := []) cw_X11_224 q_1405 q_28 rfl sh_311 (Or.inl hp.1) (c_X11_must hp hc_M1m) ⟨rfl, rfl⟩ (by decide) (by decide) rfl (Nat.le_of_ble_eq_true rfl) dX11_looksUp_27 rfl ?_
  refine w_if_ne hB 35 dX11_looksUp_30 (by decide) (fun hc => ?_) (fun hc => ?_)
  · replace hF := ifF hc hF
    refine w_aload_n hB 0 dX11_looksUp_35 rfl rfl ?_
    refine w_iload_n hB 1 dX11_looksUp_36 rfl rfl ?_
    obtain ⟨r2, M2m, hc_M2m, hF⟩ := clS hF
    refine w_callV hB (ci := 9) (As := [vi x1]) (st := []) cw_X11_237 q_1440 q_33 rfl sh_311 (Or.inl hp.1) (c_X11_named hp hc_M2m) ⟨rfl, rfl⟩ (by decide) (by decide) rfl (Nat.le_of_ble_eq_true rfl) dX11_looksUp_37 rfl ?_
    obtain ⟨e1, e2⟩ := retS hF
    subst e2
    exact w_iret hB dX11_looksUp_40 e1
  · replace hF := ifT hc hF
    refine w_iconst hB 0 (by decide) dX11_looksUp_33 ?_
    obtain ⟨e1, e2⟩ := retS hF
    subst e2
    exact w_iret hB dX11_looksUp_34 e1
def f_X11_looksUp (x1 : Int32) (M : Mem) : Option (Int32 × Mem) :=
  cl (f_X11_isName M) fun r1 M1m =>
  cl (f_X11_must r1 1 M1m) fun r2 M2m =>
  if r2 = 0 then
    some (0, M2m)
  else
    cl (f_X11_named x1 M2m) fun r3 M3m =>
    if r3 < 0 then
      f_X11_looksUp_b26 x1 0 M3m
    else
      f_X11_looksUp_b26 x1 1 M3m
set_option maxRecDepth 100000 in
set_option maxHeartbeats 4000000 in
theorem b_X11_looksUp {K : Kt} {X : Xt} (hp : St K) (hB : Bx K X { frames := 8, cells := 0, slots := 0, locals := 170 } cX11_looksUp 2 RX11 (some .int)) {r : Int32} {M1 : Mem} {x1 : Int32} {M : Mem} (hF : f_X11_looksUp x1 M = some (r, M1)) : Wt K X (QM K X (some (vi r)) M1 0 0) 0 0 M 0 [(0, vr 311), (1, vi x1)] [] := by
  unfold f_X11_looksUp at hF
  refine w_aload_n hB 0 dX11_looksUp_0 rfl rfl ?_
  refine w_aload_n hB 0 dX11_looksUp_1 rfl rfl ?_
  obtain ⟨r1, M1m, hc_M1m, hF⟩ := clS hF
  refine w_callV hB (ci := 9) (As := []) (st := [vr 311]) cw_X11_234 q_1417 q_31 rfl sh_311 (Or.inl hp.1) (c_X11_isName hp hc_M1m) ⟨rfl, rfl⟩ (by decide) (by decide) rfl (Nat.le_of_ble_eq_true rfl) dX11_looksUp_2 rfl ?_
  refine w_iconst hB 1 (by decide) dX11_looksUp_5 ?_
  obtain ⟨r2, M2m, hc_M2m, hF⟩ := clS hF
  refine w_callV hB (ci := 9) (As := [vi r1, vi 1]) (st := []) cw_X11_224 q_1405 q_28 rfl sh_311 (Or.inl hp.1) (c_X11_must hp hc_M2m) ⟨rfl, rfl⟩ (by decide) (by decide) rfl (Nat.le_of_ble_eq_true rfl) dX11_looksUp_6 rfl ?_
  refine w_if_eq hB 33 dX11_looksUp_9 (by decide) (fun hc => ?_) (fun hc => ?_)
  · replace hF := ifT hc hF
    refine w_iconst hB 0 (by decide) dX11_looksUp_33 ?_
    obtain ⟨e1, e2⟩ := retS hF
    subst e2
    exact w_iret hB dX11_looksUp_34 e1
  · replace hF := ifF hc hF
    refine w_aload_n hB 0 dX11_looksUp_12 rfl rfl ?_
    refine w_aload_n hB 0 dX11_looksUp_13 rfl rfl ?_
    refine w_iload_n hB 1 dX11_looksUp_14 rfl rfl ?_
    obtain ⟨r3, M3m, hc_M3m, hF⟩ := clS hF
    refine w_callV hB (ci := 9) (As := [vi x1]) (st := [vr 311]) cw_X11_237 q_1440 q_33 rfl sh_311 (Or.inl hp.1) (c_X11_named hp hc_M3m) ⟨rfl, rfl⟩ (by decide) (by decide) rfl (Nat.le_of_ble_eq_true rfl) dX11_looksUp_15 rfl ?_
    refine w_if_lt hB 25 dX11_looksUp_18 (by decide) (fun hc => ?_) (fun hc => ?_)
    · replace hF := ifT hc hF
      refine w_iconst hB 0 (by decide) dX11_looksUp_25 ?_
      exact Wt.sub (L' := [(0, vr 311), (1, vi x1)]) [0, 1] rfl (b_X11_looksUp_b26 hp hB hF)
    · replace hF := ifF hc hF
      refine w_iconst hB 1 (by decide) dX11_looksUp_21 ?_
      refine w_goto hB 26 dX11_looksUp_22 (by decide) ?_
      exact Wt.sub (L' := [(0, vr 311), (1, vi x1)]) [0, 1] rfl (b_X11_looksUp_b26 hp hB hF)
theorem c_X11_looksUp {K : Kt} {l : Launch} (hp : St K) {r : Int32} {M1 : Mem} {x1 : Int32} {M : Mem} (hF : f_X11_looksUp x1 M = some (r, M1)) : MT K l yX11_looksUp cX11_looksUp 2 (some .int) { frames := 8, cells := 0, slots := 0, locals := 170 } [vr 311, vi x1] M (some (vi r)) M1 0 0 :=
  MT_of (by decide) rfl (Nat.le_of_ble_eq_true rfl) (fun X _ hB _ => b_X11_looksUp hp hB hF)
def f_X11_known (x1 : Int32) (M : Mem) : Option (Int32 × Mem) :=
  cl (f_X11_looksUp x1 M) fun r1 M1m =>
  if (M1m.1 311 9) = 0 then
    clv (f_X11_steps M1m) fun M2m =>
    some (r1, M2m)
  else
    some (r1, M1m)
set_option maxRecDepth 100000 in
set_option maxHeartbeats 4000000 in
theorem b_X11_known {K : Kt} {X : Xt} (hp : St K) (hB : Bx K X { frames := 9, cells := 0, slots := 0, locals := 191 } cX11_known 3 RX11 (some .int)) {r : Int32} {M1 : Mem} {x1 : Int32} {M : Mem} (hF : f_X11_known x1 M = some (r, M1)) : Wt K X (QM K X (some (vi r)) M1 0 0) 0 0 M 0 [(0, vr 311), (1, vi x1)] [] := by
  unfold f_X11_known at hF
  refine w_aload_n hB 0 dX11_known_0 rfl rfl ?_
  refine w_iload_n hB 1 dX11_known_1 rfl rfl ?_
  obtain ⟨r1, M1m, hc_M1m, hF⟩ := clS hF
  refine w_callV hB (ci := 9) (As := [vi x1]) (st := []) cw_X11_240 q_1456 q_37 rfl sh_311 (Or.inl hp.1) (c_X11_looksUp hp hc_M1m) ⟨rfl, rfl⟩ (by decide) (by decide) rfl (Nat.le_of_ble_eq_true rfl) dX11_known_2 rfl ?_
  refine w_istore_n hB (L' := [(2, vi r1), (0, vr 311), (1, vi x1)]) dX11_known_5 rfl (by decide) rfl rfl ?_
  refine w_aload_n hB 1 dX11_known_6 rfl rfl ?_
  refine w_getI hB ff_X11_9 sh_311 (Or.inl hp.1) q_1169 dX11_known_7 ?_
  refine w_if_ne hB 17 dX11_known_10 (by decide) (fun hc => ?_) (fun hc => ?_)
  · replace hF := ifF hc hF
    refine w_iload_n hB 0 dX11_known_17 rfl rfl ?_
    obtain ⟨e1, e2⟩ := retS hF
    subst e2
    exact w_iret hB dX11_known_18 e1
  · replace hF := ifT hc hF
    refine w_aload_n hB 1 dX11_known_13 rfl rfl ?_
    obtain ⟨M2m, hc_M2m, hF⟩ := clvS hF
    refine w_callV hB (ci := 9) (As := []) (st := []) cw_X11_228 q_1324 q_22 rfl sh_311 (Or.inl hp.1) (c_X11_steps hp hc_M2m) ⟨rfl, rfl⟩ (by decide) (by decide) rfl (Nat.le_of_ble_eq_true rfl) dX11_known_14 rfl ?_
    refine w_iload_n hB 0 dX11_known_17 rfl rfl ?_
    obtain ⟨e1, e2⟩ := retS hF
    subst e2
    exact w_iret hB dX11_known_18 e1
theorem c_X11_known {K : Kt} {l : Launch} (hp : St K) {r : Int32} {M1 : Mem} {x1 : Int32} {M : Mem} (hF : f_X11_known x1 M = some (r, M1)) : MT K l yX11_known cX11_known 3 (some .int) { frames := 9, cells := 0, slots := 0, locals := 191 } [vr 311, vi x1] M (some (vi r)) M1 0 0 :=
  MT_of (by decide) rfl (Nat.le_of_ble_eq_true rfl) (fun X _ hB _ => b_X11_known hp hB hF)
def f_X11_cameraLine (M : Mem) : Option Mem :=
  clv (f_X11_newName 0 M) fun M1m =>
  cl (f_X11_read 0 M1m) fun r1 M2m =>
  bnd (5 + r1) fun a1 =>
  cl (f_X11_number 0 999 M2m) fun r2 M3m =>
  gd (inb a1 10) <|
  bnd (setI M3m 317 (a1.toNatClampNeg) r2) fun M4m =>
  cl (f_X11_number (M4m.1 317 a1.toNatClampNeg) 999 M4m) fun r3 M5m =>
  bnd (setI M5m 318 (a1.toNatClampNeg) r3) fun M6m =>
  if (M6m.1 311 9) = 0 then
    bnd (setI M6m 313 6 ((M6m.1 313 6) + 1)) fun M7m =>
    some M7m
  else
    some M6m
set_option maxRecDepth 100000 in
set_option maxHeartbeats 4000000 in
theorem b_X11_cameraLine {K : Kt} {X : Xt} (hp : St K) (hB : Bx K X { frames := 9, cells := 0, slots := 0, locals := 193 } cX11_cameraLine 2 RX11 none) {M1 : Mem} {M : Mem} (hF : f_X11_cameraLine M = some M1) : Wt K X (QM K X none M1 0 0) 0 0 M 0 [(0, vr 311)] [] := by
  unfold f_X11_cameraLine at hF
  refine w_aload_n hB 0 dX11_cameraLine_0 rfl rfl ?_
  refine w_iconst hB 0 (by decide) dX11_cameraLine_1 ?_
  obtain ⟨M1m, hc_M1m, hF⟩ := clvS hF
  refine w_callV hB (ci := 9) (As := [vi 0]) (st := []) cw_X11_243 q_1413 q_30 rfl sh_311 (Or.inl hp.1) (c_X11_newName hp hc_M1m) ⟨rfl, rfl⟩ (by decide) (by decide) rfl (Nat.le_of_ble_eq_true rfl) dX11_cameraLine_2 rfl ?_
  refine w_iconst hB 5 (by decide) dX11_cameraLine_5 ?_
  refine w_aload_n hB 0 dX11_cameraLine_6 rfl rfl ?_
  refine w_iconst hB 0 (by decide) dX11_cameraLine_7 ?_
  obtain ⟨r1, M2m, hc_M2m, hF⟩ := clS hF
  refine w_callV hB (ci := 9) (As := [vi 0]) (st := [vi 5]) cw_X11_231 q_1401 q_27 rfl sh_311 (Or.inl hp.1) (c_X11_read hp hc_M2m) ⟨rfl, rfl⟩ (by decide) (by decide) rfl (Nat.le_of_ble_eq_true rfl) dX11_cameraLine_8 rfl ?_
  refine w_iadd hB dX11_cameraLine_11 ?_
  obtain ⟨a1, e_a1, hF⟩ := bndS hF
  refine w_istore_n hB (L' := [(1, vi a1), (0, vr 311)]) dX11_cameraLine_12 rfl (by decide) e_a1 rfl ?_
  refine w_aload_n hB 1 dX11_cameraLine_13 rfl rfl ?_
  refine w_getC hB (v := 317) ff_X11_15 sh_311 hp.1 cr_311_15 (by decide) q_1175 dX11_cameraLine_14 ?_
  refine w_iload_n hB 0 dX11_cameraLine_17 rfl rfl ?_
  refine w_aload_n hB 1 dX11_cameraLine_18 rfl rfl ?_
  refine w_iconst hB 0 (by decide) dX11_cameraLine_19 ?_
  refine w_sipush hB 999 (by decide) dX11_cameraLine_20 ?_
  obtain ⟨r2, M3m, hc_M3m, hF⟩ := clS hF
  refine w_callV hB (ci := 9) (As := [vi 0, vi 999]) (st := [vi a1, vr 317]) cw_X11_246 q_1444 q_34 rfl sh_311 (Or.inl hp.1) (c_X11_number hp hc_M3m) ⟨rfl, rfl⟩ (by decide) (by decide) rfl (Nat.le_of_ble_eq_true rfl) dX11_cameraLine_23 rfl ?_
  obtain ⟨g1, hF⟩ := gdS hF
  obtain ⟨M4m, e_M4m, hF⟩ := bndS hF
  refine w_iast hB sh_317 (Or.inl hp.1) sl_317 g1 e_M4m dX11_cameraLine_26 ?_
  refine w_aload_n hB 1 dX11_cameraLine_27 rfl rfl ?_
  refine w_getC hB (v := 318) ff_X11_16 sh_311 hp.1 cr_311_16 (by decide) q_1176 dX11_cameraLine_28 ?_
  refine w_iload_n hB 0 dX11_cameraLine_31 rfl rfl ?_
  refine w_aload_n hB 1 dX11_cameraLine_32 rfl rfl ?_
  refine w_aload_n hB 1 dX11_cameraLine_33 rfl rfl ?_
  refine w_getC hB (v := 317) ff_X11_15 sh_311 hp.1 cr_311_15 (by decide) q_1175 dX11_cameraLine_34 ?_
  refine w_iload_n hB 0 dX11_cameraLine_37 rfl rfl ?_
  refine w_iald hB sh_317 (Or.inl hp.1) sl_317 g1 dX11_cameraLine_38 ?_
  refine w_sipush hB 999 (by decide) dX11_cameraLine_39 ?_
  obtain ⟨r3, M5m, hc_M5m, hF⟩ := clS hF
  refine w_callV hB (ci := 9) (As := [vi (M4m.1 317 a1.toNatClampNeg), vi 999]) (st := [vi a1, vr 318]) cw_X11_246 q_1444 q_34 rfl sh_311 (Or.inl hp.1) (c_X11_number hp hc_M5m) ⟨rfl, rfl⟩ (by decide) (by decide) rfl (Nat.le_of_ble_eq_true rfl) dX11_cameraLine_42 rfl ?_
  obtain ⟨M6m, e_M6m, hF⟩ := bndS hF
  refine w_iast hB sh_318 (Or.inl hp.1) sl_318 g1 e_M6m dX11_cameraLine_45 ?_
  refine w_aload_n hB 1 dX11_cameraLine_46 rfl rfl ?_
  refine w_getI hB ff_X11_9 sh_311 (Or.inl hp.1) q_1169 dX11_cameraLine_47 ?_
  refine w_if_ne hB 64 dX11_cameraLine_50 (by decide) (fun hc => ?_) (fun hc => ?_)
  · replace hF := ifF hc hF
    cases hF
    exact w_vret hB dX11_cameraLine_64
  · replace hF := ifT hc hF
    refine w_aload_n hB 1 dX11_cameraLine_53 rfl rfl ?_
    refine w_getC hB (v := 313) ff_X11_11 sh_311 hp.1 cr_311_11 (by decide) q_1171 dX11_cameraLine_54 ?_
    refine w_bipush hB 6 (by decide) dX11_cameraLine_57 ?_
    refine w_dup2 hB rfl rfl dX11_cameraLine_59 ?_
    refine w_iald hB sh_313 (Or.inl hp.1) sl_313 (by decide) dX11_cameraLine_60 ?_
    rw [show (6 : Int32).toNatClampNeg = 6 by decide]
    refine w_iconst hB 1 (by decide) dX11_cameraLine_61 ?_
    refine w_iadd hB dX11_cameraLine_62 ?_
    obtain ⟨M7m, e_M7m, hF⟩ := bndS hF
    refine w_iast hB sh_313 (Or.inl hp.1) sl_313 (by decide) e_M7m dX11_cameraLine_63 ?_
    cases hF
    exact w_vret hB dX11_cameraLine_64
theorem c_X11_cameraLine {K : Kt} {l : Launch} (hp : St K) {M1 : Mem} {M : Mem} (hF : f_X11_cameraLine M = some M1) : MT K l yX11_cameraLine cX11_cameraLine 2 none { frames := 9, cells := 0, slots := 0, locals := 193 } [vr 311] M none M1 0 0 :=
  MT_of (by decide) rfl (Nat.le_of_ble_eq_true rfl) (fun X _ hB _ => b_X11_cameraLine hp hB hF)
def f_X11_flashLine_b74 (x1 : Int32) (xs1 : Int32) (M : Mem) : Option Mem :=
  cl (f_X11_must xs1 4 M) fun r1 M1m =>
  if r1 = 0 then
    some M1m
  else
    clv (f_X11_steps M1m) fun M2m =>
    cl (f_X11_number 0 999 M2m) fun r2 M3m =>
    gd (inb (x1 + 3) 48) <|
    bnd (setI M3m 319 ((x1 + 3).toNatClampNeg) r2) fun M4m =>
    if (M4m.1 311 9) = 0 then
      bnd (setI M4m 313 11 ((M4m.1 313 11) + 1)) fun M5m =>
      some M5m
    else
      some M4m
set_option maxRecDepth 100000 in
set_option maxHeartbeats 4000000 in
theorem b_X11_flashLine_b74 {K : Kt} {X : Xt} (hp : St K) (hB : Bx K X { frames := 10, cells := 0, slots := 0, locals := 213 } cX11_flashLine 2 RX11 none) {M1 : Mem} {x1 : Int32} {xs1 : Int32} {M : Mem} (hF : f_X11_flashLine_b74 x1 xs1 M = some M1) : Wt K X (QM K X none M1 0 0) 0 0 M 74 [(0, vr 311), (1, vi x1)] [vi xs1, vr 311] := by
  unfold f_X11_flashLine_b74 at hF
  refine w_iconst hB 4 (by decide) dX11_flashLine_74 ?_
  obtain ⟨r1, M1m, hc_M1m, hF⟩ := clS hF
  refine w_callV hB (ci := 9) (As := [vi xs1, vi 4]) (st := []) cw_X11_224 q_1405 q_28 rfl sh_311 (Or.inl hp.1) (c_X11_must hp hc_M1m) ⟨rfl, rfl⟩ (by decide) (by decide) rfl (Nat.le_of_ble_eq_true rfl) dX11_flashLine_75 rfl ?_
  refine w_if_ne hB 82 dX11_flashLine_78 (by decide) (fun hc => ?_) (fun hc => ?_)
  · replace hF := ifF hc hF
    refine w_aload_n hB 0 dX11_flashLine_82 rfl rfl ?_
    obtain ⟨M2m, hc_M2m, hF⟩ := clvS hF
    refine w_callV hB (ci := 9) (As := []) (st := []) cw_X11_228 q_1324 q_22 rfl sh_311 (Or.inl hp.1) (c_X11_steps hp hc_M2m) ⟨rfl, rfl⟩ (by decide) (by decide) rfl (Nat.le_of_ble_eq_true rfl) dX11_flashLine_83 rfl ?_
    refine w_aload_n hB 0 dX11_flashLine_86 rfl rfl ?_
    refine w_getC hB (v := 319) ff_X11_17 sh_311 hp.1 cr_311_17 (by decide) q_1177 dX11_flashLine_87 ?_
    refine w_iload_n hB 1 dX11_flashLine_90 rfl rfl ?_
    refine w_iconst hB 3 (by decide) dX11_flashLine_91 ?_
    refine w_iadd hB dX11_flashLine_92 ?_
    refine w_aload_n hB 0 dX11_flashLine_93 rfl rfl ?_
    refine w_iconst hB 0 (by decide) dX11_flashLine_94 ?_
    refine w_sipush hB 999 (by decide) dX11_flashLine_95 ?_
    obtain ⟨r2, M3m, hc_M3m, hF⟩ := clS hF
    refine w_callV hB (ci := 9) (As := [vi 0, vi 999]) (st := [vi (x1 + 3), vr 319]) cw_X11_246 q_1444 q_34 rfl sh_311 (Or.inl hp.1) (c_X11_number hp hc_M3m) ⟨rfl, rfl⟩ (by decide) (by decide) rfl (Nat.le_of_ble_eq_true rfl) dX11_flashLine_98 rfl ?_
    obtain ⟨g1, hF⟩ := gdS hF
    obtain ⟨M4m, e_M4m, hF⟩ := bndS hF
    refine w_iast hB sh_319 (Or.inl hp.1) sl_319 g1 e_M4m dX11_flashLine_101 ?_
    refine w_aload_n hB 0 dX11_flashLine_102 rfl rfl ?_
    refine w_getI hB ff_X11_9 sh_311 (Or.inl hp.1) q_1169 dX11_flashLine_103 ?_
    refine w_if_ne hB 120 dX11_flashLine_106 (by decide) (fun hc => ?_) (fun hc => ?_)
    · replace hF := ifF hc hF
      cases hF
      exact w_vret hB dX11_flashLine_120
    · replace hF := ifT hc hF
      refine w_aload_n hB 0 dX11_flashLine_109 rfl rfl ?_
      refine w_getC hB (v := 313) ff_X11_11 sh_311 hp.1 cr_311_11 (by decide) q_1171 dX11_flashLine_110 ?_
      refine w_bipush hB 11 (by decide) dX11_flashLine_113 ?_
      refine w_dup2 hB rfl rfl dX11_flashLine_115 ?_
      refine w_iald hB sh_313 (Or.inl hp.1) sl_313 (by decide) dX11_flashLine_116 ?_
      rw [show (11 : Int32).toNatClampNeg = 11 by decide]
      refine w_iconst hB 1 (by decide) dX11_flashLine_117 ?_
      refine w_iadd hB dX11_flashLine_118 ?_
      obtain ⟨M5m, e_M5m, hF⟩ := bndS hF
      refine w_iast hB sh_313 (Or.inl hp.1) sl_313 (by decide) e_M5m dX11_flashLine_119 ?_
      cases hF
      exact w_vret hB dX11_flashLine_120
  · replace hF := ifT hc hF
    cases hF
    exact w_vret hB dX11_flashLine_81
def f_X11_flashLine (M : Mem) : Option Mem :=
  cl (f_X11_read 5 M) fun r1 M1m =>
  bnd (24 + (4 * r1)) fun a1 =>
  cl (f_X11_known 0 M1m) fun r2 M2m =>
  gd (inb a1 48) <|
  bnd (setI M2m 319 (a1.toNatClampNeg) r2) fun M3m =>
  cl (f_X11_number 0 999 M3m) fun r3 M4m =>
  gd (inb (a1 + 1) 48) <|
  bnd (setI M4m 319 ((a1 + 1).toNatClampNeg) r3) fun M5m =>
  cl (f_X11_looksUp 0 M5m) fun r4 M6m =>
  gd (inb (a1 + 2) 48) <|
  bnd (setI M6m 319 ((a1 + 2).toNatClampNeg) r4) fun M7m =>
  if (M7m.1 319 (a1 + 2).toNatClampNeg) = (M7m.1 319 a1.toNatClampNeg) then
    f_X11_flashLine_b74 a1 0 M7m
  else
    f_X11_flashLine_b74 a1 1 M7m
set_option maxRecDepth 100000 in
set_option maxHeartbeats 4000000 in
theorem b_X11_flashLine {K : Kt} {X : Xt} (hp : St K) (hB : Bx K X { frames := 10, cells := 0, slots := 0, locals := 213 } cX11_flashLine 2 RX11 none) {M1 : Mem} {M : Mem} (hF : f_X11_flashLine M = some M1) : Wt K X (QM K X none M1 0 0) 0 0 M 0 [(0, vr 311)] [] := by
  unfold f_X11_flashLine at hF
  refine w_bipush hB 24 (by decide) dX11_flashLine_0 ?_
  refine w_iconst hB 4 (by decide) dX11_flashLine_2 ?_
  refine w_aload_n hB 0 dX11_flashLine_3 rfl rfl ?_
  refine w_iconst hB 5 (by decide) dX11_flashLine_4 ?_
  obtain ⟨r1, M1m, hc_M1m, hF⟩ := clS hF
  refine w_callV hB (ci := 9) (As := [vi 5]) (st := [vi 4, vi 24]) cw_X11_231 q_1401 q_27 rfl sh_311 (Or.inl hp.1) (c_X11_read hp hc_M1m) ⟨rfl, rfl⟩ (by decide) (by decide) rfl (Nat.le_of_ble_eq_true rfl) dX11_flashLine_5 rfl ?_
  refine w_imul hB dX11_flashLine_8 ?_
  refine w_iadd hB dX11_flashLine_9 ?_
  obtain ⟨a1, e_a1, hF⟩ := bndS hF
  refine w_istore_n hB (L' := [(1, vi a1), (0, vr 311)]) dX11_flashLine_10 rfl (by decide) e_a1 rfl ?_
  refine w_aload_n hB 1 dX11_flashLine_11 rfl rfl ?_
  refine w_getC hB (v := 319) ff_X11_17 sh_311 hp.1 cr_311_17 (by decide) q_1177 dX11_flashLine_12 ?_
  refine w_iload_n hB 0 dX11_flashLine_15 rfl rfl ?_
  refine w_aload_n hB 1 dX11_flashLine_16 rfl rfl ?_
  refine w_iconst hB 0 (by decide) dX11_flashLine_17 ?_
  obtain ⟨r2, M2m, hc_M2m, hF⟩ := clS hF
  refine w_callV hB (ci := 9) (As := [vi 0]) (st := [vi a1, vr 319]) cw_X11_250 q_1452 q_36 rfl sh_311 (Or.inl hp.1) (c_X11_known hp hc_M2m) ⟨rfl, rfl⟩ (by decide) (by decide) rfl (Nat.le_of_ble_eq_true rfl) dX11_flashLine_18 rfl ?_
  obtain ⟨g1, hF⟩ := gdS hF
  obtain ⟨M3m, e_M3m, hF⟩ := bndS hF
  refine w_iast hB sh_319 (Or.inl hp.1) sl_319 g1 e_M3m dX11_flashLine_21 ?_
  refine w_aload_n hB 1 dX11_flashLine_22 rfl rfl ?_
  refine w_getC hB (v := 319) ff_X11_17 sh_311 hp.1 cr_311_17 (by decide) q_1177 dX11_flashLine_23 ?_
  refine w_iload_n hB 0 dX11_flashLine_26 rfl rfl ?_
  refine w_iconst hB 1 (by decide) dX11_flashLine_27 ?_
  refine w_iadd hB dX11_flashLine_28 ?_
  refine w_aload_n hB 1 dX11_flashLine_29 rfl rfl ?_
  refine w_iconst hB 0 (by decide) dX11_flashLine_30 ?_
  refine w_sipush hB 999 (by decide) dX11_flashLine_31 ?_
  obtain ⟨r3, M4m, hc_M4m, hF⟩ := clS hF
  refine w_callV hB (ci := 9) (As := [vi 0, vi 999]) (st := [vi (a1 + 1), vr 319]) cw_X11_246 q_1444 q_34 rfl sh_311 (Or.inl hp.1) (c_X11_number hp hc_M4m) ⟨rfl, rfl⟩ (by decide) (by decide) rfl (Nat.le_of_ble_eq_true rfl) dX11_flashLine_34 rfl ?_
  obtain ⟨g2, hF⟩ := gdS hF
  obtain ⟨M5m, e_M5m, hF⟩ := bndS hF
  refine w_iast hB sh_319 (Or.inl hp.1) sl_319 g2 e_M5m dX11_flashLine_37 ?_
  refine w_aload_n hB 1 dX11_flashLine_38 rfl rfl ?_
  refine w_getC hB (v := 319) ff_X11_17 sh_311 hp.1 cr_311_17 (by decide) q_1177 dX11_flashLine_39 ?_
  refine w_iload_n hB 0 dX11_flashLine_42 rfl rfl ?_
  refine w_iconst hB 2 (by decide) dX11_flashLine_43 ?_
  refine w_iadd hB dX11_flashLine_44 ?_
  refine w_aload_n hB 1 dX11_flashLine_45 rfl rfl ?_
  refine w_iconst hB 0 (by decide) dX11_flashLine_46 ?_
  obtain ⟨r4, M6m, hc_M6m, hF⟩ := clS hF
  refine w_callV hB (ci := 9) (As := [vi 0]) (st := [vi (a1 + 2), vr 319]) cw_X11_240 q_1456 q_37 rfl sh_311 (Or.inl hp.1) (c_X11_looksUp hp hc_M6m) ⟨rfl, rfl⟩ (by decide) (by decide) rfl (Nat.le_of_ble_eq_true rfl) dX11_flashLine_47 rfl ?_
  obtain ⟨g3, hF⟩ := gdS hF
  obtain ⟨M7m, e_M7m, hF⟩ := bndS hF
  refine w_iast hB sh_319 (Or.inl hp.1) sl_319 g3 e_M7m dX11_flashLine_50 ?_
  refine w_aload_n hB 1 dX11_flashLine_51 rfl rfl ?_
  refine w_aload_n hB 1 dX11_flashLine_52 rfl rfl ?_
  refine w_getC hB (v := 319) ff_X11_17 sh_311 hp.1 cr_311_17 (by decide) q_1177 dX11_flashLine_53 ?_
  refine w_iload_n hB 0 dX11_flashLine_56 rfl rfl ?_
  refine w_iconst hB 2 (by decide) dX11_flashLine_57 ?_
  refine w_iadd hB dX11_flashLine_58 ?_
  refine w_iald hB sh_319 (Or.inl hp.1) sl_319 g3 dX11_flashLine_59 ?_
  refine w_aload_n hB 1 dX11_flashLine_60 rfl rfl ?_
  refine w_getC hB (v := 319) ff_X11_17 sh_311 hp.1 cr_311_17 (by decide) q_1177 dX11_flashLine_61 ?_
  refine w_iload_n hB 0 dX11_flashLine_64 rfl rfl ?_
  refine w_iald hB sh_319 (Or.inl hp.1) sl_319 g1 dX11_flashLine_65 ?_
  refine w_icmp_eq hB 73 dX11_flashLine_66 (by decide) (fun hc => ?_) (fun hc => ?_)
  · replace hF := ifT hc hF
    refine w_iconst hB 0 (by decide) dX11_flashLine_73 ?_
    exact Wt.sub (L' := [(0, vr 311), (1, vi a1)]) [1, 0] rfl (b_X11_flashLine_b74 hp hB hF)
  · replace hF := ifF hc hF
    refine w_iconst hB 1 (by decide) dX11_flashLine_69 ?_
    refine w_goto hB 74 dX11_flashLine_70 (by decide) ?_
    exact Wt.sub (L' := [(0, vr 311), (1, vi a1)]) [1, 0] rfl (b_X11_flashLine_b74 hp hB hF)
theorem c_X11_flashLine {K : Kt} {l : Launch} (hp : St K) {M1 : Mem} {M : Mem} (hF : f_X11_flashLine M = some M1) : MT K l yX11_flashLine cX11_flashLine 2 none { frames := 10, cells := 0, slots := 0, locals := 213 } [vr 311] M none M1 0 0 :=
  MT_of (by decide) rfl (Nat.le_of_ble_eq_true rfl) (fun X _ hB _ => b_X11_flashLine hp hB hF)
def f_X11_sideLine (M : Mem) : Option Mem :=
  clv (f_X11_newName 1 M) fun M1m =>
  cl (f_X11_read 1 M1m) fun r1 M2m =>
  cl (f_X11_number 0 9 M2m) fun r2 M3m =>
  gd (inb (4 + r1) 8) <|
  bnd (setI M3m 320 ((4 + r1).toNatClampNeg) r2) fun M4m =>
  if (M4m.1 311 9) = 0 then
    bnd (setI M4m 313 7 ((M4m.1 313 7) + 1)) fun M5m =>
    some M5m
  else
    some M4m
set_option maxRecDepth 100000 in
set_option maxHeartbeats 4000000 in
theorem b_X11_sideLine {K : Kt} {X : Xt} (hp : St K) (hB : Bx K X { frames := 9, cells := 0, slots := 0, locals := 193 } cX11_sideLine 1 RX11 none) {M1 : Mem} {M : Mem} (hF : f_X11_sideLine M = some M1) : Wt K X (QM K X none M1 0 0) 0 0 M 0 [(0, vr 311)] [] := by
  unfold f_X11_sideLine at hF
  refine w_aload_n hB 0 dX11_sideLine_0 rfl rfl ?_
  refine w_iconst hB 1 (by decide) dX11_sideLine_1 ?_
  obtain ⟨M1m, hc_M1m, hF⟩ := clvS hF
  refine w_callV hB (ci := 9) (As := [vi 1]) (st := []) cw_X11_243 q_1413 q_30 rfl sh_311 (Or.inl hp.1) (c_X11_newName hp hc_M1m) ⟨rfl, rfl⟩ (by decide) (by decide) rfl (Nat.le_of_ble_eq_true rfl) dX11_sideLine_2 rfl ?_
  refine w_aload_n hB 0 dX11_sideLine_5 rfl rfl ?_
  refine w_getC hB (v := 320) ff_X11_18 sh_311 hp.1 cr_311_18 (by decide) q_1178 dX11_sideLine_6 ?_
  refine w_iconst hB 4 (by decide) dX11_sideLine_9 ?_
  refine w_aload_n hB 0 dX11_sideLine_10 rfl rfl ?_
  refine w_iconst hB 1 (by decide) dX11_sideLine_11 ?_
  obtain ⟨r1, M2m, hc_M2m, hF⟩ := clS hF
  refine w_callV hB (ci := 9) (As := [vi 1]) (st := [vi 4, vr 320]) cw_X11_231 q_1401 q_27 rfl sh_311 (Or.inl hp.1) (c_X11_read hp hc_M2m) ⟨rfl, rfl⟩ (by decide) (by decide) rfl (Nat.le_of_ble_eq_true rfl) dX11_sideLine_12 rfl ?_
  refine w_iadd hB dX11_sideLine_15 ?_
  refine w_aload_n hB 0 dX11_sideLine_16 rfl rfl ?_
  refine w_iconst hB 0 (by decide) dX11_sideLine_17 ?_
  refine w_bipush hB 9 (by decide) dX11_sideLine_18 ?_
  obtain ⟨r2, M3m, hc_M3m, hF⟩ := clS hF
  refine w_callV hB (ci := 9) (As := [vi 0, vi 9]) (st := [vi (4 + r1), vr 320]) cw_X11_246 q_1444 q_34 rfl sh_311 (Or.inl hp.1) (c_X11_number hp hc_M3m) ⟨rfl, rfl⟩ (by decide) (by decide) rfl (Nat.le_of_ble_eq_true rfl) dX11_sideLine_20 rfl ?_
  obtain ⟨g1, hF⟩ := gdS hF
  obtain ⟨M4m, e_M4m, hF⟩ := bndS hF
  refine w_iast hB sh_320 (Or.inl hp.1) sl_320 g1 e_M4m dX11_sideLine_23 ?_
  refine w_aload_n hB 0 dX11_sideLine_24 rfl rfl ?_
  refine w_getI hB ff_X11_9 sh_311 (Or.inl hp.1) q_1169 dX11_sideLine_25 ?_
  refine w_if_ne hB 42 dX11_sideLine_28 (by decide) (fun hc => ?_) (fun hc => ?_)
  · replace hF := ifF hc hF
    cases hF
    exact w_vret hB dX11_sideLine_42
  · replace hF := ifT hc hF
    refine w_aload_n hB 0 dX11_sideLine_31 rfl rfl ?_
    refine w_getC hB (v := 313) ff_X11_11 sh_311 hp.1 cr_311_11 (by decide) q_1171 dX11_sideLine_32 ?_
    refine w_bipush hB 7 (by decide) dX11_sideLine_35 ?_
    refine w_dup2 hB rfl rfl dX11_sideLine_37 ?_
    refine w_iald hB sh_313 (Or.inl hp.1) sl_313 (by decide) dX11_sideLine_38 ?_
    rw [show (7 : Int32).toNatClampNeg = 7 by decide]
    refine w_iconst hB 1 (by decide) dX11_sideLine_39 ?_
    refine w_iadd hB dX11_sideLine_40 ?_
    obtain ⟨M5m, e_M5m, hF⟩ := bndS hF
    refine w_iast hB sh_313 (Or.inl hp.1) sl_313 (by decide) e_M5m dX11_sideLine_41 ?_
    cases hF
    exact w_vret hB dX11_sideLine_42
theorem c_X11_sideLine {K : Kt} {l : Launch} (hp : St K) {M1 : Mem} {M : Mem} (hF : f_X11_sideLine M = some M1) : MT K l yX11_sideLine cX11_sideLine 1 none { frames := 9, cells := 0, slots := 0, locals := 193 } [vr 311] M none M1 0 0 :=
  MT_of (by decide) rfl (Nat.le_of_ble_eq_true rfl) (fun X _ hB _ => b_X11_sideLine hp hB hF)
def f_X11_pair_b77 (x1 : Int32) (x2 : Int32) (xs1 : Int32) (M : Mem) : Option Mem :=
  cl (f_X11_must xs1 3 M) fun r1 M1m =>
  if r1 = 0 then
    some M1m
  else
    gd (inb x2 30) <|
    bnd (setI M1m 326 (x2.toNatClampNeg) (M1m.1 311 7)) fun M2m =>
    gd (inb x1 10) <|
    bnd (setI M2m 324 (x1.toNatClampNeg) ((M2m.1 324 x1.toNatClampNeg) + 1)) fun M3m =>
    clv (f_X11_steps M3m) fun M4m =>
    some M4m
set_option maxRecDepth 100000 in
set_option maxHeartbeats 4000000 in
theorem b_X11_pair_b77 {K : Kt} {X : Xt} (hp : St K) (hB : Bx K X { frames := 7, cells := 0, slots := 0, locals := 150 } cX11_pair 3 RX11 none) {M1 : Mem} {x1 : Int32} {x2 : Int32} {xs1 : Int32} {M : Mem} (hF : f_X11_pair_b77 x1 x2 xs1 M = some M1) : Wt K X (QM K X none M1 0 0) 0 0 M 77 [(0, vr 311), (1, vi x1), (2, vi x2)] [vi xs1, vr 311] := by
  unfold f_X11_pair_b77 at hF
  refine w_iconst hB 3 (by decide) dX11_pair_77 ?_
  obtain ⟨r1, M1m, hc_M1m, hF⟩ := clS hF
  refine w_callV hB (ci := 9) (As := [vi xs1, vi 3]) (st := []) cw_X11_224 q_1405 q_28 rfl sh_311 (Or.inl hp.1) (c_X11_must hp hc_M1m) ⟨rfl, rfl⟩ (by decide) (by decide) rfl (Nat.le_of_ble_eq_true rfl) dX11_pair_78 rfl ?_
  refine w_if_ne hB 85 dX11_pair_81 (by decide) (fun hc => ?_) (fun hc => ?_)
  · replace hF := ifF hc hF
    refine w_aload_n hB 0 dX11_pair_85 rfl rfl ?_
    refine w_getC hB (v := 326) ff_X11_24 sh_311 hp.1 cr_311_24 (by decide) q_1184 dX11_pair_86 ?_
    refine w_iload_n hB 2 dX11_pair_89 rfl rfl ?_
    refine w_aload_n hB 0 dX11_pair_90 rfl rfl ?_
    refine w_getI hB ff_X11_7 sh_311 (Or.inl hp.1) q_1167 dX11_pair_91 ?_
    obtain ⟨g1, hF⟩ := gdS hF
    obtain ⟨M2m, e_M2m, hF⟩ := bndS hF
    refine w_iast hB sh_326 (Or.inl hp.1) sl_326 g1 e_M2m dX11_pair_94 ?_
    refine w_aload_n hB 0 dX11_pair_95 rfl rfl ?_
    refine w_getC hB (v := 324) ff_X11_22 sh_311 hp.1 cr_311_22 (by decide) q_1182 dX11_pair_96 ?_
    refine w_iload_n hB 1 dX11_pair_99 rfl rfl ?_
    refine w_dup2 hB rfl rfl dX11_pair_100 ?_
    obtain ⟨g2, hF⟩ := gdS hF
    refine w_iald hB sh_324 (Or.inl hp.1) sl_324 g2 dX11_pair_101 ?_
    refine w_iconst hB 1 (by decide) dX11_pair_102 ?_
    refine w_iadd hB dX11_pair_103 ?_
    obtain ⟨M3m, e_M3m, hF⟩ := bndS hF
    refine w_iast hB sh_324 (Or.inl hp.1) sl_324 g2 e_M3m dX11_pair_104 ?_
    refine w_aload_n hB 0 dX11_pair_105 rfl rfl ?_
    obtain ⟨M4m, hc_M4m, hF⟩ := clvS hF
    refine w_callV hB (ci := 9) (As := []) (st := []) cw_X11_228 q_1324 q_22 rfl sh_311 (Or.inl hp.1) (c_X11_steps hp hc_M4m) ⟨rfl, rfl⟩ (by decide) (by decide) rfl (Nat.le_of_ble_eq_true rfl) dX11_pair_106 rfl ?_
    cases hF
    exact w_vret hB dX11_pair_109
  · replace hF := ifT hc hF
    cases hF
    exact w_vret hB dX11_pair_84
def f_X11_pair_b76 (x1 : Int32) (x2 : Int32) (M : Mem) : Option Mem :=
  f_X11_pair_b77 x1 x2 0 M
set_option maxRecDepth 100000 in
set_option maxHeartbeats 4000000 in
theorem b_X11_pair_b76 {K : Kt} {X : Xt} (hp : St K) (hB : Bx K X { frames := 7, cells := 0, slots := 0, locals := 150 } cX11_pair 3 RX11 none) {M1 : Mem} {x1 : Int32} {x2 : Int32} {M : Mem} (hF : f_X11_pair_b76 x1 x2 M = some M1) : Wt K X (QM K X none M1 0 0) 0 0 M 76 [(0, vr 311), (1, vi x1), (2, vi x2)] [vr 311] := by
  unfold f_X11_pair_b76 at hF
  refine w_iconst hB 0 (by decide) dX11_pair_76 ?_
  exact Wt.sub (L' := [(0, vr 311), (1, vi x1), (2, vi x2)]) [0, 1, 2] rfl (b_X11_pair_b77 hp hB hF)
def f_X11_pair_b43 (x1 : Int32) (x2 : Int32) (xs1 : Int32) (M : Mem) : Option Mem :=
  cl (f_X11_must xs1 1 M) fun r1 M1m =>
  if r1 = 0 then
    some M1m
  else
    if 4 ≤ (M1m.1 311 7) then
      f_X11_pair_b76 x1 x2 M1m
    else
      gd (inb x2 30) <|
      if (M1m.1 311 7) = (M1m.1 325 x2.toNatClampNeg) then
        f_X11_pair_b76 x1 x2 M1m
      else
        f_X11_pair_b77 x1 x2 1 M1m
set_option maxRecDepth 100000 in
set_option maxHeartbeats 4000000 in
theorem b_X11_pair_b43 {K : Kt} {X : Xt} (hp : St K) (hB : Bx K X { frames := 7, cells := 0, slots := 0, locals := 150 } cX11_pair 3 RX11 none) {M1 : Mem} {x1 : Int32} {x2 : Int32} {xs1 : Int32} {M : Mem} (hF : f_X11_pair_b43 x1 x2 xs1 M = some M1) : Wt K X (QM K X none M1 0 0) 0 0 M 43 [(0, vr 311), (1, vi x1), (2, vi x2)] [vi xs1, vr 311] := by
  unfold f_X11_pair_b43 at hF
  refine w_iconst hB 1 (by decide) dX11_pair_43 ?_
  obtain ⟨r1, M1m, hc_M1m, hF⟩ := clS hF
  refine w_callV hB (ci := 9) (As := [vi xs1, vi 1]) (st := []) cw_X11_224 q_1405 q_28 rfl sh_311 (Or.inl hp.1) (c_X11_must hp hc_M1m) ⟨rfl, rfl⟩ (by decide) (by decide) rfl (Nat.le_of_ble_eq_true rfl) dX11_pair_44 rfl ?_
  refine w_if_eq hB 84 dX11_pair_47 (by decide) (fun hc => ?_) (fun hc => ?_)
  · replace hF := ifT hc hF
    cases hF
    exact w_vret hB dX11_pair_84
  · replace hF := ifF hc hF
    refine w_aload_n hB 0 dX11_pair_50 rfl rfl ?_
    refine w_aload_n hB 0 dX11_pair_51 rfl rfl ?_
    refine w_getI hB ff_X11_7 sh_311 (Or.inl hp.1) q_1167 dX11_pair_52 ?_
    refine w_iconst hB 4 (by decide) dX11_pair_55 ?_
    refine w_icmp_ge hB 76 dX11_pair_56 (by decide) (fun hc => ?_) (fun hc => ?_)
    · replace hF := ifT hc hF
      exact Wt.sub (L' := [(0, vr 311), (1, vi x1), (2, vi x2)]) [0, 1, 2] rfl (b_X11_pair_b76 hp hB hF)
    · replace hF := ifF hc hF
      refine w_aload_n hB 0 dX11_pair_59 rfl rfl ?_
      refine w_getI hB ff_X11_7 sh_311 (Or.inl hp.1) q_1167 dX11_pair_60 ?_
      refine w_aload_n hB 0 dX11_pair_63 rfl rfl ?_
      refine w_getC hB (v := 325) ff_X11_23 sh_311 hp.1 cr_311_23 (by decide) q_1183 dX11_pair_64 ?_
      refine w_iload_n hB 2 dX11_pair_67 rfl rfl ?_
      obtain ⟨g1, hF⟩ := gdS hF
      refine w_iald hB sh_325 (Or.inl hp.1) sl_325 g1 dX11_pair_68 ?_
      refine w_icmp_eq hB 76 dX11_pair_69 (by decide) (fun hc => ?_) (fun hc => ?_)
      · replace hF := ifT hc hF
        exact Wt.sub (L' := [(0, vr 311), (1, vi x1), (2, vi x2)]) [0, 1, 2] rfl (b_X11_pair_b76 hp hB hF)
      · replace hF := ifF hc hF
        refine w_iconst hB 1 (by decide) dX11_pair_72 ?_
        refine w_goto hB 77 dX11_pair_73 (by decide) ?_
        exact Wt.sub (L' := [(0, vr 311), (1, vi x1), (2, vi x2)]) [0, 1, 2] rfl (b_X11_pair_b77 hp hB hF)
def f_X11_pair (x1 : Int32) (M : Mem) : Option Mem :=
  gd (inb x1 10) <|
  bnd ((3 * x1) + (M.1 324 x1.toNatClampNeg)) fun a1 =>
  cl (f_X11_number 0 3 M) fun r1 M1m =>
  gd (inb a1 30) <|
  bnd (setI M1m 325 (a1.toNatClampNeg) r1) fun M2m =>
  clv (f_X11_takesWord 41 M2m) fun M3m =>
  if (M3m.1 311 6) = 2 then
    f_X11_pair_b43 x1 a1 1 M3m
  else
    f_X11_pair_b43 x1 a1 0 M3m
set_option maxRecDepth 100000 in
set_option maxHeartbeats 4000000 in
theorem b_X11_pair {K : Kt} {X : Xt} (hp : St K) (hB : Bx K X { frames := 7, cells := 0, slots := 0, locals := 150 } cX11_pair 3 RX11 none) {M1 : Mem} {x1 : Int32} {M : Mem} (hF : f_X11_pair x1 M = some M1) : Wt K X (QM K X none M1 0 0) 0 0 M 0 [(0, vr 311), (1, vi x1)] [] := by
  unfold f_X11_pair at hF
  refine w_iconst hB 3 (by decide) dX11_pair_0 ?_
  refine w_iload_n hB 1 dX11_pair_1 rfl rfl ?_
  refine w_imul hB dX11_pair_2 ?_
  refine w_aload_n hB 0 dX11_pair_3 rfl rfl ?_
  refine w_getC hB (v := 324) ff_X11_22 sh_311 hp.1 cr_311_22 (by decide) q_1182 dX11_pair_4 ?_
  refine w_iload_n hB 1 dX11_pair_7 rfl rfl ?_
  obtain ⟨g1, hF⟩ := gdS hF
  refine w_iald hB sh_324 (Or.inl hp.1) sl_324 g1 dX11_pair_8 ?_
  refine w_iadd hB dX11_pair_9 ?_
  obtain ⟨a1, e_a1, hF⟩ := bndS hF
  refine w_istore_n hB (L' := [(2, vi a1), (0, vr 311), (1, vi x1)]) dX11_pair_10 rfl (by decide) e_a1 rfl ?_
  refine w_aload_n hB 1 dX11_pair_11 rfl rfl ?_
  refine w_getC hB (v := 325) ff_X11_23 sh_311 hp.1 cr_311_23 (by decide) q_1183 dX11_pair_12 ?_
  refine w_iload_n hB 0 dX11_pair_15 rfl rfl ?_
  refine w_aload_n hB 1 dX11_pair_16 rfl rfl ?_
  refine w_iconst hB 0 (by decide) dX11_pair_17 ?_
  refine w_iconst hB 3 (by decide) dX11_pair_18 ?_
  obtain ⟨r1, M1m, hc_M1m, hF⟩ := clS hF
  refine w_callV hB (ci := 9) (As := [vi 0, vi 3]) (st := [vi a1, vr 325]) cw_X11_246 q_1444 q_34 rfl sh_311 (Or.inl hp.1) (c_X11_number hp hc_M1m) ⟨rfl, rfl⟩ (by decide) (by decide) rfl (Nat.le_of_ble_eq_true rfl) dX11_pair_19 rfl ?_
  obtain ⟨g2, hF⟩ := gdS hF
  obtain ⟨M2m, e_M2m, hF⟩ := bndS hF
  refine w_iast hB sh_325 (Or.inl hp.1) sl_325 g2 e_M2m dX11_pair_22 ?_
  refine w_aload_n hB 1 dX11_pair_23 rfl rfl ?_
  refine w_ldcs hB hp 41 (by decide) dX11_pair_24 ?_
  obtain ⟨M3m, hc_M3m, hF⟩ := clvS hF
  refine w_callV hB (ci := 9) (As := [vr 41]) (st := []) cw_X11_253 q_1476 q_42 rfl sh_311 (Or.inl hp.1) (c_X11_takesWord hp hc_M3m) ⟨rfl, rfl⟩ (by decide) (by decide) rfl (Nat.le_of_ble_eq_true rfl) dX11_pair_26 rfl ?_
  refine w_aload_n hB 1 dX11_pair_29 rfl rfl ?_
  refine w_aload_n hB 1 dX11_pair_30 rfl rfl ?_
  refine w_getI hB ff_X11_6 sh_311 (Or.inl hp.1) q_1166 dX11_pair_31 ?_
  refine w_iconst hB 2 (by decide) dX11_pair_34 ?_
  refine w_icmp_ne hB 42 dX11_pair_35 (by decide) (fun hc => ?_) (fun hc => ?_)
  · replace hF := ifF hc hF
    refine w_iconst hB 0 (by decide) dX11_pair_42 ?_
    exact Wt.sub (L' := [(0, vr 311), (1, vi x1), (2, vi a1)]) [1, 2, 0] rfl (b_X11_pair_b43 hp hB hF)
  · replace hF := ifT hc hF
    refine w_iconst hB 1 (by decide) dX11_pair_38 ?_
    refine w_goto hB 43 dX11_pair_39 (by decide) ?_
    exact Wt.sub (L' := [(0, vr 311), (1, vi x1), (2, vi a1)]) [1, 2, 0] rfl (b_X11_pair_b43 hp hB hF)
theorem c_X11_pair {K : Kt} {l : Launch} (hp : St K) {M1 : Mem} {x1 : Int32} {M : Mem} (hF : f_X11_pair x1 M = some M1) : MT K l yX11_pair cX11_pair 3 none { frames := 7, cells := 0, slots := 0, locals := 150 } [vr 311, vi x1] M none M1 0 0 :=
  MT_of (by decide) rfl (Nat.le_of_ble_eq_true rfl) (fun X _ hB _ => b_X11_pair hp hB hF)
def f_X11_kindLine_b94 (rec69 : Int32 → Mem → Option Mem) (x1 : Int32) (xs1 : Int32) (M : Mem) : Option Mem :=
  cl (f_X11_must xs1 5 M) fun r1 M1m =>
  if r1 = 0 then
    some M1m
  else
    clv (f_X11_steps M1m) fun M2m =>
    clv (f_X11_pair x1 M2m) fun M3m =>
    rec69 x1 M3m
set_option maxRecDepth 100000 in
set_option maxHeartbeats 4000000 in
theorem b_X11_kindLine_b94 {K : Kt} {X : Xt} (hp : St K) (hB : Bx K X { frames := 9, cells := 0, slots := 0, locals := 193 } cX11_kindLine 2 RX11 none) {M1 : Mem} {rec69 : Int32 → Mem → Option Mem}
    (h69 : ∀ x1 M, rec69 x1 M = some M1 → Wt K X (QM K X none M1 0 0) 0 0 M 69 [(0, vr 311), (1, vi x1)] []) {x1 : Int32} {xs1 : Int32} {M : Mem} (hF : f_X11_kindLine_b94 rec69 x1 xs1 M = some M1) : Wt K X (QM K X none M1 0 0) 0 0 M 94 [(0, vr 311), (1, vi x1)] [vi xs1, vr 311] := by
  unfold f_X11_kindLine_b94 at hF
  refine w_iconst hB 5 (by decide) dX11_kindLine_94 ?_
  obtain ⟨r1, M1m, hc_M1m, hF⟩ := clS hF
  refine w_callV hB (ci := 9) (As := [vi xs1, vi 5]) (st := []) cw_X11_224 q_1405 q_28 rfl sh_311 (Or.inl hp.1) (c_X11_must hp hc_M1m) ⟨rfl, rfl⟩ (by decide) (by decide) rfl (Nat.le_of_ble_eq_true rfl) dX11_kindLine_95 rfl ?_
  refine w_if_ne hB 102 dX11_kindLine_98 (by decide) (fun hc => ?_) (fun hc => ?_)
  · replace hF := ifF hc hF
    refine w_aload_n hB 0 dX11_kindLine_102 rfl rfl ?_
    obtain ⟨M2m, hc_M2m, hF⟩ := clvS hF
    refine w_callV hB (ci := 9) (As := []) (st := []) cw_X11_228 q_1324 q_22 rfl sh_311 (Or.inl hp.1) (c_X11_steps hp hc_M2m) ⟨rfl, rfl⟩ (by decide) (by decide) rfl (Nat.le_of_ble_eq_true rfl) dX11_kindLine_103 rfl ?_
    refine w_aload_n hB 0 dX11_kindLine_106 rfl rfl ?_
    refine w_iload_n hB 1 dX11_kindLine_107 rfl rfl ?_
    obtain ⟨M3m, hc_M3m, hF⟩ := clvS hF
    refine w_callV hB (ci := 9) (As := [vi x1]) (st := []) cw_X11_260 q_1472 q_41 rfl sh_311 (Or.inl hp.1) (c_X11_pair hp hc_M3m) ⟨rfl, rfl⟩ (by decide) (by decide) rfl (Nat.le_of_ble_eq_true rfl) dX11_kindLine_108 rfl ?_
    refine w_goto hB 69 dX11_kindLine_111 (by decide) ?_
    exact Wt.sub (L' := [(0, vr 311), (1, vi x1)]) [0, 1] rfl (h69 _ M3m hF)
  · replace hF := ifT hc hF
    cases hF
    exact w_vret hB dX11_kindLine_101
def f_X11_kindLine_b69_s (rec69 : Int32 → Mem → Option Mem) (x1 : Int32) (M : Mem) : Option Mem :=
  cl (f_X11_is 40 M) fun r1 M1m =>
  if r1 = 0 then
    if (M1m.1 311 9) = 0 then
      bnd (setI M1m 313 8 ((M1m.1 313 8) + 1)) fun M2m =>
      some M2m
    else
      some M1m
  else
    gd (inb x1 10) <|
    if 3 ≤ (M1m.1 324 x1.toNatClampNeg) then
      f_X11_kindLine_b94 rec69 x1 0 M1m
    else
      f_X11_kindLine_b94 rec69 x1 1 M1m
set_option maxRecDepth 100000 in
set_option maxHeartbeats 4000000 in
theorem b_X11_kindLine_b69_s {K : Kt} {X : Xt} (hp : St K) (hB : Bx K X { frames := 9, cells := 0, slots := 0, locals := 193 } cX11_kindLine 2 RX11 none) {M1 : Mem} {rec69 : Int32 → Mem → Option Mem}
    (h69 : ∀ x1 M, rec69 x1 M = some M1 → Wt K X (QM K X none M1 0 0) 0 0 M 69 [(0, vr 311), (1, vi x1)] []) {x1 : Int32} {M : Mem} (hF : f_X11_kindLine_b69_s rec69 x1 M = some M1) : Wt K X (QM K X none M1 0 0) 0 0 M 69 [(0, vr 311), (1, vi x1)] [] := by
  unfold f_X11_kindLine_b69_s at hF
  refine w_aload_n hB 0 dX11_kindLine_69 rfl rfl ?_
  refine w_ldcs hB hp 40 (by decide) dX11_kindLine_70 ?_
  obtain ⟨r1, M1m, hc_M1m, hF⟩ := clS hF
  refine w_callV hB (ci := 9) (As := [vr 40]) (st := []) cw_X11_188 q_1342 q_25 rfl sh_311 (Or.inl hp.1) (c_X11_is hp hc_M1m) ⟨rfl, rfl⟩ (by decide) (by decide) rfl (Nat.le_of_ble_eq_true rfl) dX11_kindLine_72 rfl ?_
  refine w_if_eq hB 114 dX11_kindLine_75 (by decide) (fun hc => ?_) (fun hc => ?_)
  · replace hF := ifT hc hF
    refine w_aload_n hB 0 dX11_kindLine_114 rfl rfl ?_
    refine w_getI hB ff_X11_9 sh_311 (Or.inl hp.1) q_1169 dX11_kindLine_115 ?_
    refine w_if_ne hB 132 dX11_kindLine_118 (by decide) (fun hc => ?_) (fun hc => ?_)
    · replace hF := ifF hc hF
      cases hF
      exact w_vret hB dX11_kindLine_132
    · replace hF := ifT hc hF
      refine w_aload_n hB 0 dX11_kindLine_121 rfl rfl ?_
      refine w_getC hB (v := 313) ff_X11_11 sh_311 hp.1 cr_311_11 (by decide) q_1171 dX11_kindLine_122 ?_
      refine w_bipush hB 8 (by decide) dX11_kindLine_125 ?_
      refine w_dup2 hB rfl rfl dX11_kindLine_127 ?_
      refine w_iald hB sh_313 (Or.inl hp.1) sl_313 (by decide) dX11_kindLine_128 ?_
      rw [show (8 : Int32).toNatClampNeg = 8 by decide]
      refine w_iconst hB 1 (by decide) dX11_kindLine_129 ?_
      refine w_iadd hB dX11_kindLine_130 ?_
      obtain ⟨M2m, e_M2m, hF⟩ := bndS hF
      refine w_iast hB sh_313 (Or.inl hp.1) sl_313 (by decide) e_M2m dX11_kindLine_131 ?_
      cases hF
      exact w_vret hB dX11_kindLine_132
  · replace hF := ifF hc hF
    refine w_aload_n hB 0 dX11_kindLine_78 rfl rfl ?_
    refine w_aload_n hB 0 dX11_kindLine_79 rfl rfl ?_
    refine w_getC hB (v := 324) ff_X11_22 sh_311 hp.1 cr_311_22 (by decide) q_1182 dX11_kindLine_80 ?_
    refine w_iload_n hB 1 dX11_kindLine_83 rfl rfl ?_
    obtain ⟨g1, hF⟩ := gdS hF
    refine w_iald hB sh_324 (Or.inl hp.1) sl_324 g1 dX11_kindLine_84 ?_
    refine w_iconst hB 3 (by decide) dX11_kindLine_85 ?_
    refine w_icmp_ge hB 93 dX11_kindLine_86 (by decide) (fun hc => ?_) (fun hc => ?_)
    · replace hF := ifT hc hF
      refine w_iconst hB 0 (by decide) dX11_kindLine_93 ?_
      exact Wt.sub (L' := [(0, vr 311), (1, vi x1)]) [0, 1] rfl (b_X11_kindLine_b94 hp hB h69 hF)
    · replace hF := ifF hc hF
      refine w_iconst hB 1 (by decide) dX11_kindLine_89 ?_
      refine w_goto hB 94 dX11_kindLine_90 (by decide) ?_
      exact Wt.sub (L' := [(0, vr 311), (1, vi x1)]) [0, 1] rfl (b_X11_kindLine_b94 hp hB h69 hF)
def f_X11_kindLine_b69 (k : Nat) : Int32 → Mem → Option Mem := lpN (fun _ _ => none) (f_X11_kindLine_b69_s) k
theorem b_X11_kindLine_b69 {K : Kt} {X : Xt} (hp : St K) (hB : Bx K X { frames := 9, cells := 0, slots := 0, locals := 193 } cX11_kindLine 2 RX11 none) {M1 : Mem} (k : Nat) : ∀ (x1 : Int32) M, f_X11_kindLine_b69 k x1 M = some M1 → Wt K X (QM K X none M1 0 0) 0 0 M 69 [(0, vr 311), (1, vi x1)] [] := by
  refine lpN_ind (P := fun (f : Int32 → Mem → Option Mem) => ∀ (x1 : Int32) M, f x1 M = some M1 → Wt K X (QM K X none M1 0 0) 0 0 M 69 [(0, vr 311), (1, vi x1)] []) (fun _ _ h => by cases h) (fun f hf x1 M hF => ?_) k
  exact b_X11_kindLine_b69_s hp hB hf hF
def f_X11_kindLine (M : Mem) : Option Mem :=
  clv (f_X11_newName 2 M) fun M1m =>
  cl (f_X11_read 2 M1m) fun r1 M2m =>
  bnd (5 + r1) fun a1 =>
  cl (f_X11_number 1 60 M2m) fun r2 M3m =>
  gd (inb a1 10) <|
  bnd (setI M3m 321 (a1.toNatClampNeg) r2) fun M4m =>
  cl (f_X11_maybe 38 M4m) fun r3 M5m =>
  bnd (setI M5m 322 (a1.toNatClampNeg) (vp_nar .boolean r3)) fun M6m =>
  cl (f_X11_maybe 39 M6m) fun r4 M7m =>
  bnd (setI M7m 323 (a1.toNatClampNeg) (vp_nar .boolean r4)) fun M8m =>
  bnd (setI M8m 324 (a1.toNatClampNeg) 0) fun M9m =>
  if (M9m.1 311 9) = 0 then
    clv (f_X11_pair a1 M9m) fun M10m =>
    f_X11_kindLine_b69 fuel a1 M10m
  else
    f_X11_kindLine_b69 fuel a1 M9m
set_option maxRecDepth 100000 in
set_option maxHeartbeats 4000000 in
theorem b_X11_kindLine {K : Kt} {X : Xt} (hp : St K) (hB : Bx K X { frames := 9, cells := 0, slots := 0, locals := 193 } cX11_kindLine 2 RX11 none) {M1 : Mem} {M : Mem} (hF : f_X11_kindLine M = some M1) : Wt K X (QM K X none M1 0 0) 0 0 M 0 [(0, vr 311)] [] := by
  unfold f_X11_kindLine at hF
  refine w_aload_n hB 0 dX11_kindLine_0 rfl rfl ?_
  refine w_iconst hB 2 (by decide) dX11_kindLine_1 ?_
  obtain ⟨M1m, hc_M1m, hF⟩ := clvS hF
  refine w_callV hB (ci := 9) (As := [vi 2]) (st := []) cw_X11_243 q_1413 q_30 rfl sh_311 (Or.inl hp.1) (c_X11_newName hp hc_M1m) ⟨rfl, rfl⟩ (by decide) (by decide) rfl (Nat.le_of_ble_eq_true rfl) dX11_kindLine_2 rfl ?_
  refine w_iconst hB 5 (by decide) dX11_kindLine_5 ?_
  refine w_aload_n hB 0 dX11_kindLine_6 rfl rfl ?_
  refine w_iconst hB 2 (by decide) dX11_kindLine_7 ?_
  obtain ⟨r1, M2m, hc_M2m, hF⟩ := clS hF
  refine w_callV hB (ci := 9) (As := [vi 2]) (st := [vi 5]) cw_X11_231 q_1401 q_27 rfl sh_311 (Or.inl hp.1) (c_X11_read hp hc_M2m) ⟨rfl, rfl⟩ (by decide) (by decide) rfl (Nat.le_of_ble_eq_true rfl) dX11_kindLine_8 rfl ?_
  refine w_iadd hB dX11_kindLine_11 ?_
  obtain ⟨a1, e_a1, hF⟩ := bndS hF
  refine w_istore_n hB (L' := [(1, vi a1), (0, vr 311)]) dX11_kindLine_12 rfl (by decide) e_a1 rfl ?_
  refine w_aload_n hB 1 dX11_kindLine_13 rfl rfl ?_
  refine w_getC hB (v := 321) ff_X11_19 sh_311 hp.1 cr_311_19 (by decide) q_1179 dX11_kindLine_14 ?_
  refine w_iload_n hB 0 dX11_kindLine_17 rfl rfl ?_
  refine w_aload_n hB 1 dX11_kindLine_18 rfl rfl ?_
  refine w_iconst hB 1 (by decide) dX11_kindLine_19 ?_
  refine w_bipush hB 60 (by decide) dX11_kindLine_20 ?_
  obtain ⟨r2, M3m, hc_M3m, hF⟩ := clS hF
  refine w_callV hB (ci := 9) (As := [vi 1, vi 60]) (st := [vi a1, vr 321]) cw_X11_246 q_1444 q_34 rfl sh_311 (Or.inl hp.1) (c_X11_number hp hc_M3m) ⟨rfl, rfl⟩ (by decide) (by decide) rfl (Nat.le_of_ble_eq_true rfl) dX11_kindLine_22 rfl ?_
  obtain ⟨g1, hF⟩ := gdS hF
  obtain ⟨M4m, e_M4m, hF⟩ := bndS hF
  refine w_iast hB sh_321 (Or.inl hp.1) sl_321 g1 e_M4m dX11_kindLine_25 ?_
  refine w_aload_n hB 1 dX11_kindLine_26 rfl rfl ?_
  refine w_getC hB (v := 322) ff_X11_20 sh_311 hp.1 cr_311_20 (by decide) q_1180 dX11_kindLine_27 ?_
  refine w_iload_n hB 0 dX11_kindLine_30 rfl rfl ?_
  refine w_aload_n hB 1 dX11_kindLine_31 rfl rfl ?_
  refine w_ldcs hB hp 38 (by decide) dX11_kindLine_32 ?_
  obtain ⟨r3, M5m, hc_M5m, hF⟩ := clS hF
  refine w_callV hB (ci := 9) (As := [vr 38]) (st := [vi a1, vr 322]) cw_X11_257 q_1468 q_40 rfl sh_311 (Or.inl hp.1) (c_X11_maybe hp hc_M5m) ⟨rfl, rfl⟩ (by decide) (by decide) rfl (Nat.le_of_ble_eq_true rfl) dX11_kindLine_34 rfl ?_
  obtain ⟨M6m, e_M6m, hF⟩ := bndS hF
  refine w_zast hB sh_322 (Or.inl hp.1) sl_322 g1 e_M6m dX11_kindLine_37 ?_
  refine w_aload_n hB 1 dX11_kindLine_38 rfl rfl ?_
  refine w_getC hB (v := 323) ff_X11_21 sh_311 hp.1 cr_311_21 (by decide) q_1181 dX11_kindLine_39 ?_
  refine w_iload_n hB 0 dX11_kindLine_42 rfl rfl ?_
  refine w_aload_n hB 1 dX11_kindLine_43 rfl rfl ?_
  refine w_ldcs hB hp 39 (by decide) dX11_kindLine_44 ?_
  obtain ⟨r4, M7m, hc_M7m, hF⟩ := clS hF
  refine w_callV hB (ci := 9) (As := [vr 39]) (st := [vi a1, vr 323]) cw_X11_257 q_1468 q_40 rfl sh_311 (Or.inl hp.1) (c_X11_maybe hp hc_M7m) ⟨rfl, rfl⟩ (by decide) (by decide) rfl (Nat.le_of_ble_eq_true rfl) dX11_kindLine_46 rfl ?_
  obtain ⟨M8m, e_M8m, hF⟩ := bndS hF
  refine w_zast hB sh_323 (Or.inl hp.1) sl_323 g1 e_M8m dX11_kindLine_49 ?_
  refine w_aload_n hB 1 dX11_kindLine_50 rfl rfl ?_
  refine w_getC hB (v := 324) ff_X11_22 sh_311 hp.1 cr_311_22 (by decide) q_1182 dX11_kindLine_51 ?_
  refine w_iload_n hB 0 dX11_kindLine_54 rfl rfl ?_
  refine w_iconst hB 0 (by decide) dX11_kindLine_55 ?_
  obtain ⟨M9m, e_M9m, hF⟩ := bndS hF
  refine w_iast hB sh_324 (Or.inl hp.1) sl_324 g1 e_M9m dX11_kindLine_56 ?_
  refine w_aload_n hB 1 dX11_kindLine_57 rfl rfl ?_
  refine w_getI hB ff_X11_9 sh_311 (Or.inl hp.1) q_1169 dX11_kindLine_58 ?_
  refine w_if_ne hB 69 dX11_kindLine_61 (by decide) (fun hc => ?_) (fun hc => ?_)
  · replace hF := ifF hc hF
    exact Wt.sub (L' := [(0, vr 311), (1, vi a1)]) [1, 0] rfl (b_X11_kindLine_b69 hp hB fuel _ M9m hF)
  · replace hF := ifT hc hF
    refine w_aload_n hB 1 dX11_kindLine_64 rfl rfl ?_
    refine w_iload_n hB 0 dX11_kindLine_65 rfl rfl ?_
    obtain ⟨M10m, hc_M10m, hF⟩ := clvS hF
    refine w_callV hB (ci := 9) (As := [vi a1]) (st := []) cw_X11_260 q_1472 q_41 rfl sh_311 (Or.inl hp.1) (c_X11_pair hp hc_M10m) ⟨rfl, rfl⟩ (by decide) (by decide) rfl (Nat.le_of_ble_eq_true rfl) dX11_kindLine_66 rfl ?_
    exact Wt.sub (L' := [(0, vr 311), (1, vi a1)]) [1, 0] rfl (b_X11_kindLine_b69 hp hB fuel _ M10m hF)
theorem c_X11_kindLine {K : Kt} {l : Launch} (hp : St K) {M1 : Mem} {M : Mem} (hF : f_X11_kindLine M = some M1) : MT K l yX11_kindLine cX11_kindLine 2 none { frames := 9, cells := 0, slots := 0, locals := 193 } [vr 311] M none M1 0 0 :=
  MT_of (by decide) rfl (Nat.le_of_ble_eq_true rfl) (fun X _ hB _ => b_X11_kindLine hp hB hF)
def f_X11_member_b32 (x1 : Int32) (M : Mem) : Option (Int32 × Mem) :=
  if (M.1 311 9) = 0 then
    clv (f_X11_steps M) fun M1m =>
    some (x1, M1m)
  else
    some (x1, M)
set_option maxRecDepth 100000 in
set_option maxHeartbeats 4000000 in
theorem b_X11_member_b32 {K : Kt} {X : Xt} (hp : St K) (hB : Bx K X { frames := 10, cells := 0, slots := 0, locals := 213 } cX11_member 2 RX11 (some .int)) {r : Int32} {M1 : Mem} {x1 : Int32} {M : Mem} (hF : f_X11_member_b32 x1 M = some (r, M1)) : Wt K X (QM K X (some (vi r)) M1 0 0) 0 0 M 32 [(0, vr 311), (1, vi x1)] [] := by
  unfold f_X11_member_b32 at hF
  refine w_aload_n hB 0 dX11_member_32 rfl rfl ?_
  refine w_getI hB ff_X11_9 sh_311 (Or.inl hp.1) q_1169 dX11_member_33 ?_
  refine w_if_ne hB 43 dX11_member_36 (by decide) (fun hc => ?_) (fun hc => ?_)
  · replace hF := ifF hc hF
    refine w_iload_n hB 1 dX11_member_43 rfl rfl ?_
    obtain ⟨e1, e2⟩ := retS hF
    subst e2
    exact w_iret hB dX11_member_44 e1
  · replace hF := ifT hc hF
    refine w_aload_n hB 0 dX11_member_39 rfl rfl ?_
    obtain ⟨M1m, hc_M1m, hF⟩ := clvS hF
    refine w_callV hB (ci := 9) (As := []) (st := []) cw_X11_228 q_1324 q_22 rfl sh_311 (Or.inl hp.1) (c_X11_steps hp hc_M1m) ⟨rfl, rfl⟩ (by decide) (by decide) rfl (Nat.le_of_ble_eq_true rfl) dX11_member_40 rfl ?_
    refine w_iload_n hB 1 dX11_member_43 rfl rfl ?_
    obtain ⟨e1, e2⟩ := retS hF
    subst e2
    exact w_iret hB dX11_member_44 e1
def f_X11_member_b6_s (rec6 : Int32 → Mem → Option (Int32 × Mem)) (x1 : Int32) (M : Mem) : Option (Int32 × Mem) :=
  cl (f_X11_known 0 M) fun r1 M1m =>
  bnd (x1 ||| ((1 : Int32) <<< (r1 &&& 31))) fun a1 =>
  if (M1m.1 311 9) = 0 then
    if (M1m.1 311 6) = 41 then
      f_X11_member_b32 a1 M1m
    else
      rec6 a1 M1m
  else
    f_X11_member_b32 a1 M1m
set_option maxRecDepth 100000 in
set_option maxHeartbeats 4000000 in
theorem b_X11_member_b6_s {K : Kt} {X : Xt} (hp : St K) (hB : Bx K X { frames := 10, cells := 0, slots := 0, locals := 213 } cX11_member 2 RX11 (some .int)) {r : Int32} {M1 : Mem} {rec6 : Int32 → Mem → Option (Int32 × Mem)}
    (h6 : ∀ x1 M, rec6 x1 M = some (r, M1) → Wt K X (QM K X (some (vi r)) M1 0 0) 0 0 M 6 [(0, vr 311), (1, vi x1)] []) {x1 : Int32} {M : Mem} (hF : f_X11_member_b6_s rec6 x1 M = some (r, M1)) : Wt K X (QM K X (some (vi r)) M1 0 0) 0 0 M 6 [(0, vr 311), (1, vi x1)] [] := by
  unfold f_X11_member_b6_s at hF
  refine w_iload_n hB 1 dX11_member_6 rfl rfl ?_
  refine w_iconst hB 1 (by decide) dX11_member_7 ?_
  refine w_aload_n hB 0 dX11_member_8 rfl rfl ?_
  refine w_iconst hB 0 (by decide) dX11_member_9 ?_
  obtain ⟨r1, M1m, hc_M1m, hF⟩ := clS hF
  refine w_callV hB (ci := 9) (As := [vi 0]) (st := [vi 1, vi x1]) cw_X11_250 q_1452 q_36 rfl sh_311 (Or.inl hp.1) (c_X11_known hp hc_M1m) ⟨rfl, rfl⟩ (by decide) (by decide) rfl (Nat.le_of_ble_eq_true rfl) dX11_member_10 rfl ?_
  refine w_ishl hB dX11_member_13 ?_
  refine w_ior hB dX11_member_14 ?_
  obtain ⟨a1, e_a1, hF⟩ := bndS hF
  refine w_istore_n hB (L' := [(1, vi a1), (0, vr 311)]) dX11_member_15 rfl (by decide) e_a1 rfl ?_
  refine w_aload_n hB 1 dX11_member_16 rfl rfl ?_
  refine w_getI hB ff_X11_9 sh_311 (Or.inl hp.1) q_1169 dX11_member_17 ?_
  refine w_if_ne hB 32 dX11_member_20 (by decide) (fun hc => ?_) (fun hc => ?_)
  · replace hF := ifF hc hF
    exact Wt.sub (L' := [(0, vr 311), (1, vi a1)]) [1, 0] rfl (b_X11_member_b32 hp hB hF)
  · replace hF := ifT hc hF
    refine w_aload_n hB 1 dX11_member_23 rfl rfl ?_
    refine w_getI hB ff_X11_6 sh_311 (Or.inl hp.1) q_1166 dX11_member_24 ?_
    refine w_bipush hB 41 (by decide) dX11_member_27 ?_
    refine w_icmp_ne hB 6 dX11_member_29 (by decide) (fun hc => ?_) (fun hc => ?_)
    · replace hF := ifF hc hF
      exact Wt.sub (L' := [(0, vr 311), (1, vi a1)]) [1, 0] rfl (h6 _ M1m hF)
    · replace hF := ifT hc hF
      exact Wt.sub (L' := [(0, vr 311), (1, vi a1)]) [1, 0] rfl (b_X11_member_b32 hp hB hF)
def f_X11_member_b6 (k : Nat) : Int32 → Mem → Option (Int32 × Mem) := lpN (fun _ _ => none) (f_X11_member_b6_s) k
theorem b_X11_member_b6 {K : Kt} {X : Xt} (hp : St K) (hB : Bx K X { frames := 10, cells := 0, slots := 0, locals := 213 } cX11_member 2 RX11 (some .int)) {r : Int32} {M1 : Mem} (k : Nat) : ∀ (x1 : Int32) M, f_X11_member_b6 k x1 M = some (r, M1) → Wt K X (QM K X (some (vi r)) M1 0 0) 0 0 M 6 [(0, vr 311), (1, vi x1)] [] := by
  refine lpN_ind (P := fun (f : Int32 → Mem → Option (Int32 × Mem)) => ∀ (x1 : Int32) M, f x1 M = some (r, M1) → Wt K X (QM K X (some (vi r)) M1 0 0) 0 0 M 6 [(0, vr 311), (1, vi x1)] []) (fun _ _ h => by cases h) (fun f hf x1 M hF => ?_) k
  exact b_X11_member_b6_s hp hB hf hF
def f_X11_member (M : Mem) : Option (Int32 × Mem) :=
  clv (f_X11_steps M) fun M1m =>
  f_X11_member_b6 fuel 0 M1m
set_option maxRecDepth 100000 in
set_option maxHeartbeats 4000000 in
theorem b_X11_member {K : Kt} {X : Xt} (hp : St K) (hB : Bx K X { frames := 10, cells := 0, slots := 0, locals := 213 } cX11_member 2 RX11 (some .int)) {r : Int32} {M1 : Mem} {M : Mem} (hF : f_X11_member M = some (r, M1)) : Wt K X (QM K X (some (vi r)) M1 0 0) 0 0 M 0 [(0, vr 311)] [] := by
  unfold f_X11_member at hF
  refine w_iconst hB 0 (by decide) dX11_member_0 ?_
  refine w_istore_n hB (L' := [(1, vi 0), (0, vr 311)]) dX11_member_1 rfl (by decide) rfl rfl ?_
  refine w_aload_n hB 1 dX11_member_2 rfl rfl ?_
  obtain ⟨M1m, hc_M1m, hF⟩ := clvS hF
  refine w_callV hB (ci := 9) (As := []) (st := []) cw_X11_228 q_1324 q_22 rfl sh_311 (Or.inl hp.1) (c_X11_steps hp hc_M1m) ⟨rfl, rfl⟩ (by decide) (by decide) rfl (Nat.le_of_ble_eq_true rfl) dX11_member_3 rfl ?_
  exact Wt.sub (L' := [(0, vr 311), (1, vi 0)]) [1, 0] rfl (b_X11_member_b6 hp hB fuel _ M1m hF)
theorem c_X11_member {K : Kt} {l : Launch} (hp : St K) {r : Int32} {M1 : Mem} {M : Mem} (hF : f_X11_member M = some (r, M1)) : MT K l yX11_member cX11_member 2 (some .int) { frames := 10, cells := 0, slots := 0, locals := 213 } [vr 311] M (some (vi r)) M1 0 0 :=
  MT_of (by decide) rfl (Nat.le_of_ble_eq_true rfl) (fun X _ hB _ => b_X11_member hp hB hF)
def f_X11_boardLine_b130 (M : Mem) : Option Mem :=
  if (M.1 311 9) = 0 then
    bnd (setI M 313 9 ((M.1 313 9) + 1)) fun M1m =>
    some M1m
  else
    some M
set_option maxRecDepth 100000 in
set_option maxHeartbeats 4000000 in
theorem b_X11_boardLine_b130 {K : Kt} {X : Xt} (hp : St K) (hB : Bx K X { frames := 11, cells := 0, slots := 0, locals := 234 } cX11_boardLine 2 RX11 none) {M1 : Mem} {M : Mem} (hF : f_X11_boardLine_b130 M = some M1) : Wt K X (QM K X none M1 0 0) 0 0 M 130 [(0, vr 311)] [] := by
  unfold f_X11_boardLine_b130 at hF
  refine w_aload_n hB 0 dX11_boardLine_130 rfl rfl ?_
  refine w_getI hB ff_X11_9 sh_311 (Or.inl hp.1) q_1169 dX11_boardLine_131 ?_
  refine w_if_ne hB 148 dX11_boardLine_134 (by decide) (fun hc => ?_) (fun hc => ?_)
  · replace hF := ifF hc hF
    cases hF
    exact w_vret hB dX11_boardLine_148
  · replace hF := ifT hc hF
    refine w_aload_n hB 0 dX11_boardLine_137 rfl rfl ?_
    refine w_getC hB (v := 313) ff_X11_11 sh_311 hp.1 cr_311_11 (by decide) q_1171 dX11_boardLine_138 ?_
    refine w_bipush hB 9 (by decide) dX11_boardLine_141 ?_
    refine w_dup2 hB rfl rfl dX11_boardLine_143 ?_
    refine w_iald hB sh_313 (Or.inl hp.1) sl_313 (by decide) dX11_boardLine_144 ?_
    rw [show (9 : Int32).toNatClampNeg = 9 by decide]
    refine w_iconst hB 1 (by decide) dX11_boardLine_145 ?_
    refine w_iadd hB dX11_boardLine_146 ?_
    obtain ⟨M1m, e_M1m, hF⟩ := bndS hF
    refine w_iast hB sh_313 (Or.inl hp.1) sl_313 (by decide) e_M1m dX11_boardLine_147 ?_
    cases hF
    exact w_vret hB dX11_boardLine_148
def f_X11_boardLine_b89 (rec56 : Int32 → Mem → Option Mem) (x1 : Int32) (xs1 : Int32) (M : Mem) : Option Mem :=
  cl (f_X11_must xs1 5 M) fun r1 M1m =>
  if r1 = 0 then
    some M1m
  else
    gd (inb x1 6) <|
    cl (f_X11_member M1m) fun r2 M2m =>
    gd (inb ((7 * x1) + (M1m.1 328 x1.toNatClampNeg)) 42) <|
    bnd (setI M2m 329 (((7 * x1) + (M1m.1 328 x1.toNatClampNeg)).toNatClampNeg) r2) fun M3m =>
    bnd (setI M3m 328 (x1.toNatClampNeg) ((M3m.1 328 x1.toNatClampNeg) + 1)) fun M4m =>
    rec56 x1 M4m
set_option maxRecDepth 100000 in
set_option maxHeartbeats 4000000 in
theorem b_X11_boardLine_b89 {K : Kt} {X : Xt} (hp : St K) (hB : Bx K X { frames := 11, cells := 0, slots := 0, locals := 234 } cX11_boardLine 2 RX11 none) {M1 : Mem} {rec56 : Int32 → Mem → Option Mem}
    (h56 : ∀ x1 M, rec56 x1 M = some M1 → Wt K X (QM K X none M1 0 0) 0 0 M 56 [(0, vr 311), (1, vi x1)] []) {x1 : Int32} {xs1 : Int32} {M : Mem} (hF : f_X11_boardLine_b89 rec56 x1 xs1 M = some M1) : Wt K X (QM K X none M1 0 0) 0 0 M 89 [(0, vr 311), (1, vi x1)] [vi xs1, vr 311] := by
  unfold f_X11_boardLine_b89 at hF
  refine w_iconst hB 5 (by decide) dX11_boardLine_89 ?_
  obtain ⟨r1, M1m, hc_M1m, hF⟩ := clS hF
  refine w_callV hB (ci := 9) (As := [vi xs1, vi 5]) (st := []) cw_X11_224 q_1405 q_28 rfl sh_311 (Or.inl hp.1) (c_X11_must hp hc_M1m) ⟨rfl, rfl⟩ (by decide) (by decide) rfl (Nat.le_of_ble_eq_true rfl) dX11_boardLine_90 rfl ?_
  refine w_if_ne hB 97 dX11_boardLine_93 (by decide) (fun hc => ?_) (fun hc => ?_)
  · replace hF := ifF hc hF
    refine w_aload_n hB 0 dX11_boardLine_97 rfl rfl ?_
    refine w_getC hB (v := 329) ff_X11_27 sh_311 hp.1 cr_311_27 (by decide) q_1187 dX11_boardLine_98 ?_
    refine w_bipush hB 7 (by decide) dX11_boardLine_101 ?_
    refine w_iload_n hB 1 dX11_boardLine_103 rfl rfl ?_
    refine w_imul hB dX11_boardLine_104 ?_
    refine w_aload_n hB 0 dX11_boardLine_105 rfl rfl ?_
    refine w_getC hB (v := 328) ff_X11_26 sh_311 hp.1 cr_311_26 (by decide) q_1186 dX11_boardLine_106 ?_
    refine w_iload_n hB 1 dX11_boardLine_109 rfl rfl ?_
    obtain ⟨g1, hF⟩ := gdS hF
    refine w_iald hB sh_328 (Or.inl hp.1) sl_328 g1 dX11_boardLine_110 ?_
    refine w_iadd hB dX11_boardLine_111 ?_
    refine w_aload_n hB 0 dX11_boardLine_112 rfl rfl ?_
    obtain ⟨r2, M2m, hc_M2m, hF⟩ := clS hF
    refine w_callV hB (ci := 9) (As := []) (st := [vi ((7 * x1) + (M1m.1 328 x1.toNatClampNeg)), vr 329]) cw_X11_263 q_1484 q_44 rfl sh_311 (Or.inl hp.1) (c_X11_member hp hc_M2m) ⟨rfl, rfl⟩ (by decide) (by decide) rfl (Nat.le_of_ble_eq_true rfl) dX11_boardLine_113 rfl ?_
    obtain ⟨g2, hF⟩ := gdS hF
    obtain ⟨M3m, e_M3m, hF⟩ := bndS hF
    refine w_iast hB sh_329 (Or.inl hp.1) sl_329 g2 e_M3m dX11_boardLine_116 ?_
    refine w_aload_n hB 0 dX11_boardLine_117 rfl rfl ?_
    refine w_getC hB (v := 328) ff_X11_26 sh_311 hp.1 cr_311_26 (by decide) q_1186 dX11_boardLine_118 ?_
    refine w_iload_n hB 1 dX11_boardLine_121 rfl rfl ?_
    refine w_dup2 hB rfl rfl dX11_boardLine_122 ?_
    refine w_iald hB sh_328 (Or.inl hp.1) sl_328 g1 dX11_boardLine_123 ?_
    refine w_iconst hB 1 (by decide) dX11_boardLine_124 ?_
    refine w_iadd hB dX11_boardLine_125 ?_
    obtain ⟨M4m, e_M4m, hF⟩ := bndS hF
    refine w_iast hB sh_328 (Or.inl hp.1) sl_328 g1 e_M4m dX11_boardLine_126 ?_
    refine w_goto hB 56 dX11_boardLine_127 (by decide) ?_
    exact Wt.sub (L' := [(0, vr 311), (1, vi x1)]) [0, 1] rfl (h56 _ M4m hF)
  · replace hF := ifT hc hF
    cases hF
    exact w_vret hB dX11_boardLine_96
def f_X11_boardLine_b56_s (rec56 : Int32 → Mem → Option Mem) (x1 : Int32) (M : Mem) : Option Mem :=
  if (M.1 311 9) = 0 then
    if (M.1 311 6) = 40 then
      gd (inb x1 6) <|
      if 7 ≤ (M.1 328 x1.toNatClampNeg) then
        f_X11_boardLine_b89 rec56 x1 0 M
      else
        f_X11_boardLine_b89 rec56 x1 1 M
    else
      f_X11_boardLine_b130 M
  else
    f_X11_boardLine_b130 M
set_option maxRecDepth 100000 in
set_option maxHeartbeats 4000000 in
theorem b_X11_boardLine_b56_s {K : Kt} {X : Xt} (hp : St K) (hB : Bx K X { frames := 11, cells := 0, slots := 0, locals := 234 } cX11_boardLine 2 RX11 none) {M1 : Mem} {rec56 : Int32 → Mem → Option Mem}
    (h56 : ∀ x1 M, rec56 x1 M = some M1 → Wt K X (QM K X none M1 0 0) 0 0 M 56 [(0, vr 311), (1, vi x1)] []) {x1 : Int32} {M : Mem} (hF : f_X11_boardLine_b56_s rec56 x1 M = some M1) : Wt K X (QM K X none M1 0 0) 0 0 M 56 [(0, vr 311), (1, vi x1)] [] := by
  unfold f_X11_boardLine_b56_s at hF
  refine w_aload_n hB 0 dX11_boardLine_56 rfl rfl ?_
  refine w_getI hB ff_X11_9 sh_311 (Or.inl hp.1) q_1169 dX11_boardLine_57 ?_
  refine w_if_ne hB 130 dX11_boardLine_60 (by decide) (fun hc => ?_) (fun hc => ?_)
  · replace hF := ifF hc hF
    exact Wt.sub (L' := [(0, vr 311)]) [0] rfl (b_X11_boardLine_b130 hp hB hF)
  · replace hF := ifT hc hF
    refine w_aload_n hB 0 dX11_boardLine_63 rfl rfl ?_
    refine w_getI hB ff_X11_6 sh_311 (Or.inl hp.1) q_1166 dX11_boardLine_64 ?_
    refine w_bipush hB 40 (by decide) dX11_boardLine_67 ?_
    refine w_icmp_ne hB 130 dX11_boardLine_69 (by decide) (fun hc => ?_) (fun hc => ?_)
    · replace hF := ifF hc hF
      exact Wt.sub (L' := [(0, vr 311)]) [0] rfl (b_X11_boardLine_b130 hp hB hF)
    · replace hF := ifT hc hF
      refine w_aload_n hB 0 dX11_boardLine_72 rfl rfl ?_
      refine w_aload_n hB 0 dX11_boardLine_73 rfl rfl ?_
      refine w_getC hB (v := 328) ff_X11_26 sh_311 hp.1 cr_311_26 (by decide) q_1186 dX11_boardLine_74 ?_
      refine w_iload_n hB 1 dX11_boardLine_77 rfl rfl ?_
      obtain ⟨g1, hF⟩ := gdS hF
      refine w_iald hB sh_328 (Or.inl hp.1) sl_328 g1 dX11_boardLine_78 ?_
      refine w_bipush hB 7 (by decide) dX11_boardLine_79 ?_
      refine w_icmp_ge hB 88 dX11_boardLine_81 (by decide) (fun hc => ?_) (fun hc => ?_)
      · replace hF := ifT hc hF
        refine w_iconst hB 0 (by decide) dX11_boardLine_88 ?_
        exact Wt.sub (L' := [(0, vr 311), (1, vi x1)]) [0, 1] rfl (b_X11_boardLine_b89 hp hB h56 hF)
      · replace hF := ifF hc hF
        refine w_iconst hB 1 (by decide) dX11_boardLine_84 ?_
        refine w_goto hB 89 dX11_boardLine_85 (by decide) ?_
        exact Wt.sub (L' := [(0, vr 311), (1, vi x1)]) [0, 1] rfl (b_X11_boardLine_b89 hp hB h56 hF)
def f_X11_boardLine_b56 (k : Nat) : Int32 → Mem → Option Mem := lpN (fun _ _ => none) (f_X11_boardLine_b56_s) k
theorem b_X11_boardLine_b56 {K : Kt} {X : Xt} (hp : St K) (hB : Bx K X { frames := 11, cells := 0, slots := 0, locals := 234 } cX11_boardLine 2 RX11 none) {M1 : Mem} (k : Nat) : ∀ (x1 : Int32) M, f_X11_boardLine_b56 k x1 M = some M1 → Wt K X (QM K X none M1 0 0) 0 0 M 56 [(0, vr 311), (1, vi x1)] [] := by
  refine lpN_ind (P := fun (f : Int32 → Mem → Option Mem) => ∀ (x1 : Int32) M, f x1 M = some M1 → Wt K X (QM K X none M1 0 0) 0 0 M 56 [(0, vr 311), (1, vi x1)] []) (fun _ _ h => by cases h) (fun f hf x1 M hF => ?_) k
  exact b_X11_boardLine_b56_s hp hB hf hF
def f_X11_boardLine_b48 (x1 : Int32) (xs1 : Int32) (M : Mem) : Option Mem :=
  cl (f_X11_must xs1 1 M) fun r1 M1m =>
  if r1 = 0 then
    some M1m
  else
    f_X11_boardLine_b56 fuel x1 M1m
set_option maxRecDepth 100000 in
set_option maxHeartbeats 4000000 in
theorem b_X11_boardLine_b48 {K : Kt} {X : Xt} (hp : St K) (hB : Bx K X { frames := 11, cells := 0, slots := 0, locals := 234 } cX11_boardLine 2 RX11 none) {M1 : Mem} {x1 : Int32} {xs1 : Int32} {M : Mem} (hF : f_X11_boardLine_b48 x1 xs1 M = some M1) : Wt K X (QM K X none M1 0 0) 0 0 M 48 [(0, vr 311), (1, vi x1)] [vi xs1, vr 311] := by
  unfold f_X11_boardLine_b48 at hF
  refine w_iconst hB 1 (by decide) dX11_boardLine_48 ?_
  obtain ⟨r1, M1m, hc_M1m, hF⟩ := clS hF
  refine w_callV hB (ci := 9) (As := [vi xs1, vi 1]) (st := []) cw_X11_224 q_1405 q_28 rfl sh_311 (Or.inl hp.1) (c_X11_must hp hc_M1m) ⟨rfl, rfl⟩ (by decide) (by decide) rfl (Nat.le_of_ble_eq_true rfl) dX11_boardLine_49 rfl ?_
  refine w_if_ne hB 56 dX11_boardLine_52 (by decide) (fun hc => ?_) (fun hc => ?_)
  · replace hF := ifF hc hF
    exact Wt.sub (L' := [(0, vr 311), (1, vi x1)]) [0, 1] rfl (b_X11_boardLine_b56 hp hB fuel _ M1m hF)
  · replace hF := ifT hc hF
    cases hF
    exact w_vret hB dX11_boardLine_55
def f_X11_boardLine (M : Mem) : Option Mem :=
  clv (f_X11_newName 3 M) fun M1m =>
  cl (f_X11_read 3 M1m) fun r1 M2m =>
  bnd (3 + r1) fun a1 =>
  cl (f_X11_number 1 9 M2m) fun r2 M3m =>
  gd (inb a1 6) <|
  bnd (setI M3m 327 (a1.toNatClampNeg) r2) fun M4m =>
  bnd (setI M4m 328 (a1.toNatClampNeg) 0) fun M5m =>
  if (M5m.1 311 6) = 40 then
    f_X11_boardLine_b48 a1 1 M5m
  else
    f_X11_boardLine_b48 a1 0 M5m
set_option maxRecDepth 100000 in
set_option maxHeartbeats 4000000 in
theorem b_X11_boardLine {K : Kt} {X : Xt} (hp : St K) (hB : Bx K X { frames := 11, cells := 0, slots := 0, locals := 234 } cX11_boardLine 2 RX11 none) {M1 : Mem} {M : Mem} (hF : f_X11_boardLine M = some M1) : Wt K X (QM K X none M1 0 0) 0 0 M 0 [(0, vr 311)] [] := by
  unfold f_X11_boardLine at hF
  refine w_aload_n hB 0 dX11_boardLine_0 rfl rfl ?_
  refine w_iconst hB 3 (by decide) dX11_boardLine_1 ?_
  obtain ⟨M1m, hc_M1m, hF⟩ := clvS hF
  refine w_callV hB (ci := 9) (As := [vi 3]) (st := []) cw_X11_243 q_1413 q_30 rfl sh_311 (Or.inl hp.1) (c_X11_newName hp hc_M1m) ⟨rfl, rfl⟩ (by decide) (by decide) rfl (Nat.le_of_ble_eq_true rfl) dX11_boardLine_2 rfl ?_
  refine w_iconst hB 3 (by decide) dX11_boardLine_5 ?_
  refine w_aload_n hB 0 dX11_boardLine_6 rfl rfl ?_
  refine w_iconst hB 3 (by decide) dX11_boardLine_7 ?_
  obtain ⟨r1, M2m, hc_M2m, hF⟩ := clS hF
  refine w_callV hB (ci := 9) (As := [vi 3]) (st := [vi 3]) cw_X11_231 q_1401 q_27 rfl sh_311 (Or.inl hp.1) (c_X11_read hp hc_M2m) ⟨rfl, rfl⟩ (by decide) (by decide) rfl (Nat.le_of_ble_eq_true rfl) dX11_boardLine_8 rfl ?_
  refine w_iadd hB dX11_boardLine_11 ?_
  obtain ⟨a1, e_a1, hF⟩ := bndS hF
  refine w_istore_n hB (L' := [(1, vi a1), (0, vr 311)]) dX11_boardLine_12 rfl (by decide) e_a1 rfl ?_
  refine w_aload_n hB 1 dX11_boardLine_13 rfl rfl ?_
  refine w_getC hB (v := 327) ff_X11_25 sh_311 hp.1 cr_311_25 (by decide) q_1185 dX11_boardLine_14 ?_
  refine w_iload_n hB 0 dX11_boardLine_17 rfl rfl ?_
  refine w_aload_n hB 1 dX11_boardLine_18 rfl rfl ?_
  refine w_iconst hB 1 (by decide) dX11_boardLine_19 ?_
  refine w_bipush hB 9 (by decide) dX11_boardLine_20 ?_
  obtain ⟨r2, M3m, hc_M3m, hF⟩ := clS hF
  refine w_callV hB (ci := 9) (As := [vi 1, vi 9]) (st := [vi a1, vr 327]) cw_X11_246 q_1444 q_34 rfl sh_311 (Or.inl hp.1) (c_X11_number hp hc_M3m) ⟨rfl, rfl⟩ (by decide) (by decide) rfl (Nat.le_of_ble_eq_true rfl) dX11_boardLine_22 rfl ?_
  obtain ⟨g1, hF⟩ := gdS hF
  obtain ⟨M4m, e_M4m, hF⟩ := bndS hF
  refine w_iast hB sh_327 (Or.inl hp.1) sl_327 g1 e_M4m dX11_boardLine_25 ?_
  refine w_aload_n hB 1 dX11_boardLine_26 rfl rfl ?_
  refine w_getC hB (v := 328) ff_X11_26 sh_311 hp.1 cr_311_26 (by decide) q_1186 dX11_boardLine_27 ?_
  refine w_iload_n hB 0 dX11_boardLine_30 rfl rfl ?_
  refine w_iconst hB 0 (by decide) dX11_boardLine_31 ?_
  obtain ⟨M5m, e_M5m, hF⟩ := bndS hF
  refine w_iast hB sh_328 (Or.inl hp.1) sl_328 g1 e_M5m dX11_boardLine_32 ?_
  refine w_aload_n hB 1 dX11_boardLine_33 rfl rfl ?_
  refine w_aload_n hB 1 dX11_boardLine_34 rfl rfl ?_
  refine w_getI hB ff_X11_6 sh_311 (Or.inl hp.1) q_1166 dX11_boardLine_35 ?_
  refine w_bipush hB 40 (by decide) dX11_boardLine_38 ?_
  refine w_icmp_ne hB 47 dX11_boardLine_40 (by decide) (fun hc => ?_) (fun hc => ?_)
  · replace hF := ifF hc hF
    refine w_iconst hB 0 (by decide) dX11_boardLine_47 ?_
    exact Wt.sub (L' := [(0, vr 311), (1, vi a1)]) [1, 0] rfl (b_X11_boardLine_b48 hp hB hF)
  · replace hF := ifT hc hF
    refine w_iconst hB 1 (by decide) dX11_boardLine_43 ?_
    refine w_goto hB 48 dX11_boardLine_44 (by decide) ?_
    exact Wt.sub (L' := [(0, vr 311), (1, vi a1)]) [1, 0] rfl (b_X11_boardLine_b48 hp hB hF)
theorem c_X11_boardLine {K : Kt} {l : Launch} (hp : St K) {M1 : Mem} {M : Mem} (hF : f_X11_boardLine M = some M1) : MT K l yX11_boardLine cX11_boardLine 2 none { frames := 11, cells := 0, slots := 0, locals := 234 } [vr 311] M none M1 0 0 :=
  MT_of (by decide) rfl (Nat.le_of_ble_eq_true rfl) (fun X _ hB _ => b_X11_boardLine hp hB hF)
