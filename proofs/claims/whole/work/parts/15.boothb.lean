def f_X10_pointsInTruth_b43 (rec5 : Int32 → Int32 → Int32 → Int32 → Mem → Option (Int32 × Mem)) (x1 : Int32) (x2 : Int32) (x3 : Int32) (x4 : Int32) (n5 : Nat) (xs0 : Int32) (M : Mem) : Option (Int32 × Mem) :=
  gd (shc n5 = 6) <|
  if (M.1 n5 2) = x1 then
    cl (f_X4_trueCall (M.2.2.1 64 2) n5 xs0 M) fun r1 M1m =>
    if r1 = 1 then
      bnd (x3 + (M1m.1 n5 3)) fun a1 =>
      bnd (x4 + 1) fun a2 =>
      rec5 x1 x2 a1 a2 M1m
    else
      bnd (x4 + 1) fun a3 =>
      rec5 x1 x2 x3 a3 M1m
  else
    bnd (x4 + 1) fun a4 =>
    rec5 x1 x2 x3 a4 M
set_option maxRecDepth 100000 in
set_option maxHeartbeats 4000000 in
theorem b_X10_pointsInTruth_b43 {K : Kt} {X : Xt} (hp : St K) (hB : Bx K X { frames := 5, cells := 0, slots := 0, locals := 125 } cX10_pointsInTruth 7 RX10 (some .int)) {r : Int32} {M1 : Mem} {rec5 : Int32 → Int32 → Int32 → Int32 → Mem → Option (Int32 × Mem)}
    (h5 : ∀ x1 x2 x3 x4 M, rec5 x1 x2 x3 x4 M = some (r, M1) → Wt K X (QM K X (some (vi r)) M1 0 0) 0 0 M 5 [(0, vr 64), (1, vi x1), (2, vi x2), (3, vi x3), (4, vi x4)] []) {x1 : Int32} {x2 : Int32} {x3 : Int32} {x4 : Int32} {n5 : Nat} {xs0 : Int32} {M : Mem} (hF : f_X10_pointsInTruth_b43 rec5 x1 x2 x3 x4 n5 xs0 M = some (r, M1)) : Wt K X (QM K X (some (vi r)) M1 0 0) 0 0 M 43 [(0, vr 64), (1, vi x1), (2, vi x2), (3, vi x3), (4, vi x4), (5, vr n5)] [vi xs0] := by
  unfold f_X10_pointsInTruth_b43 at hF
  refine w_istore hB (L' := [(6, vi xs0), (0, vr 64), (1, vi x1), (2, vi x2), (3, vi x3), (4, vi x4), (5, vr n5)]) dX10_pointsInTruth_43 (by decide) rfl rfl ?_
  refine w_aload hB 6 dX10_pointsInTruth_45 rfl ?_
  obtain ⟨g1, hF⟩ := gdS hF
  refine w_getI hB ff_X6_2 g1 (Or.inl hp.1) q_204 dX10_pointsInTruth_47 ?_
  refine w_iload_n hB 2 dX10_pointsInTruth_50 rfl rfl ?_
  refine w_icmp_ne hB 81 dX10_pointsInTruth_51 (by decide) (fun hc => ?_) (fun hc => ?_)
  · replace hF := ifF hc hF
    obtain ⟨a4, e_a4, hF⟩ := bndS hF
    refine w_iinc hB 5 (v := 1) (L' := [(4, vi a4), (6, vi xs0), (0, vr 64), (1, vi x1), (2, vi x2), (3, vi x3), (5, vr n5)]) dX10_pointsInTruth_81 rfl (by decide) (by decide) e_a4 rfl ?_
    refine w_goto hB 5 dX10_pointsInTruth_84 (by decide) ?_
    exact Wt.sub (L' := [(0, vr 64), (1, vi x1), (2, vi x2), (3, vi x3), (4, vi a4)]) [2, 3, 4, 5, 0] rfl (h5 _ _ _ _ M hF)
  · replace hF := ifT hc hF
    refine w_aload_n hB 1 dX10_pointsInTruth_54 rfl rfl ?_
    refine w_getC hB (v := 212) ff_X10_5 sh_64 hp.1 cr_64_5 (by decide) q_478 dX10_pointsInTruth_55 ?_
    refine w_aload_n hB 1 dX10_pointsInTruth_58 rfl rfl ?_
    refine w_getR hB ff_X10_2 sh_64 (Or.inl hp.1) q_475 dX10_pointsInTruth_59 ?_
    refine w_aload hB 6 dX10_pointsInTruth_62 rfl ?_
    refine w_iload hB 0 dX10_pointsInTruth_64 rfl ?_
    obtain ⟨r1, M1m, hc_M1m, hF⟩ := clS hF
    refine w_callV hB (ci := 3) (As := [vr (M.2.2.1 64 2), vr n5, vi xs0]) (st := []) cw_X10_365 q_1000 q_1001 rfl sh_212 (Or.inl hp.1) (c_X4_trueCall hp hc_M1m) ⟨rfl, rfl⟩ (by decide) (by decide) rfl (Nat.le_of_ble_eq_true rfl) dX10_pointsInTruth_66 rfl ?_
    refine w_iconst hB 1 (by decide) dX10_pointsInTruth_69 ?_
    refine w_icmp_ne hB 81 dX10_pointsInTruth_70 (by decide) (fun hc => ?_) (fun hc => ?_)
    · replace hF := ifF hc hF
      obtain ⟨a3, e_a3, hF⟩ := bndS hF
      refine w_iinc hB 5 (v := 1) (L' := [(4, vi a3), (6, vi xs0), (0, vr 64), (1, vi x1), (2, vi x2), (3, vi x3), (5, vr n5)]) dX10_pointsInTruth_81 rfl (by decide) (by decide) e_a3 rfl ?_
      refine w_goto hB 5 dX10_pointsInTruth_84 (by decide) ?_
      exact Wt.sub (L' := [(0, vr 64), (1, vi x1), (2, vi x2), (3, vi x3), (4, vi a3)]) [2, 3, 4, 5, 0] rfl (h5 _ _ _ _ M1m hF)
    · replace hF := ifT hc hF
      refine w_iload_n hB 4 dX10_pointsInTruth_73 rfl rfl ?_
      refine w_aload hB 6 dX10_pointsInTruth_74 rfl ?_
      refine w_getI hB ff_X6_3 g1 (Or.inl hp.1) q_206 dX10_pointsInTruth_76 ?_
      refine w_iadd hB dX10_pointsInTruth_79 ?_
      obtain ⟨a1, e_a1, hF⟩ := bndS hF
      refine w_istore_n hB (L' := [(3, vi a1), (6, vi xs0), (0, vr 64), (1, vi x1), (2, vi x2), (4, vi x4), (5, vr n5)]) dX10_pointsInTruth_80 rfl (by decide) e_a1 rfl ?_
      obtain ⟨a2, e_a2, hF⟩ := bndS hF
      refine w_iinc hB 5 (v := 1) (L' := [(4, vi a2), (3, vi a1), (6, vi xs0), (0, vr 64), (1, vi x1), (2, vi x2), (5, vr n5)]) dX10_pointsInTruth_81 rfl (by decide) (by decide) e_a2 rfl ?_
      refine w_goto hB 5 dX10_pointsInTruth_84 (by decide) ?_
      exact Wt.sub (L' := [(0, vr 64), (1, vi x1), (2, vi x2), (3, vi a1), (4, vi a2)]) [3, 4, 5, 1, 0] rfl (h5 _ _ _ _ M1m hF)
def f_X10_pointsInTruth_b5_s (rec5 : Int32 → Int32 → Int32 → Int32 → Mem → Option (Int32 × Mem)) (x1 : Int32) (x2 : Int32) (x3 : Int32) (x4 : Int32) (M : Mem) : Option (Int32 × Mem) :=
  gd (shc (M.2.2.1 64 2) = 8) <|
  if (M.1 (M.2.2.1 64 2) 11) ≤ x4 then
    some (x3, M)
  else
    gd (inb x4 8) <|
    bnd (cr (cr (M.2.2.1 64 2) 12) x4.toNatClampNeg) fun o1 =>
    if x2 = (-1) then
      f_X10_pointsInTruth_b43 rec5 x1 x2 x3 x4 o1 (M.1 o1 4) M
    else
      f_X10_pointsInTruth_b43 rec5 x1 x2 x3 x4 o1 x2 M
set_option maxRecDepth 100000 in
set_option maxHeartbeats 4000000 in
theorem b_X10_pointsInTruth_b5_s {K : Kt} {X : Xt} (hp : St K) (hB : Bx K X { frames := 5, cells := 0, slots := 0, locals := 125 } cX10_pointsInTruth 7 RX10 (some .int)) {r : Int32} {M1 : Mem} {rec5 : Int32 → Int32 → Int32 → Int32 → Mem → Option (Int32 × Mem)}
    (h5 : ∀ x1 x2 x3 x4 M, rec5 x1 x2 x3 x4 M = some (r, M1) → Wt K X (QM K X (some (vi r)) M1 0 0) 0 0 M 5 [(0, vr 64), (1, vi x1), (2, vi x2), (3, vi x3), (4, vi x4)] []) {x1 : Int32} {x2 : Int32} {x3 : Int32} {x4 : Int32} {M : Mem} (hF : f_X10_pointsInTruth_b5_s rec5 x1 x2 x3 x4 M = some (r, M1)) : Wt K X (QM K X (some (vi r)) M1 0 0) 0 0 M 5 [(0, vr 64), (1, vi x1), (2, vi x2), (3, vi x3), (4, vi x4)] [] := by
  unfold f_X10_pointsInTruth_b5_s at hF
  refine w_iload hB 4 dX10_pointsInTruth_5 rfl ?_
  refine w_aload_n hB 0 dX10_pointsInTruth_7 rfl rfl ?_
  refine w_getR hB ff_X10_2 sh_64 (Or.inl hp.1) q_475 dX10_pointsInTruth_8 ?_
  obtain ⟨g1, hF⟩ := gdS hF
  refine w_getI hB ff_X9_11 g1 (Or.inl hp.1) q_310 dX10_pointsInTruth_11 ?_
  refine w_icmp_ge hB 87 dX10_pointsInTruth_14 (by decide) (fun hc => ?_) (fun hc => ?_)
  · replace hF := ifT hc hF
    refine w_iload_n hB 3 dX10_pointsInTruth_87 rfl rfl ?_
    obtain ⟨e1, e2⟩ := retS hF
    subst e2
    exact w_iret hB dX10_pointsInTruth_88 e1
  · replace hF := ifF hc hF
    refine w_aload_n hB 0 dX10_pointsInTruth_17 rfl rfl ?_
    refine w_getR hB ff_X10_2 sh_64 (Or.inl hp.1) q_475 dX10_pointsInTruth_18 ?_
    refine w_getC hB (v := cr (M.2.2.1 64 2) 12) ff_X9_12 g1 hp.1 rfl (shc_ne (crc_8_12 g1).1) q_313 dX10_pointsInTruth_21 ?_
    refine w_iload hB 4 dX10_pointsInTruth_24 rfl ?_
    obtain ⟨g2, hF⟩ := gdS hF
    refine w_aaldC hB (c := 6) (v := cr (cr (M.2.2.1 64 2) 12) x4.toNatClampNeg) (crc_8_12 g1).1 rfl (by decide) hp.1 (crc_8_12 g1).2 g2 rfl (shc_ne (cre_26 (crc_8_12 g1).1 (by rw [(crc_8_12 g1).2]; exact inb_lt g2))) dX10_pointsInTruth_26 ?_
    obtain ⟨o1, e_o1, hF⟩ := bndS hF
    rw [← e_o1]
    refine w_astore hB (L' := [(5, vr o1), (0, vr 64), (1, vi x1), (2, vi x2), (3, vi x3), (4, vi x4)]) dX10_pointsInTruth_27 (by decide) rfl ?_
    refine w_iload_n hB 3 dX10_pointsInTruth_29 rfl rfl ?_
    refine w_iconst hB (-1) (by decide) dX10_pointsInTruth_30 ?_
    refine w_icmp_ne hB 42 dX10_pointsInTruth_31 (by decide) (fun hc => ?_) (fun hc => ?_)
    · replace hF := ifF hc hF
      refine w_iload_n hB 3 dX10_pointsInTruth_42 rfl rfl ?_
      exact Wt.sub (L' := [(0, vr 64), (1, vi x1), (2, vi x2), (3, vi x3), (4, vi x4), (5, vr o1)]) [1, 2, 3, 4, 5, 0] rfl (b_X10_pointsInTruth_b43 hp hB h5 hF)
    · replace hF := ifT hc hF
      refine w_aload hB 0 dX10_pointsInTruth_34 rfl ?_
      refine w_getI hB ff_X6_4 (by rw [e_o1]; exact (cre_26 (crc_8_12 g1).1 (by rw [(crc_8_12 g1).2]; exact inb_lt g2))) (Or.inl hp.1) q_208 dX10_pointsInTruth_36 ?_
      refine w_goto hB 43 dX10_pointsInTruth_39 (by decide) ?_
      exact Wt.sub (L' := [(0, vr 64), (1, vi x1), (2, vi x2), (3, vi x3), (4, vi x4), (5, vr o1)]) [1, 2, 3, 4, 5, 0] rfl (b_X10_pointsInTruth_b43 hp hB h5 hF)
def f_X10_pointsInTruth_b5 (k : Nat) : Int32 → Int32 → Int32 → Int32 → Mem → Option (Int32 × Mem) := lpN (fun _ _ _ _ _ => none) (f_X10_pointsInTruth_b5_s) k
theorem b_X10_pointsInTruth_b5 {K : Kt} {X : Xt} (hp : St K) (hB : Bx K X { frames := 5, cells := 0, slots := 0, locals := 125 } cX10_pointsInTruth 7 RX10 (some .int)) {r : Int32} {M1 : Mem} (k : Nat) : ∀ (x1 : Int32) (x2 : Int32) (x3 : Int32) (x4 : Int32) M, f_X10_pointsInTruth_b5 k x1 x2 x3 x4 M = some (r, M1) → Wt K X (QM K X (some (vi r)) M1 0 0) 0 0 M 5 [(0, vr 64), (1, vi x1), (2, vi x2), (3, vi x3), (4, vi x4)] [] := by
  refine lpN_ind (P := fun (f : Int32 → Int32 → Int32 → Int32 → Mem → Option (Int32 × Mem)) => ∀ (x1 : Int32) (x2 : Int32) (x3 : Int32) (x4 : Int32) M, f x1 x2 x3 x4 M = some (r, M1) → Wt K X (QM K X (some (vi r)) M1 0 0) 0 0 M 5 [(0, vr 64), (1, vi x1), (2, vi x2), (3, vi x3), (4, vi x4)] []) (fun _ _ _ _ _ h => by cases h) (fun f hf x1 x2 x3 x4 M hF => ?_) k
  exact b_X10_pointsInTruth_b5_s hp hB hf hF
def f_X10_pointsInTruth (x1 : Int32) (x2 : Int32) (M : Mem) : Option (Int32 × Mem) :=
  f_X10_pointsInTruth_b5 fuel x1 x2 0 0 M
set_option maxRecDepth 100000 in
set_option maxHeartbeats 4000000 in
theorem b_X10_pointsInTruth {K : Kt} {X : Xt} (hp : St K) (hB : Bx K X { frames := 5, cells := 0, slots := 0, locals := 125 } cX10_pointsInTruth 7 RX10 (some .int)) {r : Int32} {M1 : Mem} {x1 : Int32} {x2 : Int32} {M : Mem} (hF : f_X10_pointsInTruth x1 x2 M = some (r, M1)) : Wt K X (QM K X (some (vi r)) M1 0 0) 0 0 M 0 [(0, vr 64), (1, vi x1), (2, vi x2)] [] := by
  unfold f_X10_pointsInTruth at hF
  refine w_iconst hB 0 (by decide) dX10_pointsInTruth_0 ?_
  refine w_istore_n hB (L' := [(3, vi 0), (0, vr 64), (1, vi x1), (2, vi x2)]) dX10_pointsInTruth_1 rfl (by decide) rfl rfl ?_
  refine w_iconst hB 0 (by decide) dX10_pointsInTruth_2 ?_
  refine w_istore hB (L' := [(4, vi 0), (3, vi 0), (0, vr 64), (1, vi x1), (2, vi x2)]) dX10_pointsInTruth_3 (by decide) rfl rfl ?_
  exact Wt.sub (L' := [(0, vr 64), (1, vi x1), (2, vi x2), (3, vi 0), (4, vi 0)]) [2, 3, 4, 1, 0] rfl (b_X10_pointsInTruth_b5 hp hB fuel _ _ _ _ M hF)
theorem c_X10_pointsInTruth {K : Kt} {l : Launch} (hp : St K) {r : Int32} {M1 : Mem} {x1 : Int32} {x2 : Int32} {M : Mem} (hF : f_X10_pointsInTruth x1 x2 M = some (r, M1)) : MT K l yX10_pointsInTruth cX10_pointsInTruth 7 (some .int) { frames := 5, cells := 0, slots := 0, locals := 125 } [vr 64, vi x1, vi x2] M (some (vi r)) M1 0 0 :=
  MT_of (by decide) rfl (Nat.le_of_ble_eq_true rfl) (fun X _ hB _ => b_X10_pointsInTruth hp hB hF)
def f_X10_truth (x1 : Int32) (M : Mem) : Option (Int32 × Mem) :=
  cl (f_X10_isSide x1 M) fun r1 M1m =>
  if r1 = 0 then
    some ((-1), M1m)
  else
    cl (f_X10_pointsInTruth x1 (-1) M1m) fun r2 M2m =>
    some (r2, M2m)
set_option maxRecDepth 100000 in
set_option maxHeartbeats 4000000 in
theorem b_X10_truth {K : Kt} {X : Xt} (hp : St K) (hB : Bx K X { frames := 6, cells := 0, slots := 0, locals := 151 } cX10_truth 2 RX10 (some .int)) {r : Int32} {M1 : Mem} {x1 : Int32} {M : Mem} (hF : f_X10_truth x1 M = some (r, M1)) : Wt K X (QM K X (some (vi r)) M1 0 0) 0 0 M 0 [(0, vr 64), (1, vi x1)] [] := by
  unfold f_X10_truth at hF
  refine w_aload_n hB 0 dX10_truth_0 rfl rfl ?_
  refine w_iload_n hB 1 dX10_truth_1 rfl rfl ?_
  obtain ⟨r1, M1m, hc_M1m, hF⟩ := clS hF
  refine w_callV hB (ci := 8) (As := [vi x1]) (st := []) cw_X10_150 q_753 q_1 rfl sh_64 (Or.inl hp.1) (c_X10_isSide hp hc_M1m) ⟨rfl, rfl⟩ (by decide) (by decide) rfl (Nat.le_of_ble_eq_true rfl) dX10_truth_2 rfl ?_
  refine w_if_eq hB 17 dX10_truth_5 (by decide) (fun hc => ?_) (fun hc => ?_)
  · replace hF := ifT hc hF
    refine w_iconst hB (-1) (by decide) dX10_truth_17 ?_
    obtain ⟨e1, e2⟩ := retS hF
    subst e2
    exact w_iret hB dX10_truth_18 e1
  · replace hF := ifF hc hF
    refine w_aload_n hB 0 dX10_truth_8 rfl rfl ?_
    refine w_iload_n hB 1 dX10_truth_9 rfl rfl ?_
    refine w_iconst hB (-1) (by decide) dX10_truth_10 ?_
    obtain ⟨r2, M2m, hc_M2m, hF⟩ := clS hF
    refine w_callV hB (ci := 8) (As := [vi x1, vi (-1)]) (st := []) cw_X10_362 q_997 q_15 rfl sh_64 (Or.inl hp.1) (c_X10_pointsInTruth hp hc_M2m) ⟨rfl, rfl⟩ (by decide) (by decide) rfl (Nat.le_of_ble_eq_true rfl) dX10_truth_11 rfl ?_
    refine w_goto hB 18 dX10_truth_14 (by decide) ?_
    obtain ⟨e1, e2⟩ := retS hF
    subst e2
    exact w_iret hB dX10_truth_18 e1
theorem c_X10_truth {K : Kt} {l : Launch} (hp : St K) {r : Int32} {M1 : Mem} {x1 : Int32} {M : Mem} (hF : f_X10_truth x1 M = some (r, M1)) : MT K l yX10_truth cX10_truth 2 (some .int) { frames := 6, cells := 0, slots := 0, locals := 151 } [vr 64, vi x1] M (some (vi r)) M1 0 0 :=
  MT_of (by decide) rfl (Nat.le_of_ble_eq_true rfl) (fun X _ hB _ => b_X10_truth hp hB hF)
def f_X10_range_b19 (xs1 : Int32) (xs2 : Int32) (M : Mem) : Option (Int32 × Mem) :=
  cl (f_X10_pointsInTruth xs1 xs2 M) fun r1 M1m =>
  some (r1, M1m)
set_option maxRecDepth 100000 in
set_option maxHeartbeats 4000000 in
theorem b_X10_range_b19 {K : Kt} {X : Xt} (hp : St K) (hB : Bx K X { frames := 6, cells := 0, slots := 0, locals := 151 } cX10_range 3 RX10 (some .int)) {r : Int32} {M1 : Mem} {xs1 : Int32} {xs2 : Int32} {M : Mem} (hF : f_X10_range_b19 xs1 xs2 M = some (r, M1)) : Wt K X (QM K X (some (vi r)) M1 0 0) 0 0 M 19 [] [vi xs2, vi xs1, vr 64] := by
  unfold f_X10_range_b19 at hF
  obtain ⟨r1, M1m, hc_M1m, hF⟩ := clS hF
  refine w_callV hB (ci := 8) (As := [vi xs1, vi xs2]) (st := []) cw_X10_362 q_997 q_15 rfl sh_64 (Or.inl hp.1) (c_X10_pointsInTruth hp hc_M1m) ⟨rfl, rfl⟩ (by decide) (by decide) rfl (Nat.le_of_ble_eq_true rfl) dX10_range_19 rfl ?_
  refine w_goto hB 26 dX10_range_22 (by decide) ?_
  obtain ⟨e1, e2⟩ := retS hF
  subst e2
  exact w_iret hB dX10_range_26 e1
def f_X10_range (x1 : Int32) (x2 : Int32) (M : Mem) : Option (Int32 × Mem) :=
  cl (f_X10_isSide x1 M) fun r1 M1m =>
  if r1 = 0 then
    some ((-1), M1m)
  else
    if x2 = 0 then
      f_X10_range_b19 x1 0 M1m
    else
      f_X10_range_b19 x1 1 M1m
set_option maxRecDepth 100000 in
set_option maxHeartbeats 4000000 in
theorem b_X10_range {K : Kt} {X : Xt} (hp : St K) (hB : Bx K X { frames := 6, cells := 0, slots := 0, locals := 151 } cX10_range 3 RX10 (some .int)) {r : Int32} {M1 : Mem} {x1 : Int32} {x2 : Int32} {M : Mem} (hF : f_X10_range x1 x2 M = some (r, M1)) : Wt K X (QM K X (some (vi r)) M1 0 0) 0 0 M 0 [(0, vr 64), (1, vi x1), (2, vi x2)] [] := by
  unfold f_X10_range at hF
  refine w_aload_n hB 0 dX10_range_0 rfl rfl ?_
  refine w_iload_n hB 1 dX10_range_1 rfl rfl ?_
  obtain ⟨r1, M1m, hc_M1m, hF⟩ := clS hF
  refine w_callV hB (ci := 8) (As := [vi x1]) (st := []) cw_X10_150 q_753 q_1 rfl sh_64 (Or.inl hp.1) (c_X10_isSide hp hc_M1m) ⟨rfl, rfl⟩ (by decide) (by decide) rfl (Nat.le_of_ble_eq_true rfl) dX10_range_2 rfl ?_
  refine w_if_eq hB 25 dX10_range_5 (by decide) (fun hc => ?_) (fun hc => ?_)
  · replace hF := ifT hc hF
    refine w_iconst hB (-1) (by decide) dX10_range_25 ?_
    obtain ⟨e1, e2⟩ := retS hF
    subst e2
    exact w_iret hB dX10_range_26 e1
  · replace hF := ifF hc hF
    refine w_aload_n hB 0 dX10_range_8 rfl rfl ?_
    refine w_iload_n hB 1 dX10_range_9 rfl rfl ?_
    refine w_iload_n hB 2 dX10_range_10 rfl rfl ?_
    refine w_if_eq hB 18 dX10_range_11 (by decide) (fun hc => ?_) (fun hc => ?_)
    · replace hF := ifT hc hF
      refine w_iconst hB 0 (by decide) dX10_range_18 ?_
      exact Wt.sub (L' := []) [] rfl (b_X10_range_b19 hp hB hF)
    · replace hF := ifF hc hF
      refine w_iconst hB 1 (by decide) dX10_range_14 ?_
      refine w_goto hB 19 dX10_range_15 (by decide) ?_
      exact Wt.sub (L' := []) [] rfl (b_X10_range_b19 hp hB hF)
theorem c_X10_range {K : Kt} {l : Launch} (hp : St K) {r : Int32} {M1 : Mem} {x1 : Int32} {x2 : Int32} {M : Mem} (hF : f_X10_range x1 x2 M = some (r, M1)) : MT K l yX10_range cX10_range 3 (some .int) { frames := 6, cells := 0, slots := 0, locals := 151 } [vr 64, vi x1, vi x2] M (some (vi r)) M1 0 0 :=
  MT_of (by decide) rfl (Nat.le_of_ble_eq_true rfl) (fun X _ hB _ => b_X10_range hp hB hF)
def f_X10_wrong_b4_s (rec4 : Int32 → Int32 → Mem → Option (Int32 × Mem)) (x1 : Int32) (x2 : Int32) (M : Mem) : Option (Int32 × Mem) :=
  gd (shc (M.2.2.1 64 2) = 8) <|
  if (M.1 (M.2.2.1 64 2) 11) ≤ x2 then
    some (x1, M)
  else
    gd (inb x2 8) <|
    bnd (cr (cr (M.2.2.1 64 2) 12) x2.toNatClampNeg) fun o1 =>
    cl (f_X4_trueCall (M.2.2.1 64 2) o1 (M.1 o1 4) M) fun r1 M1m =>
    if r1 = (M1m.1 o1 4) then
      bnd (x2 + 1) fun a1 =>
      rec4 x1 a1 M1m
    else
      bnd (x1 ||| ((1 : Int32) <<< (x2 &&& 31))) fun a2 =>
      bnd (x2 + 1) fun a3 =>
      rec4 a2 a3 M1m
set_option maxRecDepth 100000 in
set_option maxHeartbeats 4000000 in
theorem b_X10_wrong_b4_s {K : Kt} {X : Xt} (hp : St K) (hB : Bx K X { frames := 5, cells := 0, slots := 0, locals := 125 } cX10_wrong 4 RX10 (some .int)) {r : Int32} {M1 : Mem} {rec4 : Int32 → Int32 → Mem → Option (Int32 × Mem)}
    (h4 : ∀ x1 x2 M, rec4 x1 x2 M = some (r, M1) → Wt K X (QM K X (some (vi r)) M1 0 0) 0 0 M 4 [(0, vr 64), (1, vi x1), (2, vi x2)] []) {x1 : Int32} {x2 : Int32} {M : Mem} (hF : f_X10_wrong_b4_s rec4 x1 x2 M = some (r, M1)) : Wt K X (QM K X (some (vi r)) M1 0 0) 0 0 M 4 [(0, vr 64), (1, vi x1), (2, vi x2)] [] := by
  unfold f_X10_wrong_b4_s at hF
  refine w_iload_n hB 2 dX10_wrong_4 rfl rfl ?_
  refine w_aload_n hB 0 dX10_wrong_5 rfl rfl ?_
  refine w_getR hB ff_X10_2 sh_64 (Or.inl hp.1) q_475 dX10_wrong_6 ?_
  obtain ⟨g1, hF⟩ := gdS hF
  refine w_getI hB ff_X9_11 g1 (Or.inl hp.1) q_310 dX10_wrong_9 ?_
  refine w_icmp_ge hB 60 dX10_wrong_12 (by decide) (fun hc => ?_) (fun hc => ?_)
  · replace hF := ifT hc hF
    refine w_iload_n hB 1 dX10_wrong_60 rfl rfl ?_
    obtain ⟨e1, e2⟩ := retS hF
    subst e2
    exact w_iret hB dX10_wrong_61 e1
  · replace hF := ifF hc hF
    refine w_aload_n hB 0 dX10_wrong_15 rfl rfl ?_
    refine w_getR hB ff_X10_2 sh_64 (Or.inl hp.1) q_475 dX10_wrong_16 ?_
    refine w_getC hB (v := cr (M.2.2.1 64 2) 12) ff_X9_12 g1 hp.1 rfl (shc_ne (crc_8_12 g1).1) q_313 dX10_wrong_19 ?_
    refine w_iload_n hB 2 dX10_wrong_22 rfl rfl ?_
    obtain ⟨g2, hF⟩ := gdS hF
    refine w_aaldC hB (c := 6) (v := cr (cr (M.2.2.1 64 2) 12) x2.toNatClampNeg) (crc_8_12 g1).1 rfl (by decide) hp.1 (crc_8_12 g1).2 g2 rfl (shc_ne (cre_26 (crc_8_12 g1).1 (by rw [(crc_8_12 g1).2]; exact inb_lt g2))) dX10_wrong_23 ?_
    obtain ⟨o1, e_o1, hF⟩ := bndS hF
    rw [← e_o1]
    refine w_astore_n hB (L' := [(3, vr o1), (0, vr 64), (1, vi x1), (2, vi x2)]) dX10_wrong_24 rfl (by decide) rfl ?_
    refine w_aload_n hB 1 dX10_wrong_25 rfl rfl ?_
    refine w_getC hB (v := 212) ff_X10_5 sh_64 hp.1 cr_64_5 (by decide) q_478 dX10_wrong_26 ?_
    refine w_aload_n hB 1 dX10_wrong_29 rfl rfl ?_
    refine w_getR hB ff_X10_2 sh_64 (Or.inl hp.1) q_475 dX10_wrong_30 ?_
    refine w_aload_n hB 0 dX10_wrong_33 rfl rfl ?_
    refine w_aload_n hB 0 dX10_wrong_34 rfl rfl ?_
    refine w_getI hB ff_X6_4 (by rw [e_o1]; exact (cre_26 (crc_8_12 g1).1 (by rw [(crc_8_12 g1).2]; exact inb_lt g2))) (Or.inl hp.1) q_208 dX10_wrong_35 ?_
    obtain ⟨r1, M1m, hc_M1m, hF⟩ := clS hF
    refine w_callV hB (ci := 3) (As := [vr (M.2.2.1 64 2), vr o1, vi (M.1 o1 4)]) (st := []) cw_X10_365 q_1000 q_1001 rfl sh_212 (Or.inl hp.1) (c_X4_trueCall hp hc_M1m) ⟨rfl, rfl⟩ (by decide) (by decide) rfl (Nat.le_of_ble_eq_true rfl) dX10_wrong_38 rfl ?_
    refine w_aload_n hB 0 dX10_wrong_41 rfl rfl ?_
    refine w_getI hB ff_X6_4 (by rw [e_o1]; exact (cre_26 (crc_8_12 g1).1 (by rw [(crc_8_12 g1).2]; exact inb_lt g2))) (Or.inl hp.1) q_208 dX10_wrong_42 ?_
    refine w_icmp_eq hB 54 dX10_wrong_45 (by decide) (fun hc => ?_) (fun hc => ?_)
    · replace hF := ifT hc hF
      obtain ⟨a1, e_a1, hF⟩ := bndS hF
      refine w_iinc hB 3 (v := 1) (L' := [(2, vi a1), (3, vr o1), (0, vr 64), (1, vi x1)]) dX10_wrong_54 rfl (by decide) (by decide) e_a1 rfl ?_
      refine w_goto hB 4 dX10_wrong_57 (by decide) ?_
      exact Wt.sub (L' := [(0, vr 64), (1, vi x1), (2, vi a1)]) [2, 3, 0] rfl (h4 _ _ M1m hF)
    · replace hF := ifF hc hF
      refine w_iload_n hB 2 dX10_wrong_48 rfl rfl ?_
      refine w_iconst hB 1 (by decide) dX10_wrong_49 ?_
      refine w_iload_n hB 3 dX10_wrong_50 rfl rfl ?_
      refine w_ishl hB dX10_wrong_51 ?_
      refine w_ior hB dX10_wrong_52 ?_
      obtain ⟨a2, e_a2, hF⟩ := bndS hF
      refine w_istore_n hB (L' := [(1, vi a2), (3, vr o1), (0, vr 64), (2, vi x2)]) dX10_wrong_53 rfl (by decide) e_a2 rfl ?_
      obtain ⟨a3, e_a3, hF⟩ := bndS hF
      refine w_iinc hB 3 (v := 1) (L' := [(2, vi a3), (1, vi a2), (3, vr o1), (0, vr 64)]) dX10_wrong_54 rfl (by decide) (by decide) e_a3 rfl ?_
      refine w_goto hB 4 dX10_wrong_57 (by decide) ?_
      exact Wt.sub (L' := [(0, vr 64), (1, vi a2), (2, vi a3)]) [3, 1, 0] rfl (h4 _ _ M1m hF)
def f_X10_wrong_b4 (k : Nat) : Int32 → Int32 → Mem → Option (Int32 × Mem) := lpN (fun _ _ _ => none) (f_X10_wrong_b4_s) k
theorem b_X10_wrong_b4 {K : Kt} {X : Xt} (hp : St K) (hB : Bx K X { frames := 5, cells := 0, slots := 0, locals := 125 } cX10_wrong 4 RX10 (some .int)) {r : Int32} {M1 : Mem} (k : Nat) : ∀ (x1 : Int32) (x2 : Int32) M, f_X10_wrong_b4 k x1 x2 M = some (r, M1) → Wt K X (QM K X (some (vi r)) M1 0 0) 0 0 M 4 [(0, vr 64), (1, vi x1), (2, vi x2)] [] := by
  refine lpN_ind (P := fun (f : Int32 → Int32 → Mem → Option (Int32 × Mem)) => ∀ (x1 : Int32) (x2 : Int32) M, f x1 x2 M = some (r, M1) → Wt K X (QM K X (some (vi r)) M1 0 0) 0 0 M 4 [(0, vr 64), (1, vi x1), (2, vi x2)] []) (fun _ _ _ h => by cases h) (fun f hf x1 x2 M hF => ?_) k
  exact b_X10_wrong_b4_s hp hB hf hF
def f_X10_wrong (M : Mem) : Option (Int32 × Mem) :=
  f_X10_wrong_b4 fuel 0 0 M
set_option maxRecDepth 100000 in
set_option maxHeartbeats 4000000 in
theorem b_X10_wrong {K : Kt} {X : Xt} (hp : St K) (hB : Bx K X { frames := 5, cells := 0, slots := 0, locals := 125 } cX10_wrong 4 RX10 (some .int)) {r : Int32} {M1 : Mem} {M : Mem} (hF : f_X10_wrong M = some (r, M1)) : Wt K X (QM K X (some (vi r)) M1 0 0) 0 0 M 0 [(0, vr 64)] [] := by
  unfold f_X10_wrong at hF
  refine w_iconst hB 0 (by decide) dX10_wrong_0 ?_
  refine w_istore_n hB (L' := [(1, vi 0), (0, vr 64)]) dX10_wrong_1 rfl (by decide) rfl rfl ?_
  refine w_iconst hB 0 (by decide) dX10_wrong_2 ?_
  refine w_istore_n hB (L' := [(2, vi 0), (1, vi 0), (0, vr 64)]) dX10_wrong_3 rfl (by decide) rfl rfl ?_
  exact Wt.sub (L' := [(0, vr 64), (1, vi 0), (2, vi 0)]) [2, 1, 0] rfl (b_X10_wrong_b4 hp hB fuel _ _ M hF)
theorem c_X10_wrong {K : Kt} {l : Launch} (hp : St K) {r : Int32} {M1 : Mem} {M : Mem} (hF : f_X10_wrong M = some (r, M1)) : MT K l yX10_wrong cX10_wrong 4 (some .int) { frames := 5, cells := 0, slots := 0, locals := 125 } [vr 64] M (some (vi r)) M1 0 0 :=
  MT_of (by decide) rfl (Nat.le_of_ble_eq_true rfl) (fun X _ hB _ => b_X10_wrong hp hB hF)
def f_X10_callUnchallenged_b46 (n2 : Nat) (xs0 : Int32) (M : Mem) : Option (Int32 × Mem) :=
  if xs0 = 0 then
    gd (shc n2 = 6) <|
    some (M.1 n2 4, M)
  else
    gd (shc n2 = 6) <|
    some (1 - (M.1 n2 4), M)
set_option maxRecDepth 100000 in
set_option maxHeartbeats 4000000 in
theorem b_X10_callUnchallenged_b46 {K : Kt} {X : Xt} (hp : St K) (hB : Bx K X { frames := 5, cells := 0, slots := 0, locals := 127 } cX10_callUnchallenged 4 RX10 (some .int)) {r : Int32} {M1 : Mem} {n2 : Nat} {xs0 : Int32} {M : Mem} (hF : f_X10_callUnchallenged_b46 n2 xs0 M = some (r, M1)) : Wt K X (QM K X (some (vi r)) M1 0 0) 0 0 M 46 [(2, vr n2)] [vi xs0] := by
  unfold f_X10_callUnchallenged_b46 at hF
  refine w_istore_n hB (L' := [(3, vi xs0), (2, vr n2)]) dX10_callUnchallenged_46 rfl (by decide) rfl rfl ?_
  refine w_iload_n hB 0 dX10_callUnchallenged_47 rfl rfl ?_
  refine w_if_eq hB 60 dX10_callUnchallenged_48 (by decide) (fun hc => ?_) (fun hc => ?_)
  · replace hF := ifT hc hF
    refine w_aload_n hB 1 dX10_callUnchallenged_60 rfl rfl ?_
    obtain ⟨g1, hF⟩ := gdS hF
    refine w_getI hB ff_X6_4 g1 (Or.inl hp.1) q_208 dX10_callUnchallenged_61 ?_
    obtain ⟨e1, e2⟩ := retS hF
    subst e2
    exact w_iret hB dX10_callUnchallenged_64 e1
  · replace hF := ifF hc hF
    refine w_iconst hB 1 (by decide) dX10_callUnchallenged_51 ?_
    refine w_aload_n hB 1 dX10_callUnchallenged_52 rfl rfl ?_
    obtain ⟨g2, hF⟩ := gdS hF
    refine w_getI hB ff_X6_4 g2 (Or.inl hp.1) q_208 dX10_callUnchallenged_53 ?_
    refine w_isub hB dX10_callUnchallenged_56 ?_
    refine w_goto hB 64 dX10_callUnchallenged_57 (by decide) ?_
    obtain ⟨e1, e2⟩ := retS hF
    subst e2
    exact w_iret hB dX10_callUnchallenged_64 e1
def f_X10_callUnchallenged_b45 (n2 : Nat) (M : Mem) : Option (Int32 × Mem) :=
  f_X10_callUnchallenged_b46 n2 0 M
set_option maxRecDepth 100000 in
set_option maxHeartbeats 4000000 in
theorem b_X10_callUnchallenged_b45 {K : Kt} {X : Xt} (hp : St K) (hB : Bx K X { frames := 5, cells := 0, slots := 0, locals := 127 } cX10_callUnchallenged 4 RX10 (some .int)) {r : Int32} {M1 : Mem} {n2 : Nat} {M : Mem} (hF : f_X10_callUnchallenged_b45 n2 M = some (r, M1)) : Wt K X (QM K X (some (vi r)) M1 0 0) 0 0 M 45 [(2, vr n2)] [] := by
  unfold f_X10_callUnchallenged_b45 at hF
  refine w_iconst hB 0 (by decide) dX10_callUnchallenged_45 ?_
  exact Wt.sub (L' := [(2, vr n2)]) [0] rfl (b_X10_callUnchallenged_b46 hp hB hF)
def f_X10_callUnchallenged (x1 : Int32) (M : Mem) : Option (Int32 × Mem) :=
  gd (shc (M.2.2.1 64 2) = 8) <|
  gd (inb x1 8) <|
  bnd (cr (cr (M.2.2.1 64 2) 12) x1.toNatClampNeg) fun o1 =>
  cl (f_X9_isReviewedAtOnce (M.2.2.1 64 2) x1 M) fun r1 M1m =>
  if r1 = 0 then
    f_X10_callUnchallenged_b45 o1 M1m
  else
    cl (f_X4_review (M1m.2.2.1 64 2) o1 (M1m.1 o1 4) M1m) fun r2 M2m =>
    if r2 = 2 then
      f_X10_callUnchallenged_b46 o1 1 M2m
    else
      f_X10_callUnchallenged_b45 o1 M2m
set_option maxRecDepth 100000 in
set_option maxHeartbeats 4000000 in
theorem b_X10_callUnchallenged {K : Kt} {X : Xt} (hp : St K) (hB : Bx K X { frames := 5, cells := 0, slots := 0, locals := 127 } cX10_callUnchallenged 4 RX10 (some .int)) {r : Int32} {M1 : Mem} {x1 : Int32} {M : Mem} (hF : f_X10_callUnchallenged x1 M = some (r, M1)) : Wt K X (QM K X (some (vi r)) M1 0 0) 0 0 M 0 [(0, vr 64), (1, vi x1)] [] := by
  unfold f_X10_callUnchallenged at hF
  refine w_aload_n hB 0 dX10_callUnchallenged_0 rfl rfl ?_
  refine w_getR hB ff_X10_2 sh_64 (Or.inl hp.1) q_475 dX10_callUnchallenged_1 ?_
  obtain ⟨g1, hF⟩ := gdS hF
  refine w_getC hB (v := cr (M.2.2.1 64 2) 12) ff_X9_12 g1 hp.1 rfl (shc_ne (crc_8_12 g1).1) q_313 dX10_callUnchallenged_4 ?_
  refine w_iload_n hB 1 dX10_callUnchallenged_7 rfl rfl ?_
  obtain ⟨g2, hF⟩ := gdS hF
  refine w_aaldC hB (c := 6) (v := cr (cr (M.2.2.1 64 2) 12) x1.toNatClampNeg) (crc_8_12 g1).1 rfl (by decide) hp.1 (crc_8_12 g1).2 g2 rfl (shc_ne (cre_26 (crc_8_12 g1).1 (by rw [(crc_8_12 g1).2]; exact inb_lt g2))) dX10_callUnchallenged_8 ?_
  obtain ⟨o1, e_o1, hF⟩ := bndS hF
  rw [← e_o1]
  refine w_astore_n hB (L' := [(2, vr o1), (0, vr 64), (1, vi x1)]) dX10_callUnchallenged_9 rfl (by decide) rfl ?_
  refine w_aload_n hB 1 dX10_callUnchallenged_10 rfl rfl ?_
  refine w_getR hB ff_X10_2 sh_64 (Or.inl hp.1) q_475 dX10_callUnchallenged_11 ?_
  refine w_iload_n hB 2 dX10_callUnchallenged_14 rfl rfl ?_
  obtain ⟨r1, M1m, hc_M1m, hF⟩ := clS hF
  refine w_callV hB (ci := 7) (As := [vi x1]) (st := []) cw_X10_286 q_925 q_926 rfl g1 (Or.inl hp.1) (c_X9_isReviewedAtOnce hp hc_M1m) ⟨rfl, rfl⟩ (by decide) (by decide) rfl (Nat.le_of_ble_eq_true rfl) dX10_callUnchallenged_15 rfl ?_
  refine w_if_eq hB 45 dX10_callUnchallenged_18 (by decide) (fun hc => ?_) (fun hc => ?_)
  · replace hF := ifT hc hF
    exact Wt.sub (L' := [(2, vr o1)]) [0] rfl (b_X10_callUnchallenged_b45 hp hB hF)
  · replace hF := ifF hc hF
    refine w_aload_n hB 1 dX10_callUnchallenged_21 rfl rfl ?_
    refine w_getC hB (v := 212) ff_X10_5 sh_64 hp.1 cr_64_5 (by decide) q_478 dX10_callUnchallenged_22 ?_
    refine w_aload_n hB 1 dX10_callUnchallenged_25 rfl rfl ?_
    refine w_getR hB ff_X10_2 sh_64 (Or.inl hp.1) q_475 dX10_callUnchallenged_26 ?_
    refine w_aload_n hB 0 dX10_callUnchallenged_29 rfl rfl ?_
    refine w_aload_n hB 0 dX10_callUnchallenged_30 rfl rfl ?_
    refine w_getI hB ff_X6_4 (by rw [e_o1]; exact (cre_26 (crc_8_12 g1).1 (by rw [(crc_8_12 g1).2]; exact inb_lt g2))) (Or.inl hp.1) q_208 dX10_callUnchallenged_31 ?_
    obtain ⟨r2, M2m, hc_M2m, hF⟩ := clS hF
    refine w_callV hB (ci := 3) (As := [vr (M1m.2.2.1 64 2), vr o1, vi (M1m.1 o1 4)]) (st := []) cw_X10_270 q_903 q_904 rfl sh_212 (Or.inl hp.1) (c_X4_review hp hc_M2m) ⟨rfl, rfl⟩ (by decide) (by decide) rfl (Nat.le_of_ble_eq_true rfl) dX10_callUnchallenged_34 rfl ?_
    refine w_iconst hB 2 (by decide) dX10_callUnchallenged_37 ?_
    refine w_icmp_ne hB 45 dX10_callUnchallenged_38 (by decide) (fun hc => ?_) (fun hc => ?_)
    · replace hF := ifF hc hF
      exact Wt.sub (L' := [(2, vr o1)]) [0] rfl (b_X10_callUnchallenged_b45 hp hB hF)
    · replace hF := ifT hc hF
      refine w_iconst hB 1 (by decide) dX10_callUnchallenged_41 ?_
      refine w_goto hB 46 dX10_callUnchallenged_42 (by decide) ?_
      exact Wt.sub (L' := [(2, vr o1)]) [0] rfl (b_X10_callUnchallenged_b46 hp hB hF)
theorem c_X10_callUnchallenged {K : Kt} {l : Launch} (hp : St K) {r : Int32} {M1 : Mem} {x1 : Int32} {M : Mem} (hF : f_X10_callUnchallenged x1 M = some (r, M1)) : MT K l yX10_callUnchallenged cX10_callUnchallenged 4 (some .int) { frames := 5, cells := 0, slots := 0, locals := 127 } [vr 64, vi x1] M (some (vi r)) M1 0 0 :=
  MT_of (by decide) rfl (Nat.le_of_ble_eq_true rfl) (fun X _ hB _ => b_X10_callUnchallenged hp hB hF)
def f_X10_left_b14_s (rec14 : Int32 → Int32 → Int32 → Mem → Option (Int32 × Mem)) (x1 : Int32) (x2 : Int32) (x3 : Int32) (M : Mem) : Option (Int32 × Mem) :=
  gd (shc (M.2.2.1 64 2) = 8) <|
  if (M.1 (M.2.2.1 64 2) 11) ≤ x3 then
    some (x2, M)
  else
    gd (inb x3 8) <|
    if (M.1 (cr (cr (M.2.2.1 64 2) 12) x3.toNatClampNeg) 2) = x1 then
      cl (f_X10_callUnchallenged x3 M) fun r1 M1m =>
      if r1 = 1 then
        gd (shc (M1m.2.2.1 64 2) = 8) <|
        bnd (x2 + (M1m.1 (cr (cr (M1m.2.2.1 64 2) 12) x3.toNatClampNeg) 3)) fun a1 =>
        bnd (x3 + 1) fun a2 =>
        rec14 x1 a1 a2 M1m
      else
        bnd (x3 + 1) fun a3 =>
        rec14 x1 x2 a3 M1m
    else
      bnd (x3 + 1) fun a4 =>
      rec14 x1 x2 a4 M
set_option maxRecDepth 100000 in
set_option maxHeartbeats 4000000 in
theorem b_X10_left_b14_s {K : Kt} {X : Xt} (hp : St K) (hB : Bx K X { frames := 6, cells := 0, slots := 0, locals := 150 } cX10_left 4 RX10 (some .int)) {r : Int32} {M1 : Mem} {rec14 : Int32 → Int32 → Int32 → Mem → Option (Int32 × Mem)}
    (h14 : ∀ x1 x2 x3 M, rec14 x1 x2 x3 M = some (r, M1) → Wt K X (QM K X (some (vi r)) M1 0 0) 0 0 M 14 [(0, vr 64), (1, vi x1), (2, vi x2), (3, vi x3)] []) {x1 : Int32} {x2 : Int32} {x3 : Int32} {M : Mem} (hF : f_X10_left_b14_s rec14 x1 x2 x3 M = some (r, M1)) : Wt K X (QM K X (some (vi r)) M1 0 0) 0 0 M 14 [(0, vr 64), (1, vi x1), (2, vi x2), (3, vi x3)] [] := by
  unfold f_X10_left_b14_s at hF
  refine w_iload_n hB 3 dX10_left_14 rfl rfl ?_
  refine w_aload_n hB 0 dX10_left_15 rfl rfl ?_
  refine w_getR hB ff_X10_2 sh_64 (Or.inl hp.1) q_475 dX10_left_16 ?_
  obtain ⟨g1, hF⟩ := gdS hF
  refine w_getI hB ff_X9_11 g1 (Or.inl hp.1) q_310 dX10_left_19 ?_
  refine w_icmp_ge hB 71 dX10_left_22 (by decide) (fun hc => ?_) (fun hc => ?_)
  · replace hF := ifT hc hF
    refine w_iload_n hB 2 dX10_left_71 rfl rfl ?_
    obtain ⟨e1, e2⟩ := retS hF
    subst e2
    exact w_iret hB dX10_left_72 e1
  · replace hF := ifF hc hF
    refine w_aload_n hB 0 dX10_left_25 rfl rfl ?_
    refine w_getR hB ff_X10_2 sh_64 (Or.inl hp.1) q_475 dX10_left_26 ?_
    refine w_getC hB (v := cr (M.2.2.1 64 2) 12) ff_X9_12 g1 hp.1 rfl (shc_ne (crc_8_12 g1).1) q_313 dX10_left_29 ?_
    refine w_iload_n hB 3 dX10_left_32 rfl rfl ?_
    obtain ⟨g2, hF⟩ := gdS hF
    refine w_aaldC hB (c := 6) (v := cr (cr (M.2.2.1 64 2) 12) x3.toNatClampNeg) (crc_8_12 g1).1 rfl (by decide) hp.1 (crc_8_12 g1).2 g2 rfl (shc_ne (cre_26 (crc_8_12 g1).1 (by rw [(crc_8_12 g1).2]; exact inb_lt g2))) dX10_left_33 ?_
    refine w_getI hB ff_X6_2 (cre_26 (crc_8_12 g1).1 (by rw [(crc_8_12 g1).2]; exact inb_lt g2)) (Or.inl hp.1) q_204 dX10_left_34 ?_
    refine w_iload_n hB 1 dX10_left_37 rfl rfl ?_
    refine w_icmp_ne hB 65 dX10_left_38 (by decide) (fun hc => ?_) (fun hc => ?_)
    · replace hF := ifF hc hF
      obtain ⟨a4, e_a4, hF⟩ := bndS hF
      refine w_iinc hB 3 (v := 1) (L' := [(3, vi a4), (0, vr 64), (1, vi x1), (2, vi x2)]) dX10_left_65 rfl (by decide) (by decide) e_a4 rfl ?_
      refine w_goto hB 14 dX10_left_68 (by decide) ?_
      exact Wt.sub (L' := [(0, vr 64), (1, vi x1), (2, vi x2), (3, vi a4)]) [1, 2, 3, 0] rfl (h14 _ _ _ M hF)
    · replace hF := ifT hc hF
      refine w_aload_n hB 0 dX10_left_41 rfl rfl ?_
      refine w_iload_n hB 3 dX10_left_42 rfl rfl ?_
      obtain ⟨r1, M1m, hc_M1m, hF⟩ := clS hF
      refine w_callV hB (ci := 8) (As := [vi x3]) (st := []) cw_X10_368 q_1017 q_16 rfl sh_64 (Or.inl hp.1) (c_X10_callUnchallenged hp hc_M1m) ⟨rfl, rfl⟩ (by decide) (by decide) rfl (Nat.le_of_ble_eq_true rfl) dX10_left_43 rfl ?_
      refine w_iconst hB 1 (by decide) dX10_left_46 ?_
      refine w_icmp_ne hB 65 dX10_left_47 (by decide) (fun hc => ?_) (fun hc => ?_)
      · replace hF := ifF hc hF
        obtain ⟨a3, e_a3, hF⟩ := bndS hF
        refine w_iinc hB 3 (v := 1) (L' := [(3, vi a3), (0, vr 64), (1, vi x1), (2, vi x2)]) dX10_left_65 rfl (by decide) (by decide) e_a3 rfl ?_
        refine w_goto hB 14 dX10_left_68 (by decide) ?_
        exact Wt.sub (L' := [(0, vr 64), (1, vi x1), (2, vi x2), (3, vi a3)]) [1, 2, 3, 0] rfl (h14 _ _ _ M1m hF)
      · replace hF := ifT hc hF
        refine w_iload_n hB 2 dX10_left_50 rfl rfl ?_
        refine w_aload_n hB 0 dX10_left_51 rfl rfl ?_
        refine w_getR hB ff_X10_2 sh_64 (Or.inl hp.1) q_475 dX10_left_52 ?_
        obtain ⟨g3, hF⟩ := gdS hF
        refine w_getC hB (v := cr (M1m.2.2.1 64 2) 12) ff_X9_12 g3 hp.1 rfl (shc_ne (crc_8_12 g3).1) q_313 dX10_left_55 ?_
        refine w_iload_n hB 3 dX10_left_58 rfl rfl ?_
        refine w_aaldC hB (c := 6) (v := cr (cr (M1m.2.2.1 64 2) 12) x3.toNatClampNeg) (crc_8_12 g3).1 rfl (by decide) hp.1 (crc_8_12 g3).2 g2 rfl (shc_ne (cre_26 (crc_8_12 g3).1 (by rw [(crc_8_12 g3).2]; exact inb_lt g2))) dX10_left_59 ?_
        refine w_getI hB ff_X6_3 (cre_26 (crc_8_12 g3).1 (by rw [(crc_8_12 g3).2]; exact inb_lt g2)) (Or.inl hp.1) q_206 dX10_left_60 ?_
        refine w_iadd hB dX10_left_63 ?_
        obtain ⟨a1, e_a1, hF⟩ := bndS hF
        refine w_istore_n hB (L' := [(2, vi a1), (0, vr 64), (1, vi x1), (3, vi x3)]) dX10_left_64 rfl (by decide) e_a1 rfl ?_
        obtain ⟨a2, e_a2, hF⟩ := bndS hF
        refine w_iinc hB 3 (v := 1) (L' := [(3, vi a2), (2, vi a1), (0, vr 64), (1, vi x1)]) dX10_left_65 rfl (by decide) (by decide) e_a2 rfl ?_
        refine w_goto hB 14 dX10_left_68 (by decide) ?_
        exact Wt.sub (L' := [(0, vr 64), (1, vi x1), (2, vi a1), (3, vi a2)]) [2, 3, 1, 0] rfl (h14 _ _ _ M1m hF)
def f_X10_left_b14 (k : Nat) : Int32 → Int32 → Int32 → Mem → Option (Int32 × Mem) := lpN (fun _ _ _ _ => none) (f_X10_left_b14_s) k
theorem b_X10_left_b14 {K : Kt} {X : Xt} (hp : St K) (hB : Bx K X { frames := 6, cells := 0, slots := 0, locals := 150 } cX10_left 4 RX10 (some .int)) {r : Int32} {M1 : Mem} (k : Nat) : ∀ (x1 : Int32) (x2 : Int32) (x3 : Int32) M, f_X10_left_b14 k x1 x2 x3 M = some (r, M1) → Wt K X (QM K X (some (vi r)) M1 0 0) 0 0 M 14 [(0, vr 64), (1, vi x1), (2, vi x2), (3, vi x3)] [] := by
  refine lpN_ind (P := fun (f : Int32 → Int32 → Int32 → Mem → Option (Int32 × Mem)) => ∀ (x1 : Int32) (x2 : Int32) (x3 : Int32) M, f x1 x2 x3 M = some (r, M1) → Wt K X (QM K X (some (vi r)) M1 0 0) 0 0 M 14 [(0, vr 64), (1, vi x1), (2, vi x2), (3, vi x3)] []) (fun _ _ _ _ h => by cases h) (fun f hf x1 x2 x3 M hF => ?_) k
  exact b_X10_left_b14_s hp hB hf hF
def f_X10_left (x1 : Int32) (M : Mem) : Option (Int32 × Mem) :=
  cl (f_X10_isSide x1 M) fun r1 M1m =>
  if r1 = 0 then
    some ((-1), M1m)
  else
    f_X10_left_b14 fuel x1 0 0 M1m
set_option maxRecDepth 100000 in
set_option maxHeartbeats 4000000 in
theorem b_X10_left {K : Kt} {X : Xt} (hp : St K) (hB : Bx K X { frames := 6, cells := 0, slots := 0, locals := 150 } cX10_left 4 RX10 (some .int)) {r : Int32} {M1 : Mem} {x1 : Int32} {M : Mem} (hF : f_X10_left x1 M = some (r, M1)) : Wt K X (QM K X (some (vi r)) M1 0 0) 0 0 M 0 [(0, vr 64), (1, vi x1)] [] := by
  unfold f_X10_left at hF
  refine w_aload_n hB 0 dX10_left_0 rfl rfl ?_
  refine w_iload_n hB 1 dX10_left_1 rfl rfl ?_
  obtain ⟨r1, M1m, hc_M1m, hF⟩ := clS hF
  refine w_callV hB (ci := 8) (As := [vi x1]) (st := []) cw_X10_150 q_753 q_1 rfl sh_64 (Or.inl hp.1) (c_X10_isSide hp hc_M1m) ⟨rfl, rfl⟩ (by decide) (by decide) rfl (Nat.le_of_ble_eq_true rfl) dX10_left_2 rfl ?_
  refine w_if_ne hB 10 dX10_left_5 (by decide) (fun hc => ?_) (fun hc => ?_)
  · replace hF := ifF hc hF
    refine w_iconst hB 0 (by decide) dX10_left_10 ?_
    refine w_istore_n hB (L' := [(2, vi 0), (0, vr 64), (1, vi x1)]) dX10_left_11 rfl (by decide) rfl rfl ?_
    refine w_iconst hB 0 (by decide) dX10_left_12 ?_
    refine w_istore_n hB (L' := [(3, vi 0), (2, vi 0), (0, vr 64), (1, vi x1)]) dX10_left_13 rfl (by decide) rfl rfl ?_
    exact Wt.sub (L' := [(0, vr 64), (1, vi x1), (2, vi 0), (3, vi 0)]) [2, 3, 1, 0] rfl (b_X10_left_b14 hp hB fuel _ _ _ M1m hF)
  · replace hF := ifT hc hF
    refine w_iconst hB (-1) (by decide) dX10_left_8 ?_
    obtain ⟨e1, e2⟩ := retS hF
    subst e2
    exact w_iret hB dX10_left_9 e1
theorem c_X10_left {K : Kt} {l : Launch} (hp : St K) {r : Int32} {M1 : Mem} {x1 : Int32} {M : Mem} (hF : f_X10_left x1 M = some (r, M1)) : MT K l yX10_left cX10_left 4 (some .int) { frames := 6, cells := 0, slots := 0, locals := 150 } [vr 64, vi x1] M (some (vi r)) M1 0 0 :=
  MT_of (by decide) rfl (Nat.le_of_ble_eq_true rfl) (fun X _ hB _ => b_X10_left hp hB hF)
def f_X10_isAgainst (x0 : Int32) (n1 : Nat) (M : Mem) : Option (Int32 × Mem) :=
  gd (shc n1 = 6) <|
  if (M.1 n1 2) = x0 then
    if (M.1 n1 4) = 0 then
      some (1, M)
    else
      some (0, M)
  else
    if (M.1 n1 4) = 1 then
      some (1, M)
    else
      some (0, M)
set_option maxRecDepth 100000 in
set_option maxHeartbeats 4000000 in
theorem b_X10_isAgainst {K : Kt} {X : Xt} (hp : St K) (hB : Bx K X { frames := 0, cells := 0, slots := 0, locals := 0 } cX10_isAgainst 2 RX10 (some .boolean)) {r : Int32} {M1 : Mem} {x0 : Int32} {n1 : Nat} {M : Mem} (hF : f_X10_isAgainst x0 n1 M = some (r, M1)) : Wt K X (QM K X (some (vi r)) M1 0 0) 0 0 M 0 [(0, vi x0), (1, vr n1)] [] := by
  unfold f_X10_isAgainst at hF
  refine w_aload_n hB 1 dX10_isAgainst_0 rfl rfl ?_
  obtain ⟨g1, hF⟩ := gdS hF
  refine w_getI hB ff_X6_2 g1 (Or.inl hp.1) q_204 dX10_isAgainst_1 ?_
  refine w_iload_n hB 0 dX10_isAgainst_4 rfl rfl ?_
  refine w_icmp_ne hB 23 dX10_isAgainst_5 (by decide) (fun hc => ?_) (fun hc => ?_)
  · replace hF := ifF hc hF
    refine w_aload_n hB 1 dX10_isAgainst_23 rfl rfl ?_
    refine w_getI hB ff_X6_4 g1 (Or.inl hp.1) q_208 dX10_isAgainst_24 ?_
    refine w_iconst hB 1 (by decide) dX10_isAgainst_27 ?_
    refine w_icmp_ne hB 35 dX10_isAgainst_28 (by decide) (fun hc => ?_) (fun hc => ?_)
    · replace hF := ifF hc hF
      refine w_iconst hB 0 (by decide) dX10_isAgainst_35 ?_
      obtain ⟨e1, e2⟩ := retS hF
      subst e2
      exact w_zret hB (by decide) dX10_isAgainst_36 e1
    · replace hF := ifT hc hF
      refine w_iconst hB 1 (by decide) dX10_isAgainst_31 ?_
      refine w_goto hB 36 dX10_isAgainst_32 (by decide) ?_
      obtain ⟨e1, e2⟩ := retS hF
      subst e2
      exact w_zret hB (by decide) dX10_isAgainst_36 e1
  · replace hF := ifT hc hF
    refine w_aload_n hB 1 dX10_isAgainst_8 rfl rfl ?_
    refine w_getI hB ff_X6_4 g1 (Or.inl hp.1) q_208 dX10_isAgainst_9 ?_
    refine w_if_ne hB 19 dX10_isAgainst_12 (by decide) (fun hc => ?_) (fun hc => ?_)
    · replace hF := ifF hc hF
      refine w_iconst hB 0 (by decide) dX10_isAgainst_19 ?_
      refine w_goto hB 36 dX10_isAgainst_20 (by decide) ?_
      obtain ⟨e1, e2⟩ := retS hF
      subst e2
      exact w_zret hB (by decide) dX10_isAgainst_36 e1
    · replace hF := ifT hc hF
      refine w_iconst hB 1 (by decide) dX10_isAgainst_15 ?_
      refine w_goto hB 36 dX10_isAgainst_16 (by decide) ?_
      obtain ⟨e1, e2⟩ := retS hF
      subst e2
      exact w_zret hB (by decide) dX10_isAgainst_36 e1
theorem c_X10_isAgainst {K : Kt} {l : Launch} (hp : St K) {r : Int32} {M1 : Mem} {x0 : Int32} {n1 : Nat} {M : Mem} (hF : f_X10_isAgainst x0 n1 M = some (r, M1)) : MT K l yX10_isAgainst cX10_isAgainst 2 (some .boolean) { frames := 0, cells := 0, slots := 0, locals := 0 } [vi x0, vr n1] M (some (vi r)) M1 0 0 :=
  MT_of (by decide) rfl (Nat.le_of_ble_eq_true rfl) (fun X _ hB _ => b_X10_isAgainst hp hB hF)
def f_X10_neverLacks_b9_s (rec9 : Int32 → Int32 → Int32 → Int32 → Int32 → Mem → Option (Int32 × Mem)) (x2 : Int32) (x3 : Int32) (x4 : Int32) (x5 : Int32) (x6 : Int32) (M : Mem) : Option (Int32 × Mem) :=
  gd (shc (M.2.2.1 64 2) = 8) <|
  if (M.1 (M.2.2.1 64 2) 11) ≤ x6 then
    some (1, M)
  else
    if ((x2 >>> (x6 &&& 31)) &&& 1) = 0 then
      bnd (x6 + 1) fun a1 =>
      rec9 x2 x3 x4 x5 a1 M
    else
      if x4 = 0 then
        some (0, M)
      else
        if ((x3 >>> (x6 &&& 31)) &&& 1) = 0 then
          bnd (x4 + (-1)) fun a2 =>
          bnd (x6 + 1) fun a3 =>
          rec9 x2 x3 a2 x5 a3 M
        else
          bnd (x5 + 1) fun a4 =>
          cl (f_X9_leftWhenWon (M.2.2.1 64 2) x4 a4 M) fun r1 M1m =>
          bnd (x6 + 1) fun a5 =>
          rec9 x2 x3 r1 a4 a5 M1m
set_option maxRecDepth 100000 in
set_option maxHeartbeats 4000000 in
theorem b_X10_neverLacks_b9_s {K : Kt} {X : Xt} (hp : St K) (hB : Bx K X { frames := 2, cells := 0, slots := 0, locals := 45 } cX10_neverLacks 7 RX10 (some .boolean)) {r : Int32} {M1 : Mem} {rec9 : Int32 → Int32 → Int32 → Int32 → Int32 → Mem → Option (Int32 × Mem)}
    (h9 : ∀ x2 x3 x4 x5 x6 M, rec9 x2 x3 x4 x5 x6 M = some (r, M1) → Wt K X (QM K X (some (vi r)) M1 0 0) 0 0 M 9 [(0, vr 64), (2, vi x2), (3, vi x3), (4, vi x4), (5, vi x5), (6, vi x6)] []) {x2 : Int32} {x3 : Int32} {x4 : Int32} {x5 : Int32} {x6 : Int32} {M : Mem} (hF : f_X10_neverLacks_b9_s rec9 x2 x3 x4 x5 x6 M = some (r, M1)) : Wt K X (QM K X (some (vi r)) M1 0 0) 0 0 M 9 [(0, vr 64), (2, vi x2), (3, vi x3), (4, vi x4), (5, vi x5), (6, vi x6)] [] := by
  unfold f_X10_neverLacks_b9_s at hF
  refine w_iload hB 5 dX10_neverLacks_9 rfl ?_
  refine w_aload_n hB 0 dX10_neverLacks_11 rfl rfl ?_
  refine w_getR hB ff_X10_2 sh_64 (Or.inl hp.1) q_475 dX10_neverLacks_12 ?_
  obtain ⟨g1, hF⟩ := gdS hF
  refine w_getI hB ff_X9_11 g1 (Or.inl hp.1) q_310 dX10_neverLacks_15 ?_
  refine w_icmp_ge hB 77 dX10_neverLacks_18 (by decide) (fun hc => ?_) (fun hc => ?_)
  · replace hF := ifT hc hF
    refine w_iconst hB 1 (by decide) dX10_neverLacks_77 ?_
    obtain ⟨e1, e2⟩ := retS hF
    subst e2
    exact w_zret hB (by decide) dX10_neverLacks_78 e1
  · replace hF := ifF hc hF
    refine w_iload_n hB 1 dX10_neverLacks_21 rfl rfl ?_
    refine w_iload hB 5 dX10_neverLacks_22 rfl ?_
    refine w_ishr hB dX10_neverLacks_24 ?_
    refine w_iconst hB 1 (by decide) dX10_neverLacks_25 ?_
    refine w_iand hB dX10_neverLacks_26 ?_
    refine w_if_ne hB 33 dX10_neverLacks_27 (by decide) (fun hc => ?_) (fun hc => ?_)
    · replace hF := ifF hc hF
      refine w_iload hB 3 dX10_neverLacks_33 rfl ?_
      refine w_if_ne hB 40 dX10_neverLacks_35 (by decide) (fun hc => ?_) (fun hc => ?_)
      · replace hF := ifF hc hF
        refine w_iload_n hB 2 dX10_neverLacks_40 rfl rfl ?_
        refine w_iload hB 5 dX10_neverLacks_41 rfl ?_
        refine w_ishr hB dX10_neverLacks_43 ?_
        refine w_iconst hB 1 (by decide) dX10_neverLacks_44 ?_
        refine w_iand hB dX10_neverLacks_45 ?_
        refine w_if_eq hB 68 dX10_neverLacks_46 (by decide) (fun hc => ?_) (fun hc => ?_)
        · replace hF := ifT hc hF
          obtain ⟨a2, e_a2, hF⟩ := bndS hF
          refine w_iinc hB 3 (v := (-1)) (L' := [(4, vi a2), (0, vr 64), (2, vi x2), (3, vi x3), (5, vi x5), (6, vi x6)]) dX10_neverLacks_68 rfl (by decide) (by decide) e_a2 rfl ?_
          obtain ⟨a3, e_a3, hF⟩ := bndS hF
          refine w_iinc hB 5 (v := 1) (L' := [(6, vi a3), (4, vi a2), (0, vr 64), (2, vi x2), (3, vi x3), (5, vi x5)]) dX10_neverLacks_71 rfl (by decide) (by decide) e_a3 rfl ?_
          refine w_goto hB 9 dX10_neverLacks_74 (by decide) ?_
          exact Wt.sub (L' := [(0, vr 64), (2, vi x2), (3, vi x3), (4, vi a2), (5, vi x5), (6, vi a3)]) [2, 3, 4, 1, 5, 0] rfl (h9 _ _ _ _ _ M hF)
        · replace hF := ifF hc hF
          obtain ⟨a4, e_a4, hF⟩ := bndS hF
          refine w_iinc hB 4 (v := 1) (L' := [(5, vi a4), (0, vr 64), (2, vi x2), (3, vi x3), (4, vi x4), (6, vi x6)]) dX10_neverLacks_49 rfl (by decide) (by decide) e_a4 rfl ?_
          refine w_aload_n hB 1 dX10_neverLacks_52 rfl rfl ?_
          refine w_getR hB ff_X10_2 sh_64 (Or.inl hp.1) q_475 dX10_neverLacks_53 ?_
          refine w_iload hB 4 dX10_neverLacks_56 rfl ?_
          refine w_iload hB 0 dX10_neverLacks_58 rfl ?_
          obtain ⟨r1, M1m, hc_M1m, hF⟩ := clS hF
          refine w_callV hB (ci := 7) (As := [vi x4, vi a4]) (st := []) cw_X10_296 q_954 q_955 rfl g1 (Or.inl hp.1) (c_X9_leftWhenWon hp hc_M1m) ⟨rfl, rfl⟩ (by decide) (by decide) rfl (Nat.le_of_ble_eq_true rfl) dX10_neverLacks_60 rfl ?_
          refine w_istore hB (L' := [(4, vi r1), (5, vi a4), (0, vr 64), (2, vi x2), (3, vi x3), (6, vi x6)]) dX10_neverLacks_63 (by decide) rfl rfl ?_
          refine w_goto hB 71 dX10_neverLacks_65 (by decide) ?_
          obtain ⟨a5, e_a5, hF⟩ := bndS hF
          refine w_iinc hB 5 (v := 1) (L' := [(6, vi a5), (4, vi r1), (5, vi a4), (0, vr 64), (2, vi x2), (3, vi x3)]) dX10_neverLacks_71 rfl (by decide) (by decide) e_a5 rfl ?_
          refine w_goto hB 9 dX10_neverLacks_74 (by decide) ?_
          exact Wt.sub (L' := [(0, vr 64), (2, vi x2), (3, vi x3), (4, vi r1), (5, vi a4), (6, vi a5)]) [3, 4, 5, 1, 2, 0] rfl (h9 _ _ _ _ _ M1m hF)
      · replace hF := ifT hc hF
        refine w_iconst hB 0 (by decide) dX10_neverLacks_38 ?_
        obtain ⟨e1, e2⟩ := retS hF
        subst e2
        exact w_zret hB (by decide) dX10_neverLacks_39 e1
    · replace hF := ifT hc hF
      refine w_goto hB 71 dX10_neverLacks_30 (by decide) ?_
      obtain ⟨a1, e_a1, hF⟩ := bndS hF
      refine w_iinc hB 5 (v := 1) (L' := [(6, vi a1), (0, vr 64), (2, vi x2), (3, vi x3), (4, vi x4), (5, vi x5)]) dX10_neverLacks_71 rfl (by decide) (by decide) e_a1 rfl ?_
      refine w_goto hB 9 dX10_neverLacks_74 (by decide) ?_
      exact Wt.sub (L' := [(0, vr 64), (2, vi x2), (3, vi x3), (4, vi x4), (5, vi x5), (6, vi a1)]) [1, 2, 3, 4, 5, 0] rfl (h9 _ _ _ _ _ M hF)
def f_X10_neverLacks_b9 (k : Nat) : Int32 → Int32 → Int32 → Int32 → Int32 → Mem → Option (Int32 × Mem) := lpN (fun _ _ _ _ _ _ => none) (f_X10_neverLacks_b9_s) k
theorem b_X10_neverLacks_b9 {K : Kt} {X : Xt} (hp : St K) (hB : Bx K X { frames := 2, cells := 0, slots := 0, locals := 45 } cX10_neverLacks 7 RX10 (some .boolean)) {r : Int32} {M1 : Mem} (k : Nat) : ∀ (x2 : Int32) (x3 : Int32) (x4 : Int32) (x5 : Int32) (x6 : Int32) M, f_X10_neverLacks_b9 k x2 x3 x4 x5 x6 M = some (r, M1) → Wt K X (QM K X (some (vi r)) M1 0 0) 0 0 M 9 [(0, vr 64), (2, vi x2), (3, vi x3), (4, vi x4), (5, vi x5), (6, vi x6)] [] := by
  refine lpN_ind (P := fun (f : Int32 → Int32 → Int32 → Int32 → Int32 → Mem → Option (Int32 × Mem)) => ∀ (x2 : Int32) (x3 : Int32) (x4 : Int32) (x5 : Int32) (x6 : Int32) M, f x2 x3 x4 x5 x6 M = some (r, M1) → Wt K X (QM K X (some (vi r)) M1 0 0) 0 0 M 9 [(0, vr 64), (2, vi x2), (3, vi x3), (4, vi x4), (5, vi x5), (6, vi x6)] []) (fun _ _ _ _ _ _ h => by cases h) (fun f hf x2 x3 x4 x5 x6 M hF => ?_) k
  exact b_X10_neverLacks_b9_s hp hB hf hF
def f_X10_neverLacks (x1 : Int32) (x2 : Int32) (x3 : Int32) (M : Mem) : Option (Int32 × Mem) :=
  f_X10_neverLacks_b9 fuel x2 x3 x1 0 0 M
set_option maxRecDepth 100000 in
set_option maxHeartbeats 4000000 in
theorem b_X10_neverLacks {K : Kt} {X : Xt} (hp : St K) (hB : Bx K X { frames := 2, cells := 0, slots := 0, locals := 45 } cX10_neverLacks 7 RX10 (some .boolean)) {r : Int32} {M1 : Mem} {x1 : Int32} {x2 : Int32} {x3 : Int32} {M : Mem} (hF : f_X10_neverLacks x1 x2 x3 M = some (r, M1)) : Wt K X (QM K X (some (vi r)) M1 0 0) 0 0 M 0 [(0, vr 64), (1, vi x1), (2, vi x2), (3, vi x3)] [] := by
  unfold f_X10_neverLacks at hF
  refine w_iload_n hB 1 dX10_neverLacks_0 rfl rfl ?_
  refine w_istore hB (L' := [(4, vi x1), (0, vr 64), (1, vi x1), (2, vi x2), (3, vi x3)]) dX10_neverLacks_1 (by decide) rfl rfl ?_
  refine w_iconst hB 0 (by decide) dX10_neverLacks_3 ?_
  refine w_istore hB (L' := [(5, vi 0), (4, vi x1), (0, vr 64), (1, vi x1), (2, vi x2), (3, vi x3)]) dX10_neverLacks_4 (by decide) rfl rfl ?_
  refine w_iconst hB 0 (by decide) dX10_neverLacks_6 ?_
  refine w_istore hB (L' := [(6, vi 0), (5, vi 0), (4, vi x1), (0, vr 64), (1, vi x1), (2, vi x2), (3, vi x3)]) dX10_neverLacks_7 (by decide) rfl rfl ?_
  exact Wt.sub (L' := [(0, vr 64), (2, vi x2), (3, vi x3), (4, vi x1), (5, vi 0), (6, vi 0)]) [3, 5, 6, 2, 1, 0] rfl (b_X10_neverLacks_b9 hp hB fuel _ _ _ _ _ M hF)
theorem c_X10_neverLacks {K : Kt} {l : Launch} (hp : St K) {r : Int32} {M1 : Mem} {x1 : Int32} {x2 : Int32} {x3 : Int32} {M : Mem} (hF : f_X10_neverLacks x1 x2 x3 M = some (r, M1)) : MT K l yX10_neverLacks cX10_neverLacks 7 (some .boolean) { frames := 2, cells := 0, slots := 0, locals := 45 } [vr 64, vi x1, vi x2, vi x3] M (some (vi r)) M1 0 0 :=
  MT_of (by decide) rfl (Nat.le_of_ble_eq_true rfl) (fun X _ hB _ => b_X10_neverLacks hp hB hF)
def f_X10_need_b119_s (rec119 : Int32 → Int32 → Int32 → Mem → Option (Int32 × Mem)) (x2 : Int32) (x3 : Int32) (x4 : Int32) (M : Mem) : Option (Int32 × Mem) :=
  if 9 ≤ x4 then
    some (9, M)
  else
    cl (f_X10_neverLacks x4 x2 x3 M) fun r1 M1m =>
    if r1 = 0 then
      bnd (x4 + 1) fun a1 =>
      rec119 x2 x3 a1 M1m
    else
      some (x4, M1m)
set_option maxRecDepth 100000 in
set_option maxHeartbeats 4000000 in
theorem b_X10_need_b119_s {K : Kt} {X : Xt} (hp : St K) (hB : Bx K X { frames := 5, cells := 0, slots := 0, locals := 127 } cX10_need 5 RX10 (some .int)) {r : Int32} {M1 : Mem} {rec119 : Int32 → Int32 → Int32 → Mem → Option (Int32 × Mem)}
    (h119 : ∀ x2 x3 x4 M, rec119 x2 x3 x4 M = some (r, M1) → Wt K X (QM K X (some (vi r)) M1 0 0) 0 0 M 119 [(0, vr 64), (2, vi x2), (3, vi x3), (4, vi x4)] []) {x2 : Int32} {x3 : Int32} {x4 : Int32} {M : Mem} (hF : f_X10_need_b119_s rec119 x2 x3 x4 M = some (r, M1)) : Wt K X (QM K X (some (vi r)) M1 0 0) 0 0 M 119 [(0, vr 64), (2, vi x2), (3, vi x3), (4, vi x4)] [] := by
  unfold f_X10_need_b119_s at hF
  refine w_iload hB 3 dX10_need_119 rfl ?_
  refine w_bipush hB 9 (by decide) dX10_need_121 ?_
  refine w_icmp_ge hB 146 dX10_need_123 (by decide) (fun hc => ?_) (fun hc => ?_)
  · replace hF := ifT hc hF
    refine w_bipush hB 9 (by decide) dX10_need_146 ?_
    obtain ⟨e1, e2⟩ := retS hF
    subst e2
    exact w_iret hB dX10_need_148 e1
  · replace hF := ifF hc hF
    refine w_aload_n hB 0 dX10_need_126 rfl rfl ?_
    refine w_iload hB 3 dX10_need_127 rfl ?_
    refine w_iload_n hB 1 dX10_need_129 rfl rfl ?_
    refine w_iload_n hB 2 dX10_need_130 rfl rfl ?_
    obtain ⟨r1, M1m, hc_M1m, hF⟩ := clS hF
    refine w_callV hB (ci := 8) (As := [vi x4, vi x2, vi x3]) (st := []) cw_X10_375 q_1028 q_17 rfl sh_64 (Or.inl hp.1) (c_X10_neverLacks hp hc_M1m) ⟨rfl, rfl⟩ (by decide) (by decide) rfl (Nat.le_of_ble_eq_true rfl) dX10_need_131 rfl ?_
    refine w_if_eq hB 140 dX10_need_134 (by decide) (fun hc => ?_) (fun hc => ?_)
    · replace hF := ifT hc hF
      obtain ⟨a1, e_a1, hF⟩ := bndS hF
      refine w_iinc hB 3 (v := 1) (L' := [(4, vi a1), (0, vr 64), (2, vi x2), (3, vi x3)]) dX10_need_140 rfl (by decide) (by decide) e_a1 rfl ?_
      refine w_goto hB 119 dX10_need_143 (by decide) ?_
      exact Wt.sub (L' := [(0, vr 64), (2, vi x2), (3, vi x3), (4, vi a1)]) [1, 2, 3, 0] rfl (h119 _ _ _ M1m hF)
    · replace hF := ifF hc hF
      refine w_iload hB 3 dX10_need_137 rfl ?_
      obtain ⟨e1, e2⟩ := retS hF
      subst e2
      exact w_iret hB dX10_need_139 e1
def f_X10_need_b119 (k : Nat) : Int32 → Int32 → Int32 → Mem → Option (Int32 × Mem) := lpN (fun _ _ _ _ => none) (f_X10_need_b119_s) k
theorem b_X10_need_b119 {K : Kt} {X : Xt} (hp : St K) (hB : Bx K X { frames := 5, cells := 0, slots := 0, locals := 127 } cX10_need 5 RX10 (some .int)) {r : Int32} {M1 : Mem} (k : Nat) : ∀ (x2 : Int32) (x3 : Int32) (x4 : Int32) M, f_X10_need_b119 k x2 x3 x4 M = some (r, M1) → Wt K X (QM K X (some (vi r)) M1 0 0) 0 0 M 119 [(0, vr 64), (2, vi x2), (3, vi x3), (4, vi x4)] [] := by
  refine lpN_ind (P := fun (f : Int32 → Int32 → Int32 → Mem → Option (Int32 × Mem)) => ∀ (x2 : Int32) (x3 : Int32) (x4 : Int32) M, f x2 x3 x4 M = some (r, M1) → Wt K X (QM K X (some (vi r)) M1 0 0) 0 0 M 119 [(0, vr 64), (2, vi x2), (3, vi x3), (4, vi x4)] []) (fun _ _ _ _ h => by cases h) (fun f hf x2 x3 x4 M hF => ?_) k
  exact b_X10_need_b119_s hp hB hf hF
def f_X10_need_b17_s (rec17 : Int32 → Int32 → Int32 → Int32 → Mem → Option (Int32 × Mem)) (x1 : Int32) (x2 : Int32) (x3 : Int32) (x4 : Int32) (M : Mem) : Option (Int32 × Mem) :=
  gd (shc (M.2.2.1 64 2) = 8) <|
  if (M.1 (M.2.2.1 64 2) 11) ≤ x4 then
    f_X10_need_b119 fuel x2 x3 0 M
  else
    gd (inb x4 8) <|
    cl (f_X10_isAgainst x1 (cr (cr (M.2.2.1 64 2) 12) x4.toNatClampNeg) M) fun r1 M1m =>
    if r1 = 0 then
      bnd (x4 + 1) fun a1 =>
      rec17 x1 x2 x3 a1 M1m
    else
      gd (shc (M1m.2.2.1 64 2) = 8) <|
      cl (f_X9_isReviewedAtOnce (M1m.2.2.1 64 2) x4 M1m) fun r2 M2m =>
      if r2 = 0 then
        bnd (x2 ||| ((1 : Int32) <<< (x4 &&& 31))) fun a2 =>
        gd (shc (M2m.2.2.1 64 2) = 8) <|
        cl (f_X4_review (M2m.2.2.1 64 2) (cr (cr (M2m.2.2.1 64 2) 12) x4.toNatClampNeg) (M2m.1 (cr (cr (M2m.2.2.1 64 2) 12) x4.toNatClampNeg) 4) M2m) fun r3 M3m =>
        if r3 = 2 then
          bnd (x3 ||| ((1 : Int32) <<< (x4 &&& 31))) fun a3 =>
          bnd (x4 + 1) fun a4 =>
          rec17 x1 a2 a3 a4 M3m
        else
          bnd (x4 + 1) fun a5 =>
          rec17 x1 a2 x3 a5 M3m
      else
        bnd (x4 + 1) fun a6 =>
        rec17 x1 x2 x3 a6 M2m
set_option maxRecDepth 100000 in
set_option maxHeartbeats 4000000 in
theorem b_X10_need_b17_s {K : Kt} {X : Xt} (hp : St K) (hB : Bx K X { frames := 5, cells := 0, slots := 0, locals := 127 } cX10_need 5 RX10 (some .int)) {r : Int32} {M1 : Mem} {rec17 : Int32 → Int32 → Int32 → Int32 → Mem → Option (Int32 × Mem)}
    (h17 : ∀ x1 x2 x3 x4 M, rec17 x1 x2 x3 x4 M = some (r, M1) → Wt K X (QM K X (some (vi r)) M1 0 0) 0 0 M 17 [(0, vr 64), (1, vi x1), (2, vi x2), (3, vi x3), (4, vi x4)] []) {x1 : Int32} {x2 : Int32} {x3 : Int32} {x4 : Int32} {M : Mem} (hF : f_X10_need_b17_s rec17 x1 x2 x3 x4 M = some (r, M1)) : Wt K X (QM K X (some (vi r)) M1 0 0) 0 0 M 17 [(0, vr 64), (1, vi x1), (2, vi x2), (3, vi x3), (4, vi x4)] [] := by
  unfold f_X10_need_b17_s at hF
  refine w_iload hB 4 dX10_need_17 rfl ?_
  refine w_aload_n hB 0 dX10_need_19 rfl rfl ?_
  refine w_getR hB ff_X10_2 sh_64 (Or.inl hp.1) q_475 dX10_need_20 ?_
  obtain ⟨g1, hF⟩ := gdS hF
  refine w_getI hB ff_X9_11 g1 (Or.inl hp.1) q_310 dX10_need_23 ?_
  refine w_icmp_ge hB 116 dX10_need_26 (by decide) (fun hc => ?_) (fun hc => ?_)
  · replace hF := ifT hc hF
    refine w_iconst hB 0 (by decide) dX10_need_116 ?_
    refine w_istore hB (L' := [(4, vi 0), (0, vr 64), (1, vi x1), (2, vi x2), (3, vi x3)]) dX10_need_117 (by decide) rfl rfl ?_
    exact Wt.sub (L' := [(0, vr 64), (2, vi x2), (3, vi x3), (4, vi 0)]) [1, 3, 4, 0] rfl (b_X10_need_b119 hp hB fuel _ _ _ M hF)
  · replace hF := ifF hc hF
    refine w_iload_n hB 1 dX10_need_29 rfl rfl ?_
    refine w_aload_n hB 0 dX10_need_30 rfl rfl ?_
    refine w_getR hB ff_X10_2 sh_64 (Or.inl hp.1) q_475 dX10_need_31 ?_
    refine w_getC hB (v := cr (M.2.2.1 64 2) 12) ff_X9_12 g1 hp.1 rfl (shc_ne (crc_8_12 g1).1) q_313 dX10_need_34 ?_
    refine w_iload hB 4 dX10_need_37 rfl ?_
    obtain ⟨g2, hF⟩ := gdS hF
    refine w_aaldC hB (c := 6) (v := cr (cr (M.2.2.1 64 2) 12) x4.toNatClampNeg) (crc_8_12 g1).1 rfl (by decide) hp.1 (crc_8_12 g1).2 g2 rfl (shc_ne (cre_26 (crc_8_12 g1).1 (by rw [(crc_8_12 g1).2]; exact inb_lt g2))) dX10_need_39 ?_
    obtain ⟨r1, M1m, hc_M1m, hF⟩ := clS hF
    refine w_callS hB (As := [vi x1, vr (cr (cr (M.2.2.1 64 2) 12) x4.toNatClampNeg)]) (st := []) cw_X10_371 q_1024 (c_X10_isAgainst hp hc_M1m) ⟨rfl, rfl⟩ (by decide) (by decide) rfl (Nat.le_of_ble_eq_true rfl) dX10_need_40 rfl ?_
    refine w_if_eq hB 110 dX10_need_43 (by decide) (fun hc => ?_) (fun hc => ?_)
    · replace hF := ifT hc hF
      obtain ⟨a1, e_a1, hF⟩ := bndS hF
      refine w_iinc hB 4 (v := 1) (L' := [(4, vi a1), (0, vr 64), (1, vi x1), (2, vi x2), (3, vi x3)]) dX10_need_110 rfl (by decide) (by decide) e_a1 rfl ?_
      refine w_goto hB 17 dX10_need_113 (by decide) ?_
      exact Wt.sub (L' := [(0, vr 64), (1, vi x1), (2, vi x2), (3, vi x3), (4, vi a1)]) [1, 2, 3, 4, 0] rfl (h17 _ _ _ _ M1m hF)
    · replace hF := ifF hc hF
      refine w_aload_n hB 0 dX10_need_46 rfl rfl ?_
      refine w_getR hB ff_X10_2 sh_64 (Or.inl hp.1) q_475 dX10_need_47 ?_
      refine w_iload hB 4 dX10_need_50 rfl ?_
      obtain ⟨g3, hF⟩ := gdS hF
      obtain ⟨r2, M2m, hc_M2m, hF⟩ := clS hF
      refine w_callV hB (ci := 7) (As := [vi x4]) (st := []) cw_X10_286 q_925 q_926 rfl g3 (Or.inl hp.1) (c_X9_isReviewedAtOnce hp hc_M2m) ⟨rfl, rfl⟩ (by decide) (by decide) rfl (Nat.le_of_ble_eq_true rfl) dX10_need_52 rfl ?_
      refine w_if_ne hB 110 dX10_need_55 (by decide) (fun hc => ?_) (fun hc => ?_)
      · replace hF := ifF hc hF
        obtain ⟨a6, e_a6, hF⟩ := bndS hF
        refine w_iinc hB 4 (v := 1) (L' := [(4, vi a6), (0, vr 64), (1, vi x1), (2, vi x2), (3, vi x3)]) dX10_need_110 rfl (by decide) (by decide) e_a6 rfl ?_
        refine w_goto hB 17 dX10_need_113 (by decide) ?_
        exact Wt.sub (L' := [(0, vr 64), (1, vi x1), (2, vi x2), (3, vi x3), (4, vi a6)]) [1, 2, 3, 4, 0] rfl (h17 _ _ _ _ M2m hF)
      · replace hF := ifT hc hF
        refine w_iload_n hB 2 dX10_need_58 rfl rfl ?_
        refine w_iconst hB 1 (by decide) dX10_need_59 ?_
        refine w_iload hB 4 dX10_need_60 rfl ?_
        refine w_ishl hB dX10_need_62 ?_
        refine w_ior hB dX10_need_63 ?_
        obtain ⟨a2, e_a2, hF⟩ := bndS hF
        refine w_istore_n hB (L' := [(2, vi a2), (0, vr 64), (1, vi x1), (3, vi x3), (4, vi x4)]) dX10_need_64 rfl (by decide) e_a2 rfl ?_
        refine w_aload_n hB 1 dX10_need_65 rfl rfl ?_
        refine w_getC hB (v := 212) ff_X10_5 sh_64 hp.1 cr_64_5 (by decide) q_478 dX10_need_66 ?_
        refine w_aload_n hB 1 dX10_need_69 rfl rfl ?_
        refine w_getR hB ff_X10_2 sh_64 (Or.inl hp.1) q_475 dX10_need_70 ?_
        refine w_aload_n hB 1 dX10_need_73 rfl rfl ?_
        refine w_getR hB ff_X10_2 sh_64 (Or.inl hp.1) q_475 dX10_need_74 ?_
        obtain ⟨g4, hF⟩ := gdS hF
        refine w_getC hB (v := cr (M2m.2.2.1 64 2) 12) ff_X9_12 g4 hp.1 rfl (shc_ne (crc_8_12 g4).1) q_313 dX10_need_77 ?_
        refine w_iload hB 4 dX10_need_80 rfl ?_
        refine w_aaldC hB (c := 6) (v := cr (cr (M2m.2.2.1 64 2) 12) x4.toNatClampNeg) (crc_8_12 g4).1 rfl (by decide) hp.1 (crc_8_12 g4).2 g2 rfl (shc_ne (cre_26 (crc_8_12 g4).1 (by rw [(crc_8_12 g4).2]; exact inb_lt g2))) dX10_need_82 ?_
        refine w_aload_n hB 1 dX10_need_83 rfl rfl ?_
        refine w_getR hB ff_X10_2 sh_64 (Or.inl hp.1) q_475 dX10_need_84 ?_
        refine w_getC hB (v := cr (M2m.2.2.1 64 2) 12) ff_X9_12 g4 hp.1 rfl (shc_ne (crc_8_12 g4).1) q_313 dX10_need_87 ?_
        refine w_iload hB 4 dX10_need_90 rfl ?_
        refine w_aaldC hB (c := 6) (v := cr (cr (M2m.2.2.1 64 2) 12) x4.toNatClampNeg) (crc_8_12 g4).1 rfl (by decide) hp.1 (crc_8_12 g4).2 g2 rfl (shc_ne (cre_26 (crc_8_12 g4).1 (by rw [(crc_8_12 g4).2]; exact inb_lt g2))) dX10_need_92 ?_
        refine w_getI hB ff_X6_4 (cre_26 (crc_8_12 g4).1 (by rw [(crc_8_12 g4).2]; exact inb_lt g2)) (Or.inl hp.1) q_208 dX10_need_93 ?_
        obtain ⟨r3, M3m, hc_M3m, hF⟩ := clS hF
        refine w_callV hB (ci := 3) (As := [vr (M2m.2.2.1 64 2), vr (cr (cr (M2m.2.2.1 64 2) 12) x4.toNatClampNeg), vi (M2m.1 (cr (cr (M2m.2.2.1 64 2) 12) x4.toNatClampNeg) 4)]) (st := []) cw_X10_270 q_903 q_904 rfl sh_212 (Or.inl hp.1) (c_X4_review hp hc_M3m) ⟨rfl, rfl⟩ (by decide) (by decide) rfl (Nat.le_of_ble_eq_true rfl) dX10_need_96 rfl ?_
        refine w_iconst hB 2 (by decide) dX10_need_99 ?_
        refine w_icmp_ne hB 110 dX10_need_100 (by decide) (fun hc => ?_) (fun hc => ?_)
        · replace hF := ifF hc hF
          obtain ⟨a5, e_a5, hF⟩ := bndS hF
          refine w_iinc hB 4 (v := 1) (L' := [(4, vi a5), (2, vi a2), (0, vr 64), (1, vi x1), (3, vi x3)]) dX10_need_110 rfl (by decide) (by decide) e_a5 rfl ?_
          refine w_goto hB 17 dX10_need_113 (by decide) ?_
          exact Wt.sub (L' := [(0, vr 64), (1, vi x1), (2, vi a2), (3, vi x3), (4, vi a5)]) [2, 3, 1, 4, 0] rfl (h17 _ _ _ _ M3m hF)
        · replace hF := ifT hc hF
          refine w_iload_n hB 3 dX10_need_103 rfl rfl ?_
          refine w_iconst hB 1 (by decide) dX10_need_104 ?_
          refine w_iload hB 4 dX10_need_105 rfl ?_
          refine w_ishl hB dX10_need_107 ?_
          refine w_ior hB dX10_need_108 ?_
          obtain ⟨a3, e_a3, hF⟩ := bndS hF
          refine w_istore_n hB (L' := [(3, vi a3), (2, vi a2), (0, vr 64), (1, vi x1), (4, vi x4)]) dX10_need_109 rfl (by decide) e_a3 rfl ?_
          obtain ⟨a4, e_a4, hF⟩ := bndS hF
          refine w_iinc hB 4 (v := 1) (L' := [(4, vi a4), (3, vi a3), (2, vi a2), (0, vr 64), (1, vi x1)]) dX10_need_110 rfl (by decide) (by decide) e_a4 rfl ?_
          refine w_goto hB 17 dX10_need_113 (by decide) ?_
          exact Wt.sub (L' := [(0, vr 64), (1, vi x1), (2, vi a2), (3, vi a3), (4, vi a4)]) [3, 4, 2, 1, 0] rfl (h17 _ _ _ _ M3m hF)
def f_X10_need_b17 (k : Nat) : Int32 → Int32 → Int32 → Int32 → Mem → Option (Int32 × Mem) := lpN (fun _ _ _ _ _ => none) (f_X10_need_b17_s) k
theorem b_X10_need_b17 {K : Kt} {X : Xt} (hp : St K) (hB : Bx K X { frames := 5, cells := 0, slots := 0, locals := 127 } cX10_need 5 RX10 (some .int)) {r : Int32} {M1 : Mem} (k : Nat) : ∀ (x1 : Int32) (x2 : Int32) (x3 : Int32) (x4 : Int32) M, f_X10_need_b17 k x1 x2 x3 x4 M = some (r, M1) → Wt K X (QM K X (some (vi r)) M1 0 0) 0 0 M 17 [(0, vr 64), (1, vi x1), (2, vi x2), (3, vi x3), (4, vi x4)] [] := by
  refine lpN_ind (P := fun (f : Int32 → Int32 → Int32 → Int32 → Mem → Option (Int32 × Mem)) => ∀ (x1 : Int32) (x2 : Int32) (x3 : Int32) (x4 : Int32) M, f x1 x2 x3 x4 M = some (r, M1) → Wt K X (QM K X (some (vi r)) M1 0 0) 0 0 M 17 [(0, vr 64), (1, vi x1), (2, vi x2), (3, vi x3), (4, vi x4)] []) (fun _ _ _ _ _ h => by cases h) (fun f hf x1 x2 x3 x4 M hF => ?_) k
  exact b_X10_need_b17_s hp hB hf hF
def f_X10_need (x1 : Int32) (M : Mem) : Option (Int32 × Mem) :=
  cl (f_X10_isSide x1 M) fun r1 M1m =>
  if r1 = 0 then
    some ((-1), M1m)
  else
    f_X10_need_b17 fuel x1 0 0 0 M1m
set_option maxRecDepth 100000 in
set_option maxHeartbeats 4000000 in
theorem b_X10_need {K : Kt} {X : Xt} (hp : St K) (hB : Bx K X { frames := 5, cells := 0, slots := 0, locals := 127 } cX10_need 5 RX10 (some .int)) {r : Int32} {M1 : Mem} {x1 : Int32} {M : Mem} (hF : f_X10_need x1 M = some (r, M1)) : Wt K X (QM K X (some (vi r)) M1 0 0) 0 0 M 0 [(0, vr 64), (1, vi x1)] [] := by
  unfold f_X10_need at hF
  refine w_aload_n hB 0 dX10_need_0 rfl rfl ?_
  refine w_iload_n hB 1 dX10_need_1 rfl rfl ?_
  obtain ⟨r1, M1m, hc_M1m, hF⟩ := clS hF
  refine w_callV hB (ci := 8) (As := [vi x1]) (st := []) cw_X10_150 q_753 q_1 rfl sh_64 (Or.inl hp.1) (c_X10_isSide hp hc_M1m) ⟨rfl, rfl⟩ (by decide) (by decide) rfl (Nat.le_of_ble_eq_true rfl) dX10_need_2 rfl ?_
  refine w_if_ne hB 10 dX10_need_5 (by decide) (fun hc => ?_) (fun hc => ?_)
  · replace hF := ifF hc hF
    refine w_iconst hB 0 (by decide) dX10_need_10 ?_
    refine w_istore_n hB (L' := [(2, vi 0), (0, vr 64), (1, vi x1)]) dX10_need_11 rfl (by decide) rfl rfl ?_
    refine w_iconst hB 0 (by decide) dX10_need_12 ?_
    refine w_istore_n hB (L' := [(3, vi 0), (2, vi 0), (0, vr 64), (1, vi x1)]) dX10_need_13 rfl (by decide) rfl rfl ?_
    refine w_iconst hB 0 (by decide) dX10_need_14 ?_
    refine w_istore hB (L' := [(4, vi 0), (3, vi 0), (2, vi 0), (0, vr 64), (1, vi x1)]) dX10_need_15 (by decide) rfl rfl ?_
    exact Wt.sub (L' := [(0, vr 64), (1, vi x1), (2, vi 0), (3, vi 0), (4, vi 0)]) [3, 4, 2, 1, 0] rfl (b_X10_need_b17 hp hB fuel _ _ _ _ M1m hF)
  · replace hF := ifT hc hF
    refine w_iconst hB (-1) (by decide) dX10_need_8 ?_
    obtain ⟨e1, e2⟩ := retS hF
    subst e2
    exact w_iret hB dX10_need_9 e1
theorem c_X10_need {K : Kt} {l : Launch} (hp : St K) {r : Int32} {M1 : Mem} {x1 : Int32} {M : Mem} (hF : f_X10_need x1 M = some (r, M1)) : MT K l yX10_need cX10_need 5 (some .int) { frames := 5, cells := 0, slots := 0, locals := 127 } [vr 64, vi x1] M (some (vi r)) M1 0 0 :=
  MT_of (by decide) rfl (Nat.le_of_ble_eq_true rfl) (fun X _ hB _ => b_X10_need hp hB hF)
def f_X10_secondsOf_b4_s (rec4 : Int32 → Int32 → Int32 → Mem → Option (Int32 × Mem)) (x1 : Int32) (x2 : Int32) (x3 : Int32) (M : Mem) : Option (Int32 × Mem) :=
  gd (shc (M.2.2.1 64 2) = 8) <|
  if (M.1 (M.2.2.1 64 2) 11) ≤ x3 then
    some (x2, M)
  else
    gd (inb x3 8) <|
    if (M.1 (cr (cr (M.2.2.1 64 2) 12) x3.toNatClampNeg) 0) = x1 then
      bnd (x2 + (M.1 221 x3.toNatClampNeg)) fun a1 =>
      bnd (x3 + 1) fun a2 =>
      rec4 x1 a1 a2 M
    else
      bnd (x3 + 1) fun a3 =>
      rec4 x1 x2 a3 M
set_option maxRecDepth 100000 in
set_option maxHeartbeats 4000000 in
theorem b_X10_secondsOf_b4_s {K : Kt} {X : Xt} (hp : St K) (hB : Bx K X { frames := 0, cells := 0, slots := 0, locals := 0 } cX10_secondsOf 4 RX10 (some .int)) {r : Int32} {M1 : Mem} {rec4 : Int32 → Int32 → Int32 → Mem → Option (Int32 × Mem)}
    (h4 : ∀ x1 x2 x3 M, rec4 x1 x2 x3 M = some (r, M1) → Wt K X (QM K X (some (vi r)) M1 0 0) 0 0 M 4 [(0, vr 64), (1, vi x1), (2, vi x2), (3, vi x3)] []) {x1 : Int32} {x2 : Int32} {x3 : Int32} {M : Mem} (hF : f_X10_secondsOf_b4_s rec4 x1 x2 x3 M = some (r, M1)) : Wt K X (QM K X (some (vi r)) M1 0 0) 0 0 M 4 [(0, vr 64), (1, vi x1), (2, vi x2), (3, vi x3)] [] := by
  unfold f_X10_secondsOf_b4_s at hF
  refine w_iload_n hB 3 dX10_secondsOf_4 rfl rfl ?_
  refine w_aload_n hB 0 dX10_secondsOf_5 rfl rfl ?_
  refine w_getR hB ff_X10_2 sh_64 (Or.inl hp.1) q_475 dX10_secondsOf_6 ?_
  obtain ⟨g1, hF⟩ := gdS hF
  refine w_getI hB ff_X9_11 g1 (Or.inl hp.1) q_310 dX10_secondsOf_9 ?_
  refine w_icmp_ge hB 49 dX10_secondsOf_12 (by decide) (fun hc => ?_) (fun hc => ?_)
  · replace hF := ifT hc hF
    refine w_iload_n hB 2 dX10_secondsOf_49 rfl rfl ?_
    obtain ⟨e1, e2⟩ := retS hF
    subst e2
    exact w_iret hB dX10_secondsOf_50 e1
  · replace hF := ifF hc hF
    refine w_aload_n hB 0 dX10_secondsOf_15 rfl rfl ?_
    refine w_getR hB ff_X10_2 sh_64 (Or.inl hp.1) q_475 dX10_secondsOf_16 ?_
    refine w_getC hB (v := cr (M.2.2.1 64 2) 12) ff_X9_12 g1 hp.1 rfl (shc_ne (crc_8_12 g1).1) q_313 dX10_secondsOf_19 ?_
    refine w_iload_n hB 3 dX10_secondsOf_22 rfl rfl ?_
    obtain ⟨g2, hF⟩ := gdS hF
    refine w_aaldC hB (c := 6) (v := cr (cr (M.2.2.1 64 2) 12) x3.toNatClampNeg) (crc_8_12 g1).1 rfl (by decide) hp.1 (crc_8_12 g1).2 g2 rfl (shc_ne (cre_26 (crc_8_12 g1).1 (by rw [(crc_8_12 g1).2]; exact inb_lt g2))) dX10_secondsOf_23 ?_
    refine w_getI hB ff_X6_0 (cre_26 (crc_8_12 g1).1 (by rw [(crc_8_12 g1).2]; exact inb_lt g2)) (Or.inl hp.1) q_198 dX10_secondsOf_24 ?_
    refine w_iload_n hB 1 dX10_secondsOf_27 rfl rfl ?_
    refine w_icmp_ne hB 43 dX10_secondsOf_28 (by decide) (fun hc => ?_) (fun hc => ?_)
    · replace hF := ifF hc hF
      obtain ⟨a3, e_a3, hF⟩ := bndS hF
      refine w_iinc hB 3 (v := 1) (L' := [(3, vi a3), (0, vr 64), (1, vi x1), (2, vi x2)]) dX10_secondsOf_43 rfl (by decide) (by decide) e_a3 rfl ?_
      refine w_goto hB 4 dX10_secondsOf_46 (by decide) ?_
      exact Wt.sub (L' := [(0, vr 64), (1, vi x1), (2, vi x2), (3, vi a3)]) [1, 2, 3, 0] rfl (h4 _ _ _ M hF)
    · replace hF := ifT hc hF
      refine w_iload_n hB 2 dX10_secondsOf_31 rfl rfl ?_
      refine w_aload_n hB 0 dX10_secondsOf_32 rfl rfl ?_
      refine w_getC hB (v := 217) ff_X10_6 sh_64 hp.1 cr_64_6 (by decide) q_479 dX10_secondsOf_33 ?_
      refine w_getC hB (v := 221) ff_X3_7 sh_217 hp.1 cr_217_7 (by decide) q_446 dX10_secondsOf_36 ?_
      refine w_iload_n hB 3 dX10_secondsOf_39 rfl rfl ?_
      refine w_iald hB sh_221 (Or.inl hp.1) sl_221 g2 dX10_secondsOf_40 ?_
      refine w_iadd hB dX10_secondsOf_41 ?_
      obtain ⟨a1, e_a1, hF⟩ := bndS hF
      refine w_istore_n hB (L' := [(2, vi a1), (0, vr 64), (1, vi x1), (3, vi x3)]) dX10_secondsOf_42 rfl (by decide) e_a1 rfl ?_
      obtain ⟨a2, e_a2, hF⟩ := bndS hF
      refine w_iinc hB 3 (v := 1) (L' := [(3, vi a2), (2, vi a1), (0, vr 64), (1, vi x1)]) dX10_secondsOf_43 rfl (by decide) (by decide) e_a2 rfl ?_
      refine w_goto hB 4 dX10_secondsOf_46 (by decide) ?_
      exact Wt.sub (L' := [(0, vr 64), (1, vi x1), (2, vi a1), (3, vi a2)]) [2, 3, 1, 0] rfl (h4 _ _ _ M hF)
def f_X10_secondsOf_b4 (k : Nat) : Int32 → Int32 → Int32 → Mem → Option (Int32 × Mem) := lpN (fun _ _ _ _ => none) (f_X10_secondsOf_b4_s) k
theorem b_X10_secondsOf_b4 {K : Kt} {X : Xt} (hp : St K) (hB : Bx K X { frames := 0, cells := 0, slots := 0, locals := 0 } cX10_secondsOf 4 RX10 (some .int)) {r : Int32} {M1 : Mem} (k : Nat) : ∀ (x1 : Int32) (x2 : Int32) (x3 : Int32) M, f_X10_secondsOf_b4 k x1 x2 x3 M = some (r, M1) → Wt K X (QM K X (some (vi r)) M1 0 0) 0 0 M 4 [(0, vr 64), (1, vi x1), (2, vi x2), (3, vi x3)] [] := by
  refine lpN_ind (P := fun (f : Int32 → Int32 → Int32 → Mem → Option (Int32 × Mem)) => ∀ (x1 : Int32) (x2 : Int32) (x3 : Int32) M, f x1 x2 x3 M = some (r, M1) → Wt K X (QM K X (some (vi r)) M1 0 0) 0 0 M 4 [(0, vr 64), (1, vi x1), (2, vi x2), (3, vi x3)] []) (fun _ _ _ _ h => by cases h) (fun f hf x1 x2 x3 M hF => ?_) k
  exact b_X10_secondsOf_b4_s hp hB hf hF
def f_X10_secondsOf (x1 : Int32) (M : Mem) : Option (Int32 × Mem) :=
  f_X10_secondsOf_b4 fuel x1 0 0 M
set_option maxRecDepth 100000 in
set_option maxHeartbeats 4000000 in
theorem b_X10_secondsOf {K : Kt} {X : Xt} (hp : St K) (hB : Bx K X { frames := 0, cells := 0, slots := 0, locals := 0 } cX10_secondsOf 4 RX10 (some .int)) {r : Int32} {M1 : Mem} {x1 : Int32} {M : Mem} (hF : f_X10_secondsOf x1 M = some (r, M1)) : Wt K X (QM K X (some (vi r)) M1 0 0) 0 0 M 0 [(0, vr 64), (1, vi x1)] [] := by
  unfold f_X10_secondsOf at hF
  refine w_iconst hB 0 (by decide) dX10_secondsOf_0 ?_
  refine w_istore_n hB (L' := [(2, vi 0), (0, vr 64), (1, vi x1)]) dX10_secondsOf_1 rfl (by decide) rfl rfl ?_
  refine w_iconst hB 0 (by decide) dX10_secondsOf_2 ?_
  refine w_istore_n hB (L' := [(3, vi 0), (2, vi 0), (0, vr 64), (1, vi x1)]) dX10_secondsOf_3 rfl (by decide) rfl rfl ?_
  exact Wt.sub (L' := [(0, vr 64), (1, vi x1), (2, vi 0), (3, vi 0)]) [2, 3, 1, 0] rfl (b_X10_secondsOf_b4 hp hB fuel _ _ _ M hF)
theorem c_X10_secondsOf {K : Kt} {l : Launch} (hp : St K) {r : Int32} {M1 : Mem} {x1 : Int32} {M : Mem} (hF : f_X10_secondsOf x1 M = some (r, M1)) : MT K l yX10_secondsOf cX10_secondsOf 4 (some .int) { frames := 0, cells := 0, slots := 0, locals := 0 } [vr 64, vi x1] M (some (vi r)) M1 0 0 :=
  MT_of (by decide) rfl (Nat.le_of_ble_eq_true rfl) (fun X _ hB _ => b_X10_secondsOf hp hB hF)
def f_X10_seconds (x1 : Int32) (M : Mem) : Option (Int32 × Mem) :=
  if x1 < 0 then
    some ((-1), M)
  else
    if 999 < x1 then
      some ((-1), M)
    else
      cl (f_X10_secondsOf x1 M) fun r1 M1m =>
      some (r1, M1m)
set_option maxRecDepth 100000 in
set_option maxHeartbeats 4000000 in
theorem b_X10_seconds {K : Kt} {X : Xt} (hp : St K) (hB : Bx K X { frames := 1, cells := 0, slots := 0, locals := 23 } cX10_seconds 2 RX10 (some .int)) {r : Int32} {M1 : Mem} {x1 : Int32} {M : Mem} (hF : f_X10_seconds x1 M = some (r, M1)) : Wt K X (QM K X (some (vi r)) M1 0 0) 0 0 M 0 [(0, vr 64), (1, vi x1)] [] := by
  unfold f_X10_seconds at hF
  refine w_iload_n hB 1 dX10_seconds_0 rfl rfl ?_
  refine w_if_lt hB 19 dX10_seconds_1 (by decide) (fun hc => ?_) (fun hc => ?_)
  · replace hF := ifT hc hF
    refine w_iconst hB (-1) (by decide) dX10_seconds_19 ?_
    obtain ⟨e1, e2⟩ := retS hF
    subst e2
    exact w_iret hB dX10_seconds_20 e1
  · replace hF := ifF hc hF
    refine w_iload_n hB 1 dX10_seconds_4 rfl rfl ?_
    refine w_sipush hB 999 (by decide) dX10_seconds_5 ?_
    refine w_icmp_gt hB 19 dX10_seconds_8 (by decide) (fun hc => ?_) (fun hc => ?_)
    · replace hF := ifT hc hF
      refine w_iconst hB (-1) (by decide) dX10_seconds_19 ?_
      obtain ⟨e1, e2⟩ := retS hF
      subst e2
      exact w_iret hB dX10_seconds_20 e1
    · replace hF := ifF hc hF
      refine w_aload_n hB 0 dX10_seconds_11 rfl rfl ?_
      refine w_iload_n hB 1 dX10_seconds_12 rfl rfl ?_
      obtain ⟨r1, M1m, hc_M1m, hF⟩ := clS hF
      refine w_callV hB (ci := 8) (As := [vi x1]) (st := []) cw_X10_379 q_1036 q_18 rfl sh_64 (Or.inl hp.1) (c_X10_secondsOf hp hc_M1m) ⟨rfl, rfl⟩ (by decide) (by decide) rfl (Nat.le_of_ble_eq_true rfl) dX10_seconds_13 rfl ?_
      refine w_goto hB 20 dX10_seconds_16 (by decide) ?_
      obtain ⟨e1, e2⟩ := retS hF
      subst e2
      exact w_iret hB dX10_seconds_20 e1
theorem c_X10_seconds {K : Kt} {l : Launch} (hp : St K) {r : Int32} {M1 : Mem} {x1 : Int32} {M : Mem} (hF : f_X10_seconds x1 M = some (r, M1)) : MT K l yX10_seconds cX10_seconds 2 (some .int) { frames := 1, cells := 0, slots := 0, locals := 23 } [vr 64, vi x1] M (some (vi r)) M1 0 0 :=
  MT_of (by decide) rfl (Nat.le_of_ble_eq_true rfl) (fun X _ hB _ => b_X10_seconds hp hB hF)
def f_X10_extra_b50 (rec4 : Int32 → Int32 → Mem → Option (Int32 × Mem)) (x1 : Int32) (x2 : Int32) (x3 : Int32) (M : Mem) : Option (Int32 × Mem) :=
  cl (f_X10_secondsOf x3 M) fun r1 M1m =>
  bnd (x1 + ((r1 + 59) / 60)) fun a1 =>
  bnd (x2 + 1) fun a2 =>
  rec4 a1 a2 M1m
set_option maxRecDepth 100000 in
set_option maxHeartbeats 4000000 in
theorem b_X10_extra_b50 {K : Kt} {X : Xt} (hp : St K) (hB : Bx K X { frames := 1, cells := 0, slots := 0, locals := 23 } cX10_extra 4 RX10 (some .int)) {r : Int32} {M1 : Mem} {rec4 : Int32 → Int32 → Mem → Option (Int32 × Mem)}
    (h4 : ∀ x1 x2 M, rec4 x1 x2 M = some (r, M1) → Wt K X (QM K X (some (vi r)) M1 0 0) 0 0 M 4 [(0, vr 64), (1, vi x1), (2, vi x2)] []) {x1 : Int32} {x2 : Int32} {x3 : Int32} {M : Mem} (hF : f_X10_extra_b50 rec4 x1 x2 x3 M = some (r, M1)) : Wt K X (QM K X (some (vi r)) M1 0 0) 0 0 M 50 [(0, vr 64), (1, vi x1), (2, vi x2), (3, vi x3)] [] := by
  unfold f_X10_extra_b50 at hF
  refine w_iload_n hB 1 dX10_extra_50 rfl rfl ?_
  refine w_aload_n hB 0 dX10_extra_51 rfl rfl ?_
  refine w_iload_n hB 3 dX10_extra_52 rfl rfl ?_
  obtain ⟨r1, M1m, hc_M1m, hF⟩ := clS hF
  refine w_callV hB (ci := 8) (As := [vi x3]) (st := [vi x1]) cw_X10_379 q_1036 q_18 rfl sh_64 (Or.inl hp.1) (c_X10_secondsOf hp hc_M1m) ⟨rfl, rfl⟩ (by decide) (by decide) rfl (Nat.le_of_ble_eq_true rfl) dX10_extra_53 rfl ?_
  refine w_bipush hB 59 (by decide) dX10_extra_56 ?_
  refine w_iadd hB dX10_extra_58 ?_
  refine w_bipush hB 60 (by decide) dX10_extra_59 ?_
  refine w_idiv hB (by decide) dX10_extra_61 ?_
  refine w_iadd hB dX10_extra_62 ?_
  obtain ⟨a1, e_a1, hF⟩ := bndS hF
  refine w_istore_n hB (L' := [(1, vi a1), (0, vr 64), (2, vi x2), (3, vi x3)]) dX10_extra_63 rfl (by decide) e_a1 rfl ?_
  obtain ⟨a2, e_a2, hF⟩ := bndS hF
  refine w_iinc hB 2 (v := 1) (L' := [(2, vi a2), (1, vi a1), (0, vr 64), (3, vi x3)]) dX10_extra_64 rfl (by decide) (by decide) e_a2 rfl ?_
  refine w_goto hB 4 dX10_extra_67 (by decide) ?_
  exact Wt.sub (L' := [(0, vr 64), (1, vi a1), (2, vi a2)]) [2, 1, 0] rfl (h4 _ _ M1m hF)
def f_X10_extra_b4_s (rec4 : Int32 → Int32 → Mem → Option (Int32 × Mem)) (x1 : Int32) (x2 : Int32) (M : Mem) : Option (Int32 × Mem) :=
  gd (shc (M.2.2.1 64 2) = 8) <|
  if (M.1 (M.2.2.1 64 2) 11) ≤ x2 then
    some (x1, M)
  else
    gd (inb x2 8) <|
    bnd (M.1 (cr (cr (M.2.2.1 64 2) 12) x2.toNatClampNeg) 0) fun a1 =>
    if x2 = 0 then
      f_X10_extra_b50 rec4 x1 x2 a1 M
    else
      gd (inb (x2 - 1) 8) <|
      if (M.1 (cr (cr (M.2.2.1 64 2) 12) (x2 - 1).toNatClampNeg) 0) = a1 then
        bnd (x2 + 1) fun a2 =>
        rec4 x1 a2 M
      else
        f_X10_extra_b50 rec4 x1 x2 a1 M
set_option maxRecDepth 100000 in
set_option maxHeartbeats 4000000 in
theorem b_X10_extra_b4_s {K : Kt} {X : Xt} (hp : St K) (hB : Bx K X { frames := 1, cells := 0, slots := 0, locals := 23 } cX10_extra 4 RX10 (some .int)) {r : Int32} {M1 : Mem} {rec4 : Int32 → Int32 → Mem → Option (Int32 × Mem)}
    (h4 : ∀ x1 x2 M, rec4 x1 x2 M = some (r, M1) → Wt K X (QM K X (some (vi r)) M1 0 0) 0 0 M 4 [(0, vr 64), (1, vi x1), (2, vi x2)] []) {x1 : Int32} {x2 : Int32} {M : Mem} (hF : f_X10_extra_b4_s rec4 x1 x2 M = some (r, M1)) : Wt K X (QM K X (some (vi r)) M1 0 0) 0 0 M 4 [(0, vr 64), (1, vi x1), (2, vi x2)] [] := by
  unfold f_X10_extra_b4_s at hF
  refine w_iload_n hB 2 dX10_extra_4 rfl rfl ?_
  refine w_aload_n hB 0 dX10_extra_5 rfl rfl ?_
  refine w_getR hB ff_X10_2 sh_64 (Or.inl hp.1) q_475 dX10_extra_6 ?_
  obtain ⟨g1, hF⟩ := gdS hF
  refine w_getI hB ff_X9_11 g1 (Or.inl hp.1) q_310 dX10_extra_9 ?_
  refine w_icmp_ge hB 70 dX10_extra_12 (by decide) (fun hc => ?_) (fun hc => ?_)
  · replace hF := ifT hc hF
    refine w_iload_n hB 1 dX10_extra_70 rfl rfl ?_
    obtain ⟨e1, e2⟩ := retS hF
    subst e2
    exact w_iret hB dX10_extra_71 e1
  · replace hF := ifF hc hF
    refine w_aload_n hB 0 dX10_extra_15 rfl rfl ?_
    refine w_getR hB ff_X10_2 sh_64 (Or.inl hp.1) q_475 dX10_extra_16 ?_
    refine w_getC hB (v := cr (M.2.2.1 64 2) 12) ff_X9_12 g1 hp.1 rfl (shc_ne (crc_8_12 g1).1) q_313 dX10_extra_19 ?_
    refine w_iload_n hB 2 dX10_extra_22 rfl rfl ?_
    obtain ⟨g2, hF⟩ := gdS hF
    refine w_aaldC hB (c := 6) (v := cr (cr (M.2.2.1 64 2) 12) x2.toNatClampNeg) (crc_8_12 g1).1 rfl (by decide) hp.1 (crc_8_12 g1).2 g2 rfl (shc_ne (cre_26 (crc_8_12 g1).1 (by rw [(crc_8_12 g1).2]; exact inb_lt g2))) dX10_extra_23 ?_
    refine w_getI hB ff_X6_0 (cre_26 (crc_8_12 g1).1 (by rw [(crc_8_12 g1).2]; exact inb_lt g2)) (Or.inl hp.1) q_198 dX10_extra_24 ?_
    obtain ⟨a1, e_a1, hF⟩ := bndS hF
    refine w_istore_n hB (L' := [(3, vi a1), (0, vr 64), (1, vi x1), (2, vi x2)]) dX10_extra_27 rfl (by decide) e_a1 rfl ?_
    refine w_iload_n hB 3 dX10_extra_28 rfl rfl ?_
    refine w_if_eq hB 50 dX10_extra_29 (by decide) (fun hc => ?_) (fun hc => ?_)
    · replace hF := ifT hc hF
      exact Wt.sub (L' := [(0, vr 64), (1, vi x1), (2, vi x2), (3, vi a1)]) [1, 2, 3, 0] rfl (b_X10_extra_b50 hp hB h4 hF)
    · replace hF := ifF hc hF
      refine w_aload_n hB 1 dX10_extra_32 rfl rfl ?_
      refine w_getR hB ff_X10_2 sh_64 (Or.inl hp.1) q_475 dX10_extra_33 ?_
      refine w_getC hB (v := cr (M.2.2.1 64 2) 12) ff_X9_12 g1 hp.1 rfl (shc_ne (crc_8_12 g1).1) q_313 dX10_extra_36 ?_
      refine w_iload_n hB 3 dX10_extra_39 rfl rfl ?_
      refine w_iconst hB 1 (by decide) dX10_extra_40 ?_
      refine w_isub hB dX10_extra_41 ?_
      obtain ⟨g3, hF⟩ := gdS hF
      refine w_aaldC hB (c := 6) (v := cr (cr (M.2.2.1 64 2) 12) (x2 - 1).toNatClampNeg) (crc_8_12 g1).1 rfl (by decide) hp.1 (crc_8_12 g1).2 g3 rfl (shc_ne (cre_26 (crc_8_12 g1).1 (by rw [(crc_8_12 g1).2]; exact inb_lt g3))) dX10_extra_42 ?_
      refine w_getI hB ff_X6_0 (cre_26 (crc_8_12 g1).1 (by rw [(crc_8_12 g1).2]; exact inb_lt g3)) (Or.inl hp.1) q_198 dX10_extra_43 ?_
      refine w_iload_n hB 0 dX10_extra_46 rfl rfl ?_
      refine w_icmp_eq hB 64 dX10_extra_47 (by decide) (fun hc => ?_) (fun hc => ?_)
      · replace hF := ifT hc hF
        obtain ⟨a2, e_a2, hF⟩ := bndS hF
        refine w_iinc hB 3 (v := 1) (L' := [(2, vi a2), (3, vi a1), (0, vr 64), (1, vi x1)]) dX10_extra_64 rfl (by decide) (by decide) e_a2 rfl ?_
        refine w_goto hB 4 dX10_extra_67 (by decide) ?_
        exact Wt.sub (L' := [(0, vr 64), (1, vi x1), (2, vi a2)]) [2, 3, 0] rfl (h4 _ _ M hF)
      · replace hF := ifF hc hF
        exact Wt.sub (L' := [(0, vr 64), (1, vi x1), (2, vi x2), (3, vi a1)]) [1, 2, 3, 0] rfl (b_X10_extra_b50 hp hB h4 hF)
def f_X10_extra_b4 (k : Nat) : Int32 → Int32 → Mem → Option (Int32 × Mem) := lpN (fun _ _ _ => none) (f_X10_extra_b4_s) k
theorem b_X10_extra_b4 {K : Kt} {X : Xt} (hp : St K) (hB : Bx K X { frames := 1, cells := 0, slots := 0, locals := 23 } cX10_extra 4 RX10 (some .int)) {r : Int32} {M1 : Mem} (k : Nat) : ∀ (x1 : Int32) (x2 : Int32) M, f_X10_extra_b4 k x1 x2 M = some (r, M1) → Wt K X (QM K X (some (vi r)) M1 0 0) 0 0 M 4 [(0, vr 64), (1, vi x1), (2, vi x2)] [] := by
  refine lpN_ind (P := fun (f : Int32 → Int32 → Mem → Option (Int32 × Mem)) => ∀ (x1 : Int32) (x2 : Int32) M, f x1 x2 M = some (r, M1) → Wt K X (QM K X (some (vi r)) M1 0 0) 0 0 M 4 [(0, vr 64), (1, vi x1), (2, vi x2)] []) (fun _ _ _ h => by cases h) (fun f hf x1 x2 M hF => ?_) k
  exact b_X10_extra_b4_s hp hB hf hF
def f_X10_extra (M : Mem) : Option (Int32 × Mem) :=
  f_X10_extra_b4 fuel 0 0 M
set_option maxRecDepth 100000 in
set_option maxHeartbeats 4000000 in
theorem b_X10_extra {K : Kt} {X : Xt} (hp : St K) (hB : Bx K X { frames := 1, cells := 0, slots := 0, locals := 23 } cX10_extra 4 RX10 (some .int)) {r : Int32} {M1 : Mem} {M : Mem} (hF : f_X10_extra M = some (r, M1)) : Wt K X (QM K X (some (vi r)) M1 0 0) 0 0 M 0 [(0, vr 64)] [] := by
  unfold f_X10_extra at hF
  refine w_iconst hB 0 (by decide) dX10_extra_0 ?_
  refine w_istore_n hB (L' := [(1, vi 0), (0, vr 64)]) dX10_extra_1 rfl (by decide) rfl rfl ?_
  refine w_iconst hB 0 (by decide) dX10_extra_2 ?_
  refine w_istore_n hB (L' := [(2, vi 0), (1, vi 0), (0, vr 64)]) dX10_extra_3 rfl (by decide) rfl rfl ?_
  exact Wt.sub (L' := [(0, vr 64), (1, vi 0), (2, vi 0)]) [2, 1, 0] rfl (b_X10_extra_b4 hp hB fuel _ _ M hF)
theorem c_X10_extra {K : Kt} {l : Launch} (hp : St K) {r : Int32} {M1 : Mem} {M : Mem} (hF : f_X10_extra M = some (r, M1)) : MT K l yX10_extra cX10_extra 4 (some .int) { frames := 1, cells := 0, slots := 0, locals := 23 } [vr 64] M (some (vi r)) M1 0 0 :=
  MT_of (by decide) rfl (Nat.le_of_ble_eq_true rfl) (fun X _ hB _ => b_X10_extra hp hB hF)
def f_X10_narrowed (x0 : Int32) (x1 : Int32) (M : Mem) : Option (Int32 × Mem) :=
  if x0 = 0 then
    some (x1.toInt8.toInt32, M)
  else
    if x0 = 1 then
      some (x1.toInt16.toInt32, M)
    else
      some (x1, M)
set_option maxRecDepth 100000 in
set_option maxHeartbeats 4000000 in
theorem b_X10_narrowed {K : Kt} {X : Xt} (hp : St K) (hB : Bx K X { frames := 0, cells := 0, slots := 0, locals := 0 } cX10_narrowed 2 RX10 (some .int)) {r : Int32} {M1 : Mem} {x0 : Int32} {x1 : Int32} {M : Mem} (hF : f_X10_narrowed x0 x1 M = some (r, M1)) : Wt K X (QM K X (some (vi r)) M1 0 0) 0 0 M 0 [(0, vi x0), (1, vi x1)] [] := by
  unfold f_X10_narrowed at hF
  refine w_iload_n hB 0 dX10_narrowed_0 rfl rfl ?_
  refine w_if_ne hB 7 dX10_narrowed_1 (by decide) (fun hc => ?_) (fun hc => ?_)
  · replace hF := ifF hc hF
    refine w_iload_n hB 0 dX10_narrowed_7 rfl rfl ?_
    refine w_iconst hB 1 (by decide) dX10_narrowed_8 ?_
    refine w_icmp_ne hB 17 dX10_narrowed_9 (by decide) (fun hc => ?_) (fun hc => ?_)
    · replace hF := ifF hc hF
      refine w_iload_n hB 1 dX10_narrowed_17 rfl rfl ?_
      obtain ⟨e1, e2⟩ := retS hF
      subst e2
      exact w_iret hB dX10_narrowed_18 e1
    · replace hF := ifT hc hF
      refine w_iload_n hB 1 dX10_narrowed_12 rfl rfl ?_
      refine w_i2s hB dX10_narrowed_13 ?_
      refine w_goto hB 18 dX10_narrowed_14 (by decide) ?_
      obtain ⟨e1, e2⟩ := retS hF
      subst e2
      exact w_iret hB dX10_narrowed_18 e1
  · replace hF := ifT hc hF
    refine w_iload_n hB 1 dX10_narrowed_4 rfl rfl ?_
    refine w_i2b hB dX10_narrowed_5 ?_
    obtain ⟨e1, e2⟩ := retS hF
    subst e2
    exact w_iret hB dX10_narrowed_6 e1
theorem c_X10_narrowed {K : Kt} {l : Launch} (hp : St K) {r : Int32} {M1 : Mem} {x0 : Int32} {x1 : Int32} {M : Mem} (hF : f_X10_narrowed x0 x1 M = some (r, M1)) : MT K l yX10_narrowed cX10_narrowed 2 (some .int) { frames := 0, cells := 0, slots := 0, locals := 0 } [vi x0, vi x1] M (some (vi r)) M1 0 0 :=
  MT_of (by decide) rfl (Nat.le_of_ble_eq_true rfl) (fun X _ hB _ => b_X10_narrowed hp hB hF)
def f_X10_sheet_b37_s (rec37 : Int32 → Int32 → Int32 → Int32 → Mem → Option (Int32 × Mem)) (x1 : Int32) (x2 : Int32) (x3 : Int32) (x4 : Int32) (M : Mem) : Option (Int32 × Mem) :=
  if x3 ≤ x4 then
    bnd (setI M 64 13 (x3 - x2)) fun M1m =>
    some (M1m.1 64 13, M1m)
  else
    gd (inb ((x4 * 4) + 3) 64) <|
    cl (f_X10_narrowed x1 (M.1 222 ((x4 * 4) + 3).toNatClampNeg) M) fun r1 M2m =>
    gd (inb (x4 - x2) 16) <|
    bnd (setI M2m 226 ((x4 - x2).toNatClampNeg) r1) fun M3m =>
    bnd (x4 + 1) fun a1 =>
    rec37 x1 x2 x3 a1 M3m
set_option maxRecDepth 100000 in
set_option maxHeartbeats 4000000 in
theorem b_X10_sheet_b37_s {K : Kt} {X : Xt} (hp : St K) (hB : Bx K X { frames := 1, cells := 0, slots := 0, locals := 21 } cX10_sheet 5 RX10 (some .int)) {r : Int32} {M1 : Mem} {rec37 : Int32 → Int32 → Int32 → Int32 → Mem → Option (Int32 × Mem)}
    (h37 : ∀ x1 x2 x3 x4 M, rec37 x1 x2 x3 x4 M = some (r, M1) → Wt K X (QM K X (some (vi r)) M1 0 0) 0 0 M 37 [(0, vr 64), (1, vi x1), (2, vi x2), (3, vi x3), (4, vi x4)] []) {x1 : Int32} {x2 : Int32} {x3 : Int32} {x4 : Int32} {M : Mem} (hF : f_X10_sheet_b37_s rec37 x1 x2 x3 x4 M = some (r, M1)) : Wt K X (QM K X (some (vi r)) M1 0 0) 0 0 M 37 [(0, vr 64), (1, vi x1), (2, vi x2), (3, vi x3), (4, vi x4)] [] := by
  unfold f_X10_sheet_b37_s at hF
  refine w_iload hB 4 dX10_sheet_37 rfl ?_
  refine w_iload_n hB 3 dX10_sheet_39 rfl rfl ?_
  refine w_icmp_ge hB 76 dX10_sheet_40 (by decide) (fun hc => ?_) (fun hc => ?_)
  · replace hF := ifT hc hF
    refine w_aload_n hB 0 dX10_sheet_76 rfl rfl ?_
    refine w_iload_n hB 3 dX10_sheet_77 rfl rfl ?_
    refine w_iload_n hB 2 dX10_sheet_78 rfl rfl ?_
    refine w_isub hB dX10_sheet_79 ?_
    obtain ⟨M1m, e_M1m, hF⟩ := bndS hF
    refine w_putI hB ff_X10_13 sh_64 (Or.inl hp.1) q_486 e_M1m dX10_sheet_80 ?_
    refine w_aload_n hB 0 dX10_sheet_83 rfl rfl ?_
    refine w_getI hB ff_X10_13 sh_64 (Or.inl hp.1) q_486 dX10_sheet_84 ?_
    obtain ⟨e1, e2⟩ := retS hF
    subst e2
    exact w_iret hB dX10_sheet_87 e1
  · replace hF := ifF hc hF
    refine w_aload_n hB 0 dX10_sheet_43 rfl rfl ?_
    refine w_getC hB (v := 226) ff_X10_12 sh_64 hp.1 cr_64_12 (by decide) q_485 dX10_sheet_44 ?_
    refine w_iload hB 4 dX10_sheet_47 rfl ?_
    refine w_iload_n hB 2 dX10_sheet_49 rfl rfl ?_
    refine w_isub hB dX10_sheet_50 ?_
    refine w_iload_n hB 1 dX10_sheet_51 rfl rfl ?_
    refine w_aload_n hB 0 dX10_sheet_52 rfl rfl ?_
    refine w_getC hB (v := 217) ff_X10_6 sh_64 hp.1 cr_64_6 (by decide) q_479 dX10_sheet_53 ?_
    refine w_getC hB (v := 222) ff_X3_8 sh_217 hp.1 cr_217_8 (by decide) q_448 dX10_sheet_56 ?_
    refine w_iload hB 4 dX10_sheet_59 rfl ?_
    refine w_iconst hB 4 (by decide) dX10_sheet_61 ?_
    refine w_imul hB dX10_sheet_62 ?_
    refine w_iconst hB 3 (by decide) dX10_sheet_63 ?_
    refine w_iadd hB dX10_sheet_64 ?_
    obtain ⟨g1, hF⟩ := gdS hF
    refine w_iald hB sh_222 (Or.inl hp.1) sl_222 g1 dX10_sheet_65 ?_
    obtain ⟨r1, M2m, hc_M2m, hF⟩ := clS hF
    refine w_callS hB (As := [vi x1, vi (M.1 222 ((x4 * 4) + 3).toNatClampNeg)]) (st := [vi (x4 - x2), vr 226]) cw_X10_390 q_1047 (c_X10_narrowed hp hc_M2m) ⟨rfl, rfl⟩ (by decide) (by decide) rfl (Nat.le_of_ble_eq_true rfl) dX10_sheet_66 rfl ?_
    obtain ⟨g2, hF⟩ := gdS hF
    obtain ⟨M3m, e_M3m, hF⟩ := bndS hF
    refine w_iast hB sh_226 (Or.inl hp.1) sl_226 g2 e_M3m dX10_sheet_69 ?_
    obtain ⟨a1, e_a1, hF⟩ := bndS hF
    refine w_iinc hB 4 (v := 1) (L' := [(4, vi a1), (0, vr 64), (1, vi x1), (2, vi x2), (3, vi x3)]) dX10_sheet_70 rfl (by decide) (by decide) e_a1 rfl ?_
    refine w_goto hB 37 dX10_sheet_73 (by decide) ?_
    exact Wt.sub (L' := [(0, vr 64), (1, vi x1), (2, vi x2), (3, vi x3), (4, vi a1)]) [1, 2, 3, 4, 0] rfl (h37 _ _ _ _ M3m hF)
def f_X10_sheet_b37 (k : Nat) : Int32 → Int32 → Int32 → Int32 → Mem → Option (Int32 × Mem) := lpN (fun _ _ _ _ _ => none) (f_X10_sheet_b37_s) k
theorem b_X10_sheet_b37 {K : Kt} {X : Xt} (hp : St K) (hB : Bx K X { frames := 1, cells := 0, slots := 0, locals := 21 } cX10_sheet 5 RX10 (some .int)) {r : Int32} {M1 : Mem} (k : Nat) : ∀ (x1 : Int32) (x2 : Int32) (x3 : Int32) (x4 : Int32) M, f_X10_sheet_b37 k x1 x2 x3 x4 M = some (r, M1) → Wt K X (QM K X (some (vi r)) M1 0 0) 0 0 M 37 [(0, vr 64), (1, vi x1), (2, vi x2), (3, vi x3), (4, vi x4)] [] := by
  refine lpN_ind (P := fun (f : Int32 → Int32 → Int32 → Int32 → Mem → Option (Int32 × Mem)) => ∀ (x1 : Int32) (x2 : Int32) (x3 : Int32) (x4 : Int32) M, f x1 x2 x3 x4 M = some (r, M1) → Wt K X (QM K X (some (vi r)) M1 0 0) 0 0 M 37 [(0, vr 64), (1, vi x1), (2, vi x2), (3, vi x3), (4, vi x4)] []) (fun _ _ _ _ _ h => by cases h) (fun f hf x1 x2 x3 x4 M hF => ?_) k
  exact b_X10_sheet_b37_s hp hB hf hF
def f_X10_sheet (x1 : Int32) (x2 : Int32) (x3 : Int32) (M : Mem) : Option (Int32 × Mem) :=
  if x1 < 0 then
    some ((-1), M)
  else
    if 2 < x1 then
      some ((-1), M)
    else
      if x2 < 0 then
        some ((-1), M)
      else
        if x3 ≤ (M.1 217 9) then
          if x2 ≤ x3 then
            f_X10_sheet_b37 fuel x1 x2 x3 x2 M
          else
            some ((-2), M)
        else
          some ((-1), M)
set_option maxRecDepth 100000 in
set_option maxHeartbeats 4000000 in
theorem b_X10_sheet {K : Kt} {X : Xt} (hp : St K) (hB : Bx K X { frames := 1, cells := 0, slots := 0, locals := 21 } cX10_sheet 5 RX10 (some .int)) {r : Int32} {M1 : Mem} {x1 : Int32} {x2 : Int32} {x3 : Int32} {M : Mem} (hF : f_X10_sheet x1 x2 x3 M = some (r, M1)) : Wt K X (QM K X (some (vi r)) M1 0 0) 0 0 M 0 [(0, vr 64), (1, vi x1), (2, vi x2), (3, vi x3)] [] := by
  unfold f_X10_sheet at hF
  refine w_iload_n hB 1 dX10_sheet_0 rfl rfl ?_
  refine w_if_lt hB 24 dX10_sheet_1 (by decide) (fun hc => ?_) (fun hc => ?_)
  · replace hF := ifT hc hF
    refine w_iconst hB (-1) (by decide) dX10_sheet_24 ?_
    obtain ⟨e1, e2⟩ := retS hF
    subst e2
    exact w_iret hB dX10_sheet_25 e1
  · replace hF := ifF hc hF
    refine w_iload_n hB 1 dX10_sheet_4 rfl rfl ?_
    refine w_iconst hB 2 (by decide) dX10_sheet_5 ?_
    refine w_icmp_gt hB 24 dX10_sheet_6 (by decide) (fun hc => ?_) (fun hc => ?_)
    · replace hF := ifT hc hF
      refine w_iconst hB (-1) (by decide) dX10_sheet_24 ?_
      obtain ⟨e1, e2⟩ := retS hF
      subst e2
      exact w_iret hB dX10_sheet_25 e1
    · replace hF := ifF hc hF
      refine w_iload_n hB 2 dX10_sheet_9 rfl rfl ?_
      refine w_if_lt hB 24 dX10_sheet_10 (by decide) (fun hc => ?_) (fun hc => ?_)
      · replace hF := ifT hc hF
        refine w_iconst hB (-1) (by decide) dX10_sheet_24 ?_
        obtain ⟨e1, e2⟩ := retS hF
        subst e2
        exact w_iret hB dX10_sheet_25 e1
      · replace hF := ifF hc hF
        refine w_iload_n hB 3 dX10_sheet_13 rfl rfl ?_
        refine w_aload_n hB 0 dX10_sheet_14 rfl rfl ?_
        refine w_getC hB (v := 217) ff_X10_6 sh_64 hp.1 cr_64_6 (by decide) q_479 dX10_sheet_15 ?_
        refine w_getI hB ff_X3_9 sh_217 (Or.inl hp.1) q_450 dX10_sheet_18 ?_
        refine w_icmp_le hB 26 dX10_sheet_21 (by decide) (fun hc => ?_) (fun hc => ?_)
        · replace hF := ifT hc hF
          refine w_iload_n hB 3 dX10_sheet_26 rfl rfl ?_
          refine w_iload_n hB 2 dX10_sheet_27 rfl rfl ?_
          refine w_icmp_ge hB 34 dX10_sheet_28 (by decide) (fun hc => ?_) (fun hc => ?_)
          · replace hF := ifT hc hF
            refine w_iload_n hB 2 dX10_sheet_34 rfl rfl ?_
            refine w_istore hB (L' := [(4, vi x2), (0, vr 64), (1, vi x1), (2, vi x2), (3, vi x3)]) dX10_sheet_35 (by decide) rfl rfl ?_
            exact Wt.sub (L' := [(0, vr 64), (1, vi x1), (2, vi x2), (3, vi x3), (4, vi x2)]) [1, 2, 3, 4, 0] rfl (b_X10_sheet_b37 hp hB fuel _ _ _ _ M hF)
          · replace hF := ifF hc hF
            refine w_bipush hB (-2) (by decide) dX10_sheet_31 ?_
            obtain ⟨e1, e2⟩ := retS hF
            subst e2
            exact w_iret hB dX10_sheet_33 e1
        · replace hF := ifF hc hF
          refine w_iconst hB (-1) (by decide) dX10_sheet_24 ?_
          obtain ⟨e1, e2⟩ := retS hF
          subst e2
          exact w_iret hB dX10_sheet_25 e1
theorem c_X10_sheet {K : Kt} {l : Launch} (hp : St K) {r : Int32} {M1 : Mem} {x1 : Int32} {x2 : Int32} {x3 : Int32} {M : Mem} (hF : f_X10_sheet x1 x2 x3 M = some (r, M1)) : MT K l yX10_sheet cX10_sheet 5 (some .int) { frames := 1, cells := 0, slots := 0, locals := 21 } [vr 64, vi x1, vi x2, vi x3] M (some (vi r)) M1 0 0 :=
  MT_of (by decide) rfl (Nat.le_of_ble_eq_true rfl) (fun X _ hB _ => b_X10_sheet hp hB hF)
def f_X10_undo (M : Mem) : Option (Int32 × Mem) :=
  if (M.1 64 9) = 0 then
    some ((-1), M)
  else
    bnd (setI M 64 8 ((((M.1 64 8) + 12) - 1) - (((M.1 64 8) + 12) - 1) / 12 * 12)) fun M1m =>
    gd (inb (M1m.1 64 8) 12) <|
    clv (f_X3_copyFrom 217 (cr 223 (M1m.1 64 8).toNatClampNeg) M1m) fun M2m =>
    bnd (setI M2m 64 9 ((M2m.1 64 9) - 1)) fun M3m =>
    some (M3m.1 64 9, M3m)
set_option maxRecDepth 100000 in
set_option maxHeartbeats 4000000 in
theorem b_X10_undo {K : Kt} {X : Xt} (hp : St K) (hB : Bx K X { frames := 2, cells := 0, slots := 0, locals := 47 } cX10_undo 1 RX10 (some .int)) {r : Int32} {M1 : Mem} {M : Mem} (hF : f_X10_undo M = some (r, M1)) : Wt K X (QM K X (some (vi r)) M1 0 0) 0 0 M 0 [(0, vr 64)] [] := by
  unfold f_X10_undo at hF
  refine w_aload_n hB 0 dX10_undo_0 rfl rfl ?_
  refine w_getI hB ff_X10_9 sh_64 (Or.inl hp.1) q_482 dX10_undo_1 ?_
  refine w_if_ne hB 9 dX10_undo_4 (by decide) (fun hc => ?_) (fun hc => ?_)
  · replace hF := ifF hc hF
    refine w_aload_n hB 0 dX10_undo_9 rfl rfl ?_
    refine w_aload_n hB 0 dX10_undo_10 rfl rfl ?_
    refine w_getI hB ff_X10_8 sh_64 (Or.inl hp.1) q_481 dX10_undo_11 ?_
    refine w_bipush hB 12 (by decide) dX10_undo_14 ?_
    refine w_iadd hB dX10_undo_16 ?_
    refine w_iconst hB 1 (by decide) dX10_undo_17 ?_
    refine w_isub hB dX10_undo_18 ?_
    refine w_bipush hB 12 (by decide) dX10_undo_19 ?_
    refine w_irem hB (by decide) dX10_undo_21 ?_
    obtain ⟨M1m, e_M1m, hF⟩ := bndS hF
    refine w_putI hB ff_X10_8 sh_64 (Or.inl hp.1) q_481 e_M1m dX10_undo_22 ?_
    refine w_aload_n hB 0 dX10_undo_25 rfl rfl ?_
    refine w_getC hB (v := 217) ff_X10_6 sh_64 hp.1 cr_64_6 (by decide) q_479 dX10_undo_26 ?_
    refine w_aload_n hB 0 dX10_undo_29 rfl rfl ?_
    refine w_getC hB (v := 223) ff_X10_7 sh_64 hp.1 cr_64_7 (by decide) q_480 dX10_undo_30 ?_
    refine w_aload_n hB 0 dX10_undo_33 rfl rfl ?_
    refine w_getI hB ff_X10_8 sh_64 (Or.inl hp.1) q_481 dX10_undo_34 ?_
    obtain ⟨g1, hF⟩ := gdS hF
    refine w_aaldC hB (c := 7) (v := cr 223 (M1m.1 64 8).toNatClampNeg) sh_223 rfl (by decide) hp.1 sl_223 g1 rfl (shc_ne (cre_27 sh_223 (by rw [sl_223]; exact inb_lt g1))) dX10_undo_37 ?_
    obtain ⟨M2m, hc_M2m, hF⟩ := clvS hF
    refine w_callV hB (ci := 2) (As := [vr (cr 223 (M1m.1 64 8).toNatClampNeg)]) (st := []) cw_X10_323 q_915 q_916 rfl sh_217 (Or.inl hp.1) (c_X3_copyFrom hp hc_M2m) ⟨rfl, rfl⟩ (by decide) (by decide) rfl (Nat.le_of_ble_eq_true rfl) dX10_undo_38 rfl ?_
    refine w_aload_n hB 0 dX10_undo_41 rfl rfl ?_
    refine w_dup hB rfl dX10_undo_42 ?_
    refine w_getI hB ff_X10_9 sh_64 (Or.inl hp.1) q_482 dX10_undo_43 ?_
    refine w_iconst hB 1 (by decide) dX10_undo_46 ?_
    refine w_isub hB dX10_undo_47 ?_
    obtain ⟨M3m, e_M3m, hF⟩ := bndS hF
    refine w_putI hB ff_X10_9 sh_64 (Or.inl hp.1) q_482 e_M3m dX10_undo_48 ?_
    refine w_aload_n hB 0 dX10_undo_51 rfl rfl ?_
    refine w_getI hB ff_X10_9 sh_64 (Or.inl hp.1) q_482 dX10_undo_52 ?_
    obtain ⟨e1, e2⟩ := retS hF
    subst e2
    exact w_iret hB dX10_undo_55 e1
  · replace hF := ifT hc hF
    refine w_iconst hB (-1) (by decide) dX10_undo_7 ?_
    obtain ⟨e1, e2⟩ := retS hF
    subst e2
    exact w_iret hB dX10_undo_8 e1
theorem c_X10_undo {K : Kt} {l : Launch} (hp : St K) {r : Int32} {M1 : Mem} {M : Mem} (hF : f_X10_undo M = some (r, M1)) : MT K l yX10_undo cX10_undo 1 (some .int) { frames := 2, cells := 0, slots := 0, locals := 47 } [vr 64] M (some (vi r)) M1 0 0 :=
  MT_of (by decide) rfl (Nat.le_of_ble_eq_true rfl) (fun X _ hB _ => b_X10_undo hp hB hF)
def f_X10_keep (x1 : Int32) (x2 : Int32) (M : Mem) : Option (Int32 × Mem) :=
  if x1 < 0 then
    some (0, M)
  else
    if x1 < 2 then
      if x2 = 0 then
        gd (inb x1 2) <|
        clv (f_X3_copyFrom (cr 224 x1.toNatClampNeg) 217 M) fun M1m =>
        bnd (setI M1m 225 (x1.toNatClampNeg) (vp_nar .boolean 1)) fun M2m =>
        some (1, M2m)
      else
        gd (inb x1 2) <|
        if (M.1 225 x1.toNatClampNeg) = 0 then
          some (0, M)
        else
          clv (f_X3_copyFrom 217 (cr 224 x1.toNatClampNeg) M) fun M3m =>
          bnd (setI M3m 64 9 0) fun M4m =>
          some (1, M4m)
    else
      some (0, M)
set_option maxRecDepth 100000 in
set_option maxHeartbeats 4000000 in
theorem b_X10_keep {K : Kt} {X : Xt} (hp : St K) (hB : Bx K X { frames := 2, cells := 0, slots := 0, locals := 47 } cX10_keep 3 RX10 (some .boolean)) {r : Int32} {M1 : Mem} {x1 : Int32} {x2 : Int32} {M : Mem} (hF : f_X10_keep x1 x2 M = some (r, M1)) : Wt K X (QM K X (some (vi r)) M1 0 0) 0 0 M 0 [(0, vr 64), (1, vi x1), (2, vi x2)] [] := by
  unfold f_X10_keep at hF
  refine w_iload_n hB 1 dX10_keep_0 rfl rfl ?_
  refine w_if_lt hB 9 dX10_keep_1 (by decide) (fun hc => ?_) (fun hc => ?_)
  · replace hF := ifT hc hF
    refine w_iconst hB 0 (by decide) dX10_keep_9 ?_
    obtain ⟨e1, e2⟩ := retS hF
    subst e2
    exact w_zret hB (by decide) dX10_keep_10 e1
  · replace hF := ifF hc hF
    refine w_iload_n hB 1 dX10_keep_4 rfl rfl ?_
    refine w_iconst hB 2 (by decide) dX10_keep_5 ?_
    refine w_icmp_lt hB 11 dX10_keep_6 (by decide) (fun hc => ?_) (fun hc => ?_)
    · replace hF := ifT hc hF
      refine w_iload_n hB 2 dX10_keep_11 rfl rfl ?_
      refine w_if_ne hB 37 dX10_keep_12 (by decide) (fun hc => ?_) (fun hc => ?_)
      · replace hF := ifF hc hF
        refine w_aload_n hB 0 dX10_keep_37 rfl rfl ?_
        refine w_getC hB (v := 225) ff_X10_11 sh_64 hp.1 cr_64_11 (by decide) q_484 dX10_keep_38 ?_
        refine w_iload_n hB 1 dX10_keep_41 rfl rfl ?_
        obtain ⟨g2, hF⟩ := gdS hF
        refine w_zald hB sh_225 (Or.inl hp.1) sl_225 g2 dX10_keep_42 ?_
        refine w_if_ne hB 48 dX10_keep_43 (by decide) (fun hc => ?_) (fun hc => ?_)
        · replace hF := ifF hc hF
          refine w_aload_n hB 0 dX10_keep_48 rfl rfl ?_
          refine w_getC hB (v := 217) ff_X10_6 sh_64 hp.1 cr_64_6 (by decide) q_479 dX10_keep_49 ?_
          refine w_aload_n hB 0 dX10_keep_52 rfl rfl ?_
          refine w_getC hB (v := 224) ff_X10_10 sh_64 hp.1 cr_64_10 (by decide) q_483 dX10_keep_53 ?_
          refine w_iload_n hB 1 dX10_keep_56 rfl rfl ?_
          refine w_aaldC hB (c := 7) (v := cr 224 x1.toNatClampNeg) sh_224 rfl (by decide) hp.1 sl_224 g2 rfl (shc_ne (cre_27 sh_224 (by rw [sl_224]; exact inb_lt g2))) dX10_keep_57 ?_
          obtain ⟨M3m, hc_M3m, hF⟩ := clvS hF
          refine w_callV hB (ci := 2) (As := [vr (cr 224 x1.toNatClampNeg)]) (st := []) cw_X10_323 q_915 q_916 rfl sh_217 (Or.inl hp.1) (c_X3_copyFrom hp hc_M3m) ⟨rfl, rfl⟩ (by decide) (by decide) rfl (Nat.le_of_ble_eq_true rfl) dX10_keep_58 rfl ?_
          refine w_aload_n hB 0 dX10_keep_61 rfl rfl ?_
          refine w_iconst hB 0 (by decide) dX10_keep_62 ?_
          obtain ⟨M4m, e_M4m, hF⟩ := bndS hF
          refine w_putI hB ff_X10_9 sh_64 (Or.inl hp.1) q_482 e_M4m dX10_keep_63 ?_
          refine w_iconst hB 1 (by decide) dX10_keep_66 ?_
          obtain ⟨e1, e2⟩ := retS hF
          subst e2
          exact w_zret hB (by decide) dX10_keep_67 e1
        · replace hF := ifT hc hF
          refine w_iconst hB 0 (by decide) dX10_keep_46 ?_
          obtain ⟨e1, e2⟩ := retS hF
          subst e2
          exact w_zret hB (by decide) dX10_keep_47 e1
      · replace hF := ifT hc hF
        refine w_aload_n hB 0 dX10_keep_15 rfl rfl ?_
        refine w_getC hB (v := 224) ff_X10_10 sh_64 hp.1 cr_64_10 (by decide) q_483 dX10_keep_16 ?_
        refine w_iload_n hB 1 dX10_keep_19 rfl rfl ?_
        obtain ⟨g1, hF⟩ := gdS hF
        refine w_aaldC hB (c := 7) (v := cr 224 x1.toNatClampNeg) sh_224 rfl (by decide) hp.1 sl_224 g1 rfl (shc_ne (cre_27 sh_224 (by rw [sl_224]; exact inb_lt g1))) dX10_keep_20 ?_
        refine w_aload_n hB 0 dX10_keep_21 rfl rfl ?_
        refine w_getC hB (v := 217) ff_X10_6 sh_64 hp.1 cr_64_6 (by decide) q_479 dX10_keep_22 ?_
        obtain ⟨M1m, hc_M1m, hF⟩ := clvS hF
        refine w_callV hB (ci := 2) (As := [vr 217]) (st := []) cw_X10_323 q_915 q_916 rfl (cre_27 sh_224 (by rw [sl_224]; exact inb_lt g1)) (Or.inl hp.1) (c_X3_copyFrom hp hc_M1m) ⟨rfl, rfl⟩ (by decide) (by decide) rfl (Nat.le_of_ble_eq_true rfl) dX10_keep_25 rfl ?_
        refine w_aload_n hB 0 dX10_keep_28 rfl rfl ?_
        refine w_getC hB (v := 225) ff_X10_11 sh_64 hp.1 cr_64_11 (by decide) q_484 dX10_keep_29 ?_
        refine w_iload_n hB 1 dX10_keep_32 rfl rfl ?_
        refine w_iconst hB 1 (by decide) dX10_keep_33 ?_
        obtain ⟨M2m, e_M2m, hF⟩ := bndS hF
        refine w_zast hB sh_225 (Or.inl hp.1) sl_225 g1 e_M2m dX10_keep_34 ?_
        refine w_iconst hB 1 (by decide) dX10_keep_35 ?_
        obtain ⟨e1, e2⟩ := retS hF
        subst e2
        exact w_zret hB (by decide) dX10_keep_36 e1
    · replace hF := ifF hc hF
      refine w_iconst hB 0 (by decide) dX10_keep_9 ?_
      obtain ⟨e1, e2⟩ := retS hF
      subst e2
      exact w_zret hB (by decide) dX10_keep_10 e1
theorem c_X10_keep {K : Kt} {l : Launch} (hp : St K) {r : Int32} {M1 : Mem} {x1 : Int32} {x2 : Int32} {M : Mem} (hF : f_X10_keep x1 x2 M = some (r, M1)) : MT K l yX10_keep cX10_keep 3 (some .boolean) { frames := 2, cells := 0, slots := 0, locals := 47 } [vr 64, vi x1, vi x2] M (some (vi r)) M1 0 0 :=
  MT_of (by decide) rfl (Nat.le_of_ble_eq_true rfl) (fun X _ hB _ => b_X10_keep hp hB hF)
def f_X10_count (x1 : Int32) (M : Mem) : Option (Int32 × Mem) :=
  if x1 = 0 then
    gd (shc (M.2.2.1 64 2) = 8) <|
    some (M.1 (M.2.2.1 64 2) 0, M)
  else
  if x1 = 1 then
    gd (shc (M.2.2.1 64 2) = 8) <|
    some (M.1 (M.2.2.1 64 2) 3, M)
  else
  if x1 = 2 then
    gd (shc (M.2.2.1 64 2) = 8) <|
    some (M.1 (M.2.2.1 64 2) 5, M)
  else
  if x1 = 3 then
    gd (shc (M.2.2.1 64 2) = 8) <|
    some (M.1 (M.2.2.1 64 2) 7, M)
  else
  if x1 = 4 then
    gd (shc (M.2.2.1 64 2) = 8) <|
    some (M.1 (M.2.2.1 64 2) 9, M)
  else
  if x1 = 5 then
    gd (shc (M.2.2.1 64 2) = 8) <|
    some (M.1 (M.2.2.1 64 2) 11, M)
  else
  if x1 = 6 then
    some (M.1 217 0, M)
  else
  if x1 = 7 then
    some (M.1 217 9, M)
  else
  if x1 = 8 then
    some (M.1 64 9, M)
  else
  if x1 = 9 then
    some (M.1 64 1, M)
  else
  if x1 = 10 then
    some (M.1 64 13, M)
  else
  if x1 = 11 then
    gd (shc (M.2.2.1 64 2) = 8) <|
    some (M.1 (cr (M.2.2.1 64 2) 13) 0, M)
  else
  if x1 = 12 then
    gd (shc (M.2.2.1 64 2) = 8) <|
    some (M.1 (cr (M.2.2.1 64 2) 13) 1, M)
  else
  if x1 = 13 then
    gd (shc (M.2.2.1 64 2) = 8) <|
    some (M.1 (cr (M.2.2.1 64 2) 13) 2, M)
  else
  if x1 = 14 then
    gd (shc (M.2.2.1 64 2) = 8) <|
    some (M.1 (cr (M.2.2.1 64 2) 13) 3, M)
  else
    some ((-1), M)
set_option maxRecDepth 100000 in
set_option maxHeartbeats 4000000 in
theorem b_X10_count {K : Kt} {X : Xt} (hp : St K) (hB : Bx K X { frames := 0, cells := 0, slots := 0, locals := 0 } cX10_count 2 RX10 (some .int)) {r : Int32} {M1 : Mem} {x1 : Int32} {M : Mem} (hF : f_X10_count x1 M = some (r, M1)) : Wt K X (QM K X (some (vi r)) M1 0 0) 0 0 M 0 [(0, vr 64), (1, vi x1)] [] := by
  unfold f_X10_count at hF
  refine w_iload_n hB 1 dX10_count_0 rfl rfl ?_
  by_cases ht0 : x1 = 0
  · replace hF := ifT ht0 hF
    refine w_tsIn hB 76 dX10_count_1 (off := 75) (by rw [ht0]; decide) (by rw [ht0]; decide) (by rw [ht0]; rfl) (by decide) ?_
    refine w_aload_n hB 0 dX10_count_76 rfl rfl ?_
    refine w_getR hB ff_X10_2 sh_64 (Or.inl hp.1) q_475 dX10_count_77 ?_
    obtain ⟨g1, hF⟩ := gdS hF
    refine w_getI hB ff_X9_0 g1 (Or.inl hp.1) q_272 dX10_count_80 ?_
    obtain ⟨e1, e2⟩ := retS hF
    subst e2
    exact w_iret hB dX10_count_83 e1
  replace hF := ifF ht0 hF
  by_cases ht1 : x1 = 1
  · replace hF := ifT ht1 hF
    refine w_tsIn hB 84 dX10_count_1 (off := 83) (by rw [ht1]; decide) (by rw [ht1]; decide) (by rw [ht1]; rfl) (by decide) ?_
    refine w_aload_n hB 0 dX10_count_84 rfl rfl ?_
    refine w_getR hB ff_X10_2 sh_64 (Or.inl hp.1) q_475 dX10_count_85 ?_
    obtain ⟨g2, hF⟩ := gdS hF
    refine w_getI hB ff_X9_3 g2 (Or.inl hp.1) q_283 dX10_count_88 ?_
    obtain ⟨e1, e2⟩ := retS hF
    subst e2
    exact w_iret hB dX10_count_91 e1
  replace hF := ifF ht1 hF
  by_cases ht2 : x1 = 2
  · replace hF := ifT ht2 hF
    refine w_tsIn hB 92 dX10_count_1 (off := 91) (by rw [ht2]; decide) (by rw [ht2]; decide) (by rw [ht2]; rfl) (by decide) ?_
    refine w_aload_n hB 0 dX10_count_92 rfl rfl ?_
    refine w_getR hB ff_X10_2 sh_64 (Or.inl hp.1) q_475 dX10_count_93 ?_
    obtain ⟨g3, hF⟩ := gdS hF
    refine w_getI hB ff_X9_5 g3 (Or.inl hp.1) q_290 dX10_count_96 ?_
    obtain ⟨e1, e2⟩ := retS hF
    subst e2
    exact w_iret hB dX10_count_99 e1
  replace hF := ifF ht2 hF
  by_cases ht3 : x1 = 3
  · replace hF := ifT ht3 hF
    refine w_tsIn hB 100 dX10_count_1 (off := 99) (by rw [ht3]; decide) (by rw [ht3]; decide) (by rw [ht3]; rfl) (by decide) ?_
    refine w_aload_n hB 0 dX10_count_100 rfl rfl ?_
    refine w_getR hB ff_X10_2 sh_64 (Or.inl hp.1) q_475 dX10_count_101 ?_
    obtain ⟨g4, hF⟩ := gdS hF
    refine w_getI hB ff_X9_7 g4 (Or.inl hp.1) q_297 dX10_count_104 ?_
    obtain ⟨e1, e2⟩ := retS hF
    subst e2
    exact w_iret hB dX10_count_107 e1
  replace hF := ifF ht3 hF
  by_cases ht4 : x1 = 4
  · replace hF := ifT ht4 hF
    refine w_tsIn hB 108 dX10_count_1 (off := 107) (by rw [ht4]; decide) (by rw [ht4]; decide) (by rw [ht4]; rfl) (by decide) ?_
    refine w_aload_n hB 0 dX10_count_108 rfl rfl ?_
    refine w_getR hB ff_X10_2 sh_64 (Or.inl hp.1) q_475 dX10_count_109 ?_
    obtain ⟨g5, hF⟩ := gdS hF
    refine w_getI hB ff_X9_9 g5 (Or.inl hp.1) q_304 dX10_count_112 ?_
    obtain ⟨e1, e2⟩ := retS hF
    subst e2
    exact w_iret hB dX10_count_115 e1
  replace hF := ifF ht4 hF
  by_cases ht5 : x1 = 5
  · replace hF := ifT ht5 hF
    refine w_tsIn hB 116 dX10_count_1 (off := 115) (by rw [ht5]; decide) (by rw [ht5]; decide) (by rw [ht5]; rfl) (by decide) ?_
    refine w_aload_n hB 0 dX10_count_116 rfl rfl ?_
    refine w_getR hB ff_X10_2 sh_64 (Or.inl hp.1) q_475 dX10_count_117 ?_
    obtain ⟨g6, hF⟩ := gdS hF
    refine w_getI hB ff_X9_11 g6 (Or.inl hp.1) q_310 dX10_count_120 ?_
    obtain ⟨e1, e2⟩ := retS hF
    subst e2
    exact w_iret hB dX10_count_123 e1
  replace hF := ifF ht5 hF
  by_cases ht6 : x1 = 6
  · replace hF := ifT ht6 hF
    refine w_tsIn hB 124 dX10_count_1 (off := 123) (by rw [ht6]; decide) (by rw [ht6]; decide) (by rw [ht6]; rfl) (by decide) ?_
    refine w_aload_n hB 0 dX10_count_124 rfl rfl ?_
    refine w_getC hB (v := 217) ff_X10_6 sh_64 hp.1 cr_64_6 (by decide) q_479 dX10_count_125 ?_
    refine w_getI hB ff_X3_0 sh_217 (Or.inl hp.1) q_433 dX10_count_128 ?_
    obtain ⟨e1, e2⟩ := retS hF
    subst e2
    exact w_iret hB dX10_count_131 e1
  replace hF := ifF ht6 hF
  by_cases ht7 : x1 = 7
  · replace hF := ifT ht7 hF
    refine w_tsIn hB 132 dX10_count_1 (off := 131) (by rw [ht7]; decide) (by rw [ht7]; decide) (by rw [ht7]; rfl) (by decide) ?_
    refine w_aload_n hB 0 dX10_count_132 rfl rfl ?_
    refine w_getC hB (v := 217) ff_X10_6 sh_64 hp.1 cr_64_6 (by decide) q_479 dX10_count_133 ?_
    refine w_getI hB ff_X3_9 sh_217 (Or.inl hp.1) q_450 dX10_count_136 ?_
    obtain ⟨e1, e2⟩ := retS hF
    subst e2
    exact w_iret hB dX10_count_139 e1
  replace hF := ifF ht7 hF
  by_cases ht8 : x1 = 8
  · replace hF := ifT ht8 hF
    refine w_tsIn hB 140 dX10_count_1 (off := 139) (by rw [ht8]; decide) (by rw [ht8]; decide) (by rw [ht8]; rfl) (by decide) ?_
    refine w_aload_n hB 0 dX10_count_140 rfl rfl ?_
    refine w_getI hB ff_X10_9 sh_64 (Or.inl hp.1) q_482 dX10_count_141 ?_
    obtain ⟨e1, e2⟩ := retS hF
    subst e2
    exact w_iret hB dX10_count_144 e1
  replace hF := ifF ht8 hF
  by_cases ht9 : x1 = 9
  · replace hF := ifT ht9 hF
    refine w_tsIn hB 145 dX10_count_1 (off := 144) (by rw [ht9]; decide) (by rw [ht9]; decide) (by rw [ht9]; rfl) (by decide) ?_
    refine w_aload_n hB 0 dX10_count_145 rfl rfl ?_
    refine w_getI hB ff_X10_1 sh_64 (Or.inl hp.1) q_474 dX10_count_146 ?_
    obtain ⟨e1, e2⟩ := retS hF
    subst e2
    exact w_iret hB dX10_count_149 e1
  replace hF := ifF ht9 hF
  by_cases ht10 : x1 = 10
  · replace hF := ifT ht10 hF
    refine w_tsIn hB 150 dX10_count_1 (off := 149) (by rw [ht10]; decide) (by rw [ht10]; decide) (by rw [ht10]; rfl) (by decide) ?_
    refine w_aload_n hB 0 dX10_count_150 rfl rfl ?_
    refine w_getI hB ff_X10_13 sh_64 (Or.inl hp.1) q_486 dX10_count_151 ?_
    obtain ⟨e1, e2⟩ := retS hF
    subst e2
    exact w_iret hB dX10_count_154 e1
  replace hF := ifF ht10 hF
  by_cases ht11 : x1 = 11
  · replace hF := ifT ht11 hF
    refine w_tsIn hB 155 dX10_count_1 (off := 154) (by rw [ht11]; decide) (by rw [ht11]; decide) (by rw [ht11]; rfl) (by decide) ?_
    refine w_aload_n hB 0 dX10_count_155 rfl rfl ?_
    refine w_getR hB ff_X10_2 sh_64 (Or.inl hp.1) q_475 dX10_count_156 ?_
    obtain ⟨g7, hF⟩ := gdS hF
    refine w_getC hB (v := cr (M.2.2.1 64 2) 13) ff_X9_13 g7 hp.1 rfl (shc_ne (crc_8_13 g7).1) q_318 dX10_count_159 ?_
    refine w_iconst hB 0 (by decide) dX10_count_162 ?_
    refine w_iald hB (crc_8_13 g7).1 (Or.inl hp.1) (crc_8_13 g7).2 (by decide) dX10_count_163 ?_
    rw [show (0 : Int32).toNatClampNeg = 0 by decide]
    obtain ⟨e1, e2⟩ := retS hF
    subst e2
    exact w_iret hB dX10_count_164 e1
  replace hF := ifF ht11 hF
  by_cases ht12 : x1 = 12
  · replace hF := ifT ht12 hF
    refine w_tsIn hB 165 dX10_count_1 (off := 164) (by rw [ht12]; decide) (by rw [ht12]; decide) (by rw [ht12]; rfl) (by decide) ?_
    refine w_aload_n hB 0 dX10_count_165 rfl rfl ?_
    refine w_getR hB ff_X10_2 sh_64 (Or.inl hp.1) q_475 dX10_count_166 ?_
    obtain ⟨g8, hF⟩ := gdS hF
    refine w_getC hB (v := cr (M.2.2.1 64 2) 13) ff_X9_13 g8 hp.1 rfl (shc_ne (crc_8_13 g8).1) q_318 dX10_count_169 ?_
    refine w_iconst hB 1 (by decide) dX10_count_172 ?_
    refine w_iald hB (crc_8_13 g8).1 (Or.inl hp.1) (crc_8_13 g8).2 (by decide) dX10_count_173 ?_
    rw [show (1 : Int32).toNatClampNeg = 1 by decide]
    obtain ⟨e1, e2⟩ := retS hF
    subst e2
    exact w_iret hB dX10_count_174 e1
  replace hF := ifF ht12 hF
  by_cases ht13 : x1 = 13
  · replace hF := ifT ht13 hF
    refine w_tsIn hB 175 dX10_count_1 (off := 174) (by rw [ht13]; decide) (by rw [ht13]; decide) (by rw [ht13]; rfl) (by decide) ?_
    refine w_aload_n hB 0 dX10_count_175 rfl rfl ?_
    refine w_getR hB ff_X10_2 sh_64 (Or.inl hp.1) q_475 dX10_count_176 ?_
    obtain ⟨g9, hF⟩ := gdS hF
    refine w_getC hB (v := cr (M.2.2.1 64 2) 13) ff_X9_13 g9 hp.1 rfl (shc_ne (crc_8_13 g9).1) q_318 dX10_count_179 ?_
    refine w_iconst hB 2 (by decide) dX10_count_182 ?_
    refine w_iald hB (crc_8_13 g9).1 (Or.inl hp.1) (crc_8_13 g9).2 (by decide) dX10_count_183 ?_
    rw [show (2 : Int32).toNatClampNeg = 2 by decide]
    obtain ⟨e1, e2⟩ := retS hF
    subst e2
    exact w_iret hB dX10_count_184 e1
  replace hF := ifF ht13 hF
  by_cases ht14 : x1 = 14
  · replace hF := ifT ht14 hF
    refine w_tsIn hB 185 dX10_count_1 (off := 184) (by rw [ht14]; decide) (by rw [ht14]; decide) (by rw [ht14]; rfl) (by decide) ?_
    refine w_aload_n hB 0 dX10_count_185 rfl rfl ?_
    refine w_getR hB ff_X10_2 sh_64 (Or.inl hp.1) q_475 dX10_count_186 ?_
    obtain ⟨g10, hF⟩ := gdS hF
    refine w_getC hB (v := cr (M.2.2.1 64 2) 13) ff_X9_13 g10 hp.1 rfl (shc_ne (crc_8_13 g10).1) q_318 dX10_count_189 ?_
    refine w_iconst hB 3 (by decide) dX10_count_192 ?_
    refine w_iald hB (crc_8_13 g10).1 (Or.inl hp.1) (crc_8_13 g10).2 (by decide) dX10_count_193 ?_
    rw [show (3 : Int32).toNatClampNeg = 3 by decide]
    obtain ⟨e1, e2⟩ := retS hF
    subst e2
    exact w_iret hB dX10_count_194 e1
  replace hF := ifF ht14 hF
  have tht0 := lv_neT ht0 (show (0 : Int32).toInt = 0 by decide)
  have tht1 := lv_neT ht1 (show (1 : Int32).toInt = 1 by decide)
  have tht2 := lv_neT ht2 (show (2 : Int32).toInt = 2 by decide)
  have tht3 := lv_neT ht3 (show (3 : Int32).toInt = 3 by decide)
  have tht4 := lv_neT ht4 (show (4 : Int32).toInt = 4 by decide)
  have tht5 := lv_neT ht5 (show (5 : Int32).toInt = 5 by decide)
  have tht6 := lv_neT ht6 (show (6 : Int32).toInt = 6 by decide)
  have tht7 := lv_neT ht7 (show (7 : Int32).toInt = 7 by decide)
  have tht8 := lv_neT ht8 (show (8 : Int32).toInt = 8 by decide)
  have tht9 := lv_neT ht9 (show (9 : Int32).toInt = 9 by decide)
  have tht10 := lv_neT ht10 (show (10 : Int32).toInt = 10 by decide)
  have tht11 := lv_neT ht11 (show (11 : Int32).toInt = 11 by decide)
  have tht12 := lv_neT ht12 (show (12 : Int32).toInt = 12 by decide)
  have tht13 := lv_neT ht13 (show (13 : Int32).toInt = 13 by decide)
  have tht14 := lv_neT ht14 (show (14 : Int32).toInt = 14 by decide)
  refine w_tsOut hB 195 dX10_count_1 (by omega) (by decide) ?_
  refine w_iconst hB (-1) (by decide) dX10_count_195 ?_
  obtain ⟨e1, e2⟩ := retS hF
  subst e2
  exact w_iret hB dX10_count_196 e1
theorem c_X10_count {K : Kt} {l : Launch} (hp : St K) {r : Int32} {M1 : Mem} {x1 : Int32} {M : Mem} (hF : f_X10_count x1 M = some (r, M1)) : MT K l yX10_count cX10_count 2 (some .int) { frames := 0, cells := 0, slots := 0, locals := 0 } [vr 64, vi x1] M (some (vi r)) M1 0 0 :=
  MT_of (by decide) rfl (Nat.le_of_ble_eq_true rfl) (fun X _ hB _ => b_X10_count hp hB hF)
