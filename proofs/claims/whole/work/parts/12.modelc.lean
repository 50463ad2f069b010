def f_X11_verdictOf_b105_s (rec105 : Int32 → Int32 → Mem → Option (Int32 × Mem)) (x3 : Int32) (x5 : Int32) (M : Mem) : Option (Int32 × Mem) :=
  gd (inb x3 10) <|
  if ((3 * x3) + (M.1 324 x3.toNatClampNeg)) ≤ x5 then
    cl (f_X11_closes M) fun r1 M1m =>
    if r1 = 0 then
      some (0, M1m)
    else
      some (2, M1m)
  else
    gd (inb x5 30) <|
    clv (f_X11_atMost (6 + (M.1 326 x5.toNatClampNeg)) (6 + (M.1 325 x5.toNatClampNeg)) (-1) M) fun M2m =>
    bnd (x5 + 1) fun a1 =>
    rec105 x3 a1 M2m
set_option maxRecDepth 100000 in
set_option maxHeartbeats 4000000 in
theorem b_X11_verdictOf_b105_s {K : Kt} {X : Xt} (hp : St K) (hB : Bx K X { frames := 3, cells := 0, slots := 0, locals := 73 } cX11_verdictOf 6 RX11 (some .int)) {r : Int32} {M1 : Mem} {rec105 : Int32 → Int32 → Mem → Option (Int32 × Mem)}
    (h105 : ∀ x3 x5 M, rec105 x3 x5 M = some (r, M1) → Wt K X (QM K X (some (vi r)) M1 0 0) 0 0 M 105 [(0, vr 311), (3, vi x3), (5, vi x5)] []) {x3 : Int32} {x5 : Int32} {M : Mem} (hF : f_X11_verdictOf_b105_s rec105 x3 x5 M = some (r, M1)) : Wt K X (QM K X (some (vi r)) M1 0 0) 0 0 M 105 [(0, vr 311), (3, vi x3), (5, vi x5)] [] := by
  unfold f_X11_verdictOf_b105_s at hF
  refine w_iload hB 2 dX11_verdictOf_105 rfl ?_
  refine w_iconst hB 3 (by decide) dX11_verdictOf_107 ?_
  refine w_iload_n hB 1 dX11_verdictOf_108 rfl rfl ?_
  refine w_imul hB dX11_verdictOf_109 ?_
  refine w_aload_n hB 0 dX11_verdictOf_110 rfl rfl ?_
  refine w_getC hB (v := 324) ff_X11_22 sh_311 hp.1 cr_311_22 (by decide) q_1182 dX11_verdictOf_111 ?_
  refine w_iload_n hB 1 dX11_verdictOf_114 rfl rfl ?_
  obtain ⟨g1, hF⟩ := gdS hF
  refine w_iald hB sh_324 (Or.inl hp.1) sl_324 g1 dX11_verdictOf_115 ?_
  refine w_iadd hB dX11_verdictOf_116 ?_
  refine w_icmp_ge hB 151 dX11_verdictOf_117 (by decide) (fun hc => ?_) (fun hc => ?_)
  · replace hF := ifT hc hF
    refine w_aload_n hB 0 dX11_verdictOf_151 rfl rfl ?_
    obtain ⟨r1, M1m, hc_M1m, hF⟩ := clS hF
    refine w_callV hB (ci := 9) (As := []) (st := []) cw_X11_325 q_1528 q_52 rfl sh_311 (Or.inl hp.1) (c_X11_closes hp hc_M1m) ⟨rfl, rfl⟩ (by decide) (by decide) rfl (Nat.le_of_ble_eq_true rfl) dX11_verdictOf_152 rfl ?_
    refine w_if_eq hB 162 dX11_verdictOf_155 (by decide) (fun hc => ?_) (fun hc => ?_)
    · replace hF := ifT hc hF
      refine w_iconst hB 0 (by decide) dX11_verdictOf_162 ?_
      obtain ⟨e1, e2⟩ := retS hF
      subst e2
      exact w_iret hB dX11_verdictOf_163 e1
    · replace hF := ifF hc hF
      refine w_iconst hB 2 (by decide) dX11_verdictOf_158 ?_
      refine w_goto hB 163 dX11_verdictOf_159 (by decide) ?_
      obtain ⟨e1, e2⟩ := retS hF
      subst e2
      exact w_iret hB dX11_verdictOf_163 e1
  · replace hF := ifF hc hF
    refine w_aload_n hB 0 dX11_verdictOf_120 rfl rfl ?_
    refine w_bipush hB 6 (by decide) dX11_verdictOf_121 ?_
    refine w_aload_n hB 0 dX11_verdictOf_123 rfl rfl ?_
    refine w_getC hB (v := 326) ff_X11_24 sh_311 hp.1 cr_311_24 (by decide) q_1184 dX11_verdictOf_124 ?_
    refine w_iload hB 2 dX11_verdictOf_127 rfl ?_
    obtain ⟨g2, hF⟩ := gdS hF
    refine w_iald hB sh_326 (Or.inl hp.1) sl_326 g2 dX11_verdictOf_129 ?_
    refine w_iadd hB dX11_verdictOf_130 ?_
    refine w_bipush hB 6 (by decide) dX11_verdictOf_131 ?_
    refine w_aload_n hB 0 dX11_verdictOf_133 rfl rfl ?_
    refine w_getC hB (v := 325) ff_X11_23 sh_311 hp.1 cr_311_23 (by decide) q_1183 dX11_verdictOf_134 ?_
    refine w_iload hB 2 dX11_verdictOf_137 rfl ?_
    refine w_iald hB sh_325 (Or.inl hp.1) sl_325 g2 dX11_verdictOf_139 ?_
    refine w_iadd hB dX11_verdictOf_140 ?_
    refine w_iconst hB (-1) (by decide) dX11_verdictOf_141 ?_
    obtain ⟨M2m, hc_M2m, hF⟩ := clvS hF
    refine w_callV hB (ci := 9) (As := [vi (6 + (M.1 326 x5.toNatClampNeg)), vi (6 + (M.1 325 x5.toNatClampNeg)), vi (-1)]) (st := []) cw_X11_314 q_1524 q_51 rfl sh_311 (Or.inl hp.1) (c_X11_atMost hp hc_M2m) ⟨rfl, rfl⟩ (by decide) (by decide) rfl (Nat.le_of_ble_eq_true rfl) dX11_verdictOf_142 rfl ?_
    obtain ⟨a1, e_a1, hF⟩ := bndS hF
    refine w_iinc hB 2 (v := 1) (L' := [(5, vi a1), (0, vr 311), (3, vi x3)]) dX11_verdictOf_145 rfl (by decide) (by decide) e_a1 rfl ?_
    refine w_goto hB 105 dX11_verdictOf_148 (by decide) ?_
    exact Wt.sub (L' := [(0, vr 311), (3, vi x3), (5, vi a1)]) [1, 2, 0] rfl (h105 _ _ M2m hF)
def f_X11_verdictOf_b105 (k : Nat) : Int32 → Int32 → Mem → Option (Int32 × Mem) := lpN (fun _ _ _ => none) (f_X11_verdictOf_b105_s) k
theorem b_X11_verdictOf_b105 {K : Kt} {X : Xt} (hp : St K) (hB : Bx K X { frames := 3, cells := 0, slots := 0, locals := 73 } cX11_verdictOf 6 RX11 (some .int)) {r : Int32} {M1 : Mem} (k : Nat) : ∀ (x3 : Int32) (x5 : Int32) M, f_X11_verdictOf_b105 k x3 x5 M = some (r, M1) → Wt K X (QM K X (some (vi r)) M1 0 0) 0 0 M 105 [(0, vr 311), (3, vi x3), (5, vi x5)] [] := by
  refine lpN_ind (P := fun (f : Int32 → Int32 → Mem → Option (Int32 × Mem)) => ∀ (x3 : Int32) (x5 : Int32) M, f x3 x5 M = some (r, M1) → Wt K X (QM K X (some (vi r)) M1 0 0) 0 0 M 105 [(0, vr 311), (3, vi x3), (5, vi x5)] []) (fun _ _ _ h => by cases h) (fun f hf x3 x5 M hF => ?_) k
  exact b_X11_verdictOf_b105_s hp hB hf hF
def f_X11_verdictOf_b30_s (rec30 : Int32 → Int32 → Int32 → Mem → Option (Int32 × Mem)) (x3 : Int32) (x4 : Int32) (x5 : Int32) (M : Mem) : Option (Int32 × Mem) :=
  gd (inb x3 10) <|
  if ((3 * x3) + (M.1 324 x3.toNatClampNeg)) ≤ x5 then
    if x4 = 0 then
      bnd (3 * x3) fun a1 =>
      f_X11_verdictOf_b105 fuel x3 a1 M
    else
      some (1, M)
  else
    gd (inb x5 30) <|
    gd (inb (((10 * (6 + (M.1 326 x5.toNatClampNeg))) + 6) + (M.1 325 x5.toNatClampNeg)) 100) <|
    if 0 ≤ (M.1 344 (((10 * (6 + (M.1 326 x5.toNatClampNeg))) + 6) + (M.1 325 x5.toNatClampNeg)).toNatClampNeg) then
      bnd (x4 &&& 0) fun a2 =>
      bnd (x5 + 1) fun a3 =>
      rec30 x3 a2 a3 M
    else
      bnd (x4 &&& 1) fun a4 =>
      bnd (x5 + 1) fun a5 =>
      rec30 x3 a4 a5 M
set_option maxRecDepth 100000 in
set_option maxHeartbeats 4000000 in
theorem b_X11_verdictOf_b30_s {K : Kt} {X : Xt} (hp : St K) (hB : Bx K X { frames := 3, cells := 0, slots := 0, locals := 73 } cX11_verdictOf 6 RX11 (some .int)) {r : Int32} {M1 : Mem} {rec30 : Int32 → Int32 → Int32 → Mem → Option (Int32 × Mem)}
    (h30 : ∀ x3 x4 x5 M, rec30 x3 x4 x5 M = some (r, M1) → Wt K X (QM K X (some (vi r)) M1 0 0) 0 0 M 30 [(0, vr 311), (3, vi x3), (4, vi x4), (5, vi x5)] []) {x3 : Int32} {x4 : Int32} {x5 : Int32} {M : Mem} (hF : f_X11_verdictOf_b30_s rec30 x3 x4 x5 M = some (r, M1)) : Wt K X (QM K X (some (vi r)) M1 0 0) 0 0 M 30 [(0, vr 311), (3, vi x3), (4, vi x4), (5, vi x5)] [] := by
  unfold f_X11_verdictOf_b30_s at hF
  refine w_iload hB 3 dX11_verdictOf_30 rfl ?_
  refine w_iconst hB 3 (by decide) dX11_verdictOf_32 ?_
  refine w_iload_n hB 1 dX11_verdictOf_33 rfl rfl ?_
  refine w_imul hB dX11_verdictOf_34 ?_
  refine w_aload_n hB 0 dX11_verdictOf_35 rfl rfl ?_
  refine w_getC hB (v := 324) ff_X11_22 sh_311 hp.1 cr_311_22 (by decide) q_1182 dX11_verdictOf_36 ?_
  refine w_iload_n hB 1 dX11_verdictOf_39 rfl rfl ?_
  obtain ⟨g1, hF⟩ := gdS hF
  refine w_iald hB sh_324 (Or.inl hp.1) sl_324 g1 dX11_verdictOf_40 ?_
  refine w_iadd hB dX11_verdictOf_41 ?_
  refine w_icmp_ge hB 93 dX11_verdictOf_42 (by decide) (fun hc => ?_) (fun hc => ?_)
  · replace hF := ifT hc hF
    refine w_iload hB 2 dX11_verdictOf_93 rfl ?_
    refine w_if_eq hB 100 dX11_verdictOf_95 (by decide) (fun hc => ?_) (fun hc => ?_)
    · replace hF := ifT hc hF
      refine w_iconst hB 3 (by decide) dX11_verdictOf_100 ?_
      refine w_iload_n hB 1 dX11_verdictOf_101 rfl rfl ?_
      refine w_imul hB dX11_verdictOf_102 ?_
      obtain ⟨a1, e_a1, hF⟩ := bndS hF
      refine w_istore hB (L' := [(5, vi a1), (0, vr 311), (3, vi x3), (4, vi x4)]) dX11_verdictOf_103 (by decide) e_a1 rfl ?_
      exact Wt.sub (L' := [(0, vr 311), (3, vi x3), (5, vi a1)]) [1, 2, 0] rfl (b_X11_verdictOf_b105 hp hB fuel _ _ M hF)
    · replace hF := ifF hc hF
      refine w_iconst hB 1 (by decide) dX11_verdictOf_98 ?_
      obtain ⟨e1, e2⟩ := retS hF
      subst e2
      exact w_iret hB dX11_verdictOf_99 e1
  · replace hF := ifF hc hF
    refine w_iload hB 2 dX11_verdictOf_45 rfl ?_
    refine w_aload_n hB 0 dX11_verdictOf_47 rfl rfl ?_
    refine w_getC hB (v := 344) ff_X11_43 sh_311 hp.1 cr_311_43 (by decide) q_1203 dX11_verdictOf_48 ?_
    refine w_bipush hB 10 (by decide) dX11_verdictOf_51 ?_
    refine w_bipush hB 6 (by decide) dX11_verdictOf_53 ?_
    refine w_aload_n hB 0 dX11_verdictOf_55 rfl rfl ?_
    refine w_getC hB (v := 326) ff_X11_24 sh_311 hp.1 cr_311_24 (by decide) q_1184 dX11_verdictOf_56 ?_
    refine w_iload hB 3 dX11_verdictOf_59 rfl ?_
    obtain ⟨g2, hF⟩ := gdS hF
    refine w_iald hB sh_326 (Or.inl hp.1) sl_326 g2 dX11_verdictOf_61 ?_
    refine w_iadd hB dX11_verdictOf_62 ?_
    refine w_imul hB dX11_verdictOf_63 ?_
    refine w_bipush hB 6 (by decide) dX11_verdictOf_64 ?_
    refine w_iadd hB dX11_verdictOf_66 ?_
    refine w_aload_n hB 0 dX11_verdictOf_67 rfl rfl ?_
    refine w_getC hB (v := 325) ff_X11_23 sh_311 hp.1 cr_311_23 (by decide) q_1183 dX11_verdictOf_68 ?_
    refine w_iload hB 3 dX11_verdictOf_71 rfl ?_
    refine w_iald hB sh_325 (Or.inl hp.1) sl_325 g2 dX11_verdictOf_73 ?_
    refine w_iadd hB dX11_verdictOf_74 ?_
    obtain ⟨g3, hF⟩ := gdS hF
    refine w_iald hB sh_344 (Or.inl hp.1) sl_344 g3 dX11_verdictOf_75 ?_
    refine w_if_ge hB 83 dX11_verdictOf_76 (by decide) (fun hc => ?_) (fun hc => ?_)
    · replace hF := ifT hc hF
      refine w_iconst hB 0 (by decide) dX11_verdictOf_83 ?_
      refine w_iand hB dX11_verdictOf_84 ?_
      obtain ⟨a2, e_a2, hF⟩ := bndS hF
      refine w_istore hB (L' := [(4, vi a2), (0, vr 311), (3, vi x3), (5, vi x5)]) dX11_verdictOf_85 (by decide) e_a2 rfl ?_
      obtain ⟨a3, e_a3, hF⟩ := bndS hF
      refine w_iinc hB 3 (v := 1) (L' := [(5, vi a3), (4, vi a2), (0, vr 311), (3, vi x3)]) dX11_verdictOf_87 rfl (by decide) (by decide) e_a3 rfl ?_
      refine w_goto hB 30 dX11_verdictOf_90 (by decide) ?_
      exact Wt.sub (L' := [(0, vr 311), (3, vi x3), (4, vi a2), (5, vi a3)]) [2, 3, 1, 0] rfl (h30 _ _ _ M hF)
    · replace hF := ifF hc hF
      refine w_iconst hB 1 (by decide) dX11_verdictOf_79 ?_
      refine w_goto hB 84 dX11_verdictOf_80 (by decide) ?_
      refine w_iand hB dX11_verdictOf_84 ?_
      obtain ⟨a4, e_a4, hF⟩ := bndS hF
      refine w_istore hB (L' := [(4, vi a4), (0, vr 311), (3, vi x3), (5, vi x5)]) dX11_verdictOf_85 (by decide) e_a4 rfl ?_
      obtain ⟨a5, e_a5, hF⟩ := bndS hF
      refine w_iinc hB 3 (v := 1) (L' := [(5, vi a5), (4, vi a4), (0, vr 311), (3, vi x3)]) dX11_verdictOf_87 rfl (by decide) (by decide) e_a5 rfl ?_
      refine w_goto hB 30 dX11_verdictOf_90 (by decide) ?_
      exact Wt.sub (L' := [(0, vr 311), (3, vi x3), (4, vi a4), (5, vi a5)]) [2, 3, 1, 0] rfl (h30 _ _ _ M hF)
def f_X11_verdictOf_b30 (k : Nat) : Int32 → Int32 → Int32 → Mem → Option (Int32 × Mem) := lpN (fun _ _ _ _ => none) (f_X11_verdictOf_b30_s) k
theorem b_X11_verdictOf_b30 {K : Kt} {X : Xt} (hp : St K) (hB : Bx K X { frames := 3, cells := 0, slots := 0, locals := 73 } cX11_verdictOf 6 RX11 (some .int)) {r : Int32} {M1 : Mem} (k : Nat) : ∀ (x3 : Int32) (x4 : Int32) (x5 : Int32) M, f_X11_verdictOf_b30 k x3 x4 x5 M = some (r, M1) → Wt K X (QM K X (some (vi r)) M1 0 0) 0 0 M 30 [(0, vr 311), (3, vi x3), (4, vi x4), (5, vi x5)] [] := by
  refine lpN_ind (P := fun (f : Int32 → Int32 → Int32 → Mem → Option (Int32 × Mem)) => ∀ (x3 : Int32) (x4 : Int32) (x5 : Int32) M, f x3 x4 x5 M = some (r, M1) → Wt K X (QM K X (some (vi r)) M1 0 0) 0 0 M 30 [(0, vr 311), (3, vi x3), (4, vi x4), (5, vi x5)] []) (fun _ _ _ _ h => by cases h) (fun f hf x3 x4 x5 M hF => ?_) k
  exact b_X11_verdictOf_b30_s hp hB hf hF
def f_X11_verdictOf (x1 : Int32) (x2 : Int32) (M : Mem) : Option (Int32 × Mem) :=
  clv (f_X11_laysFrames x1 x2 M) fun M1m =>
  cl (f_X11_closes M1m) fun r1 M2m =>
  if r1 = 0 then
    some (3, M2m)
  else
    gd (inb x1 16) <|
    bnd (M2m.1 331 x1.toNatClampNeg) fun a1 =>
    bnd (3 * a1) fun a2 =>
    f_X11_verdictOf_b30 fuel a1 1 a2 M2m
set_option maxRecDepth 100000 in
set_option maxHeartbeats 4000000 in
theorem b_X11_verdictOf {K : Kt} {X : Xt} (hp : St K) (hB : Bx K X { frames := 3, cells := 0, slots := 0, locals := 73 } cX11_verdictOf 6 RX11 (some .int)) {r : Int32} {M1 : Mem} {x1 : Int32} {x2 : Int32} {M : Mem} (hF : f_X11_verdictOf x1 x2 M = some (r, M1)) : Wt K X (QM K X (some (vi r)) M1 0 0) 0 0 M 0 [(0, vr 311), (1, vi x1), (2, vi x2)] [] := by
  unfold f_X11_verdictOf at hF
  refine w_aload_n hB 0 dX11_verdictOf_0 rfl rfl ?_
  refine w_iload_n hB 1 dX11_verdictOf_1 rfl rfl ?_
  refine w_iload_n hB 2 dX11_verdictOf_2 rfl rfl ?_
  obtain ⟨M1m, hc_M1m, hF⟩ := clvS hF
  refine w_callV hB (ci := 9) (As := [vi x1, vi x2]) (st := []) cw_X11_321 q_1568 q_57 rfl sh_311 (Or.inl hp.1) (c_X11_laysFrames hp hc_M1m) ⟨rfl, rfl⟩ (by decide) (by decide) rfl (Nat.le_of_ble_eq_true rfl) dX11_verdictOf_3 rfl ?_
  refine w_aload_n hB 0 dX11_verdictOf_6 rfl rfl ?_
  obtain ⟨r1, M2m, hc_M2m, hF⟩ := clS hF
  refine w_callV hB (ci := 9) (As := []) (st := []) cw_X11_325 q_1528 q_52 rfl sh_311 (Or.inl hp.1) (c_X11_closes hp hc_M2m) ⟨rfl, rfl⟩ (by decide) (by decide) rfl (Nat.le_of_ble_eq_true rfl) dX11_verdictOf_7 rfl ?_
  refine w_if_ne hB 15 dX11_verdictOf_10 (by decide) (fun hc => ?_) (fun hc => ?_)
  · replace hF := ifF hc hF
    refine w_aload_n hB 0 dX11_verdictOf_15 rfl rfl ?_
    refine w_getC hB (v := 331) ff_X11_29 sh_311 hp.1 cr_311_29 (by decide) q_1189 dX11_verdictOf_16 ?_
    refine w_iload_n hB 1 dX11_verdictOf_19 rfl rfl ?_
    obtain ⟨g1, hF⟩ := gdS hF
    refine w_iald hB sh_331 (Or.inl hp.1) sl_331 g1 dX11_verdictOf_20 ?_
    obtain ⟨a1, e_a1, hF⟩ := bndS hF
    refine w_istore_n hB (L' := [(3, vi a1), (0, vr 311), (1, vi x1), (2, vi x2)]) dX11_verdictOf_21 rfl (by decide) e_a1 rfl ?_
    refine w_iconst hB 1 (by decide) dX11_verdictOf_22 ?_
    refine w_istore hB (L' := [(4, vi 1), (3, vi a1), (0, vr 311), (1, vi x1), (2, vi x2)]) dX11_verdictOf_23 (by decide) rfl rfl ?_
    refine w_iconst hB 3 (by decide) dX11_verdictOf_25 ?_
    refine w_iload_n hB 1 dX11_verdictOf_26 rfl rfl ?_
    refine w_imul hB dX11_verdictOf_27 ?_
    obtain ⟨a2, e_a2, hF⟩ := bndS hF
    refine w_istore hB (L' := [(5, vi a2), (4, vi 1), (3, vi a1), (0, vr 311), (1, vi x1), (2, vi x2)]) dX11_verdictOf_28 (by decide) e_a2 rfl ?_
    exact Wt.sub (L' := [(0, vr 311), (3, vi a1), (4, vi 1), (5, vi a2)]) [3, 2, 1, 0] rfl (b_X11_verdictOf_b30 hp hB fuel _ _ _ M2m hF)
  · replace hF := ifT hc hF
    refine w_iconst hB 3 (by decide) dX11_verdictOf_13 ?_
    obtain ⟨e1, e2⟩ := retS hF
    subst e2
    exact w_iret hB dX11_verdictOf_14 e1
theorem c_X11_verdictOf {K : Kt} {l : Launch} (hp : St K) {r : Int32} {M1 : Mem} {x1 : Int32} {x2 : Int32} {M : Mem} (hF : f_X11_verdictOf x1 x2 M = some (r, M1)) : MT K l yX11_verdictOf cX11_verdictOf 6 (some .int) { frames := 3, cells := 0, slots := 0, locals := 73 } [vr 311, vi x1, vi x2] M (some (vi r)) M1 0 0 :=
  MT_of (by decide) rfl (Nat.le_of_ble_eq_true rfl) (fun X _ hB _ => b_X11_verdictOf hp hB hF)
def f_X11_framesOf_b5_s (rec5 : Int32 → Int32 → Int32 → Int32 → Mem → Option (Int32 × Mem)) (x1 : Int32) (x2 : Int32) (x3 : Int32) (x4 : Int32) (M : Mem) : Option (Int32 × Mem) :=
  gd (inb x1 16) <|
  if (M.1 335 x1.toNatClampNeg) ≤ x4 then
    some (x3, M)
  else
    gd (inb ((10 * x1) + x4) 160) <|
    cl (f_X11_has x2 (M.1 336 ((10 * x1) + x4).toNatClampNeg) M) fun r1 M1m =>
    if r1 = 0 then
      bnd (x3 ||| 0) fun a1 =>
      bnd (x4 + 1) fun a2 =>
      rec5 x1 x2 a1 a2 M1m
    else
      bnd (x3 ||| ((1 : Int32) <<< (x4 &&& 31))) fun a3 =>
      bnd (x4 + 1) fun a4 =>
      rec5 x1 x2 a3 a4 M1m
set_option maxRecDepth 100000 in
set_option maxHeartbeats 4000000 in
theorem b_X11_framesOf_b5_s {K : Kt} {X : Xt} (hp : St K) (hB : Bx K X { frames := 1, cells := 0, slots := 0, locals := 21 } cX11_framesOf 5 RX11 (some .int)) {r : Int32} {M1 : Mem} {rec5 : Int32 → Int32 → Int32 → Int32 → Mem → Option (Int32 × Mem)}
    (h5 : ∀ x1 x2 x3 x4 M, rec5 x1 x2 x3 x4 M = some (r, M1) → Wt K X (QM K X (some (vi r)) M1 0 0) 0 0 M 5 [(0, vr 311), (1, vi x1), (2, vi x2), (3, vi x3), (4, vi x4)] []) {x1 : Int32} {x2 : Int32} {x3 : Int32} {x4 : Int32} {M : Mem} (hF : f_X11_framesOf_b5_s rec5 x1 x2 x3 x4 M = some (r, M1)) : Wt K X (QM K X (some (vi r)) M1 0 0) 0 0 M 5 [(0, vr 311), (1, vi x1), (2, vi x2), (3, vi x3), (4, vi x4)] [] := by
  unfold f_X11_framesOf_b5_s at hF
  refine w_iload hB 4 dX11_framesOf_5 rfl ?_
  refine w_aload_n hB 0 dX11_framesOf_7 rfl rfl ?_
  refine w_getC hB (v := 335) ff_X11_33 sh_311 hp.1 cr_311_33 (by decide) q_1193 dX11_framesOf_8 ?_
  refine w_iload_n hB 1 dX11_framesOf_11 rfl rfl ?_
  obtain ⟨g1, hF⟩ := gdS hF
  refine w_iald hB sh_335 (Or.inl hp.1) sl_335 g1 dX11_framesOf_12 ?_
  refine w_icmp_ge hB 52 dX11_framesOf_13 (by decide) (fun hc => ?_) (fun hc => ?_)
  · replace hF := ifT hc hF
    refine w_iload_n hB 3 dX11_framesOf_52 rfl rfl ?_
    obtain ⟨e1, e2⟩ := retS hF
    subst e2
    exact w_iret hB dX11_framesOf_53 e1
  · replace hF := ifF hc hF
    refine w_iload_n hB 3 dX11_framesOf_16 rfl rfl ?_
    refine w_iload_n hB 2 dX11_framesOf_17 rfl rfl ?_
    refine w_aload_n hB 0 dX11_framesOf_18 rfl rfl ?_
    refine w_getC hB (v := 336) ff_X11_34 sh_311 hp.1 cr_311_34 (by decide) q_1194 dX11_framesOf_19 ?_
    refine w_bipush hB 10 (by decide) dX11_framesOf_22 ?_
    refine w_iload_n hB 1 dX11_framesOf_24 rfl rfl ?_
    refine w_imul hB dX11_framesOf_25 ?_
    refine w_iload hB 4 dX11_framesOf_26 rfl ?_
    refine w_iadd hB dX11_framesOf_28 ?_
    obtain ⟨g2, hF⟩ := gdS hF
    refine w_iald hB sh_336 (Or.inl hp.1) sl_336 g2 dX11_framesOf_29 ?_
    obtain ⟨r1, M1m, hc_M1m, hF⟩ := clS hF
    refine w_callS hB (As := [vi x2, vi (M.1 336 ((10 * x1) + x4).toNatClampNeg)]) (st := [vi x3]) cw_X11_266 q_1495 (c_X11_has hp hc_M1m) ⟨rfl, rfl⟩ (by decide) (by decide) rfl (Nat.le_of_ble_eq_true rfl) dX11_framesOf_30 rfl ?_
    refine w_if_eq hB 43 dX11_framesOf_33 (by decide) (fun hc => ?_) (fun hc => ?_)
    · replace hF := ifT hc hF
      refine w_iconst hB 0 (by decide) dX11_framesOf_43 ?_
      refine w_ior hB dX11_framesOf_44 ?_
      obtain ⟨a1, e_a1, hF⟩ := bndS hF
      refine w_istore_n hB (L' := [(3, vi a1), (0, vr 311), (1, vi x1), (2, vi x2), (4, vi x4)]) dX11_framesOf_45 rfl (by decide) e_a1 rfl ?_
      obtain ⟨a2, e_a2, hF⟩ := bndS hF
      refine w_iinc hB 4 (v := 1) (L' := [(4, vi a2), (3, vi a1), (0, vr 311), (1, vi x1), (2, vi x2)]) dX11_framesOf_46 rfl (by decide) (by decide) e_a2 rfl ?_
      refine w_goto hB 5 dX11_framesOf_49 (by decide) ?_
      exact Wt.sub (L' := [(0, vr 311), (1, vi x1), (2, vi x2), (3, vi a1), (4, vi a2)]) [2, 3, 4, 1, 0] rfl (h5 _ _ _ _ M1m hF)
    · replace hF := ifF hc hF
      refine w_iconst hB 1 (by decide) dX11_framesOf_36 ?_
      refine w_iload hB 4 dX11_framesOf_37 rfl ?_
      refine w_ishl hB dX11_framesOf_39 ?_
      refine w_goto hB 44 dX11_framesOf_40 (by decide) ?_
      refine w_ior hB dX11_framesOf_44 ?_
      obtain ⟨a3, e_a3, hF⟩ := bndS hF
      refine w_istore_n hB (L' := [(3, vi a3), (0, vr 311), (1, vi x1), (2, vi x2), (4, vi x4)]) dX11_framesOf_45 rfl (by decide) e_a3 rfl ?_
      obtain ⟨a4, e_a4, hF⟩ := bndS hF
      refine w_iinc hB 4 (v := 1) (L' := [(4, vi a4), (3, vi a3), (0, vr 311), (1, vi x1), (2, vi x2)]) dX11_framesOf_46 rfl (by decide) (by decide) e_a4 rfl ?_
      refine w_goto hB 5 dX11_framesOf_49 (by decide) ?_
      exact Wt.sub (L' := [(0, vr 311), (1, vi x1), (2, vi x2), (3, vi a3), (4, vi a4)]) [2, 3, 4, 1, 0] rfl (h5 _ _ _ _ M1m hF)
def f_X11_framesOf_b5 (k : Nat) : Int32 → Int32 → Int32 → Int32 → Mem → Option (Int32 × Mem) := lpN (fun _ _ _ _ _ => none) (f_X11_framesOf_b5_s) k
theorem b_X11_framesOf_b5 {K : Kt} {X : Xt} (hp : St K) (hB : Bx K X { frames := 1, cells := 0, slots := 0, locals := 21 } cX11_framesOf 5 RX11 (some .int)) {r : Int32} {M1 : Mem} (k : Nat) : ∀ (x1 : Int32) (x2 : Int32) (x3 : Int32) (x4 : Int32) M, f_X11_framesOf_b5 k x1 x2 x3 x4 M = some (r, M1) → Wt K X (QM K X (some (vi r)) M1 0 0) 0 0 M 5 [(0, vr 311), (1, vi x1), (2, vi x2), (3, vi x3), (4, vi x4)] [] := by
  refine lpN_ind (P := fun (f : Int32 → Int32 → Int32 → Int32 → Mem → Option (Int32 × Mem)) => ∀ (x1 : Int32) (x2 : Int32) (x3 : Int32) (x4 : Int32) M, f x1 x2 x3 x4 M = some (r, M1) → Wt K X (QM K X (some (vi r)) M1 0 0) 0 0 M 5 [(0, vr 311), (1, vi x1), (2, vi x2), (3, vi x3), (4, vi x4)] []) (fun _ _ _ _ _ h => by cases h) (fun f hf x1 x2 x3 x4 M hF => ?_) k
  exact b_X11_framesOf_b5_s hp hB hf hF
def f_X11_framesOf (x1 : Int32) (x2 : Int32) (M : Mem) : Option (Int32 × Mem) :=
  f_X11_framesOf_b5 fuel x1 x2 0 0 M
set_option maxRecDepth 100000 in
set_option maxHeartbeats 4000000 in
theorem b_X11_framesOf {K : Kt} {X : Xt} (hp : St K) (hB : Bx K X { frames := 1, cells := 0, slots := 0, locals := 21 } cX11_framesOf 5 RX11 (some .int)) {r : Int32} {M1 : Mem} {x1 : Int32} {x2 : Int32} {M : Mem} (hF : f_X11_framesOf x1 x2 M = some (r, M1)) : Wt K X (QM K X (some (vi r)) M1 0 0) 0 0 M 0 [(0, vr 311), (1, vi x1), (2, vi x2)] [] := by
  unfold f_X11_framesOf at hF
  refine w_iconst hB 0 (by decide) dX11_framesOf_0 ?_
  refine w_istore_n hB (L' := [(3, vi 0), (0, vr 311), (1, vi x1), (2, vi x2)]) dX11_framesOf_1 rfl (by decide) rfl rfl ?_
  refine w_iconst hB 0 (by decide) dX11_framesOf_2 ?_
  refine w_istore hB (L' := [(4, vi 0), (3, vi 0), (0, vr 311), (1, vi x1), (2, vi x2)]) dX11_framesOf_3 (by decide) rfl rfl ?_
  exact Wt.sub (L' := [(0, vr 311), (1, vi x1), (2, vi x2), (3, vi 0), (4, vi 0)]) [2, 3, 4, 1, 0] rfl (b_X11_framesOf_b5 hp hB fuel _ _ _ _ M hF)
theorem c_X11_framesOf {K : Kt} {l : Launch} (hp : St K) {r : Int32} {M1 : Mem} {x1 : Int32} {x2 : Int32} {M : Mem} (hF : f_X11_framesOf x1 x2 M = some (r, M1)) : MT K l yX11_framesOf cX11_framesOf 5 (some .int) { frames := 1, cells := 0, slots := 0, locals := 21 } [vr 311, vi x1, vi x2] M (some (vi r)) M1 0 0 :=
  MT_of (by decide) rfl (Nat.le_of_ble_eq_true rfl) (fun X _ hB _ => b_X11_framesOf hp hB hF)
def f_X11_byAll (x1 : Int32) (M : Mem) : Option (Int32 × Mem) :=
  cl (f_X11_allFrames x1 M) fun r1 M1m =>
  cl (f_X11_verdictOf x1 r1 M1m) fun r2 M2m =>
  some (r2, M2m)
set_option maxRecDepth 100000 in
set_option maxHeartbeats 4000000 in
theorem b_X11_byAll {K : Kt} {X : Xt} (hp : St K) (hB : Bx K X { frames := 4, cells := 0, slots := 0, locals := 98 } cX11_byAll 2 RX11 (some .int)) {r : Int32} {M1 : Mem} {x1 : Int32} {M : Mem} (hF : f_X11_byAll x1 M = some (r, M1)) : Wt K X (QM K X (some (vi r)) M1 0 0) 0 0 M 0 [(0, vr 311), (1, vi x1)] [] := by
  unfold f_X11_byAll at hF
  refine w_aload_n hB 0 dX11_byAll_0 rfl rfl ?_
  refine w_iload_n hB 1 dX11_byAll_1 rfl rfl ?_
  refine w_aload_n hB 0 dX11_byAll_2 rfl rfl ?_
  refine w_iload_n hB 1 dX11_byAll_3 rfl rfl ?_
  obtain ⟨r1, M1m, hc_M1m, hF⟩ := clS hF
  refine w_callV hB (ci := 9) (As := [vi x1]) (st := [vi x1, vr 311]) cw_X11_328 q_1585 q_59 rfl sh_311 (Or.inl hp.1) (c_X11_allFrames hp hc_M1m) ⟨rfl, rfl⟩ (by decide) (by decide) rfl (Nat.le_of_ble_eq_true rfl) dX11_byAll_4 rfl ?_
  obtain ⟨r2, M2m, hc_M2m, hF⟩ := clS hF
  refine w_callV hB (ci := 9) (As := [vi x1, vi r1]) (st := []) cw_X11_331 q_1564 q_56 rfl sh_311 (Or.inl hp.1) (c_X11_verdictOf hp hc_M2m) ⟨rfl, rfl⟩ (by decide) (by decide) rfl (Nat.le_of_ble_eq_true rfl) dX11_byAll_7 rfl ?_
  obtain ⟨e1, e2⟩ := retS hF
  subst e2
  exact w_iret hB dX11_byAll_10 e1
theorem c_X11_byAll {K : Kt} {l : Launch} (hp : St K) {r : Int32} {M1 : Mem} {x1 : Int32} {M : Mem} (hF : f_X11_byAll x1 M = some (r, M1)) : MT K l yX11_byAll cX11_byAll 2 (some .int) { frames := 4, cells := 0, slots := 0, locals := 98 } [vr 311, vi x1] M (some (vi r)) M1 0 0 :=
  MT_of (by decide) rfl (Nat.le_of_ble_eq_true rfl) (fun X _ hB _ => b_X11_byAll hp hB hF)
def f_X11_camera (x1 : Int32) (x2 : Int32) (M : Mem) : Option (Int32 × Mem) :=
  bnd (setI M 311 0 0) fun M1m =>
  cl (f_X11_within (x1.toInt64) 0 (((M1m.1 313 0) - 1).toInt64) M1m) fun r1 M2m =>
  if r1 = 0 then
    some ((-1), M2m)
  else
    cl (f_X11_within (x2.toInt64) 0 3 M2m) fun r2 M3m =>
    if r2 = 0 then
      some ((-1), M3m)
    else
      if 2 ≤ x2 then
        clv (f_X11_laysClocks M3m) fun M4m =>
        cl (f_X11_closes M4m) fun r3 M5m =>
        if r3 = 0 then
          some ((-2), M5m)
        else
          if x2 = 2 then
            gd (inb (1 + x1) 100) <|
            some (-(M5m.1 344 (1 + x1).toNatClampNeg), M5m)
          else
            gd (inb (10 * (1 + x1)) 100) <|
            some (M5m.1 344 (10 * (1 + x1)).toNatClampNeg, M5m)
      else
        if x2 = 0 then
          gd (inb x1 10) <|
          some (M3m.1 317 x1.toNatClampNeg, M3m)
        else
          gd (inb x1 10) <|
          some (M3m.1 318 x1.toNatClampNeg, M3m)
set_option maxRecDepth 100000 in
set_option maxHeartbeats 4000000 in
theorem b_X11_camera {K : Kt} {X : Xt} (hp : St K) (hB : Bx K X { frames := 2, cells := 0, slots := 0, locals := 47 } cX11_camera 3 RX11 (some .int)) {r : Int32} {M1 : Mem} {x1 : Int32} {x2 : Int32} {M : Mem} (hF : f_X11_camera x1 x2 M = some (r, M1)) : Wt K X (QM K X (some (vi r)) M1 0 0) 0 0 M 0 [(0, vr 311), (1, vi x1), (2, vi x2)] [] := by
  unfold f_X11_camera at hF
  refine w_aload_n hB 0 dX11_camera_0 rfl rfl ?_
  refine w_iconst hB 0 (by decide) dX11_camera_1 ?_
  obtain ⟨M1m, e_M1m, hF⟩ := bndS hF
  refine w_putI hB ff_X11_0 sh_311 (Or.inl hp.1) q_1160 e_M1m dX11_camera_2 ?_
  refine w_iload_n hB 1 dX11_camera_5 rfl rfl ?_
  refine w_i2l hB dX11_camera_6 ?_
  refine w_lconst hB 0 (by decide) dX11_camera_7 ?_
  refine w_aload_n hB 0 dX11_camera_8 rfl rfl ?_
  refine w_getC hB (v := 313) ff_X11_11 sh_311 hp.1 cr_311_11 (by decide) q_1171 dX11_camera_9 ?_
  refine w_iconst hB 0 (by decide) dX11_camera_12 ?_
  refine w_iald hB sh_313 (Or.inl hp.1) sl_313 (by decide) dX11_camera_13 ?_
  rw [show (0 : Int32).toNatClampNeg = 0 by decide]
  refine w_iconst hB 1 (by decide) dX11_camera_14 ?_
  refine w_isub hB dX11_camera_15 ?_
  refine w_i2l hB dX11_camera_16 ?_
  obtain ⟨r1, M2m, hc_M2m, hF⟩ := clS hF
  refine w_callS hB (As := [vl (x1.toInt64), vl 0, vl (((M1m.1 313 0) - 1).toInt64)]) (st := []) cw_X11_156 q_1320 (c_X11_within hp hc_M2m) ⟨rfl, rfl⟩ (by decide) (by decide) rfl (Nat.le_of_ble_eq_true rfl) dX11_camera_17 rfl ?_
  refine w_if_eq hB 35 dX11_camera_20 (by decide) (fun hc => ?_) (fun hc => ?_)
  · replace hF := ifT hc hF
    refine w_iconst hB (-1) (by decide) dX11_camera_35 ?_
    obtain ⟨e1, e2⟩ := retS hF
    subst e2
    exact w_iret hB dX11_camera_36 e1
  · replace hF := ifF hc hF
    refine w_iload_n hB 2 dX11_camera_23 rfl rfl ?_
    refine w_i2l hB dX11_camera_24 ?_
    refine w_lconst hB 0 (by decide) dX11_camera_25 ?_
    refine w_ldc2 hB (v := 3) q_1516 dX11_camera_26 ?_
    obtain ⟨r2, M3m, hc_M3m, hF⟩ := clS hF
    refine w_callS hB (As := [vl (x2.toInt64), vl 0, vl 3]) (st := []) cw_X11_156 q_1320 (c_X11_within hp hc_M3m) ⟨rfl, rfl⟩ (by decide) (by decide) rfl (Nat.le_of_ble_eq_true rfl) dX11_camera_29 rfl ?_
    refine w_if_ne hB 37 dX11_camera_32 (by decide) (fun hc => ?_) (fun hc => ?_)
    · replace hF := ifF hc hF
      refine w_iload_n hB 2 dX11_camera_37 rfl rfl ?_
      refine w_iconst hB 2 (by decide) dX11_camera_38 ?_
      refine w_icmp_ge hB 62 dX11_camera_39 (by decide) (fun hc => ?_) (fun hc => ?_)
      · replace hF := ifT hc hF
        refine w_aload_n hB 0 dX11_camera_62 rfl rfl ?_
        obtain ⟨M4m, hc_M4m, hF⟩ := clvS hF
        refine w_callV hB (ci := 9) (As := []) (st := []) cw_X11_318 q_1519 q_50 rfl sh_311 (Or.inl hp.1) (c_X11_laysClocks hp hc_M4m) ⟨rfl, rfl⟩ (by decide) (by decide) rfl (Nat.le_of_ble_eq_true rfl) dX11_camera_63 rfl ?_
        refine w_aload_n hB 0 dX11_camera_66 rfl rfl ?_
        obtain ⟨r3, M5m, hc_M5m, hF⟩ := clS hF
        refine w_callV hB (ci := 9) (As := []) (st := []) cw_X11_325 q_1528 q_52 rfl sh_311 (Or.inl hp.1) (c_X11_closes hp hc_M5m) ⟨rfl, rfl⟩ (by decide) (by decide) rfl (Nat.le_of_ble_eq_true rfl) dX11_camera_67 rfl ?_
        refine w_if_ne hB 76 dX11_camera_70 (by decide) (fun hc => ?_) (fun hc => ?_)
        · replace hF := ifF hc hF
          refine w_iload_n hB 2 dX11_camera_76 rfl rfl ?_
          refine w_iconst hB 2 (by decide) dX11_camera_77 ?_
          refine w_icmp_ne hB 93 dX11_camera_78 (by decide) (fun hc => ?_) (fun hc => ?_)
          · replace hF := ifF hc hF
            refine w_aload_n hB 0 dX11_camera_93 rfl rfl ?_
            refine w_getC hB (v := 344) ff_X11_43 sh_311 hp.1 cr_311_43 (by decide) q_1203 dX11_camera_94 ?_
            refine w_bipush hB 10 (by decide) dX11_camera_97 ?_
            refine w_iconst hB 1 (by decide) dX11_camera_99 ?_
            refine w_iload_n hB 1 dX11_camera_100 rfl rfl ?_
            refine w_iadd hB dX11_camera_101 ?_
            refine w_imul hB dX11_camera_102 ?_
            obtain ⟨g2, hF⟩ := gdS hF
            refine w_iald hB sh_344 (Or.inl hp.1) sl_344 g2 dX11_camera_103 ?_
            obtain ⟨e1, e2⟩ := retS hF
            subst e2
            exact w_iret hB dX11_camera_104 e1
          · replace hF := ifT hc hF
            refine w_aload_n hB 0 dX11_camera_81 rfl rfl ?_
            refine w_getC hB (v := 344) ff_X11_43 sh_311 hp.1 cr_311_43 (by decide) q_1203 dX11_camera_82 ?_
            refine w_iconst hB 1 (by decide) dX11_camera_85 ?_
            refine w_iload_n hB 1 dX11_camera_86 rfl rfl ?_
            refine w_iadd hB dX11_camera_87 ?_
            obtain ⟨g1, hF⟩ := gdS hF
            refine w_iald hB sh_344 (Or.inl hp.1) sl_344 g1 dX11_camera_88 ?_
            refine w_ineg hB dX11_camera_89 ?_
            refine w_goto hB 104 dX11_camera_90 (by decide) ?_
            obtain ⟨e1, e2⟩ := retS hF
            subst e2
            exact w_iret hB dX11_camera_104 e1
        · replace hF := ifT hc hF
          refine w_bipush hB (-2) (by decide) dX11_camera_73 ?_
          obtain ⟨e1, e2⟩ := retS hF
          subst e2
          exact w_iret hB dX11_camera_75 e1
      · replace hF := ifF hc hF
        refine w_iload_n hB 2 dX11_camera_42 rfl rfl ?_
        refine w_if_ne hB 55 dX11_camera_43 (by decide) (fun hc => ?_) (fun hc => ?_)
        · replace hF := ifF hc hF
          refine w_aload_n hB 0 dX11_camera_55 rfl rfl ?_
          refine w_getC hB (v := 318) ff_X11_16 sh_311 hp.1 cr_311_16 (by decide) q_1176 dX11_camera_56 ?_
          refine w_iload_n hB 1 dX11_camera_59 rfl rfl ?_
          obtain ⟨g4, hF⟩ := gdS hF
          refine w_iald hB sh_318 (Or.inl hp.1) sl_318 g4 dX11_camera_60 ?_
          obtain ⟨e1, e2⟩ := retS hF
          subst e2
          exact w_iret hB dX11_camera_61 e1
        · replace hF := ifT hc hF
          refine w_aload_n hB 0 dX11_camera_46 rfl rfl ?_
          refine w_getC hB (v := 317) ff_X11_15 sh_311 hp.1 cr_311_15 (by decide) q_1175 dX11_camera_47 ?_
          refine w_iload_n hB 1 dX11_camera_50 rfl rfl ?_
          obtain ⟨g3, hF⟩ := gdS hF
          refine w_iald hB sh_317 (Or.inl hp.1) sl_317 g3 dX11_camera_51 ?_
          refine w_goto hB 61 dX11_camera_52 (by decide) ?_
          obtain ⟨e1, e2⟩ := retS hF
          subst e2
          exact w_iret hB dX11_camera_61 e1
    · replace hF := ifT hc hF
      refine w_iconst hB (-1) (by decide) dX11_camera_35 ?_
      obtain ⟨e1, e2⟩ := retS hF
      subst e2
      exact w_iret hB dX11_camera_36 e1
theorem c_X11_camera {K : Kt} {l : Launch} (hp : St K) {r : Int32} {M1 : Mem} {x1 : Int32} {x2 : Int32} {M : Mem} (hF : f_X11_camera x1 x2 M = some (r, M1)) : MT K l yX11_camera cX11_camera 3 (some .int) { frames := 2, cells := 0, slots := 0, locals := 47 } [vr 311, vi x1, vi x2] M (some (vi r)) M1 0 0 :=
  MT_of (by decide) rfl (Nat.le_of_ble_eq_true rfl) (fun X _ hB _ => b_X11_camera hp hB hF)
def f_X11_kind (x1 : Int32) (x2 : Int32) (M : Mem) : Option (Int32 × Mem) :=
  bnd (setI M 311 0 0) fun M1m =>
  cl (f_X11_within (x1.toInt64) 0 (((M1m.1 313 2) - 1).toInt64) M1m) fun r1 M2m =>
  if r1 = 0 then
    some ((-1), M2m)
  else
    cl (f_X11_within (x2.toInt64) 0 3 M2m) fun r2 M3m =>
    if r2 = 0 then
      some ((-1), M3m)
    else
      if x2 = 0 then
        gd (inb x1 10) <|
        some (M3m.1 321 x1.toNatClampNeg, M3m)
      else
        if x2 = 1 then
          gd (inb x1 10) <|
          if (M3m.1 322 x1.toNatClampNeg) = 0 then
            some (0, M3m)
          else
            some (1, M3m)
        else
          if x2 = 2 then
            gd (inb x1 10) <|
            if (M3m.1 323 x1.toNatClampNeg) = 0 then
              some (0, M3m)
            else
              some (1, M3m)
          else
            gd (inb x1 10) <|
            some (M3m.1 324 x1.toNatClampNeg, M3m)
set_option maxRecDepth 100000 in
set_option maxHeartbeats 4000000 in
theorem b_X11_kind {K : Kt} {X : Xt} (hp : St K) (hB : Bx K X { frames := 1, cells := 0, slots := 0, locals := 25 } cX11_kind 3 RX11 (some .int)) {r : Int32} {M1 : Mem} {x1 : Int32} {x2 : Int32} {M : Mem} (hF : f_X11_kind x1 x2 M = some (r, M1)) : Wt K X (QM K X (some (vi r)) M1 0 0) 0 0 M 0 [(0, vr 311), (1, vi x1), (2, vi x2)] [] := by
  unfold f_X11_kind at hF
  refine w_aload_n hB 0 dX11_kind_0 rfl rfl ?_
  refine w_iconst hB 0 (by decide) dX11_kind_1 ?_
  obtain ⟨M1m, e_M1m, hF⟩ := bndS hF
  refine w_putI hB ff_X11_0 sh_311 (Or.inl hp.1) q_1160 e_M1m dX11_kind_2 ?_
  refine w_iload_n hB 1 dX11_kind_5 rfl rfl ?_
  refine w_i2l hB dX11_kind_6 ?_
  refine w_lconst hB 0 (by decide) dX11_kind_7 ?_
  refine w_aload_n hB 0 dX11_kind_8 rfl rfl ?_
  refine w_getC hB (v := 313) ff_X11_11 sh_311 hp.1 cr_311_11 (by decide) q_1171 dX11_kind_9 ?_
  refine w_iconst hB 2 (by decide) dX11_kind_12 ?_
  refine w_iald hB sh_313 (Or.inl hp.1) sl_313 (by decide) dX11_kind_13 ?_
  rw [show (2 : Int32).toNatClampNeg = 2 by decide]
  refine w_iconst hB 1 (by decide) dX11_kind_14 ?_
  refine w_isub hB dX11_kind_15 ?_
  refine w_i2l hB dX11_kind_16 ?_
  obtain ⟨r1, M2m, hc_M2m, hF⟩ := clS hF
  refine w_callS hB (As := [vl (x1.toInt64), vl 0, vl (((M1m.1 313 2) - 1).toInt64)]) (st := []) cw_X11_156 q_1320 (c_X11_within hp hc_M2m) ⟨rfl, rfl⟩ (by decide) (by decide) rfl (Nat.le_of_ble_eq_true rfl) dX11_kind_17 rfl ?_
  refine w_if_eq hB 35 dX11_kind_20 (by decide) (fun hc => ?_) (fun hc => ?_)
  · replace hF := ifT hc hF
    refine w_iconst hB (-1) (by decide) dX11_kind_35 ?_
    obtain ⟨e1, e2⟩ := retS hF
    subst e2
    exact w_iret hB dX11_kind_36 e1
  · replace hF := ifF hc hF
    refine w_iload_n hB 2 dX11_kind_23 rfl rfl ?_
    refine w_i2l hB dX11_kind_24 ?_
    refine w_lconst hB 0 (by decide) dX11_kind_25 ?_
    refine w_ldc2 hB (v := 3) q_1516 dX11_kind_26 ?_
    obtain ⟨r2, M3m, hc_M3m, hF⟩ := clS hF
    refine w_callS hB (As := [vl (x2.toInt64), vl 0, vl 3]) (st := []) cw_X11_156 q_1320 (c_X11_within hp hc_M3m) ⟨rfl, rfl⟩ (by decide) (by decide) rfl (Nat.le_of_ble_eq_true rfl) dX11_kind_29 rfl ?_
    refine w_if_ne hB 37 dX11_kind_32 (by decide) (fun hc => ?_) (fun hc => ?_)
    · replace hF := ifF hc hF
      refine w_iload_n hB 2 dX11_kind_37 rfl rfl ?_
      refine w_if_ne hB 50 dX11_kind_38 (by decide) (fun hc => ?_) (fun hc => ?_)
      · replace hF := ifF hc hF
        refine w_iload_n hB 2 dX11_kind_50 rfl rfl ?_
        refine w_iconst hB 1 (by decide) dX11_kind_51 ?_
        refine w_icmp_ne hB 72 dX11_kind_52 (by decide) (fun hc => ?_) (fun hc => ?_)
        · replace hF := ifF hc hF
          refine w_iload_n hB 2 dX11_kind_72 rfl rfl ?_
          refine w_iconst hB 2 (by decide) dX11_kind_73 ?_
          refine w_icmp_ne hB 94 dX11_kind_74 (by decide) (fun hc => ?_) (fun hc => ?_)
          · replace hF := ifF hc hF
            refine w_aload_n hB 0 dX11_kind_94 rfl rfl ?_
            refine w_getC hB (v := 324) ff_X11_22 sh_311 hp.1 cr_311_22 (by decide) q_1182 dX11_kind_95 ?_
            refine w_iload_n hB 1 dX11_kind_98 rfl rfl ?_
            obtain ⟨g4, hF⟩ := gdS hF
            refine w_iald hB sh_324 (Or.inl hp.1) sl_324 g4 dX11_kind_99 ?_
            obtain ⟨e1, e2⟩ := retS hF
            subst e2
            exact w_iret hB dX11_kind_100 e1
          · replace hF := ifT hc hF
            refine w_aload_n hB 0 dX11_kind_77 rfl rfl ?_
            refine w_getC hB (v := 323) ff_X11_21 sh_311 hp.1 cr_311_21 (by decide) q_1181 dX11_kind_78 ?_
            refine w_iload_n hB 1 dX11_kind_81 rfl rfl ?_
            obtain ⟨g3, hF⟩ := gdS hF
            refine w_zald hB sh_323 (Or.inl hp.1) sl_323 g3 dX11_kind_82 ?_
            refine w_if_eq hB 90 dX11_kind_83 (by decide) (fun hc => ?_) (fun hc => ?_)
            · replace hF := ifT hc hF
              refine w_iconst hB 0 (by decide) dX11_kind_90 ?_
              refine w_goto hB 100 dX11_kind_91 (by decide) ?_
              obtain ⟨e1, e2⟩ := retS hF
              subst e2
              exact w_iret hB dX11_kind_100 e1
            · replace hF := ifF hc hF
              refine w_iconst hB 1 (by decide) dX11_kind_86 ?_
              refine w_goto hB 100 dX11_kind_87 (by decide) ?_
              obtain ⟨e1, e2⟩ := retS hF
              subst e2
              exact w_iret hB dX11_kind_100 e1
        · replace hF := ifT hc hF
          refine w_aload_n hB 0 dX11_kind_55 rfl rfl ?_
          refine w_getC hB (v := 322) ff_X11_20 sh_311 hp.1 cr_311_20 (by decide) q_1180 dX11_kind_56 ?_
          refine w_iload_n hB 1 dX11_kind_59 rfl rfl ?_
          obtain ⟨g2, hF⟩ := gdS hF
          refine w_zald hB sh_322 (Or.inl hp.1) sl_322 g2 dX11_kind_60 ?_
          refine w_if_eq hB 68 dX11_kind_61 (by decide) (fun hc => ?_) (fun hc => ?_)
          · replace hF := ifT hc hF
            refine w_iconst hB 0 (by decide) dX11_kind_68 ?_
            refine w_goto hB 100 dX11_kind_69 (by decide) ?_
            obtain ⟨e1, e2⟩ := retS hF
            subst e2
            exact w_iret hB dX11_kind_100 e1
          · replace hF := ifF hc hF
            refine w_iconst hB 1 (by decide) dX11_kind_64 ?_
            refine w_goto hB 100 dX11_kind_65 (by decide) ?_
            obtain ⟨e1, e2⟩ := retS hF
            subst e2
            exact w_iret hB dX11_kind_100 e1
      · replace hF := ifT hc hF
        refine w_aload_n hB 0 dX11_kind_41 rfl rfl ?_
        refine w_getC hB (v := 321) ff_X11_19 sh_311 hp.1 cr_311_19 (by decide) q_1179 dX11_kind_42 ?_
        refine w_iload_n hB 1 dX11_kind_45 rfl rfl ?_
        obtain ⟨g1, hF⟩ := gdS hF
        refine w_iald hB sh_321 (Or.inl hp.1) sl_321 g1 dX11_kind_46 ?_
        refine w_goto hB 100 dX11_kind_47 (by decide) ?_
        obtain ⟨e1, e2⟩ := retS hF
        subst e2
        exact w_iret hB dX11_kind_100 e1
    · replace hF := ifT hc hF
      refine w_iconst hB (-1) (by decide) dX11_kind_35 ?_
      obtain ⟨e1, e2⟩ := retS hF
      subst e2
      exact w_iret hB dX11_kind_36 e1
theorem c_X11_kind {K : Kt} {l : Launch} (hp : St K) {r : Int32} {M1 : Mem} {x1 : Int32} {x2 : Int32} {M : Mem} (hF : f_X11_kind x1 x2 M = some (r, M1)) : MT K l yX11_kind cX11_kind 3 (some .int) { frames := 1, cells := 0, slots := 0, locals := 25 } [vr 311, vi x1, vi x2] M (some (vi r)) M1 0 0 :=
  MT_of (by decide) rfl (Nat.le_of_ble_eq_true rfl) (fun X _ hB _ => b_X11_kind hp hB hF)
def f_X11_pointsNow_b46 (rec4 : Int32 → Int32 → Int32 → Mem → Option (Int32 × Mem)) (x1 : Int32) (x3 : Int32) (xs0 : Int32) (M : Mem) : Option (Int32 × Mem) :=
  bnd (xs0 + 0) fun a1 =>
  bnd (x3 + 1) fun a2 =>
  rec4 x1 a1 a2 M
set_option maxRecDepth 100000 in
set_option maxHeartbeats 4000000 in
theorem b_X11_pointsNow_b46 {K : Kt} {X : Xt} (hp : St K) (hB : Bx K X { frames := 0, cells := 0, slots := 0, locals := 0 } cX11_pointsNow 4 RX11 (some .int)) {r : Int32} {M1 : Mem} {rec4 : Int32 → Int32 → Int32 → Mem → Option (Int32 × Mem)}
    (h4 : ∀ x1 x2 x3 M, rec4 x1 x2 x3 M = some (r, M1) → Wt K X (QM K X (some (vi r)) M1 0 0) 0 0 M 4 [(0, vr 311), (1, vi x1), (2, vi x2), (3, vi x3)] []) {x1 : Int32} {x3 : Int32} {xs0 : Int32} {M : Mem} (hF : f_X11_pointsNow_b46 rec4 x1 x3 xs0 M = some (r, M1)) : Wt K X (QM K X (some (vi r)) M1 0 0) 0 0 M 46 [(0, vr 311), (1, vi x1), (3, vi x3)] [vi xs0] := by
  unfold f_X11_pointsNow_b46 at hF
  refine w_iconst hB 0 (by decide) dX11_pointsNow_46 ?_
  refine w_iadd hB dX11_pointsNow_47 ?_
  obtain ⟨a1, e_a1, hF⟩ := bndS hF
  refine w_istore_n hB (L' := [(2, vi a1), (0, vr 311), (1, vi x1), (3, vi x3)]) dX11_pointsNow_48 rfl (by decide) e_a1 rfl ?_
  obtain ⟨a2, e_a2, hF⟩ := bndS hF
  refine w_iinc hB 3 (v := 1) (L' := [(3, vi a2), (2, vi a1), (0, vr 311), (1, vi x1)]) dX11_pointsNow_49 rfl (by decide) (by decide) e_a2 rfl ?_
  refine w_goto hB 4 dX11_pointsNow_52 (by decide) ?_
  exact Wt.sub (L' := [(0, vr 311), (1, vi x1), (2, vi a1), (3, vi a2)]) [2, 3, 1, 0] rfl (h4 _ _ _ M hF)
def f_X11_pointsNow_b4_s (rec4 : Int32 → Int32 → Int32 → Mem → Option (Int32 × Mem)) (x1 : Int32) (x2 : Int32) (x3 : Int32) (M : Mem) : Option (Int32 × Mem) :=
  if (M.1 340 0) ≤ x3 then
    some (x2, M)
  else
    gd (inb x3 16) <|
    if (M.1 332 x3.toNatClampNeg) = x1 then
      gd (inb (1 + x3) 114) <|
      if (M.1 340 (1 + x3).toNatClampNeg) = 1 then
        bnd (x2 + (M.1 333 x3.toNatClampNeg)) fun a1 =>
        bnd (x3 + 1) fun a2 =>
        rec4 x1 a1 a2 M
      else
        f_X11_pointsNow_b46 rec4 x1 x3 x2 M
    else
      f_X11_pointsNow_b46 rec4 x1 x3 x2 M
set_option maxRecDepth 100000 in
set_option maxHeartbeats 4000000 in
theorem b_X11_pointsNow_b4_s {K : Kt} {X : Xt} (hp : St K) (hB : Bx K X { frames := 0, cells := 0, slots := 0, locals := 0 } cX11_pointsNow 4 RX11 (some .int)) {r : Int32} {M1 : Mem} {rec4 : Int32 → Int32 → Int32 → Mem → Option (Int32 × Mem)}
    (h4 : ∀ x1 x2 x3 M, rec4 x1 x2 x3 M = some (r, M1) → Wt K X (QM K X (some (vi r)) M1 0 0) 0 0 M 4 [(0, vr 311), (1, vi x1), (2, vi x2), (3, vi x3)] []) {x1 : Int32} {x2 : Int32} {x3 : Int32} {M : Mem} (hF : f_X11_pointsNow_b4_s rec4 x1 x2 x3 M = some (r, M1)) : Wt K X (QM K X (some (vi r)) M1 0 0) 0 0 M 4 [(0, vr 311), (1, vi x1), (2, vi x2), (3, vi x3)] [] := by
  unfold f_X11_pointsNow_b4_s at hF
  refine w_iload_n hB 3 dX11_pointsNow_4 rfl rfl ?_
  refine w_aload_n hB 0 dX11_pointsNow_5 rfl rfl ?_
  refine w_getC hB (v := 340) ff_X11_38 sh_311 hp.1 cr_311_38 (by decide) q_1198 dX11_pointsNow_6 ?_
  refine w_iconst hB 0 (by decide) dX11_pointsNow_9 ?_
  refine w_iald hB sh_340 (Or.inl hp.1) sl_340 (by decide) dX11_pointsNow_10 ?_
  rw [show (0 : Int32).toNatClampNeg = 0 by decide]
  refine w_icmp_ge hB 55 dX11_pointsNow_11 (by decide) (fun hc => ?_) (fun hc => ?_)
  · replace hF := ifT hc hF
    refine w_iload_n hB 2 dX11_pointsNow_55 rfl rfl ?_
    obtain ⟨e1, e2⟩ := retS hF
    subst e2
    exact w_iret hB dX11_pointsNow_56 e1
  · replace hF := ifF hc hF
    refine w_iload_n hB 2 dX11_pointsNow_14 rfl rfl ?_
    refine w_aload_n hB 0 dX11_pointsNow_15 rfl rfl ?_
    refine w_getC hB (v := 332) ff_X11_30 sh_311 hp.1 cr_311_30 (by decide) q_1190 dX11_pointsNow_16 ?_
    refine w_iload_n hB 3 dX11_pointsNow_19 rfl rfl ?_
    obtain ⟨g1, hF⟩ := gdS hF
    refine w_iald hB sh_332 (Or.inl hp.1) sl_332 g1 dX11_pointsNow_20 ?_
    refine w_iload_n hB 1 dX11_pointsNow_21 rfl rfl ?_
    refine w_icmp_ne hB 46 dX11_pointsNow_22 (by decide) (fun hc => ?_) (fun hc => ?_)
    · replace hF := ifF hc hF
      exact Wt.sub (L' := [(0, vr 311), (1, vi x1), (3, vi x3)]) [0, 1, 3] rfl (b_X11_pointsNow_b46 hp hB h4 hF)
    · replace hF := ifT hc hF
      refine w_aload_n hB 0 dX11_pointsNow_25 rfl rfl ?_
      refine w_getC hB (v := 340) ff_X11_38 sh_311 hp.1 cr_311_38 (by decide) q_1198 dX11_pointsNow_26 ?_
      refine w_iconst hB 1 (by decide) dX11_pointsNow_29 ?_
      refine w_iload_n hB 3 dX11_pointsNow_30 rfl rfl ?_
      refine w_iadd hB dX11_pointsNow_31 ?_
      obtain ⟨g2, hF⟩ := gdS hF
      refine w_iald hB sh_340 (Or.inl hp.1) sl_340 g2 dX11_pointsNow_32 ?_
      refine w_iconst hB 1 (by decide) dX11_pointsNow_33 ?_
      refine w_icmp_ne hB 46 dX11_pointsNow_34 (by decide) (fun hc => ?_) (fun hc => ?_)
      · replace hF := ifF hc hF
        exact Wt.sub (L' := [(0, vr 311), (1, vi x1), (3, vi x3)]) [0, 1, 3] rfl (b_X11_pointsNow_b46 hp hB h4 hF)
      · replace hF := ifT hc hF
        refine w_aload_n hB 0 dX11_pointsNow_37 rfl rfl ?_
        refine w_getC hB (v := 333) ff_X11_31 sh_311 hp.1 cr_311_31 (by decide) q_1191 dX11_pointsNow_38 ?_
        refine w_iload_n hB 3 dX11_pointsNow_41 rfl rfl ?_
        refine w_iald hB sh_333 (Or.inl hp.1) sl_333 g1 dX11_pointsNow_42 ?_
        refine w_goto hB 47 dX11_pointsNow_43 (by decide) ?_
        refine w_iadd hB dX11_pointsNow_47 ?_
        obtain ⟨a1, e_a1, hF⟩ := bndS hF
        refine w_istore_n hB (L' := [(2, vi a1), (0, vr 311), (1, vi x1), (3, vi x3)]) dX11_pointsNow_48 rfl (by decide) e_a1 rfl ?_
        obtain ⟨a2, e_a2, hF⟩ := bndS hF
        refine w_iinc hB 3 (v := 1) (L' := [(3, vi a2), (2, vi a1), (0, vr 311), (1, vi x1)]) dX11_pointsNow_49 rfl (by decide) (by decide) e_a2 rfl ?_
        refine w_goto hB 4 dX11_pointsNow_52 (by decide) ?_
        exact Wt.sub (L' := [(0, vr 311), (1, vi x1), (2, vi a1), (3, vi a2)]) [2, 3, 1, 0] rfl (h4 _ _ _ M hF)
def f_X11_pointsNow_b4 (k : Nat) : Int32 → Int32 → Int32 → Mem → Option (Int32 × Mem) := lpN (fun _ _ _ _ => none) (f_X11_pointsNow_b4_s) k
theorem b_X11_pointsNow_b4 {K : Kt} {X : Xt} (hp : St K) (hB : Bx K X { frames := 0, cells := 0, slots := 0, locals := 0 } cX11_pointsNow 4 RX11 (some .int)) {r : Int32} {M1 : Mem} (k : Nat) : ∀ (x1 : Int32) (x2 : Int32) (x3 : Int32) M, f_X11_pointsNow_b4 k x1 x2 x3 M = some (r, M1) → Wt K X (QM K X (some (vi r)) M1 0 0) 0 0 M 4 [(0, vr 311), (1, vi x1), (2, vi x2), (3, vi x3)] [] := by
  refine lpN_ind (P := fun (f : Int32 → Int32 → Int32 → Mem → Option (Int32 × Mem)) => ∀ (x1 : Int32) (x2 : Int32) (x3 : Int32) M, f x1 x2 x3 M = some (r, M1) → Wt K X (QM K X (some (vi r)) M1 0 0) 0 0 M 4 [(0, vr 311), (1, vi x1), (2, vi x2), (3, vi x3)] []) (fun _ _ _ _ h => by cases h) (fun f hf x1 x2 x3 M hF => ?_) k
  exact b_X11_pointsNow_b4_s hp hB hf hF
def f_X11_pointsNow (x1 : Int32) (M : Mem) : Option (Int32 × Mem) :=
  f_X11_pointsNow_b4 fuel x1 0 0 M
set_option maxRecDepth 100000 in
set_option maxHeartbeats 4000000 in
theorem b_X11_pointsNow {K : Kt} {X : Xt} (hp : St K) (hB : Bx K X { frames := 0, cells := 0, slots := 0, locals := 0 } cX11_pointsNow 4 RX11 (some .int)) {r : Int32} {M1 : Mem} {x1 : Int32} {M : Mem} (hF : f_X11_pointsNow x1 M = some (r, M1)) : Wt K X (QM K X (some (vi r)) M1 0 0) 0 0 M 0 [(0, vr 311), (1, vi x1)] [] := by
  unfold f_X11_pointsNow at hF
  refine w_iconst hB 0 (by decide) dX11_pointsNow_0 ?_
  refine w_istore_n hB (L' := [(2, vi 0), (0, vr 311), (1, vi x1)]) dX11_pointsNow_1 rfl (by decide) rfl rfl ?_
  refine w_iconst hB 0 (by decide) dX11_pointsNow_2 ?_
  refine w_istore_n hB (L' := [(3, vi 0), (2, vi 0), (0, vr 311), (1, vi x1)]) dX11_pointsNow_3 rfl (by decide) rfl rfl ?_
  exact Wt.sub (L' := [(0, vr 311), (1, vi x1), (2, vi 0), (3, vi 0)]) [2, 3, 1, 0] rfl (b_X11_pointsNow_b4 hp hB fuel _ _ _ M hF)
theorem c_X11_pointsNow {K : Kt} {l : Launch} (hp : St K) {r : Int32} {M1 : Mem} {x1 : Int32} {M : Mem} (hF : f_X11_pointsNow x1 M = some (r, M1)) : MT K l yX11_pointsNow cX11_pointsNow 4 (some .int) { frames := 0, cells := 0, slots := 0, locals := 0 } [vr 311, vi x1] M (some (vi r)) M1 0 0 :=
  MT_of (by decide) rfl (Nat.le_of_ble_eq_true rfl) (fun X _ hB _ => b_X11_pointsNow hp hB hF)
def f_X11_side (x1 : Int32) (x2 : Int32) (M : Mem) : Option (Int32 × Mem) :=
  bnd (setI M 311 0 0) fun M1m =>
  cl (f_X11_isSide x1 M1m) fun r1 M2m =>
  if r1 = 0 then
    some ((-1), M2m)
  else
    cl (f_X11_within (x2.toInt64) 0 3 M2m) fun r2 M3m =>
    if r2 = 0 then
      some ((-1), M3m)
    else
      if x2 = 0 then
        gd (inb x1 8) <|
        some (M3m.1 320 x1.toNatClampNeg, M3m)
      else
        if x2 = 1 then
          gd (inb (33 + x1) 114) <|
          some (M3m.1 340 (33 + x1).toNatClampNeg, M3m)
        else
          if x2 = 2 then
            gd (inb (37 + x1) 114) <|
            some (M3m.1 340 (37 + x1).toNatClampNeg, M3m)
          else
            cl (f_X11_pointsNow x1 M3m) fun r3 M4m =>
            some (r3, M4m)
set_option maxRecDepth 100000 in
set_option maxHeartbeats 4000000 in
theorem b_X11_side {K : Kt} {X : Xt} (hp : St K) (hB : Bx K X { frames := 2, cells := 0, slots := 0, locals := 46 } cX11_side 3 RX11 (some .int)) {r : Int32} {M1 : Mem} {x1 : Int32} {x2 : Int32} {M : Mem} (hF : f_X11_side x1 x2 M = some (r, M1)) : Wt K X (QM K X (some (vi r)) M1 0 0) 0 0 M 0 [(0, vr 311), (1, vi x1), (2, vi x2)] [] := by
  unfold f_X11_side at hF
  refine w_aload_n hB 0 dX11_side_0 rfl rfl ?_
  refine w_iconst hB 0 (by decide) dX11_side_1 ?_
  obtain ⟨M1m, e_M1m, hF⟩ := bndS hF
  refine w_putI hB ff_X11_0 sh_311 (Or.inl hp.1) q_1160 e_M1m dX11_side_2 ?_
  refine w_aload_n hB 0 dX11_side_5 rfl rfl ?_
  refine w_iload_n hB 1 dX11_side_6 rfl rfl ?_
  obtain ⟨r1, M2m, hc_M2m, hF⟩ := clS hF
  refine w_callV hB (ci := 9) (As := [vi x1]) (st := []) cw_X11_336 q_1540 q_53 rfl sh_311 (Or.inl hp.1) (c_X11_isSide hp hc_M2m) ⟨rfl, rfl⟩ (by decide) (by decide) rfl (Nat.le_of_ble_eq_true rfl) dX11_side_7 rfl ?_
  refine w_if_eq hB 25 dX11_side_10 (by decide) (fun hc => ?_) (fun hc => ?_)
  · replace hF := ifT hc hF
    refine w_iconst hB (-1) (by decide) dX11_side_25 ?_
    obtain ⟨e1, e2⟩ := retS hF
    subst e2
    exact w_iret hB dX11_side_26 e1
  · replace hF := ifF hc hF
    refine w_iload_n hB 2 dX11_side_13 rfl rfl ?_
    refine w_i2l hB dX11_side_14 ?_
    refine w_lconst hB 0 (by decide) dX11_side_15 ?_
    refine w_ldc2 hB (v := 3) q_1516 dX11_side_16 ?_
    obtain ⟨r2, M3m, hc_M3m, hF⟩ := clS hF
    refine w_callS hB (As := [vl (x2.toInt64), vl 0, vl 3]) (st := []) cw_X11_156 q_1320 (c_X11_within hp hc_M3m) ⟨rfl, rfl⟩ (by decide) (by decide) rfl (Nat.le_of_ble_eq_true rfl) dX11_side_19 rfl ?_
    refine w_if_ne hB 27 dX11_side_22 (by decide) (fun hc => ?_) (fun hc => ?_)
    · replace hF := ifF hc hF
      refine w_iload_n hB 2 dX11_side_27 rfl rfl ?_
      refine w_if_ne hB 40 dX11_side_28 (by decide) (fun hc => ?_) (fun hc => ?_)
      · replace hF := ifF hc hF
        refine w_iload_n hB 2 dX11_side_40 rfl rfl ?_
        refine w_iconst hB 1 (by decide) dX11_side_41 ?_
        refine w_icmp_ne hB 57 dX11_side_42 (by decide) (fun hc => ?_) (fun hc => ?_)
        · replace hF := ifF hc hF
          refine w_iload_n hB 2 dX11_side_57 rfl rfl ?_
          refine w_iconst hB 2 (by decide) dX11_side_58 ?_
          refine w_icmp_ne hB 74 dX11_side_59 (by decide) (fun hc => ?_) (fun hc => ?_)
          · replace hF := ifF hc hF
            refine w_aload_n hB 0 dX11_side_74 rfl rfl ?_
            refine w_iload_n hB 1 dX11_side_75 rfl rfl ?_
            obtain ⟨r3, M4m, hc_M4m, hF⟩ := clS hF
            refine w_callV hB (ci := 9) (As := [vi x1]) (st := []) cw_X11_340 q_1544 q_54 rfl sh_311 (Or.inl hp.1) (c_X11_pointsNow hp hc_M4m) ⟨rfl, rfl⟩ (by decide) (by decide) rfl (Nat.le_of_ble_eq_true rfl) dX11_side_76 rfl ?_
            obtain ⟨e1, e2⟩ := retS hF
            subst e2
            exact w_iret hB dX11_side_79 e1
          · replace hF := ifT hc hF
            refine w_aload_n hB 0 dX11_side_62 rfl rfl ?_
            refine w_getC hB (v := 340) ff_X11_38 sh_311 hp.1 cr_311_38 (by decide) q_1198 dX11_side_63 ?_
            refine w_bipush hB 37 (by decide) dX11_side_66 ?_
            refine w_iload_n hB 1 dX11_side_68 rfl rfl ?_
            refine w_iadd hB dX11_side_69 ?_
            obtain ⟨g3, hF⟩ := gdS hF
            refine w_iald hB sh_340 (Or.inl hp.1) sl_340 g3 dX11_side_70 ?_
            refine w_goto hB 79 dX11_side_71 (by decide) ?_
            obtain ⟨e1, e2⟩ := retS hF
            subst e2
            exact w_iret hB dX11_side_79 e1
        · replace hF := ifT hc hF
          refine w_aload_n hB 0 dX11_side_45 rfl rfl ?_
          refine w_getC hB (v := 340) ff_X11_38 sh_311 hp.1 cr_311_38 (by decide) q_1198 dX11_side_46 ?_
          refine w_bipush hB 33 (by decide) dX11_side_49 ?_
          refine w_iload_n hB 1 dX11_side_51 rfl rfl ?_
          refine w_iadd hB dX11_side_52 ?_
          obtain ⟨g2, hF⟩ := gdS hF
          refine w_iald hB sh_340 (Or.inl hp.1) sl_340 g2 dX11_side_53 ?_
          refine w_goto hB 79 dX11_side_54 (by decide) ?_
          obtain ⟨e1, e2⟩ := retS hF
          subst e2
          exact w_iret hB dX11_side_79 e1
      · replace hF := ifT hc hF
        refine w_aload_n hB 0 dX11_side_31 rfl rfl ?_
        refine w_getC hB (v := 320) ff_X11_18 sh_311 hp.1 cr_311_18 (by decide) q_1178 dX11_side_32 ?_
        refine w_iload_n hB 1 dX11_side_35 rfl rfl ?_
        obtain ⟨g1, hF⟩ := gdS hF
        refine w_iald hB sh_320 (Or.inl hp.1) sl_320 g1 dX11_side_36 ?_
        refine w_goto hB 79 dX11_side_37 (by decide) ?_
        obtain ⟨e1, e2⟩ := retS hF
        subst e2
        exact w_iret hB dX11_side_79 e1
    · replace hF := ifT hc hF
      refine w_iconst hB (-1) (by decide) dX11_side_25 ?_
      obtain ⟨e1, e2⟩ := retS hF
      subst e2
      exact w_iret hB dX11_side_26 e1
theorem c_X11_side {K : Kt} {l : Launch} (hp : St K) {r : Int32} {M1 : Mem} {x1 : Int32} {x2 : Int32} {M : Mem} (hF : f_X11_side x1 x2 M = some (r, M1)) : MT K l yX11_side cX11_side 3 (some .int) { frames := 2, cells := 0, slots := 0, locals := 46 } [vr 311, vi x1, vi x2] M (some (vi r)) M1 0 0 :=
  MT_of (by decide) rfl (Nat.le_of_ble_eq_true rfl) (fun X _ hB _ => b_X11_side hp hB hF)
def f_X11_play (x1 : Int32) (x2 : Int32) (M : Mem) : Option (Int32 × Mem) :=
  bnd (setI M 311 0 0) fun M1m =>
  cl (f_X11_isPlay x1 M1m) fun r1 M2m =>
  if r1 = 0 then
    some ((-1), M2m)
  else
    if x2 = 0 then
      gd (inb x1 16) <|
      some (M2m.1 330 x1.toNatClampNeg, M2m)
    else
    if x2 = 1 then
      gd (inb x1 16) <|
      some (M2m.1 331 x1.toNatClampNeg, M2m)
    else
    if x2 = 2 then
      gd (inb x1 16) <|
      some (M2m.1 332 x1.toNatClampNeg, M2m)
    else
    if x2 = 3 then
      gd (inb x1 16) <|
      some (M2m.1 333 x1.toNatClampNeg, M2m)
    else
    if x2 = 4 then
      gd (inb x1 16) <|
      some (M2m.1 334 x1.toNatClampNeg, M2m)
    else
    if x2 = 5 then
      gd (inb x1 16) <|
      some (M2m.1 335 x1.toNatClampNeg, M2m)
    else
    if x2 = 6 then
      if (M2m.1 340 0) ≤ x1 then
        some ((-2), M2m)
      else
        gd (inb (1 + x1) 114) <|
        some (M2m.1 340 (1 + x1).toNatClampNeg, M2m)
    else
    if x2 = 7 then
      gd (inb (9 + x1) 114) <|
      some (M2m.1 340 (9 + x1).toNatClampNeg, M2m)
    else
    if x2 = 8 then
      gd (inb (17 + x1) 114) <|
      some (M2m.1 340 (17 + x1).toNatClampNeg, M2m)
    else
      some ((-1), M2m)
set_option maxRecDepth 100000 in
set_option maxHeartbeats 4000000 in
theorem b_X11_play {K : Kt} {X : Xt} (hp : St K) (hB : Bx K X { frames := 2, cells := 0, slots := 0, locals := 46 } cX11_play 3 RX11 (some .int)) {r : Int32} {M1 : Mem} {x1 : Int32} {x2 : Int32} {M : Mem} (hF : f_X11_play x1 x2 M = some (r, M1)) : Wt K X (QM K X (some (vi r)) M1 0 0) 0 0 M 0 [(0, vr 311), (1, vi x1), (2, vi x2)] [] := by
  unfold f_X11_play at hF
  refine w_aload_n hB 0 dX11_play_0 rfl rfl ?_
  refine w_iconst hB 0 (by decide) dX11_play_1 ?_
  obtain ⟨M1m, e_M1m, hF⟩ := bndS hF
  refine w_putI hB ff_X11_0 sh_311 (Or.inl hp.1) q_1160 e_M1m dX11_play_2 ?_
  refine w_aload_n hB 0 dX11_play_5 rfl rfl ?_
  refine w_iload_n hB 1 dX11_play_6 rfl rfl ?_
  obtain ⟨r1, M2m, hc_M2m, hF⟩ := clS hF
  refine w_callV hB (ci := 9) (As := [vi x1]) (st := []) cw_X11_343 q_1552 q_55 rfl sh_311 (Or.inl hp.1) (c_X11_isPlay hp hc_M2m) ⟨rfl, rfl⟩ (by decide) (by decide) rfl (Nat.le_of_ble_eq_true rfl) dX11_play_7 rfl ?_
  refine w_if_ne hB 15 dX11_play_10 (by decide) (fun hc => ?_) (fun hc => ?_)
  · replace hF := ifF hc hF
    refine w_iload_n hB 2 dX11_play_15 rfl rfl ?_
    by_cases ht0 : x2 = 0
    · replace hF := ifT ht0 hF
      refine w_tsIn hB 68 dX11_play_16 (off := 52) (by rw [ht0]; decide) (by rw [ht0]; decide) (by rw [ht0]; rfl) (by decide) ?_
      refine w_aload_n hB 0 dX11_play_68 rfl rfl ?_
      refine w_getC hB (v := 330) ff_X11_28 sh_311 hp.1 cr_311_28 (by decide) q_1188 dX11_play_69 ?_
      refine w_iload_n hB 1 dX11_play_72 rfl rfl ?_
      obtain ⟨g1, hF⟩ := gdS hF
      refine w_iald hB sh_330 (Or.inl hp.1) sl_330 g1 dX11_play_73 ?_
      obtain ⟨e1, e2⟩ := retS hF
      subst e2
      exact w_iret hB dX11_play_74 e1
    replace hF := ifF ht0 hF
    by_cases ht1 : x2 = 1
    · replace hF := ifT ht1 hF
      refine w_tsIn hB 75 dX11_play_16 (off := 59) (by rw [ht1]; decide) (by rw [ht1]; decide) (by rw [ht1]; rfl) (by decide) ?_
      refine w_aload_n hB 0 dX11_play_75 rfl rfl ?_
      refine w_getC hB (v := 331) ff_X11_29 sh_311 hp.1 cr_311_29 (by decide) q_1189 dX11_play_76 ?_
      refine w_iload_n hB 1 dX11_play_79 rfl rfl ?_
      obtain ⟨g2, hF⟩ := gdS hF
      refine w_iald hB sh_331 (Or.inl hp.1) sl_331 g2 dX11_play_80 ?_
      obtain ⟨e1, e2⟩ := retS hF
      subst e2
      exact w_iret hB dX11_play_81 e1
    replace hF := ifF ht1 hF
    by_cases ht2 : x2 = 2
    · replace hF := ifT ht2 hF
      refine w_tsIn hB 82 dX11_play_16 (off := 66) (by rw [ht2]; decide) (by rw [ht2]; decide) (by rw [ht2]; rfl) (by decide) ?_
      refine w_aload_n hB 0 dX11_play_82 rfl rfl ?_
      refine w_getC hB (v := 332) ff_X11_30 sh_311 hp.1 cr_311_30 (by decide) q_1190 dX11_play_83 ?_
      refine w_iload_n hB 1 dX11_play_86 rfl rfl ?_
      obtain ⟨g3, hF⟩ := gdS hF
      refine w_iald hB sh_332 (Or.inl hp.1) sl_332 g3 dX11_play_87 ?_
      obtain ⟨e1, e2⟩ := retS hF
      subst e2
      exact w_iret hB dX11_play_88 e1
    replace hF := ifF ht2 hF
    by_cases ht3 : x2 = 3
    · replace hF := ifT ht3 hF
      refine w_tsIn hB 89 dX11_play_16 (off := 73) (by rw [ht3]; decide) (by rw [ht3]; decide) (by rw [ht3]; rfl) (by decide) ?_
      refine w_aload_n hB 0 dX11_play_89 rfl rfl ?_
      refine w_getC hB (v := 333) ff_X11_31 sh_311 hp.1 cr_311_31 (by decide) q_1191 dX11_play_90 ?_
      refine w_iload_n hB 1 dX11_play_93 rfl rfl ?_
      obtain ⟨g4, hF⟩ := gdS hF
      refine w_iald hB sh_333 (Or.inl hp.1) sl_333 g4 dX11_play_94 ?_
      obtain ⟨e1, e2⟩ := retS hF
      subst e2
      exact w_iret hB dX11_play_95 e1
    replace hF := ifF ht3 hF
    by_cases ht4 : x2 = 4
    · replace hF := ifT ht4 hF
      refine w_tsIn hB 96 dX11_play_16 (off := 80) (by rw [ht4]; decide) (by rw [ht4]; decide) (by rw [ht4]; rfl) (by decide) ?_
      refine w_aload_n hB 0 dX11_play_96 rfl rfl ?_
      refine w_getC hB (v := 334) ff_X11_32 sh_311 hp.1 cr_311_32 (by decide) q_1192 dX11_play_97 ?_
      refine w_iload_n hB 1 dX11_play_100 rfl rfl ?_
      obtain ⟨g5, hF⟩ := gdS hF
      refine w_iald hB sh_334 (Or.inl hp.1) sl_334 g5 dX11_play_101 ?_
      obtain ⟨e1, e2⟩ := retS hF
      subst e2
      exact w_iret hB dX11_play_102 e1
    replace hF := ifF ht4 hF
    by_cases ht5 : x2 = 5
    · replace hF := ifT ht5 hF
      refine w_tsIn hB 103 dX11_play_16 (off := 87) (by rw [ht5]; decide) (by rw [ht5]; decide) (by rw [ht5]; rfl) (by decide) ?_
      refine w_aload_n hB 0 dX11_play_103 rfl rfl ?_
      refine w_getC hB (v := 335) ff_X11_33 sh_311 hp.1 cr_311_33 (by decide) q_1193 dX11_play_104 ?_
      refine w_iload_n hB 1 dX11_play_107 rfl rfl ?_
      obtain ⟨g6, hF⟩ := gdS hF
      refine w_iald hB sh_335 (Or.inl hp.1) sl_335 g6 dX11_play_108 ?_
      obtain ⟨e1, e2⟩ := retS hF
      subst e2
      exact w_iret hB dX11_play_109 e1
    replace hF := ifF ht5 hF
    by_cases ht6 : x2 = 6
    · replace hF := ifT ht6 hF
      refine w_tsIn hB 110 dX11_play_16 (off := 94) (by rw [ht6]; decide) (by rw [ht6]; decide) (by rw [ht6]; rfl) (by decide) ?_
      refine w_iload_n hB 1 dX11_play_110 rfl rfl ?_
      refine w_aload_n hB 0 dX11_play_111 rfl rfl ?_
      refine w_getC hB (v := 340) ff_X11_38 sh_311 hp.1 cr_311_38 (by decide) q_1198 dX11_play_112 ?_
      refine w_iconst hB 0 (by decide) dX11_play_115 ?_
      refine w_iald hB sh_340 (Or.inl hp.1) sl_340 (by decide) dX11_play_116 ?_
      rw [show (0 : Int32).toNatClampNeg = 0 by decide]
      refine w_icmp_ge hB 131 dX11_play_117 (by decide) (fun hc => ?_) (fun hc => ?_)
      · replace hF := ifT hc hF
        refine w_bipush hB (-2) (by decide) dX11_play_131 ?_
        obtain ⟨e1, e2⟩ := retS hF
        subst e2
        exact w_iret hB dX11_play_133 e1
      · replace hF := ifF hc hF
        refine w_aload_n hB 0 dX11_play_120 rfl rfl ?_
        refine w_getC hB (v := 340) ff_X11_38 sh_311 hp.1 cr_311_38 (by decide) q_1198 dX11_play_121 ?_
        refine w_iconst hB 1 (by decide) dX11_play_124 ?_
        refine w_iload_n hB 1 dX11_play_125 rfl rfl ?_
        refine w_iadd hB dX11_play_126 ?_
        obtain ⟨g7, hF⟩ := gdS hF
        refine w_iald hB sh_340 (Or.inl hp.1) sl_340 g7 dX11_play_127 ?_
        refine w_goto hB 133 dX11_play_128 (by decide) ?_
        obtain ⟨e1, e2⟩ := retS hF
        subst e2
        exact w_iret hB dX11_play_133 e1
    replace hF := ifF ht6 hF
    by_cases ht7 : x2 = 7
    · replace hF := ifT ht7 hF
      refine w_tsIn hB 134 dX11_play_16 (off := 118) (by rw [ht7]; decide) (by rw [ht7]; decide) (by rw [ht7]; rfl) (by decide) ?_
      refine w_aload_n hB 0 dX11_play_134 rfl rfl ?_
      refine w_getC hB (v := 340) ff_X11_38 sh_311 hp.1 cr_311_38 (by decide) q_1198 dX11_play_135 ?_
      refine w_bipush hB 9 (by decide) dX11_play_138 ?_
      refine w_iload_n hB 1 dX11_play_140 rfl rfl ?_
      refine w_iadd hB dX11_play_141 ?_
      obtain ⟨g8, hF⟩ := gdS hF
      refine w_iald hB sh_340 (Or.inl hp.1) sl_340 g8 dX11_play_142 ?_
      obtain ⟨e1, e2⟩ := retS hF
      subst e2
      exact w_iret hB dX11_play_143 e1
    replace hF := ifF ht7 hF
    by_cases ht8 : x2 = 8
    · replace hF := ifT ht8 hF
      refine w_tsIn hB 144 dX11_play_16 (off := 128) (by rw [ht8]; decide) (by rw [ht8]; decide) (by rw [ht8]; rfl) (by decide) ?_
      refine w_aload_n hB 0 dX11_play_144 rfl rfl ?_
      refine w_getC hB (v := 340) ff_X11_38 sh_311 hp.1 cr_311_38 (by decide) q_1198 dX11_play_145 ?_
      refine w_bipush hB 17 (by decide) dX11_play_148 ?_
      refine w_iload_n hB 1 dX11_play_150 rfl rfl ?_
      refine w_iadd hB dX11_play_151 ?_
      obtain ⟨g9, hF⟩ := gdS hF
      refine w_iald hB sh_340 (Or.inl hp.1) sl_340 g9 dX11_play_152 ?_
      obtain ⟨e1, e2⟩ := retS hF
      subst e2
      exact w_iret hB dX11_play_153 e1
    replace hF := ifF ht8 hF
    have tht0 := lv_neT ht0 (show (0 : Int32).toInt = 0 by decide)
    have tht1 := lv_neT ht1 (show (1 : Int32).toInt = 1 by decide)
    have tht2 := lv_neT ht2 (show (2 : Int32).toInt = 2 by decide)
    have tht3 := lv_neT ht3 (show (3 : Int32).toInt = 3 by decide)
    have tht4 := lv_neT ht4 (show (4 : Int32).toInt = 4 by decide)
    have tht5 := lv_neT ht5 (show (5 : Int32).toInt = 5 by decide)
    have tht6 := lv_neT ht6 (show (6 : Int32).toInt = 6 by decide)
    have tht7 := lv_neT ht7 (show (7 : Int32).toInt = 7 by decide)
    have tht8 := lv_neT ht8 (show (8 : Int32).toInt = 8 by decide)
    refine w_tsOut hB 154 dX11_play_16 (by omega) (by decide) ?_
    refine w_iconst hB (-1) (by decide) dX11_play_154 ?_
    obtain ⟨e1, e2⟩ := retS hF
    subst e2
    exact w_iret hB dX11_play_155 e1
  · replace hF := ifT hc hF
    refine w_iconst hB (-1) (by decide) dX11_play_13 ?_
    obtain ⟨e1, e2⟩ := retS hF
    subst e2
    exact w_iret hB dX11_play_14 e1
theorem c_X11_play {K : Kt} {l : Launch} (hp : St K) {r : Int32} {M1 : Mem} {x1 : Int32} {x2 : Int32} {M : Mem} (hF : f_X11_play x1 x2 M = some (r, M1)) : MT K l yX11_play cX11_play 3 (some .int) { frames := 2, cells := 0, slots := 0, locals := 46 } [vr 311, vi x1, vi x2] M (some (vi r)) M1 0 0 :=
  MT_of (by decide) rfl (Nat.le_of_ble_eq_true rfl) (fun X _ hB _ => b_X11_play hp hB hF)
def f_X11_frame_b44 (x1 : Int32) (x2 : Int32) (x3 : Int32) (xs1 : Int32) (M : Mem) : Option (Int32 × Mem) :=
  bnd (setI M 311 0 xs1) fun M1m =>
  if (M1m.1 311 0) = 1 then
    some (0, M1m)
  else
    bnd ((10 * x1) + x2) fun a1 =>
    if x3 = 0 then
      gd (inb a1 160) <|
      some (M1m.1 336 a1.toNatClampNeg, M1m)
    else
      if x3 = 1 then
        gd (inb a1 160) <|
        some (M1m.1 337 a1.toNatClampNeg, M1m)
      else
        if x3 = 2 then
          gd (inb a1 160) <|
          some (M1m.1 338 a1.toNatClampNeg, M1m)
        else
          gd (inb a1 160) <|
          some (M1m.1 339 a1.toNatClampNeg, M1m)
set_option maxRecDepth 100000 in
set_option maxHeartbeats 4000000 in
theorem b_X11_frame_b44 {K : Kt} {X : Xt} (hp : St K) (hB : Bx K X { frames := 2, cells := 0, slots := 0, locals := 46 } cX11_frame 5 RX11 (some .int)) {r : Int32} {M1 : Mem} {x1 : Int32} {x2 : Int32} {x3 : Int32} {xs1 : Int32} {M : Mem} (hF : f_X11_frame_b44 x1 x2 x3 xs1 M = some (r, M1)) : Wt K X (QM K X (some (vi r)) M1 0 0) 0 0 M 44 [(0, vr 311), (1, vi x1), (2, vi x2), (3, vi x3)] [vi xs1, vr 311] := by
  unfold f_X11_frame_b44 at hF
  obtain ⟨M1m, e_M1m, hF⟩ := bndS hF
  refine w_putI hB ff_X11_0 sh_311 (Or.inl hp.1) q_1160 e_M1m dX11_frame_44 ?_
  refine w_aload_n hB 0 dX11_frame_47 rfl rfl ?_
  refine w_getI hB ff_X11_0 sh_311 (Or.inl hp.1) q_1160 dX11_frame_48 ?_
  refine w_iconst hB 1 (by decide) dX11_frame_51 ?_
  refine w_icmp_ne hB 57 dX11_frame_52 (by decide) (fun hc => ?_) (fun hc => ?_)
  · replace hF := ifF hc hF
    refine w_bipush hB 10 (by decide) dX11_frame_57 ?_
    refine w_iload_n hB 1 dX11_frame_59 rfl rfl ?_
    refine w_imul hB dX11_frame_60 ?_
    refine w_iload_n hB 2 dX11_frame_61 rfl rfl ?_
    refine w_iadd hB dX11_frame_62 ?_
    obtain ⟨a1, e_a1, hF⟩ := bndS hF
    refine w_istore hB (L' := [(4, vi a1), (0, vr 311), (1, vi x1), (2, vi x2), (3, vi x3)]) dX11_frame_63 (by decide) e_a1 rfl ?_
    refine w_iload_n hB 4 dX11_frame_65 rfl rfl ?_
    refine w_if_ne hB 79 dX11_frame_66 (by decide) (fun hc => ?_) (fun hc => ?_)
    · replace hF := ifF hc hF
      refine w_iload_n hB 4 dX11_frame_79 rfl rfl ?_
      refine w_iconst hB 1 (by decide) dX11_frame_80 ?_
      refine w_icmp_ne hB 94 dX11_frame_81 (by decide) (fun hc => ?_) (fun hc => ?_)
      · replace hF := ifF hc hF
        refine w_iload_n hB 4 dX11_frame_94 rfl rfl ?_
        refine w_iconst hB 2 (by decide) dX11_frame_95 ?_
        refine w_icmp_ne hB 109 dX11_frame_96 (by decide) (fun hc => ?_) (fun hc => ?_)
        · replace hF := ifF hc hF
          refine w_aload_n hB 1 dX11_frame_109 rfl rfl ?_
          refine w_getC hB (v := 339) ff_X11_37 sh_311 hp.1 cr_311_37 (by decide) q_1197 dX11_frame_110 ?_
          refine w_iload hB 0 dX11_frame_113 rfl ?_
          obtain ⟨g4, hF⟩ := gdS hF
          refine w_iald hB sh_339 (Or.inl hp.1) sl_339 g4 dX11_frame_115 ?_
          obtain ⟨e1, e2⟩ := retS hF
          subst e2
          exact w_iret hB dX11_frame_116 e1
        · replace hF := ifT hc hF
          refine w_aload_n hB 1 dX11_frame_99 rfl rfl ?_
          refine w_getC hB (v := 338) ff_X11_36 sh_311 hp.1 cr_311_36 (by decide) q_1196 dX11_frame_100 ?_
          refine w_iload hB 0 dX11_frame_103 rfl ?_
          obtain ⟨g3, hF⟩ := gdS hF
          refine w_iald hB sh_338 (Or.inl hp.1) sl_338 g3 dX11_frame_105 ?_
          refine w_goto hB 116 dX11_frame_106 (by decide) ?_
          obtain ⟨e1, e2⟩ := retS hF
          subst e2
          exact w_iret hB dX11_frame_116 e1
      · replace hF := ifT hc hF
        refine w_aload_n hB 1 dX11_frame_84 rfl rfl ?_
        refine w_getC hB (v := 337) ff_X11_35 sh_311 hp.1 cr_311_35 (by decide) q_1195 dX11_frame_85 ?_
        refine w_iload hB 0 dX11_frame_88 rfl ?_
        obtain ⟨g2, hF⟩ := gdS hF
        refine w_iald hB sh_337 (Or.inl hp.1) sl_337 g2 dX11_frame_90 ?_
        refine w_goto hB 116 dX11_frame_91 (by decide) ?_
        obtain ⟨e1, e2⟩ := retS hF
        subst e2
        exact w_iret hB dX11_frame_116 e1
    · replace hF := ifT hc hF
      refine w_aload_n hB 1 dX11_frame_69 rfl rfl ?_
      refine w_getC hB (v := 336) ff_X11_34 sh_311 hp.1 cr_311_34 (by decide) q_1194 dX11_frame_70 ?_
      refine w_iload hB 0 dX11_frame_73 rfl ?_
      obtain ⟨g1, hF⟩ := gdS hF
      refine w_iald hB sh_336 (Or.inl hp.1) sl_336 g1 dX11_frame_75 ?_
      refine w_goto hB 116 dX11_frame_76 (by decide) ?_
      obtain ⟨e1, e2⟩ := retS hF
      subst e2
      exact w_iret hB dX11_frame_116 e1
  · replace hF := ifT hc hF
    refine w_iconst hB 0 (by decide) dX11_frame_55 ?_
    obtain ⟨e1, e2⟩ := retS hF
    subst e2
    exact w_iret hB dX11_frame_56 e1
def f_X11_frame_b43 (x1 : Int32) (x2 : Int32) (x3 : Int32) (M : Mem) : Option (Int32 × Mem) :=
  f_X11_frame_b44 x1 x2 x3 1 M
set_option maxRecDepth 100000 in
set_option maxHeartbeats 4000000 in
theorem b_X11_frame_b43 {K : Kt} {X : Xt} (hp : St K) (hB : Bx K X { frames := 2, cells := 0, slots := 0, locals := 46 } cX11_frame 5 RX11 (some .int)) {r : Int32} {M1 : Mem} {x1 : Int32} {x2 : Int32} {x3 : Int32} {M : Mem} (hF : f_X11_frame_b43 x1 x2 x3 M = some (r, M1)) : Wt K X (QM K X (some (vi r)) M1 0 0) 0 0 M 43 [(0, vr 311), (1, vi x1), (2, vi x2), (3, vi x3)] [vr 311] := by
  unfold f_X11_frame_b43 at hF
  refine w_iconst hB 1 (by decide) dX11_frame_43 ?_
  exact Wt.sub (L' := [(0, vr 311), (1, vi x1), (2, vi x2), (3, vi x3)]) [0, 1, 2, 3] rfl (b_X11_frame_b44 hp hB hF)
def f_X11_frame (x1 : Int32) (x2 : Int32) (x3 : Int32) (M : Mem) : Option (Int32 × Mem) :=
  cl (f_X11_isPlay x1 M) fun r1 M1m =>
  if r1 = 0 then
    f_X11_frame_b43 x1 x2 x3 M1m
  else
    gd (inb x1 16) <|
    cl (f_X11_within (x2.toInt64) 0 (((M1m.1 335 x1.toNatClampNeg) - 1).toInt64) M1m) fun r2 M2m =>
    if r2 = 0 then
      f_X11_frame_b43 x1 x2 x3 M2m
    else
      cl (f_X11_within (x3.toInt64) 0 3 M2m) fun r3 M3m =>
      if r3 = 0 then
        f_X11_frame_b43 x1 x2 x3 M3m
      else
        f_X11_frame_b44 x1 x2 x3 0 M3m
set_option maxRecDepth 100000 in
set_option maxHeartbeats 4000000 in
theorem b_X11_frame {K : Kt} {X : Xt} (hp : St K) (hB : Bx K X { frames := 2, cells := 0, slots := 0, locals := 46 } cX11_frame 5 RX11 (some .int)) {r : Int32} {M1 : Mem} {x1 : Int32} {x2 : Int32} {x3 : Int32} {M : Mem} (hF : f_X11_frame x1 x2 x3 M = some (r, M1)) : Wt K X (QM K X (some (vi r)) M1 0 0) 0 0 M 0 [(0, vr 311), (1, vi x1), (2, vi x2), (3, vi x3)] [] := by
  unfold f_X11_frame at hF
  refine w_aload_n hB 0 dX11_frame_0 rfl rfl ?_
  refine w_aload_n hB 0 dX11_frame_1 rfl rfl ?_
  refine w_iload_n hB 1 dX11_frame_2 rfl rfl ?_
  obtain ⟨r1, M1m, hc_M1m, hF⟩ := clS hF
  refine w_callV hB (ci := 9) (As := [vi x1]) (st := [vr 311]) cw_X11_343 q_1552 q_55 rfl sh_311 (Or.inl hp.1) (c_X11_isPlay hp hc_M1m) ⟨rfl, rfl⟩ (by decide) (by decide) rfl (Nat.le_of_ble_eq_true rfl) dX11_frame_3 rfl ?_
  refine w_if_eq hB 43 dX11_frame_6 (by decide) (fun hc => ?_) (fun hc => ?_)
  · replace hF := ifT hc hF
    exact Wt.sub (L' := [(0, vr 311), (1, vi x1), (2, vi x2), (3, vi x3)]) [0, 1, 2, 3] rfl (b_X11_frame_b43 hp hB hF)
  · replace hF := ifF hc hF
    refine w_iload_n hB 2 dX11_frame_9 rfl rfl ?_
    refine w_i2l hB dX11_frame_10 ?_
    refine w_lconst hB 0 (by decide) dX11_frame_11 ?_
    refine w_aload_n hB 0 dX11_frame_12 rfl rfl ?_
    refine w_getC hB (v := 335) ff_X11_33 sh_311 hp.1 cr_311_33 (by decide) q_1193 dX11_frame_13 ?_
    refine w_iload_n hB 1 dX11_frame_16 rfl rfl ?_
    obtain ⟨g1, hF⟩ := gdS hF
    refine w_iald hB sh_335 (Or.inl hp.1) sl_335 g1 dX11_frame_17 ?_
    refine w_iconst hB 1 (by decide) dX11_frame_18 ?_
    refine w_isub hB dX11_frame_19 ?_
    refine w_i2l hB dX11_frame_20 ?_
    obtain ⟨r2, M2m, hc_M2m, hF⟩ := clS hF
    refine w_callS hB (As := [vl (x2.toInt64), vl 0, vl (((M1m.1 335 x1.toNatClampNeg) - 1).toInt64)]) (st := [vr 311]) cw_X11_156 q_1320 (c_X11_within hp hc_M2m) ⟨rfl, rfl⟩ (by decide) (by decide) rfl (Nat.le_of_ble_eq_true rfl) dX11_frame_21 rfl ?_
    refine w_if_eq hB 43 dX11_frame_24 (by decide) (fun hc => ?_) (fun hc => ?_)
    · replace hF := ifT hc hF
      exact Wt.sub (L' := [(0, vr 311), (1, vi x1), (2, vi x2), (3, vi x3)]) [0, 1, 2, 3] rfl (b_X11_frame_b43 hp hB hF)
    · replace hF := ifF hc hF
      refine w_iload_n hB 3 dX11_frame_27 rfl rfl ?_
      refine w_i2l hB dX11_frame_28 ?_
      refine w_lconst hB 0 (by decide) dX11_frame_29 ?_
      refine w_ldc2 hB (v := 3) q_1516 dX11_frame_30 ?_
      obtain ⟨r3, M3m, hc_M3m, hF⟩ := clS hF
      refine w_callS hB (As := [vl (x3.toInt64), vl 0, vl 3]) (st := [vr 311]) cw_X11_156 q_1320 (c_X11_within hp hc_M3m) ⟨rfl, rfl⟩ (by decide) (by decide) rfl (Nat.le_of_ble_eq_true rfl) dX11_frame_33 rfl ?_
      refine w_if_eq hB 43 dX11_frame_36 (by decide) (fun hc => ?_) (fun hc => ?_)
      · replace hF := ifT hc hF
        exact Wt.sub (L' := [(0, vr 311), (1, vi x1), (2, vi x2), (3, vi x3)]) [0, 1, 2, 3] rfl (b_X11_frame_b43 hp hB hF)
      · replace hF := ifF hc hF
        refine w_iconst hB 0 (by decide) dX11_frame_39 ?_
        refine w_goto hB 44 dX11_frame_40 (by decide) ?_
        exact Wt.sub (L' := [(0, vr 311), (1, vi x1), (2, vi x2), (3, vi x3)]) [0, 1, 2, 3] rfl (b_X11_frame_b44 hp hB hF)
theorem c_X11_frame {K : Kt} {l : Launch} (hp : St K) {r : Int32} {M1 : Mem} {x1 : Int32} {x2 : Int32} {x3 : Int32} {M : Mem} (hF : f_X11_frame x1 x2 x3 M = some (r, M1)) : MT K l yX11_frame cX11_frame 5 (some .int) { frames := 2, cells := 0, slots := 0, locals := 46 } [vr 311, vi x1, vi x2, vi x3] M (some (vi r)) M1 0 0 :=
  MT_of (by decide) rfl (Nat.le_of_ble_eq_true rfl) (fun X _ hB _ => b_X11_frame hp hB hF)
def f_X11_verdict (x1 : Int32) (x2 : Int32) (M : Mem) : Option (Int32 × Mem) :=
  bnd (setI M 311 0 0) fun M1m =>
  cl (f_X11_isPlay x1 M1m) fun r1 M2m =>
  if r1 = 0 then
    some ((-1), M2m)
  else
    gd (inb x1 16) <|
    cl (f_X11_within (x2.toInt64) 0 ((M2m.1 335 x1.toNatClampNeg).toInt64) M2m) fun r2 M3m =>
    if r2 = 0 then
      some ((-1), M3m)
    else
      cl (f_X11_verdictOf x1 (((1 : Int32) <<< (x2 &&& 31)) - 1) M3m) fun r3 M4m =>
      some (r3, M4m)
set_option maxRecDepth 100000 in
set_option maxHeartbeats 4000000 in
theorem b_X11_verdict {K : Kt} {X : Xt} (hp : St K) (hB : Bx K X { frames := 4, cells := 0, slots := 0, locals := 98 } cX11_verdict 3 RX11 (some .int)) {r : Int32} {M1 : Mem} {x1 : Int32} {x2 : Int32} {M : Mem} (hF : f_X11_verdict x1 x2 M = some (r, M1)) : Wt K X (QM K X (some (vi r)) M1 0 0) 0 0 M 0 [(0, vr 311), (1, vi x1), (2, vi x2)] [] := by
  unfold f_X11_verdict at hF
  refine w_aload_n hB 0 dX11_verdict_0 rfl rfl ?_
  refine w_iconst hB 0 (by decide) dX11_verdict_1 ?_
  obtain ⟨M1m, e_M1m, hF⟩ := bndS hF
  refine w_putI hB ff_X11_0 sh_311 (Or.inl hp.1) q_1160 e_M1m dX11_verdict_2 ?_
  refine w_aload_n hB 0 dX11_verdict_5 rfl rfl ?_
  refine w_iload_n hB 1 dX11_verdict_6 rfl rfl ?_
  obtain ⟨r1, M2m, hc_M2m, hF⟩ := clS hF
  refine w_callV hB (ci := 9) (As := [vi x1]) (st := []) cw_X11_343 q_1552 q_55 rfl sh_311 (Or.inl hp.1) (c_X11_isPlay hp hc_M2m) ⟨rfl, rfl⟩ (by decide) (by decide) rfl (Nat.le_of_ble_eq_true rfl) dX11_verdict_7 rfl ?_
  refine w_if_eq hB 42 dX11_verdict_10 (by decide) (fun hc => ?_) (fun hc => ?_)
  · replace hF := ifT hc hF
    refine w_iconst hB (-1) (by decide) dX11_verdict_42 ?_
    obtain ⟨e1, e2⟩ := retS hF
    subst e2
    exact w_iret hB dX11_verdict_43 e1
  · replace hF := ifF hc hF
    refine w_iload_n hB 2 dX11_verdict_13 rfl rfl ?_
    refine w_i2l hB dX11_verdict_14 ?_
    refine w_lconst hB 0 (by decide) dX11_verdict_15 ?_
    refine w_aload_n hB 0 dX11_verdict_16 rfl rfl ?_
    refine w_getC hB (v := 335) ff_X11_33 sh_311 hp.1 cr_311_33 (by decide) q_1193 dX11_verdict_17 ?_
    refine w_iload_n hB 1 dX11_verdict_20 rfl rfl ?_
    obtain ⟨g1, hF⟩ := gdS hF
    refine w_iald hB sh_335 (Or.inl hp.1) sl_335 g1 dX11_verdict_21 ?_
    refine w_i2l hB dX11_verdict_22 ?_
    obtain ⟨r2, M3m, hc_M3m, hF⟩ := clS hF
    refine w_callS hB (As := [vl (x2.toInt64), vl 0, vl ((M2m.1 335 x1.toNatClampNeg).toInt64)]) (st := []) cw_X11_156 q_1320 (c_X11_within hp hc_M3m) ⟨rfl, rfl⟩ (by decide) (by decide) rfl (Nat.le_of_ble_eq_true rfl) dX11_verdict_23 rfl ?_
    refine w_if_eq hB 42 dX11_verdict_26 (by decide) (fun hc => ?_) (fun hc => ?_)
    · replace hF := ifT hc hF
      refine w_iconst hB (-1) (by decide) dX11_verdict_42 ?_
      obtain ⟨e1, e2⟩ := retS hF
      subst e2
      exact w_iret hB dX11_verdict_43 e1
    · replace hF := ifF hc hF
      refine w_aload_n hB 0 dX11_verdict_29 rfl rfl ?_
      refine w_iload_n hB 1 dX11_verdict_30 rfl rfl ?_
      refine w_iconst hB 1 (by decide) dX11_verdict_31 ?_
      refine w_iload_n hB 2 dX11_verdict_32 rfl rfl ?_
      refine w_ishl hB dX11_verdict_33 ?_
      refine w_iconst hB 1 (by decide) dX11_verdict_34 ?_
      refine w_isub hB dX11_verdict_35 ?_
      obtain ⟨r3, M4m, hc_M4m, hF⟩ := clS hF
      refine w_callV hB (ci := 9) (As := [vi x1, vi (((1 : Int32) <<< (x2 &&& 31)) - 1)]) (st := []) cw_X11_331 q_1564 q_56 rfl sh_311 (Or.inl hp.1) (c_X11_verdictOf hp hc_M4m) ⟨rfl, rfl⟩ (by decide) (by decide) rfl (Nat.le_of_ble_eq_true rfl) dX11_verdict_36 rfl ?_
      refine w_goto hB 43 dX11_verdict_39 (by decide) ?_
      obtain ⟨e1, e2⟩ := retS hF
      subst e2
      exact w_iret hB dX11_verdict_43 e1
theorem c_X11_verdict {K : Kt} {l : Launch} (hp : St K) {r : Int32} {M1 : Mem} {x1 : Int32} {x2 : Int32} {M : Mem} (hF : f_X11_verdict x1 x2 M = some (r, M1)) : MT K l yX11_verdict cX11_verdict 3 (some .int) { frames := 4, cells := 0, slots := 0, locals := 98 } [vr 311, vi x1, vi x2] M (some (vi r)) M1 0 0 :=
  MT_of (by decide) rfl (Nat.le_of_ble_eq_true rfl) (fun X _ hB _ => b_X11_verdict hp hB hF)
def f_X11_by (x1 : Int32) (x2 : Int32) (M : Mem) : Option (Int32 × Mem) :=
  bnd (setI M 311 0 0) fun M1m =>
  cl (f_X11_isPlay x1 M1m) fun r1 M2m =>
  if r1 = 0 then
    some ((-1), M2m)
  else
    cl (f_X11_within (x2.toInt64) 0 ((((1 : Int32) <<< ((M2m.1 313 0) &&& 31)) - 1).toInt64) M2m) fun r2 M3m =>
    if r2 = 0 then
      some ((-1), M3m)
    else
      cl (f_X11_framesOf x1 x2 M3m) fun r3 M4m =>
      cl (f_X11_verdictOf x1 r3 M4m) fun r4 M5m =>
      some (r4, M5m)
set_option maxRecDepth 100000 in
set_option maxHeartbeats 4000000 in
theorem b_X11_by {K : Kt} {X : Xt} (hp : St K) (hB : Bx K X { frames := 4, cells := 0, slots := 0, locals := 98 } cX11_by 3 RX11 (some .int)) {r : Int32} {M1 : Mem} {x1 : Int32} {x2 : Int32} {M : Mem} (hF : f_X11_by x1 x2 M = some (r, M1)) : Wt K X (QM K X (some (vi r)) M1 0 0) 0 0 M 0 [(0, vr 311), (1, vi x1), (2, vi x2)] [] := by
  unfold f_X11_by at hF
  refine w_aload_n hB 0 dX11_by_0 rfl rfl ?_
  refine w_iconst hB 0 (by decide) dX11_by_1 ?_
  obtain ⟨M1m, e_M1m, hF⟩ := bndS hF
  refine w_putI hB ff_X11_0 sh_311 (Or.inl hp.1) q_1160 e_M1m dX11_by_2 ?_
  refine w_aload_n hB 0 dX11_by_5 rfl rfl ?_
  refine w_iload_n hB 1 dX11_by_6 rfl rfl ?_
  obtain ⟨r1, M2m, hc_M2m, hF⟩ := clS hF
  refine w_callV hB (ci := 9) (As := [vi x1]) (st := []) cw_X11_343 q_1552 q_55 rfl sh_311 (Or.inl hp.1) (c_X11_isPlay hp hc_M2m) ⟨rfl, rfl⟩ (by decide) (by decide) rfl (Nat.le_of_ble_eq_true rfl) dX11_by_7 rfl ?_
  refine w_if_eq hB 47 dX11_by_10 (by decide) (fun hc => ?_) (fun hc => ?_)
  · replace hF := ifT hc hF
    refine w_iconst hB (-1) (by decide) dX11_by_47 ?_
    obtain ⟨e1, e2⟩ := retS hF
    subst e2
    exact w_iret hB dX11_by_48 e1
  · replace hF := ifF hc hF
    refine w_iload_n hB 2 dX11_by_13 rfl rfl ?_
    refine w_i2l hB dX11_by_14 ?_
    refine w_lconst hB 0 (by decide) dX11_by_15 ?_
    refine w_iconst hB 1 (by decide) dX11_by_16 ?_
    refine w_aload_n hB 0 dX11_by_17 rfl rfl ?_
    refine w_getC hB (v := 313) ff_X11_11 sh_311 hp.1 cr_311_11 (by decide) q_1171 dX11_by_18 ?_
    refine w_iconst hB 0 (by decide) dX11_by_21 ?_
    refine w_iald hB sh_313 (Or.inl hp.1) sl_313 (by decide) dX11_by_22 ?_
    rw [show (0 : Int32).toNatClampNeg = 0 by decide]
    refine w_ishl hB dX11_by_23 ?_
    refine w_iconst hB 1 (by decide) dX11_by_24 ?_
    refine w_isub hB dX11_by_25 ?_
    refine w_i2l hB dX11_by_26 ?_
    obtain ⟨r2, M3m, hc_M3m, hF⟩ := clS hF
    refine w_callS hB (As := [vl (x2.toInt64), vl 0, vl ((((1 : Int32) <<< ((M2m.1 313 0) &&& 31)) - 1).toInt64)]) (st := []) cw_X11_156 q_1320 (c_X11_within hp hc_M3m) ⟨rfl, rfl⟩ (by decide) (by decide) rfl (Nat.le_of_ble_eq_true rfl) dX11_by_27 rfl ?_
    refine w_if_eq hB 47 dX11_by_30 (by decide) (fun hc => ?_) (fun hc => ?_)
    · replace hF := ifT hc hF
      refine w_iconst hB (-1) (by decide) dX11_by_47 ?_
      obtain ⟨e1, e2⟩ := retS hF
      subst e2
      exact w_iret hB dX11_by_48 e1
    · replace hF := ifF hc hF
      refine w_aload_n hB 0 dX11_by_33 rfl rfl ?_
      refine w_iload_n hB 1 dX11_by_34 rfl rfl ?_
      refine w_aload_n hB 0 dX11_by_35 rfl rfl ?_
      refine w_iload_n hB 1 dX11_by_36 rfl rfl ?_
      refine w_iload_n hB 2 dX11_by_37 rfl rfl ?_
      obtain ⟨r3, M4m, hc_M4m, hF⟩ := clS hF
      refine w_callV hB (ci := 9) (As := [vi x1, vi x2]) (st := [vi x1, vr 311]) cw_X11_346 q_1576 q_58 rfl sh_311 (Or.inl hp.1) (c_X11_framesOf hp hc_M4m) ⟨rfl, rfl⟩ (by decide) (by decide) rfl (Nat.le_of_ble_eq_true rfl) dX11_by_38 rfl ?_
      obtain ⟨r4, M5m, hc_M5m, hF⟩ := clS hF
      refine w_callV hB (ci := 9) (As := [vi x1, vi r3]) (st := []) cw_X11_331 q_1564 q_56 rfl sh_311 (Or.inl hp.1) (c_X11_verdictOf hp hc_M5m) ⟨rfl, rfl⟩ (by decide) (by decide) rfl (Nat.le_of_ble_eq_true rfl) dX11_by_41 rfl ?_
      refine w_goto hB 48 dX11_by_44 (by decide) ?_
      obtain ⟨e1, e2⟩ := retS hF
      subst e2
      exact w_iret hB dX11_by_48 e1
theorem c_X11_by {K : Kt} {l : Launch} (hp : St K) {r : Int32} {M1 : Mem} {x1 : Int32} {x2 : Int32} {M : Mem} (hF : f_X11_by x1 x2 M = some (r, M1)) : MT K l yX11_by cX11_by 3 (some .int) { frames := 4, cells := 0, slots := 0, locals := 98 } [vr 311, vi x1, vi x2] M (some (vi r)) M1 0 0 :=
  MT_of (by decide) rfl (Nat.le_of_ble_eq_true rfl) (fun X _ hB _ => b_X11_by hp hB hF)
def f_X11_gap_b104 (x4 : Int32) (xs0 : Int32) (M : Mem) : Option (Int32 × Mem) :=
  if xs0 = 100000000 then
    some (1000000, M)
  else
    if x4 = 0 then
      some (-xs0, M)
    else
      some (xs0, M)
set_option maxRecDepth 100000 in
set_option maxHeartbeats 4000000 in
theorem b_X11_gap_b104 {K : Kt} {X : Xt} (hp : St K) (hB : Bx K X { frames := 3, cells := 0, slots := 0, locals := 73 } cX11_gap 6 RX11 (some .int)) {r : Int32} {M1 : Mem} {x4 : Int32} {xs0 : Int32} {M : Mem} (hF : f_X11_gap_b104 x4 xs0 M = some (r, M1)) : Wt K X (QM K X (some (vi r)) M1 0 0) 0 0 M 104 [(4, vi x4)] [vi xs0] := by
  unfold f_X11_gap_b104 at hF
  refine w_istore hB (L' := [(5, vi xs0), (4, vi x4)]) dX11_gap_104 (by decide) rfl rfl ?_
  refine w_iload hB 0 dX11_gap_106 rfl ?_
  refine w_ldcw hB (v := 100000000) q_1521 dX11_gap_108 ?_
  refine w_icmp_ne hB 120 dX11_gap_111 (by decide) (fun hc => ?_) (fun hc => ?_)
  · replace hF := ifF hc hF
    refine w_iload hB 1 dX11_gap_120 rfl ?_
    refine w_if_eq hB 130 dX11_gap_122 (by decide) (fun hc => ?_) (fun hc => ?_)
    · replace hF := ifT hc hF
      refine w_iload hB 0 dX11_gap_130 rfl ?_
      refine w_ineg hB dX11_gap_132 ?_
      obtain ⟨e1, e2⟩ := retS hF
      subst e2
      exact w_iret hB dX11_gap_133 e1
    · replace hF := ifF hc hF
      refine w_iload hB 0 dX11_gap_125 rfl ?_
      refine w_goto hB 133 dX11_gap_127 (by decide) ?_
      obtain ⟨e1, e2⟩ := retS hF
      subst e2
      exact w_iret hB dX11_gap_133 e1
  · replace hF := ifT hc hF
    refine w_ldcw hB (v := 1000000) q_1588 dX11_gap_114 ?_
    refine w_goto hB 133 dX11_gap_117 (by decide) ?_
    obtain ⟨e1, e2⟩ := retS hF
    subst e2
    exact w_iret hB dX11_gap_133 e1
def f_X11_gap (x1 : Int32) (x2 : Int32) (x3 : Int32) (x4 : Int32) (M : Mem) : Option (Int32 × Mem) :=
  bnd (setI M 311 0 0) fun M1m =>
  cl (f_X11_isPlay x1 M1m) fun r1 M2m =>
  if r1 = 0 then
    some (3000000, M2m)
  else
    cl (f_X11_within (x2.toInt64) 0 3 M2m) fun r2 M3m =>
    if r2 = 0 then
      some (3000000, M3m)
    else
      cl (f_X11_within (x3.toInt64) 0 3 M3m) fun r3 M4m =>
      if r3 = 0 then
        some (3000000, M4m)
      else
        cl (f_X11_allFrames x1 M4m) fun r4 M5m =>
        clv (f_X11_laysFrames x1 r4 M5m) fun M6m =>
        cl (f_X11_closes M6m) fun r5 M7m =>
        if r5 = 0 then
          some (2000000, M7m)
        else
          if x4 = 0 then
            gd (inb (((10 * (6 + x3)) + 6) + x2) 100) <|
            f_X11_gap_b104 x4 (M7m.1 344 (((10 * (6 + x3)) + 6) + x2).toNatClampNeg) M7m
          else
            gd (inb (((10 * (6 + x2)) + 6) + x3) 100) <|
            f_X11_gap_b104 x4 (M7m.1 344 (((10 * (6 + x2)) + 6) + x3).toNatClampNeg) M7m
set_option maxRecDepth 100000 in
set_option maxHeartbeats 4000000 in
theorem b_X11_gap {K : Kt} {X : Xt} (hp : St K) (hB : Bx K X { frames := 3, cells := 0, slots := 0, locals := 73 } cX11_gap 6 RX11 (some .int)) {r : Int32} {M1 : Mem} {x1 : Int32} {x2 : Int32} {x3 : Int32} {x4 : Int32} {M : Mem} (hF : f_X11_gap x1 x2 x3 x4 M = some (r, M1)) : Wt K X (QM K X (some (vi r)) M1 0 0) 0 0 M 0 [(0, vr 311), (1, vi x1), (2, vi x2), (3, vi x3), (4, vi x4)] [] := by
  unfold f_X11_gap at hF
  refine w_aload_n hB 0 dX11_gap_0 rfl rfl ?_
  refine w_iconst hB 0 (by decide) dX11_gap_1 ?_
  obtain ⟨M1m, e_M1m, hF⟩ := bndS hF
  refine w_putI hB ff_X11_0 sh_311 (Or.inl hp.1) q_1160 e_M1m dX11_gap_2 ?_
  refine w_aload_n hB 0 dX11_gap_5 rfl rfl ?_
  refine w_iload_n hB 1 dX11_gap_6 rfl rfl ?_
  obtain ⟨r1, M2m, hc_M2m, hF⟩ := clS hF
  refine w_callV hB (ci := 9) (As := [vi x1]) (st := []) cw_X11_343 q_1552 q_55 rfl sh_311 (Or.inl hp.1) (c_X11_isPlay hp hc_M2m) ⟨rfl, rfl⟩ (by decide) (by decide) rfl (Nat.le_of_ble_eq_true rfl) dX11_gap_7 rfl ?_
  refine w_if_eq hB 37 dX11_gap_10 (by decide) (fun hc => ?_) (fun hc => ?_)
  · replace hF := ifT hc hF
    refine w_ldcw hB (v := 3000000) q_1582 dX11_gap_37 ?_
    obtain ⟨e1, e2⟩ := retS hF
    subst e2
    exact w_iret hB dX11_gap_40 e1
  · replace hF := ifF hc hF
    refine w_iload_n hB 2 dX11_gap_13 rfl rfl ?_
    refine w_i2l hB dX11_gap_14 ?_
    refine w_lconst hB 0 (by decide) dX11_gap_15 ?_
    refine w_ldc2 hB (v := 3) q_1516 dX11_gap_16 ?_
    obtain ⟨r2, M3m, hc_M3m, hF⟩ := clS hF
    refine w_callS hB (As := [vl (x2.toInt64), vl 0, vl 3]) (st := []) cw_X11_156 q_1320 (c_X11_within hp hc_M3m) ⟨rfl, rfl⟩ (by decide) (by decide) rfl (Nat.le_of_ble_eq_true rfl) dX11_gap_19 rfl ?_
    refine w_if_eq hB 37 dX11_gap_22 (by decide) (fun hc => ?_) (fun hc => ?_)
    · replace hF := ifT hc hF
      refine w_ldcw hB (v := 3000000) q_1582 dX11_gap_37 ?_
      obtain ⟨e1, e2⟩ := retS hF
      subst e2
      exact w_iret hB dX11_gap_40 e1
    · replace hF := ifF hc hF
      refine w_iload_n hB 3 dX11_gap_25 rfl rfl ?_
      refine w_i2l hB dX11_gap_26 ?_
      refine w_lconst hB 0 (by decide) dX11_gap_27 ?_
      refine w_ldc2 hB (v := 3) q_1516 dX11_gap_28 ?_
      obtain ⟨r3, M4m, hc_M4m, hF⟩ := clS hF
      refine w_callS hB (As := [vl (x3.toInt64), vl 0, vl 3]) (st := []) cw_X11_156 q_1320 (c_X11_within hp hc_M4m) ⟨rfl, rfl⟩ (by decide) (by decide) rfl (Nat.le_of_ble_eq_true rfl) dX11_gap_31 rfl ?_
      refine w_if_ne hB 41 dX11_gap_34 (by decide) (fun hc => ?_) (fun hc => ?_)
      · replace hF := ifF hc hF
        refine w_aload_n hB 0 dX11_gap_41 rfl rfl ?_
        refine w_iload_n hB 1 dX11_gap_42 rfl rfl ?_
        refine w_aload_n hB 0 dX11_gap_43 rfl rfl ?_
        refine w_iload_n hB 1 dX11_gap_44 rfl rfl ?_
        obtain ⟨r4, M5m, hc_M5m, hF⟩ := clS hF
        refine w_callV hB (ci := 9) (As := [vi x1]) (st := [vi x1, vr 311]) cw_X11_328 q_1585 q_59 rfl sh_311 (Or.inl hp.1) (c_X11_allFrames hp hc_M5m) ⟨rfl, rfl⟩ (by decide) (by decide) rfl (Nat.le_of_ble_eq_true rfl) dX11_gap_45 rfl ?_
        obtain ⟨M6m, hc_M6m, hF⟩ := clvS hF
        refine w_callV hB (ci := 9) (As := [vi x1, vi r4]) (st := []) cw_X11_321 q_1568 q_57 rfl sh_311 (Or.inl hp.1) (c_X11_laysFrames hp hc_M6m) ⟨rfl, rfl⟩ (by decide) (by decide) rfl (Nat.le_of_ble_eq_true rfl) dX11_gap_48 rfl ?_
        refine w_aload_n hB 0 dX11_gap_51 rfl rfl ?_
        obtain ⟨r5, M7m, hc_M7m, hF⟩ := clS hF
        refine w_callV hB (ci := 9) (As := []) (st := []) cw_X11_325 q_1528 q_52 rfl sh_311 (Or.inl hp.1) (c_X11_closes hp hc_M7m) ⟨rfl, rfl⟩ (by decide) (by decide) rfl (Nat.le_of_ble_eq_true rfl) dX11_gap_52 rfl ?_
        refine w_if_ne hB 62 dX11_gap_55 (by decide) (fun hc => ?_) (fun hc => ?_)
        · replace hF := ifF hc hF
          refine w_iload hB 4 dX11_gap_62 rfl ?_
          refine w_if_eq hB 87 dX11_gap_64 (by decide) (fun hc => ?_) (fun hc => ?_)
          · replace hF := ifT hc hF
            refine w_aload_n hB 0 dX11_gap_87 rfl rfl ?_
            refine w_getC hB (v := 344) ff_X11_43 sh_311 hp.1 cr_311_43 (by decide) q_1203 dX11_gap_88 ?_
            refine w_bipush hB 10 (by decide) dX11_gap_91 ?_
            refine w_bipush hB 6 (by decide) dX11_gap_93 ?_
            refine w_iload_n hB 3 dX11_gap_95 rfl rfl ?_
            refine w_iadd hB dX11_gap_96 ?_
            refine w_imul hB dX11_gap_97 ?_
            refine w_bipush hB 6 (by decide) dX11_gap_98 ?_
            refine w_iadd hB dX11_gap_100 ?_
            refine w_iload_n hB 2 dX11_gap_101 rfl rfl ?_
            refine w_iadd hB dX11_gap_102 ?_
            obtain ⟨g1, hF⟩ := gdS hF
            refine w_iald hB sh_344 (Or.inl hp.1) sl_344 g1 dX11_gap_103 ?_
            exact Wt.sub (L' := [(4, vi x4)]) [4] rfl (b_X11_gap_b104 hp hB hF)
          · replace hF := ifF hc hF
            refine w_aload_n hB 0 dX11_gap_67 rfl rfl ?_
            refine w_getC hB (v := 344) ff_X11_43 sh_311 hp.1 cr_311_43 (by decide) q_1203 dX11_gap_68 ?_
            refine w_bipush hB 10 (by decide) dX11_gap_71 ?_
            refine w_bipush hB 6 (by decide) dX11_gap_73 ?_
            refine w_iload_n hB 2 dX11_gap_75 rfl rfl ?_
            refine w_iadd hB dX11_gap_76 ?_
            refine w_imul hB dX11_gap_77 ?_
            refine w_bipush hB 6 (by decide) dX11_gap_78 ?_
            refine w_iadd hB dX11_gap_80 ?_
            refine w_iload_n hB 3 dX11_gap_81 rfl rfl ?_
            refine w_iadd hB dX11_gap_82 ?_
            obtain ⟨g2, hF⟩ := gdS hF
            refine w_iald hB sh_344 (Or.inl hp.1) sl_344 g2 dX11_gap_83 ?_
            refine w_goto hB 104 dX11_gap_84 (by decide) ?_
            exact Wt.sub (L' := [(4, vi x4)]) [4] rfl (b_X11_gap_b104 hp hB hF)
        · replace hF := ifT hc hF
          refine w_ldcw hB (v := 2000000) q_1587 dX11_gap_58 ?_
          obtain ⟨e1, e2⟩ := retS hF
          subst e2
          exact w_iret hB dX11_gap_61 e1
      · replace hF := ifT hc hF
        refine w_ldcw hB (v := 3000000) q_1582 dX11_gap_37 ?_
        obtain ⟨e1, e2⟩ := retS hF
        subst e2
        exact w_iret hB dX11_gap_40 e1
theorem c_X11_gap {K : Kt} {l : Launch} (hp : St K) {r : Int32} {M1 : Mem} {x1 : Int32} {x2 : Int32} {x3 : Int32} {x4 : Int32} {M : Mem} (hF : f_X11_gap x1 x2 x3 x4 M = some (r, M1)) : MT K l yX11_gap cX11_gap 6 (some .int) { frames := 3, cells := 0, slots := 0, locals := 73 } [vr 311, vi x1, vi x2, vi x3, vi x4] M (some (vi r)) M1 0 0 :=
  MT_of (by decide) rfl (Nat.le_of_ble_eq_true rfl) (fun X _ hB _ => b_X11_gap hp hB hF)
def f_X11_isSure (x0 : Int32) (M : Mem) : Option (Int32 × Mem) :=
  if x0 = 0 then
    some (1, M)
  else
    if x0 = 1 then
      some (1, M)
    else
      some (0, M)
set_option maxRecDepth 100000 in
set_option maxHeartbeats 4000000 in
theorem b_X11_isSure {K : Kt} {X : Xt} (hp : St K) (hB : Bx K X { frames := 0, cells := 0, slots := 0, locals := 0 } cX11_isSure 1 RX11 (some .boolean)) {r : Int32} {M1 : Mem} {x0 : Int32} {M : Mem} (hF : f_X11_isSure x0 M = some (r, M1)) : Wt K X (QM K X (some (vi r)) M1 0 0) 0 0 M 0 [(0, vi x0)] [] := by
  unfold f_X11_isSure at hF
  refine w_iload_n hB 0 dX11_isSure_0 rfl rfl ?_
  refine w_if_eq hB 9 dX11_isSure_1 (by decide) (fun hc => ?_) (fun hc => ?_)
  · replace hF := ifT hc hF
    refine w_iconst hB 1 (by decide) dX11_isSure_9 ?_
    refine w_goto hB 14 dX11_isSure_10 (by decide) ?_
    obtain ⟨e1, e2⟩ := retS hF
    subst e2
    exact w_zret hB (by decide) dX11_isSure_14 e1
  · replace hF := ifF hc hF
    refine w_iload_n hB 0 dX11_isSure_4 rfl rfl ?_
    refine w_iconst hB 1 (by decide) dX11_isSure_5 ?_
    refine w_icmp_ne hB 13 dX11_isSure_6 (by decide) (fun hc => ?_) (fun hc => ?_)
    · replace hF := ifF hc hF
      refine w_iconst hB 0 (by decide) dX11_isSure_13 ?_
      obtain ⟨e1, e2⟩ := retS hF
      subst e2
      exact w_zret hB (by decide) dX11_isSure_14 e1
    · replace hF := ifT hc hF
      refine w_iconst hB 1 (by decide) dX11_isSure_9 ?_
      refine w_goto hB 14 dX11_isSure_10 (by decide) ?_
      obtain ⟨e1, e2⟩ := retS hF
      subst e2
      exact w_zret hB (by decide) dX11_isSure_14 e1
theorem c_X11_isSure {K : Kt} {l : Launch} (hp : St K) {r : Int32} {M1 : Mem} {x0 : Int32} {M : Mem} (hF : f_X11_isSure x0 M = some (r, M1)) : MT K l yX11_isSure cX11_isSure 1 (some .boolean) { frames := 0, cells := 0, slots := 0, locals := 0 } [vi x0] M (some (vi r)) M1 0 0 :=
  MT_of (by decide) rfl (Nat.le_of_ble_eq_true rfl) (fun X _ hB _ => b_X11_isSure hp hB hF)
def f_X11_isFewer (x0 : Int32) (x1 : Int32) (M : Mem) : Option (Int32 × Mem) :=
  if x1 = (-1) then
    some (1, M)
  else
    cl (f_X11_bits x0 M) fun r1 M1m =>
    cl (f_X11_bits x1 M1m) fun r2 M2m =>
    if r2 ≤ r1 then
      some (0, M2m)
    else
      some (1, M2m)
set_option maxRecDepth 100000 in
set_option maxHeartbeats 4000000 in
theorem b_X11_isFewer {K : Kt} {X : Xt} (hp : St K) (hB : Bx K X { frames := 1, cells := 0, slots := 0, locals := 22 } cX11_isFewer 2 RX11 (some .boolean)) {r : Int32} {M1 : Mem} {x0 : Int32} {x1 : Int32} {M : Mem} (hF : f_X11_isFewer x0 x1 M = some (r, M1)) : Wt K X (QM K X (some (vi r)) M1 0 0) 0 0 M 0 [(0, vi x0), (1, vi x1)] [] := by
  unfold f_X11_isFewer at hF
  refine w_iload_n hB 1 dX11_isFewer_0 rfl rfl ?_
  refine w_iconst hB (-1) (by decide) dX11_isFewer_1 ?_
  refine w_icmp_eq hB 16 dX11_isFewer_2 (by decide) (fun hc => ?_) (fun hc => ?_)
  · replace hF := ifT hc hF
    refine w_iconst hB 1 (by decide) dX11_isFewer_16 ?_
    refine w_goto hB 21 dX11_isFewer_17 (by decide) ?_
    obtain ⟨e1, e2⟩ := retS hF
    subst e2
    exact w_zret hB (by decide) dX11_isFewer_21 e1
  · replace hF := ifF hc hF
    refine w_iload_n hB 0 dX11_isFewer_5 rfl rfl ?_
    obtain ⟨r1, M1m, hc_M1m, hF⟩ := clS hF
    refine w_callS hB (As := [vi x0]) (st := []) cw_X11_352 q_1604 (c_X11_bits hp hc_M1m) ⟨rfl, rfl⟩ (by decide) (by decide) rfl (Nat.le_of_ble_eq_true rfl) dX11_isFewer_6 rfl ?_
    refine w_iload_n hB 1 dX11_isFewer_9 rfl rfl ?_
    obtain ⟨r2, M2m, hc_M2m, hF⟩ := clS hF
    refine w_callS hB (As := [vi x1]) (st := [vi r1]) cw_X11_352 q_1604 (c_X11_bits hp hc_M2m) ⟨rfl, rfl⟩ (by decide) (by decide) rfl (Nat.le_of_ble_eq_true rfl) dX11_isFewer_10 rfl ?_
    refine w_icmp_ge hB 20 dX11_isFewer_13 (by decide) (fun hc => ?_) (fun hc => ?_)
    · replace hF := ifT hc hF
      refine w_iconst hB 0 (by decide) dX11_isFewer_20 ?_
      obtain ⟨e1, e2⟩ := retS hF
      subst e2
      exact w_zret hB (by decide) dX11_isFewer_21 e1
    · replace hF := ifF hc hF
      refine w_iconst hB 1 (by decide) dX11_isFewer_16 ?_
      refine w_goto hB 21 dX11_isFewer_17 (by decide) ?_
      obtain ⟨e1, e2⟩ := retS hF
      subst e2
      exact w_zret hB (by decide) dX11_isFewer_21 e1
theorem c_X11_isFewer {K : Kt} {l : Launch} (hp : St K) {r : Int32} {M1 : Mem} {x0 : Int32} {x1 : Int32} {M : Mem} (hF : f_X11_isFewer x0 x1 M = some (r, M1)) : MT K l yX11_isFewer cX11_isFewer 2 (some .boolean) { frames := 1, cells := 0, slots := 0, locals := 22 } [vi x0, vi x1] M (some (vi r)) M1 0 0 :=
  MT_of (by decide) rfl (Nat.le_of_ble_eq_true rfl) (fun X _ hB _ => b_X11_isFewer hp hB hF)
def f_X11_fewest_b36_s (rec36 : Int32 → Int32 → Int32 → Int32 → Mem → Option (Int32 × Mem)) (x1 : Int32) (x2 : Int32) (x3 : Int32) (x4 : Int32) (M : Mem) : Option (Int32 × Mem) :=
  cl (f_X11_allFrames x1 M) fun r1 M1m =>
  if r1 < x4 then
    some (x3, M1m)
  else
    cl (f_X11_isFewer x4 x3 M1m) fun r2 M2m =>
    if r2 = 0 then
      bnd (x4 + 1) fun a1 =>
      rec36 x1 x2 x3 a1 M2m
    else
      cl (f_X11_verdictOf x1 x4 M2m) fun r3 M3m =>
      if r3 = x2 then
        bnd (x4 + 1) fun a2 =>
        rec36 x1 x2 x4 a2 M3m
      else
        bnd (x4 + 1) fun a3 =>
        rec36 x1 x2 x3 a3 M3m
set_option maxRecDepth 100000 in
set_option maxHeartbeats 4000000 in
theorem b_X11_fewest_b36_s {K : Kt} {X : Xt} (hp : St K) (hB : Bx K X { frames := 5, cells := 0, slots := 0, locals := 119 } cX11_fewest 5 RX11 (some .int)) {r : Int32} {M1 : Mem} {rec36 : Int32 → Int32 → Int32 → Int32 → Mem → Option (Int32 × Mem)}
    (h36 : ∀ x1 x2 x3 x4 M, rec36 x1 x2 x3 x4 M = some (r, M1) → Wt K X (QM K X (some (vi r)) M1 0 0) 0 0 M 36 [(0, vr 311), (1, vi x1), (2, vi x2), (3, vi x3), (4, vi x4)] []) {x1 : Int32} {x2 : Int32} {x3 : Int32} {x4 : Int32} {M : Mem} (hF : f_X11_fewest_b36_s rec36 x1 x2 x3 x4 M = some (r, M1)) : Wt K X (QM K X (some (vi r)) M1 0 0) 0 0 M 36 [(0, vr 311), (1, vi x1), (2, vi x2), (3, vi x3), (4, vi x4)] [] := by
  unfold f_X11_fewest_b36_s at hF
  refine w_iload hB 4 dX11_fewest_36 rfl ?_
  refine w_aload_n hB 0 dX11_fewest_38 rfl rfl ?_
  refine w_iload_n hB 1 dX11_fewest_39 rfl rfl ?_
  obtain ⟨r1, M1m, hc_M1m, hF⟩ := clS hF
  refine w_callV hB (ci := 9) (As := [vi x1]) (st := [vi x4]) cw_X11_328 q_1585 q_59 rfl sh_311 (Or.inl hp.1) (c_X11_allFrames hp hc_M1m) ⟨rfl, rfl⟩ (by decide) (by decide) rfl (Nat.le_of_ble_eq_true rfl) dX11_fewest_40 rfl ?_
  refine w_icmp_gt hB 75 dX11_fewest_43 (by decide) (fun hc => ?_) (fun hc => ?_)
  · replace hF := ifT hc hF
    refine w_iload_n hB 3 dX11_fewest_75 rfl rfl ?_
    obtain ⟨e1, e2⟩ := retS hF
    subst e2
    exact w_iret hB dX11_fewest_76 e1
  · replace hF := ifF hc hF
    refine w_iload hB 4 dX11_fewest_46 rfl ?_
    refine w_iload_n hB 3 dX11_fewest_48 rfl rfl ?_
    obtain ⟨r2, M2m, hc_M2m, hF⟩ := clS hF
    refine w_callS hB (As := [vi x4, vi x3]) (st := []) cw_X11_361 q_1601 (c_X11_isFewer hp hc_M2m) ⟨rfl, rfl⟩ (by decide) (by decide) rfl (Nat.le_of_ble_eq_true rfl) dX11_fewest_49 rfl ?_
    refine w_if_eq hB 69 dX11_fewest_52 (by decide) (fun hc => ?_) (fun hc => ?_)
    · replace hF := ifT hc hF
      obtain ⟨a1, e_a1, hF⟩ := bndS hF
      refine w_iinc hB 4 (v := 1) (L' := [(4, vi a1), (0, vr 311), (1, vi x1), (2, vi x2), (3, vi x3)]) dX11_fewest_69 rfl (by decide) (by decide) e_a1 rfl ?_
      refine w_goto hB 36 dX11_fewest_72 (by decide) ?_
      exact Wt.sub (L' := [(0, vr 311), (1, vi x1), (2, vi x2), (3, vi x3), (4, vi a1)]) [1, 2, 3, 4, 0] rfl (h36 _ _ _ _ M2m hF)
    · replace hF := ifF hc hF
      refine w_aload_n hB 0 dX11_fewest_55 rfl rfl ?_
      refine w_iload_n hB 1 dX11_fewest_56 rfl rfl ?_
      refine w_iload hB 4 dX11_fewest_57 rfl ?_
      obtain ⟨r3, M3m, hc_M3m, hF⟩ := clS hF
      refine w_callV hB (ci := 9) (As := [vi x1, vi x4]) (st := []) cw_X11_331 q_1564 q_56 rfl sh_311 (Or.inl hp.1) (c_X11_verdictOf hp hc_M3m) ⟨rfl, rfl⟩ (by decide) (by decide) rfl (Nat.le_of_ble_eq_true rfl) dX11_fewest_59 rfl ?_
      refine w_iload_n hB 2 dX11_fewest_62 rfl rfl ?_
      refine w_icmp_ne hB 69 dX11_fewest_63 (by decide) (fun hc => ?_) (fun hc => ?_)
      · replace hF := ifF hc hF
        obtain ⟨a3, e_a3, hF⟩ := bndS hF
        refine w_iinc hB 4 (v := 1) (L' := [(4, vi a3), (0, vr 311), (1, vi x1), (2, vi x2), (3, vi x3)]) dX11_fewest_69 rfl (by decide) (by decide) e_a3 rfl ?_
        refine w_goto hB 36 dX11_fewest_72 (by decide) ?_
        exact Wt.sub (L' := [(0, vr 311), (1, vi x1), (2, vi x2), (3, vi x3), (4, vi a3)]) [1, 2, 3, 4, 0] rfl (h36 _ _ _ _ M3m hF)
      · replace hF := ifT hc hF
        refine w_iload hB 4 dX11_fewest_66 rfl ?_
        refine w_istore_n hB (L' := [(3, vi x4), (0, vr 311), (1, vi x1), (2, vi x2), (4, vi x4)]) dX11_fewest_68 rfl (by decide) rfl rfl ?_
        obtain ⟨a2, e_a2, hF⟩ := bndS hF
        refine w_iinc hB 4 (v := 1) (L' := [(4, vi a2), (3, vi x4), (0, vr 311), (1, vi x1), (2, vi x2)]) dX11_fewest_69 rfl (by decide) (by decide) e_a2 rfl ?_
        refine w_goto hB 36 dX11_fewest_72 (by decide) ?_
        exact Wt.sub (L' := [(0, vr 311), (1, vi x1), (2, vi x2), (3, vi x4), (4, vi a2)]) [2, 3, 4, 1, 0] rfl (h36 _ _ _ _ M3m hF)
def f_X11_fewest_b36 (k : Nat) : Int32 → Int32 → Int32 → Int32 → Mem → Option (Int32 × Mem) := lpN (fun _ _ _ _ _ => none) (f_X11_fewest_b36_s) k
theorem b_X11_fewest_b36 {K : Kt} {X : Xt} (hp : St K) (hB : Bx K X { frames := 5, cells := 0, slots := 0, locals := 119 } cX11_fewest 5 RX11 (some .int)) {r : Int32} {M1 : Mem} (k : Nat) : ∀ (x1 : Int32) (x2 : Int32) (x3 : Int32) (x4 : Int32) M, f_X11_fewest_b36 k x1 x2 x3 x4 M = some (r, M1) → Wt K X (QM K X (some (vi r)) M1 0 0) 0 0 M 36 [(0, vr 311), (1, vi x1), (2, vi x2), (3, vi x3), (4, vi x4)] [] := by
  refine lpN_ind (P := fun (f : Int32 → Int32 → Int32 → Int32 → Mem → Option (Int32 × Mem)) => ∀ (x1 : Int32) (x2 : Int32) (x3 : Int32) (x4 : Int32) M, f x1 x2 x3 x4 M = some (r, M1) → Wt K X (QM K X (some (vi r)) M1 0 0) 0 0 M 36 [(0, vr 311), (1, vi x1), (2, vi x2), (3, vi x3), (4, vi x4)] []) (fun _ _ _ _ _ h => by cases h) (fun f hf x1 x2 x3 x4 M hF => ?_) k
  exact b_X11_fewest_b36_s hp hB hf hF
def f_X11_fewest (x1 : Int32) (M : Mem) : Option (Int32 × Mem) :=
  bnd (setI M 311 0 0) fun M1m =>
  cl (f_X11_isPlay x1 M1m) fun r1 M2m =>
  if r1 = 0 then
    some ((-1), M2m)
  else
    cl (f_X11_byAll x1 M2m) fun r2 M3m =>
    cl (f_X11_isSure r2 M3m) fun r3 M4m =>
    if r3 = 0 then
      some ((-2), M4m)
    else
      f_X11_fewest_b36 fuel x1 r2 (-1) 0 M4m
set_option maxRecDepth 100000 in
set_option maxHeartbeats 4000000 in
theorem b_X11_fewest {K : Kt} {X : Xt} (hp : St K) (hB : Bx K X { frames := 5, cells := 0, slots := 0, locals := 119 } cX11_fewest 5 RX11 (some .int)) {r : Int32} {M1 : Mem} {x1 : Int32} {M : Mem} (hF : f_X11_fewest x1 M = some (r, M1)) : Wt K X (QM K X (some (vi r)) M1 0 0) 0 0 M 0 [(0, vr 311), (1, vi x1)] [] := by
  unfold f_X11_fewest at hF
  refine w_aload_n hB 0 dX11_fewest_0 rfl rfl ?_
  refine w_iconst hB 0 (by decide) dX11_fewest_1 ?_
  obtain ⟨M1m, e_M1m, hF⟩ := bndS hF
  refine w_putI hB ff_X11_0 sh_311 (Or.inl hp.1) q_1160 e_M1m dX11_fewest_2 ?_
  refine w_aload_n hB 0 dX11_fewest_5 rfl rfl ?_
  refine w_iload_n hB 1 dX11_fewest_6 rfl rfl ?_
  obtain ⟨r1, M2m, hc_M2m, hF⟩ := clS hF
  refine w_callV hB (ci := 9) (As := [vi x1]) (st := []) cw_X11_343 q_1552 q_55 rfl sh_311 (Or.inl hp.1) (c_X11_isPlay hp hc_M2m) ⟨rfl, rfl⟩ (by decide) (by decide) rfl (Nat.le_of_ble_eq_true rfl) dX11_fewest_7 rfl ?_
  refine w_if_ne hB 15 dX11_fewest_10 (by decide) (fun hc => ?_) (fun hc => ?_)
  · replace hF := ifF hc hF
    refine w_aload_n hB 0 dX11_fewest_15 rfl rfl ?_
    refine w_iload_n hB 1 dX11_fewest_16 rfl rfl ?_
    obtain ⟨r2, M3m, hc_M3m, hF⟩ := clS hF
    refine w_callV hB (ci := 9) (As := [vi x1]) (st := []) cw_X11_355 q_1595 q_60 rfl sh_311 (Or.inl hp.1) (c_X11_byAll hp hc_M3m) ⟨rfl, rfl⟩ (by decide) (by decide) rfl (Nat.le_of_ble_eq_true rfl) dX11_fewest_17 rfl ?_
    refine w_istore_n hB (L' := [(2, vi r2), (0, vr 311), (1, vi x1)]) dX11_fewest_20 rfl (by decide) rfl rfl ?_
    refine w_iload_n hB 0 dX11_fewest_21 rfl rfl ?_
    obtain ⟨r3, M4m, hc_M4m, hF⟩ := clS hF
    refine w_callS hB (As := [vi r2]) (st := []) cw_X11_358 q_1598 (c_X11_isSure hp hc_M4m) ⟨rfl, rfl⟩ (by decide) (by decide) rfl (Nat.le_of_ble_eq_true rfl) dX11_fewest_22 rfl ?_
    refine w_if_ne hB 31 dX11_fewest_25 (by decide) (fun hc => ?_) (fun hc => ?_)
    · replace hF := ifF hc hF
      refine w_iconst hB (-1) (by decide) dX11_fewest_31 ?_
      refine w_istore_n hB (L' := [(3, vi (-1)), (2, vi r2), (0, vr 311), (1, vi x1)]) dX11_fewest_32 rfl (by decide) rfl rfl ?_
      refine w_iconst hB 0 (by decide) dX11_fewest_33 ?_
      refine w_istore hB (L' := [(4, vi 0), (3, vi (-1)), (2, vi r2), (0, vr 311), (1, vi x1)]) dX11_fewest_34 (by decide) rfl rfl ?_
      exact Wt.sub (L' := [(0, vr 311), (1, vi x1), (2, vi r2), (3, vi (-1)), (4, vi 0)]) [3, 4, 2, 1, 0] rfl (b_X11_fewest_b36 hp hB fuel _ _ _ _ M4m hF)
    · replace hF := ifT hc hF
      refine w_bipush hB (-2) (by decide) dX11_fewest_28 ?_
      obtain ⟨e1, e2⟩ := retS hF
      subst e2
      exact w_iret hB dX11_fewest_30 e1
  · replace hF := ifT hc hF
    refine w_iconst hB (-1) (by decide) dX11_fewest_13 ?_
    obtain ⟨e1, e2⟩ := retS hF
    subst e2
    exact w_iret hB dX11_fewest_14 e1
theorem c_X11_fewest {K : Kt} {l : Launch} (hp : St K) {r : Int32} {M1 : Mem} {x1 : Int32} {M : Mem} (hF : f_X11_fewest x1 M = some (r, M1)) : MT K l yX11_fewest cX11_fewest 5 (some .int) { frames := 5, cells := 0, slots := 0, locals := 119 } [vr 311, vi x1] M (some (vi r)) M1 0 0 :=
  MT_of (by decide) rfl (Nat.le_of_ble_eq_true rfl) (fun X _ hB _ => b_X11_fewest hp hB hF)
def f_X11_key_b33_s (rec33 : Int32 → Int32 → Int32 → Mem → Option (Int32 × Mem)) (x1 : Int32) (x2 : Int32) (x3 : Int32) (M : Mem) : Option (Int32 × Mem) :=
  gd (inb x1 16) <|
  if (M.1 335 x1.toNatClampNeg) ≤ x3 then
    some (x2, M)
  else
    cl (f_X11_allFrames x1 M) fun r1 M1m =>
    cl (f_X11_verdictOf x1 (r1 &&& (((1 : Int32) <<< (x3 &&& 31)) ^^^ (-1))) M1m) fun r2 M2m =>
    if r2 = 2 then
      bnd (x2 ||| ((1 : Int32) <<< (x3 &&& 31))) fun a1 =>
      bnd (x3 + 1) fun a2 =>
      rec33 x1 a1 a2 M2m
    else
      bnd (x2 ||| 0) fun a3 =>
      bnd (x3 + 1) fun a4 =>
      rec33 x1 a3 a4 M2m
set_option maxRecDepth 100000 in
set_option maxHeartbeats 4000000 in
theorem b_X11_key_b33_s {K : Kt} {X : Xt} (hp : St K) (hB : Bx K X { frames := 5, cells := 0, slots := 0, locals := 119 } cX11_key 4 RX11 (some .int)) {r : Int32} {M1 : Mem} {rec33 : Int32 → Int32 → Int32 → Mem → Option (Int32 × Mem)}
    (h33 : ∀ x1 x2 x3 M, rec33 x1 x2 x3 M = some (r, M1) → Wt K X (QM K X (some (vi r)) M1 0 0) 0 0 M 33 [(0, vr 311), (1, vi x1), (2, vi x2), (3, vi x3)] []) {x1 : Int32} {x2 : Int32} {x3 : Int32} {M : Mem} (hF : f_X11_key_b33_s rec33 x1 x2 x3 M = some (r, M1)) : Wt K X (QM K X (some (vi r)) M1 0 0) 0 0 M 33 [(0, vr 311), (1, vi x1), (2, vi x2), (3, vi x3)] [] := by
  unfold f_X11_key_b33_s at hF
  refine w_iload_n hB 3 dX11_key_33 rfl rfl ?_
  refine w_aload_n hB 0 dX11_key_34 rfl rfl ?_
  refine w_getC hB (v := 335) ff_X11_33 sh_311 hp.1 cr_311_33 (by decide) q_1193 dX11_key_35 ?_
  refine w_iload_n hB 1 dX11_key_38 rfl rfl ?_
  obtain ⟨g1, hF⟩ := gdS hF
  refine w_iald hB sh_335 (Or.inl hp.1) sl_335 g1 dX11_key_39 ?_
  refine w_icmp_ge hB 79 dX11_key_40 (by decide) (fun hc => ?_) (fun hc => ?_)
  · replace hF := ifT hc hF
    refine w_iload_n hB 2 dX11_key_79 rfl rfl ?_
    obtain ⟨e1, e2⟩ := retS hF
    subst e2
    exact w_iret hB dX11_key_80 e1
  · replace hF := ifF hc hF
    refine w_iload_n hB 2 dX11_key_43 rfl rfl ?_
    refine w_aload_n hB 0 dX11_key_44 rfl rfl ?_
    refine w_iload_n hB 1 dX11_key_45 rfl rfl ?_
    refine w_aload_n hB 0 dX11_key_46 rfl rfl ?_
    refine w_iload_n hB 1 dX11_key_47 rfl rfl ?_
    obtain ⟨r1, M1m, hc_M1m, hF⟩ := clS hF
    refine w_callV hB (ci := 9) (As := [vi x1]) (st := [vi x1, vr 311, vi x2]) cw_X11_328 q_1585 q_59 rfl sh_311 (Or.inl hp.1) (c_X11_allFrames hp hc_M1m) ⟨rfl, rfl⟩ (by decide) (by decide) rfl (Nat.le_of_ble_eq_true rfl) dX11_key_48 rfl ?_
    refine w_iconst hB 1 (by decide) dX11_key_51 ?_
    refine w_iload_n hB 3 dX11_key_52 rfl rfl ?_
    refine w_ishl hB dX11_key_53 ?_
    refine w_iconst hB (-1) (by decide) dX11_key_54 ?_
    refine w_ixor hB dX11_key_55 ?_
    refine w_iand hB dX11_key_56 ?_
    obtain ⟨r2, M2m, hc_M2m, hF⟩ := clS hF
    refine w_callV hB (ci := 9) (As := [vi x1, vi (r1 &&& (((1 : Int32) <<< (x3 &&& 31)) ^^^ (-1)))]) (st := [vi x2]) cw_X11_331 q_1564 q_56 rfl sh_311 (Or.inl hp.1) (c_X11_verdictOf hp hc_M2m) ⟨rfl, rfl⟩ (by decide) (by decide) rfl (Nat.le_of_ble_eq_true rfl) dX11_key_57 rfl ?_
    refine w_iconst hB 2 (by decide) dX11_key_60 ?_
    refine w_icmp_ne hB 70 dX11_key_61 (by decide) (fun hc => ?_) (fun hc => ?_)
    · replace hF := ifF hc hF
      refine w_iconst hB 0 (by decide) dX11_key_70 ?_
      refine w_ior hB dX11_key_71 ?_
      obtain ⟨a3, e_a3, hF⟩ := bndS hF
      refine w_istore_n hB (L' := [(2, vi a3), (0, vr 311), (1, vi x1), (3, vi x3)]) dX11_key_72 rfl (by decide) e_a3 rfl ?_
      obtain ⟨a4, e_a4, hF⟩ := bndS hF
      refine w_iinc hB 3 (v := 1) (L' := [(3, vi a4), (2, vi a3), (0, vr 311), (1, vi x1)]) dX11_key_73 rfl (by decide) (by decide) e_a4 rfl ?_
      refine w_goto hB 33 dX11_key_76 (by decide) ?_
      exact Wt.sub (L' := [(0, vr 311), (1, vi x1), (2, vi a3), (3, vi a4)]) [2, 3, 1, 0] rfl (h33 _ _ _ M2m hF)
    · replace hF := ifT hc hF
      refine w_iconst hB 1 (by decide) dX11_key_64 ?_
      refine w_iload_n hB 3 dX11_key_65 rfl rfl ?_
      refine w_ishl hB dX11_key_66 ?_
      refine w_goto hB 71 dX11_key_67 (by decide) ?_
      refine w_ior hB dX11_key_71 ?_
      obtain ⟨a1, e_a1, hF⟩ := bndS hF
      refine w_istore_n hB (L' := [(2, vi a1), (0, vr 311), (1, vi x1), (3, vi x3)]) dX11_key_72 rfl (by decide) e_a1 rfl ?_
      obtain ⟨a2, e_a2, hF⟩ := bndS hF
      refine w_iinc hB 3 (v := 1) (L' := [(3, vi a2), (2, vi a1), (0, vr 311), (1, vi x1)]) dX11_key_73 rfl (by decide) (by decide) e_a2 rfl ?_
      refine w_goto hB 33 dX11_key_76 (by decide) ?_
      exact Wt.sub (L' := [(0, vr 311), (1, vi x1), (2, vi a1), (3, vi a2)]) [2, 3, 1, 0] rfl (h33 _ _ _ M2m hF)
def f_X11_key_b33 (k : Nat) : Int32 → Int32 → Int32 → Mem → Option (Int32 × Mem) := lpN (fun _ _ _ _ => none) (f_X11_key_b33_s) k
theorem b_X11_key_b33 {K : Kt} {X : Xt} (hp : St K) (hB : Bx K X { frames := 5, cells := 0, slots := 0, locals := 119 } cX11_key 4 RX11 (some .int)) {r : Int32} {M1 : Mem} (k : Nat) : ∀ (x1 : Int32) (x2 : Int32) (x3 : Int32) M, f_X11_key_b33 k x1 x2 x3 M = some (r, M1) → Wt K X (QM K X (some (vi r)) M1 0 0) 0 0 M 33 [(0, vr 311), (1, vi x1), (2, vi x2), (3, vi x3)] [] := by
  refine lpN_ind (P := fun (f : Int32 → Int32 → Int32 → Mem → Option (Int32 × Mem)) => ∀ (x1 : Int32) (x2 : Int32) (x3 : Int32) M, f x1 x2 x3 M = some (r, M1) → Wt K X (QM K X (some (vi r)) M1 0 0) 0 0 M 33 [(0, vr 311), (1, vi x1), (2, vi x2), (3, vi x3)] []) (fun _ _ _ _ h => by cases h) (fun f hf x1 x2 x3 M hF => ?_) k
  exact b_X11_key_b33_s hp hB hf hF
def f_X11_key (x1 : Int32) (M : Mem) : Option (Int32 × Mem) :=
  bnd (setI M 311 0 0) fun M1m =>
  cl (f_X11_isPlay x1 M1m) fun r1 M2m =>
  if r1 = 0 then
    some ((-1), M2m)
  else
    cl (f_X11_byAll x1 M2m) fun r2 M3m =>
    cl (f_X11_isSure r2 M3m) fun r3 M4m =>
    if r3 = 0 then
      some ((-2), M4m)
    else
      f_X11_key_b33 fuel x1 0 0 M4m
set_option maxRecDepth 100000 in
set_option maxHeartbeats 4000000 in
theorem b_X11_key {K : Kt} {X : Xt} (hp : St K) (hB : Bx K X { frames := 5, cells := 0, slots := 0, locals := 119 } cX11_key 4 RX11 (some .int)) {r : Int32} {M1 : Mem} {x1 : Int32} {M : Mem} (hF : f_X11_key x1 M = some (r, M1)) : Wt K X (QM K X (some (vi r)) M1 0 0) 0 0 M 0 [(0, vr 311), (1, vi x1)] [] := by
  unfold f_X11_key at hF
  refine w_aload_n hB 0 dX11_key_0 rfl rfl ?_
  refine w_iconst hB 0 (by decide) dX11_key_1 ?_
  obtain ⟨M1m, e_M1m, hF⟩ := bndS hF
  refine w_putI hB ff_X11_0 sh_311 (Or.inl hp.1) q_1160 e_M1m dX11_key_2 ?_
  refine w_aload_n hB 0 dX11_key_5 rfl rfl ?_
  refine w_iload_n hB 1 dX11_key_6 rfl rfl ?_
  obtain ⟨r1, M2m, hc_M2m, hF⟩ := clS hF
  refine w_callV hB (ci := 9) (As := [vi x1]) (st := []) cw_X11_343 q_1552 q_55 rfl sh_311 (Or.inl hp.1) (c_X11_isPlay hp hc_M2m) ⟨rfl, rfl⟩ (by decide) (by decide) rfl (Nat.le_of_ble_eq_true rfl) dX11_key_7 rfl ?_
  refine w_if_ne hB 15 dX11_key_10 (by decide) (fun hc => ?_) (fun hc => ?_)
  · replace hF := ifF hc hF
    refine w_aload_n hB 0 dX11_key_15 rfl rfl ?_
    refine w_iload_n hB 1 dX11_key_16 rfl rfl ?_
    obtain ⟨r2, M3m, hc_M3m, hF⟩ := clS hF
    refine w_callV hB (ci := 9) (As := [vi x1]) (st := []) cw_X11_355 q_1595 q_60 rfl sh_311 (Or.inl hp.1) (c_X11_byAll hp hc_M3m) ⟨rfl, rfl⟩ (by decide) (by decide) rfl (Nat.le_of_ble_eq_true rfl) dX11_key_17 rfl ?_
    obtain ⟨r3, M4m, hc_M4m, hF⟩ := clS hF
    refine w_callS hB (As := [vi r2]) (st := []) cw_X11_358 q_1598 (c_X11_isSure hp hc_M4m) ⟨rfl, rfl⟩ (by decide) (by decide) rfl (Nat.le_of_ble_eq_true rfl) dX11_key_20 rfl ?_
    refine w_if_ne hB 29 dX11_key_23 (by decide) (fun hc => ?_) (fun hc => ?_)
    · replace hF := ifF hc hF
      refine w_iconst hB 0 (by decide) dX11_key_29 ?_
      refine w_istore_n hB (L' := [(2, vi 0), (0, vr 311), (1, vi x1)]) dX11_key_30 rfl (by decide) rfl rfl ?_
      refine w_iconst hB 0 (by decide) dX11_key_31 ?_
      refine w_istore_n hB (L' := [(3, vi 0), (2, vi 0), (0, vr 311), (1, vi x1)]) dX11_key_32 rfl (by decide) rfl rfl ?_
      exact Wt.sub (L' := [(0, vr 311), (1, vi x1), (2, vi 0), (3, vi 0)]) [2, 3, 1, 0] rfl (b_X11_key_b33 hp hB fuel _ _ _ M4m hF)
    · replace hF := ifT hc hF
      refine w_bipush hB (-2) (by decide) dX11_key_26 ?_
      obtain ⟨e1, e2⟩ := retS hF
      subst e2
      exact w_iret hB dX11_key_28 e1
  · replace hF := ifT hc hF
    refine w_iconst hB (-1) (by decide) dX11_key_13 ?_
    obtain ⟨e1, e2⟩ := retS hF
    subst e2
    exact w_iret hB dX11_key_14 e1
theorem c_X11_key {K : Kt} {l : Launch} (hp : St K) {r : Int32} {M1 : Mem} {x1 : Int32} {M : Mem} (hF : f_X11_key x1 M = some (r, M1)) : MT K l yX11_key cX11_key 4 (some .int) { frames := 5, cells := 0, slots := 0, locals := 119 } [vr 311, vi x1] M (some (vi r)) M1 0 0 :=
  MT_of (by decide) rfl (Nat.le_of_ble_eq_true rfl) (fun X _ hB _ => b_X11_key hp hB hF)
def f_X11_enough_b36_s (rec36 : Int32 → Int32 → Int32 → Int32 → Mem → Option (Int32 × Mem)) (x1 : Int32) (x2 : Int32) (x3 : Int32) (x4 : Int32) (M : Mem) : Option (Int32 × Mem) :=
  if ((1 : Int32) <<< ((M.1 313 0) &&& 31)) ≤ x4 then
    some (x3, M)
  else
    cl (f_X11_isFewer x4 x3 M) fun r1 M1m =>
    if r1 = 0 then
      bnd (x4 + 1) fun a1 =>
      rec36 x1 x2 x3 a1 M1m
    else
      cl (f_X11_framesOf x1 x4 M1m) fun r2 M2m =>
      cl (f_X11_verdictOf x1 r2 M2m) fun r3 M3m =>
      if r3 = x2 then
        bnd (x4 + 1) fun a2 =>
        rec36 x1 x2 x4 a2 M3m
      else
        bnd (x4 + 1) fun a3 =>
        rec36 x1 x2 x3 a3 M3m
set_option maxRecDepth 100000 in
set_option maxHeartbeats 4000000 in
theorem b_X11_enough_b36_s {K : Kt} {X : Xt} (hp : St K) (hB : Bx K X { frames := 5, cells := 0, slots := 0, locals := 119 } cX11_enough 5 RX11 (some .int)) {r : Int32} {M1 : Mem} {rec36 : Int32 → Int32 → Int32 → Int32 → Mem → Option (Int32 × Mem)}
    (h36 : ∀ x1 x2 x3 x4 M, rec36 x1 x2 x3 x4 M = some (r, M1) → Wt K X (QM K X (some (vi r)) M1 0 0) 0 0 M 36 [(0, vr 311), (1, vi x1), (2, vi x2), (3, vi x3), (4, vi x4)] []) {x1 : Int32} {x2 : Int32} {x3 : Int32} {x4 : Int32} {M : Mem} (hF : f_X11_enough_b36_s rec36 x1 x2 x3 x4 M = some (r, M1)) : Wt K X (QM K X (some (vi r)) M1 0 0) 0 0 M 36 [(0, vr 311), (1, vi x1), (2, vi x2), (3, vi x3), (4, vi x4)] [] := by
  unfold f_X11_enough_b36_s at hF
  refine w_iload hB 4 dX11_enough_36 rfl ?_
  refine w_iconst hB 1 (by decide) dX11_enough_38 ?_
  refine w_aload_n hB 0 dX11_enough_39 rfl rfl ?_
  refine w_getC hB (v := 313) ff_X11_11 sh_311 hp.1 cr_311_11 (by decide) q_1171 dX11_enough_40 ?_
  refine w_iconst hB 0 (by decide) dX11_enough_43 ?_
  refine w_iald hB sh_313 (Or.inl hp.1) sl_313 (by decide) dX11_enough_44 ?_
  rw [show (0 : Int32).toNatClampNeg = 0 by decide]
  refine w_ishl hB dX11_enough_45 ?_
  refine w_icmp_ge hB 83 dX11_enough_46 (by decide) (fun hc => ?_) (fun hc => ?_)
  · replace hF := ifT hc hF
    refine w_iload_n hB 3 dX11_enough_83 rfl rfl ?_
    obtain ⟨e1, e2⟩ := retS hF
    subst e2
    exact w_iret hB dX11_enough_84 e1
  · replace hF := ifF hc hF
    refine w_iload hB 4 dX11_enough_49 rfl ?_
    refine w_iload_n hB 3 dX11_enough_51 rfl rfl ?_
    obtain ⟨r1, M1m, hc_M1m, hF⟩ := clS hF
    refine w_callS hB (As := [vi x4, vi x3]) (st := []) cw_X11_361 q_1601 (c_X11_isFewer hp hc_M1m) ⟨rfl, rfl⟩ (by decide) (by decide) rfl (Nat.le_of_ble_eq_true rfl) dX11_enough_52 rfl ?_
    refine w_if_eq hB 77 dX11_enough_55 (by decide) (fun hc => ?_) (fun hc => ?_)
    · replace hF := ifT hc hF
      obtain ⟨a1, e_a1, hF⟩ := bndS hF
      refine w_iinc hB 4 (v := 1) (L' := [(4, vi a1), (0, vr 311), (1, vi x1), (2, vi x2), (3, vi x3)]) dX11_enough_77 rfl (by decide) (by decide) e_a1 rfl ?_
      refine w_goto hB 36 dX11_enough_80 (by decide) ?_
      exact Wt.sub (L' := [(0, vr 311), (1, vi x1), (2, vi x2), (3, vi x3), (4, vi a1)]) [1, 2, 3, 4, 0] rfl (h36 _ _ _ _ M1m hF)
    · replace hF := ifF hc hF
      refine w_aload_n hB 0 dX11_enough_58 rfl rfl ?_
      refine w_iload_n hB 1 dX11_enough_59 rfl rfl ?_
      refine w_aload_n hB 0 dX11_enough_60 rfl rfl ?_
      refine w_iload_n hB 1 dX11_enough_61 rfl rfl ?_
      refine w_iload hB 4 dX11_enough_62 rfl ?_
      obtain ⟨r2, M2m, hc_M2m, hF⟩ := clS hF
      refine w_callV hB (ci := 9) (As := [vi x1, vi x4]) (st := [vi x1, vr 311]) cw_X11_346 q_1576 q_58 rfl sh_311 (Or.inl hp.1) (c_X11_framesOf hp hc_M2m) ⟨rfl, rfl⟩ (by decide) (by decide) rfl (Nat.le_of_ble_eq_true rfl) dX11_enough_64 rfl ?_
      obtain ⟨r3, M3m, hc_M3m, hF⟩ := clS hF
      refine w_callV hB (ci := 9) (As := [vi x1, vi r2]) (st := []) cw_X11_331 q_1564 q_56 rfl sh_311 (Or.inl hp.1) (c_X11_verdictOf hp hc_M3m) ⟨rfl, rfl⟩ (by decide) (by decide) rfl (Nat.le_of_ble_eq_true rfl) dX11_enough_67 rfl ?_
      refine w_iload_n hB 2 dX11_enough_70 rfl rfl ?_
      refine w_icmp_ne hB 77 dX11_enough_71 (by decide) (fun hc => ?_) (fun hc => ?_)
      · replace hF := ifF hc hF
        obtain ⟨a3, e_a3, hF⟩ := bndS hF
        refine w_iinc hB 4 (v := 1) (L' := [(4, vi a3), (0, vr 311), (1, vi x1), (2, vi x2), (3, vi x3)]) dX11_enough_77 rfl (by decide) (by decide) e_a3 rfl ?_
        refine w_goto hB 36 dX11_enough_80 (by decide) ?_
        exact Wt.sub (L' := [(0, vr 311), (1, vi x1), (2, vi x2), (3, vi x3), (4, vi a3)]) [1, 2, 3, 4, 0] rfl (h36 _ _ _ _ M3m hF)
      · replace hF := ifT hc hF
        refine w_iload hB 4 dX11_enough_74 rfl ?_
        refine w_istore_n hB (L' := [(3, vi x4), (0, vr 311), (1, vi x1), (2, vi x2), (4, vi x4)]) dX11_enough_76 rfl (by decide) rfl rfl ?_
        obtain ⟨a2, e_a2, hF⟩ := bndS hF
        refine w_iinc hB 4 (v := 1) (L' := [(4, vi a2), (3, vi x4), (0, vr 311), (1, vi x1), (2, vi x2)]) dX11_enough_77 rfl (by decide) (by decide) e_a2 rfl ?_
        refine w_goto hB 36 dX11_enough_80 (by decide) ?_
        exact Wt.sub (L' := [(0, vr 311), (1, vi x1), (2, vi x2), (3, vi x4), (4, vi a2)]) [2, 3, 4, 1, 0] rfl (h36 _ _ _ _ M3m hF)
def f_X11_enough_b36 (k : Nat) : Int32 → Int32 → Int32 → Int32 → Mem → Option (Int32 × Mem) := lpN (fun _ _ _ _ _ => none) (f_X11_enough_b36_s) k
theorem b_X11_enough_b36 {K : Kt} {X : Xt} (hp : St K) (hB : Bx K X { frames := 5, cells := 0, slots := 0, locals := 119 } cX11_enough 5 RX11 (some .int)) {r : Int32} {M1 : Mem} (k : Nat) : ∀ (x1 : Int32) (x2 : Int32) (x3 : Int32) (x4 : Int32) M, f_X11_enough_b36 k x1 x2 x3 x4 M = some (r, M1) → Wt K X (QM K X (some (vi r)) M1 0 0) 0 0 M 36 [(0, vr 311), (1, vi x1), (2, vi x2), (3, vi x3), (4, vi x4)] [] := by
  refine lpN_ind (P := fun (f : Int32 → Int32 → Int32 → Int32 → Mem → Option (Int32 × Mem)) => ∀ (x1 : Int32) (x2 : Int32) (x3 : Int32) (x4 : Int32) M, f x1 x2 x3 x4 M = some (r, M1) → Wt K X (QM K X (some (vi r)) M1 0 0) 0 0 M 36 [(0, vr 311), (1, vi x1), (2, vi x2), (3, vi x3), (4, vi x4)] []) (fun _ _ _ _ _ h => by cases h) (fun f hf x1 x2 x3 x4 M hF => ?_) k
  exact b_X11_enough_b36_s hp hB hf hF
def f_X11_enough (x1 : Int32) (M : Mem) : Option (Int32 × Mem) :=
  bnd (setI M 311 0 0) fun M1m =>
  cl (f_X11_isPlay x1 M1m) fun r1 M2m =>
  if r1 = 0 then
    some ((-1), M2m)
  else
    cl (f_X11_byAll x1 M2m) fun r2 M3m =>
    cl (f_X11_isSure r2 M3m) fun r3 M4m =>
    if r3 = 0 then
      some ((-2), M4m)
    else
      f_X11_enough_b36 fuel x1 r2 (-1) 0 M4m
set_option maxRecDepth 100000 in
set_option maxHeartbeats 4000000 in
theorem b_X11_enough {K : Kt} {X : Xt} (hp : St K) (hB : Bx K X { frames := 5, cells := 0, slots := 0, locals := 119 } cX11_enough 5 RX11 (some .int)) {r : Int32} {M1 : Mem} {x1 : Int32} {M : Mem} (hF : f_X11_enough x1 M = some (r, M1)) : Wt K X (QM K X (some (vi r)) M1 0 0) 0 0 M 0 [(0, vr 311), (1, vi x1)] [] := by
  unfold f_X11_enough at hF
  refine w_aload_n hB 0 dX11_enough_0 rfl rfl ?_
  refine w_iconst hB 0 (by decide) dX11_enough_1 ?_
  obtain ⟨M1m, e_M1m, hF⟩ := bndS hF
  refine w_putI hB ff_X11_0 sh_311 (Or.inl hp.1) q_1160 e_M1m dX11_enough_2 ?_
  refine w_aload_n hB 0 dX11_enough_5 rfl rfl ?_
  refine w_iload_n hB 1 dX11_enough_6 rfl rfl ?_
  obtain ⟨r1, M2m, hc_M2m, hF⟩ := clS hF
  refine w_callV hB (ci := 9) (As := [vi x1]) (st := []) cw_X11_343 q_1552 q_55 rfl sh_311 (Or.inl hp.1) (c_X11_isPlay hp hc_M2m) ⟨rfl, rfl⟩ (by decide) (by decide) rfl (Nat.le_of_ble_eq_true rfl) dX11_enough_7 rfl ?_
  refine w_if_ne hB 15 dX11_enough_10 (by decide) (fun hc => ?_) (fun hc => ?_)
  · replace hF := ifF hc hF
    refine w_aload_n hB 0 dX11_enough_15 rfl rfl ?_
    refine w_iload_n hB 1 dX11_enough_16 rfl rfl ?_
    obtain ⟨r2, M3m, hc_M3m, hF⟩ := clS hF
    refine w_callV hB (ci := 9) (As := [vi x1]) (st := []) cw_X11_355 q_1595 q_60 rfl sh_311 (Or.inl hp.1) (c_X11_byAll hp hc_M3m) ⟨rfl, rfl⟩ (by decide) (by decide) rfl (Nat.le_of_ble_eq_true rfl) dX11_enough_17 rfl ?_
    refine w_istore_n hB (L' := [(2, vi r2), (0, vr 311), (1, vi x1)]) dX11_enough_20 rfl (by decide) rfl rfl ?_
    refine w_iload_n hB 0 dX11_enough_21 rfl rfl ?_
    obtain ⟨r3, M4m, hc_M4m, hF⟩ := clS hF
    refine w_callS hB (As := [vi r2]) (st := []) cw_X11_358 q_1598 (c_X11_isSure hp hc_M4m) ⟨rfl, rfl⟩ (by decide) (by decide) rfl (Nat.le_of_ble_eq_true rfl) dX11_enough_22 rfl ?_
    refine w_if_ne hB 31 dX11_enough_25 (by decide) (fun hc => ?_) (fun hc => ?_)
    · replace hF := ifF hc hF
      refine w_iconst hB (-1) (by decide) dX11_enough_31 ?_
      refine w_istore_n hB (L' := [(3, vi (-1)), (2, vi r2), (0, vr 311), (1, vi x1)]) dX11_enough_32 rfl (by decide) rfl rfl ?_
      refine w_iconst hB 0 (by decide) dX11_enough_33 ?_
      refine w_istore hB (L' := [(4, vi 0), (3, vi (-1)), (2, vi r2), (0, vr 311), (1, vi x1)]) dX11_enough_34 (by decide) rfl rfl ?_
      exact Wt.sub (L' := [(0, vr 311), (1, vi x1), (2, vi r2), (3, vi (-1)), (4, vi 0)]) [3, 4, 2, 1, 0] rfl (b_X11_enough_b36 hp hB fuel _ _ _ _ M4m hF)
    · replace hF := ifT hc hF
      refine w_bipush hB (-2) (by decide) dX11_enough_28 ?_
      obtain ⟨e1, e2⟩ := retS hF
      subst e2
      exact w_iret hB dX11_enough_30 e1
  · replace hF := ifT hc hF
    refine w_iconst hB (-1) (by decide) dX11_enough_13 ?_
    obtain ⟨e1, e2⟩ := retS hF
    subst e2
    exact w_iret hB dX11_enough_14 e1
theorem c_X11_enough {K : Kt} {l : Launch} (hp : St K) {r : Int32} {M1 : Mem} {x1 : Int32} {M : Mem} (hF : f_X11_enough x1 M = some (r, M1)) : MT K l yX11_enough cX11_enough 5 (some .int) { frames := 5, cells := 0, slots := 0, locals := 119 } [vr 311, vi x1] M (some (vi r)) M1 0 0 :=
  MT_of (by decide) rfl (Nat.le_of_ble_eq_true rfl) (fun X _ hB _ => b_X11_enough hp hB hF)
def f_X11_mend_b32_s (rec32 : Int32 → Int32 → Int32 → Mem → Option (Int32 × Mem)) (x1 : Int32) (x2 : Int32) (x3 : Int32) (M : Mem) : Option (Int32 × Mem) :=
  cl (f_X11_allFrames x1 M) fun r1 M1m =>
  if r1 < x3 then
    some (x2, M1m)
  else
    cl (f_X11_isFewer x3 x2 M1m) fun r2 M2m =>
    if r2 = 0 then
      bnd (x3 + 1) fun a1 =>
      rec32 x1 x2 a1 M2m
    else
      cl (f_X11_allFrames x1 M2m) fun r3 M3m =>
      cl (f_X11_verdictOf x1 (r3 &&& (x3 ^^^ (-1))) M3m) fun r4 M4m =>
      if r4 = 3 then
        bnd (x3 + 1) fun a2 =>
        rec32 x1 x2 a2 M4m
      else
        bnd (x3 + 1) fun a3 =>
        rec32 x1 x3 a3 M4m
set_option maxRecDepth 100000 in
set_option maxHeartbeats 4000000 in
theorem b_X11_mend_b32_s {K : Kt} {X : Xt} (hp : St K) (hB : Bx K X { frames := 4, cells := 0, slots := 0, locals := 98 } cX11_mend 4 RX11 (some .int)) {r : Int32} {M1 : Mem} {rec32 : Int32 → Int32 → Int32 → Mem → Option (Int32 × Mem)}
    (h32 : ∀ x1 x2 x3 M, rec32 x1 x2 x3 M = some (r, M1) → Wt K X (QM K X (some (vi r)) M1 0 0) 0 0 M 32 [(0, vr 311), (1, vi x1), (2, vi x2), (3, vi x3)] []) {x1 : Int32} {x2 : Int32} {x3 : Int32} {M : Mem} (hF : f_X11_mend_b32_s rec32 x1 x2 x3 M = some (r, M1)) : Wt K X (QM K X (some (vi r)) M1 0 0) 0 0 M 32 [(0, vr 311), (1, vi x1), (2, vi x2), (3, vi x3)] [] := by
  unfold f_X11_mend_b32_s at hF
  refine w_iload_n hB 3 dX11_mend_32 rfl rfl ?_
  refine w_aload_n hB 0 dX11_mend_33 rfl rfl ?_
  refine w_iload_n hB 1 dX11_mend_34 rfl rfl ?_
  obtain ⟨r1, M1m, hc_M1m, hF⟩ := clS hF
  refine w_callV hB (ci := 9) (As := [vi x1]) (st := [vi x3]) cw_X11_328 q_1585 q_59 rfl sh_311 (Or.inl hp.1) (c_X11_allFrames hp hc_M1m) ⟨rfl, rfl⟩ (by decide) (by decide) rfl (Nat.le_of_ble_eq_true rfl) dX11_mend_35 rfl ?_
  refine w_icmp_gt hB 75 dX11_mend_38 (by decide) (fun hc => ?_) (fun hc => ?_)
  · replace hF := ifT hc hF
    refine w_iload_n hB 2 dX11_mend_75 rfl rfl ?_
    obtain ⟨e1, e2⟩ := retS hF
    subst e2
    exact w_iret hB dX11_mend_76 e1
  · replace hF := ifF hc hF
    refine w_iload_n hB 3 dX11_mend_41 rfl rfl ?_
    refine w_iload_n hB 2 dX11_mend_42 rfl rfl ?_
    obtain ⟨r2, M2m, hc_M2m, hF⟩ := clS hF
    refine w_callS hB (As := [vi x3, vi x2]) (st := []) cw_X11_361 q_1601 (c_X11_isFewer hp hc_M2m) ⟨rfl, rfl⟩ (by decide) (by decide) rfl (Nat.le_of_ble_eq_true rfl) dX11_mend_43 rfl ?_
    refine w_if_eq hB 69 dX11_mend_46 (by decide) (fun hc => ?_) (fun hc => ?_)
    · replace hF := ifT hc hF
      obtain ⟨a1, e_a1, hF⟩ := bndS hF
      refine w_iinc hB 3 (v := 1) (L' := [(3, vi a1), (0, vr 311), (1, vi x1), (2, vi x2)]) dX11_mend_69 rfl (by decide) (by decide) e_a1 rfl ?_
      refine w_goto hB 32 dX11_mend_72 (by decide) ?_
      exact Wt.sub (L' := [(0, vr 311), (1, vi x1), (2, vi x2), (3, vi a1)]) [1, 2, 3, 0] rfl (h32 _ _ _ M2m hF)
    · replace hF := ifF hc hF
      refine w_aload_n hB 0 dX11_mend_49 rfl rfl ?_
      refine w_iload_n hB 1 dX11_mend_50 rfl rfl ?_
      refine w_aload_n hB 0 dX11_mend_51 rfl rfl ?_
      refine w_iload_n hB 1 dX11_mend_52 rfl rfl ?_
      obtain ⟨r3, M3m, hc_M3m, hF⟩ := clS hF
      refine w_callV hB (ci := 9) (As := [vi x1]) (st := [vi x1, vr 311]) cw_X11_328 q_1585 q_59 rfl sh_311 (Or.inl hp.1) (c_X11_allFrames hp hc_M3m) ⟨rfl, rfl⟩ (by decide) (by decide) rfl (Nat.le_of_ble_eq_true rfl) dX11_mend_53 rfl ?_
      refine w_iload_n hB 3 dX11_mend_56 rfl rfl ?_
      refine w_iconst hB (-1) (by decide) dX11_mend_57 ?_
      refine w_ixor hB dX11_mend_58 ?_
      refine w_iand hB dX11_mend_59 ?_
      obtain ⟨r4, M4m, hc_M4m, hF⟩ := clS hF
      refine w_callV hB (ci := 9) (As := [vi x1, vi (r3 &&& (x3 ^^^ (-1)))]) (st := []) cw_X11_331 q_1564 q_56 rfl sh_311 (Or.inl hp.1) (c_X11_verdictOf hp hc_M4m) ⟨rfl, rfl⟩ (by decide) (by decide) rfl (Nat.le_of_ble_eq_true rfl) dX11_mend_60 rfl ?_
      refine w_iconst hB 3 (by decide) dX11_mend_63 ?_
      refine w_icmp_eq hB 69 dX11_mend_64 (by decide) (fun hc => ?_) (fun hc => ?_)
      · replace hF := ifT hc hF
        obtain ⟨a2, e_a2, hF⟩ := bndS hF
        refine w_iinc hB 3 (v := 1) (L' := [(3, vi a2), (0, vr 311), (1, vi x1), (2, vi x2)]) dX11_mend_69 rfl (by decide) (by decide) e_a2 rfl ?_
        refine w_goto hB 32 dX11_mend_72 (by decide) ?_
        exact Wt.sub (L' := [(0, vr 311), (1, vi x1), (2, vi x2), (3, vi a2)]) [1, 2, 3, 0] rfl (h32 _ _ _ M4m hF)
      · replace hF := ifF hc hF
        refine w_iload_n hB 3 dX11_mend_67 rfl rfl ?_
        refine w_istore_n hB (L' := [(2, vi x3), (0, vr 311), (1, vi x1), (3, vi x3)]) dX11_mend_68 rfl (by decide) rfl rfl ?_
        obtain ⟨a3, e_a3, hF⟩ := bndS hF
        refine w_iinc hB 3 (v := 1) (L' := [(3, vi a3), (2, vi x3), (0, vr 311), (1, vi x1)]) dX11_mend_69 rfl (by decide) (by decide) e_a3 rfl ?_
        refine w_goto hB 32 dX11_mend_72 (by decide) ?_
        exact Wt.sub (L' := [(0, vr 311), (1, vi x1), (2, vi x3), (3, vi a3)]) [2, 3, 1, 0] rfl (h32 _ _ _ M4m hF)
def f_X11_mend_b32 (k : Nat) : Int32 → Int32 → Int32 → Mem → Option (Int32 × Mem) := lpN (fun _ _ _ _ => none) (f_X11_mend_b32_s) k
theorem b_X11_mend_b32 {K : Kt} {X : Xt} (hp : St K) (hB : Bx K X { frames := 4, cells := 0, slots := 0, locals := 98 } cX11_mend 4 RX11 (some .int)) {r : Int32} {M1 : Mem} (k : Nat) : ∀ (x1 : Int32) (x2 : Int32) (x3 : Int32) M, f_X11_mend_b32 k x1 x2 x3 M = some (r, M1) → Wt K X (QM K X (some (vi r)) M1 0 0) 0 0 M 32 [(0, vr 311), (1, vi x1), (2, vi x2), (3, vi x3)] [] := by
  refine lpN_ind (P := fun (f : Int32 → Int32 → Int32 → Mem → Option (Int32 × Mem)) => ∀ (x1 : Int32) (x2 : Int32) (x3 : Int32) M, f x1 x2 x3 M = some (r, M1) → Wt K X (QM K X (some (vi r)) M1 0 0) 0 0 M 32 [(0, vr 311), (1, vi x1), (2, vi x2), (3, vi x3)] []) (fun _ _ _ _ h => by cases h) (fun f hf x1 x2 x3 M hF => ?_) k
  exact b_X11_mend_b32_s hp hB hf hF
def f_X11_mend (x1 : Int32) (M : Mem) : Option (Int32 × Mem) :=
  bnd (setI M 311 0 0) fun M1m =>
  cl (f_X11_isPlay x1 M1m) fun r1 M2m =>
  if r1 = 0 then
    some ((-1), M2m)
  else
    cl (f_X11_verdictOf x1 0 M2m) fun r2 M3m =>
    if r2 = 3 then
      some ((-2), M3m)
    else
      f_X11_mend_b32 fuel x1 (-1) 0 M3m
set_option maxRecDepth 100000 in
set_option maxHeartbeats 4000000 in
theorem b_X11_mend {K : Kt} {X : Xt} (hp : St K) (hB : Bx K X { frames := 4, cells := 0, slots := 0, locals := 98 } cX11_mend 4 RX11 (some .int)) {r : Int32} {M1 : Mem} {x1 : Int32} {M : Mem} (hF : f_X11_mend x1 M = some (r, M1)) : Wt K X (QM K X (some (vi r)) M1 0 0) 0 0 M 0 [(0, vr 311), (1, vi x1)] [] := by
  unfold f_X11_mend at hF
  refine w_aload_n hB 0 dX11_mend_0 rfl rfl ?_
  refine w_iconst hB 0 (by decide) dX11_mend_1 ?_
  obtain ⟨M1m, e_M1m, hF⟩ := bndS hF
  refine w_putI hB ff_X11_0 sh_311 (Or.inl hp.1) q_1160 e_M1m dX11_mend_2 ?_
  refine w_aload_n hB 0 dX11_mend_5 rfl rfl ?_
  refine w_iload_n hB 1 dX11_mend_6 rfl rfl ?_
  obtain ⟨r1, M2m, hc_M2m, hF⟩ := clS hF
  refine w_callV hB (ci := 9) (As := [vi x1]) (st := []) cw_X11_343 q_1552 q_55 rfl sh_311 (Or.inl hp.1) (c_X11_isPlay hp hc_M2m) ⟨rfl, rfl⟩ (by decide) (by decide) rfl (Nat.le_of_ble_eq_true rfl) dX11_mend_7 rfl ?_
  refine w_if_ne hB 15 dX11_mend_10 (by decide) (fun hc => ?_) (fun hc => ?_)
  · replace hF := ifF hc hF
    refine w_aload_n hB 0 dX11_mend_15 rfl rfl ?_
    refine w_iload_n hB 1 dX11_mend_16 rfl rfl ?_
    refine w_iconst hB 0 (by decide) dX11_mend_17 ?_
    obtain ⟨r2, M3m, hc_M3m, hF⟩ := clS hF
    refine w_callV hB (ci := 9) (As := [vi x1, vi 0]) (st := []) cw_X11_331 q_1564 q_56 rfl sh_311 (Or.inl hp.1) (c_X11_verdictOf hp hc_M3m) ⟨rfl, rfl⟩ (by decide) (by decide) rfl (Nat.le_of_ble_eq_true rfl) dX11_mend_18 rfl ?_
    refine w_iconst hB 3 (by decide) dX11_mend_21 ?_
    refine w_icmp_ne hB 28 dX11_mend_22 (by decide) (fun hc => ?_) (fun hc => ?_)
    · replace hF := ifF hc hF
      refine w_iconst hB (-1) (by decide) dX11_mend_28 ?_
      refine w_istore_n hB (L' := [(2, vi (-1)), (0, vr 311), (1, vi x1)]) dX11_mend_29 rfl (by decide) rfl rfl ?_
      refine w_iconst hB 0 (by decide) dX11_mend_30 ?_
      refine w_istore_n hB (L' := [(3, vi 0), (2, vi (-1)), (0, vr 311), (1, vi x1)]) dX11_mend_31 rfl (by decide) rfl rfl ?_
      exact Wt.sub (L' := [(0, vr 311), (1, vi x1), (2, vi (-1)), (3, vi 0)]) [2, 3, 1, 0] rfl (b_X11_mend_b32 hp hB fuel _ _ _ M3m hF)
    · replace hF := ifT hc hF
      refine w_bipush hB (-2) (by decide) dX11_mend_25 ?_
      obtain ⟨e1, e2⟩ := retS hF
      subst e2
      exact w_iret hB dX11_mend_27 e1
  · replace hF := ifT hc hF
    refine w_iconst hB (-1) (by decide) dX11_mend_13 ?_
    obtain ⟨e1, e2⟩ := retS hF
    subst e2
    exact w_iret hB dX11_mend_14 e1
theorem c_X11_mend {K : Kt} {l : Launch} (hp : St K) {r : Int32} {M1 : Mem} {x1 : Int32} {M : Mem} (hF : f_X11_mend x1 M = some (r, M1)) : MT K l yX11_mend cX11_mend 4 (some .int) { frames := 4, cells := 0, slots := 0, locals := 98 } [vr 311, vi x1] M (some (vi r)) M1 0 0 :=
  MT_of (by decide) rfl (Nat.le_of_ble_eq_true rfl) (fun X _ hB _ => b_X11_mend hp hB hF)
def f_X11_review_b84 (x2 : Int32) (x3 : Int32) (M : Mem) : Option (Int32 × Mem) :=
  cl (f_X11_isSure x3 M) fun r1 M1m =>
  if r1 = 0 then
    some (0, M1m)
  else
    if x3 = x2 then
      some (1, M1m)
    else
      some (2, M1m)
set_option maxRecDepth 100000 in
set_option maxHeartbeats 4000000 in
theorem b_X11_review_b84 {K : Kt} {X : Xt} (hp : St K) (hB : Bx K X { frames := 4, cells := 0, slots := 0, locals := 98 } cX11_review 4 RX11 (some .int)) {r : Int32} {M1 : Mem} {x2 : Int32} {x3 : Int32} {M : Mem} (hF : f_X11_review_b84 x2 x3 M = some (r, M1)) : Wt K X (QM K X (some (vi r)) M1 0 0) 0 0 M 84 [(2, vi x2), (3, vi x3)] [] := by
  unfold f_X11_review_b84 at hF
  refine w_iload_n hB 1 dX11_review_84 rfl rfl ?_
  obtain ⟨r1, M1m, hc_M1m, hF⟩ := clS hF
  refine w_callS hB (As := [vi x3]) (st := []) cw_X11_358 q_1598 (c_X11_isSure hp hc_M1m) ⟨rfl, rfl⟩ (by decide) (by decide) rfl (Nat.le_of_ble_eq_true rfl) dX11_review_85 rfl ?_
  refine w_if_ne hB 95 dX11_review_88 (by decide) (fun hc => ?_) (fun hc => ?_)
  · replace hF := ifF hc hF
    refine w_iload_n hB 1 dX11_review_95 rfl rfl ?_
    refine w_iload_n hB 0 dX11_review_96 rfl rfl ?_
    refine w_icmp_ne hB 104 dX11_review_97 (by decide) (fun hc => ?_) (fun hc => ?_)
    · replace hF := ifF hc hF
      refine w_iconst hB 2 (by decide) dX11_review_104 ?_
      obtain ⟨e1, e2⟩ := retS hF
      subst e2
      exact w_iret hB dX11_review_105 e1
    · replace hF := ifT hc hF
      refine w_iconst hB 1 (by decide) dX11_review_100 ?_
      refine w_goto hB 105 dX11_review_101 (by decide) ?_
      obtain ⟨e1, e2⟩ := retS hF
      subst e2
      exact w_iret hB dX11_review_105 e1
  · replace hF := ifT hc hF
    refine w_iconst hB 0 (by decide) dX11_review_91 ?_
    refine w_goto hB 105 dX11_review_92 (by decide) ?_
    obtain ⟨e1, e2⟩ := retS hF
    subst e2
    exact w_iret hB dX11_review_105 e1
def f_X11_review_b12_s (rec12 : Int32 → Int32 → Int32 → Mem → Option (Int32 × Mem)) (x1 : Int32) (x2 : Int32) (x3 : Int32) (M : Mem) : Option (Int32 × Mem) :=
  if x3 = 2 then
    gd (inb x1 16) <|
    if (M.1 335 x1.toNatClampNeg) ≤ (M.1 311 44) then
      f_X11_review_b84 x2 x3 M
    else
      gd (inb (M.1 331 x1.toNatClampNeg) 10) <|
      if (M.1 314 0) < (((M.1 311 44) + 1) * (M.1 321 (M.1 331 x1.toNatClampNeg).toNatClampNeg)) then
        f_X11_review_b84 x2 x3 M
      else
        bnd (setI M 311 44 ((M.1 311 44) + 1)) fun M1m =>
        cl (f_X11_verdictOf x1 (((1 : Int32) <<< ((M1m.1 311 44) &&& 31)) - 1) M1m) fun r1 M2m =>
        rec12 x1 x2 r1 M2m
  else
    f_X11_review_b84 x2 x3 M
set_option maxRecDepth 100000 in
set_option maxHeartbeats 4000000 in
theorem b_X11_review_b12_s {K : Kt} {X : Xt} (hp : St K) (hB : Bx K X { frames := 4, cells := 0, slots := 0, locals := 98 } cX11_review 4 RX11 (some .int)) {r : Int32} {M1 : Mem} {rec12 : Int32 → Int32 → Int32 → Mem → Option (Int32 × Mem)}
    (h12 : ∀ x1 x2 x3 M, rec12 x1 x2 x3 M = some (r, M1) → Wt K X (QM K X (some (vi r)) M1 0 0) 0 0 M 12 [(0, vr 311), (1, vi x1), (2, vi x2), (3, vi x3)] []) {x1 : Int32} {x2 : Int32} {x3 : Int32} {M : Mem} (hF : f_X11_review_b12_s rec12 x1 x2 x3 M = some (r, M1)) : Wt K X (QM K X (some (vi r)) M1 0 0) 0 0 M 12 [(0, vr 311), (1, vi x1), (2, vi x2), (3, vi x3)] [] := by
  unfold f_X11_review_b12_s at hF
  refine w_iload_n hB 3 dX11_review_12 rfl rfl ?_
  refine w_iconst hB 2 (by decide) dX11_review_13 ?_
  refine w_icmp_ne hB 84 dX11_review_14 (by decide) (fun hc => ?_) (fun hc => ?_)
  · replace hF := ifF hc hF
    exact Wt.sub (L' := [(2, vi x2), (3, vi x3)]) [2, 3] rfl (b_X11_review_b84 hp hB hF)
  · replace hF := ifT hc hF
    refine w_aload_n hB 0 dX11_review_17 rfl rfl ?_
    refine w_getI hB ff_X11_44 sh_311 (Or.inl hp.1) q_1204 dX11_review_18 ?_
    refine w_aload_n hB 0 dX11_review_21 rfl rfl ?_
    refine w_getC hB (v := 335) ff_X11_33 sh_311 hp.1 cr_311_33 (by decide) q_1193 dX11_review_22 ?_
    refine w_iload_n hB 1 dX11_review_25 rfl rfl ?_
    obtain ⟨g1, hF⟩ := gdS hF
    refine w_iald hB sh_335 (Or.inl hp.1) sl_335 g1 dX11_review_26 ?_
    refine w_icmp_ge hB 84 dX11_review_27 (by decide) (fun hc => ?_) (fun hc => ?_)
    · replace hF := ifT hc hF
      exact Wt.sub (L' := [(2, vi x2), (3, vi x3)]) [2, 3] rfl (b_X11_review_b84 hp hB hF)
    · replace hF := ifF hc hF
      refine w_aload_n hB 0 dX11_review_30 rfl rfl ?_
      refine w_getI hB ff_X11_44 sh_311 (Or.inl hp.1) q_1204 dX11_review_31 ?_
      refine w_iconst hB 1 (by decide) dX11_review_34 ?_
      refine w_iadd hB dX11_review_35 ?_
      refine w_aload_n hB 0 dX11_review_36 rfl rfl ?_
      refine w_getC hB (v := 321) ff_X11_19 sh_311 hp.1 cr_311_19 (by decide) q_1179 dX11_review_37 ?_
      refine w_aload_n hB 0 dX11_review_40 rfl rfl ?_
      refine w_getC hB (v := 331) ff_X11_29 sh_311 hp.1 cr_311_29 (by decide) q_1189 dX11_review_41 ?_
      refine w_iload_n hB 1 dX11_review_44 rfl rfl ?_
      refine w_iald hB sh_331 (Or.inl hp.1) sl_331 g1 dX11_review_45 ?_
      obtain ⟨g2, hF⟩ := gdS hF
      refine w_iald hB sh_321 (Or.inl hp.1) sl_321 g2 dX11_review_46 ?_
      refine w_imul hB dX11_review_47 ?_
      refine w_aload_n hB 0 dX11_review_48 rfl rfl ?_
      refine w_getC hB (v := 314) ff_X11_12 sh_311 hp.1 cr_311_12 (by decide) q_1172 dX11_review_49 ?_
      refine w_iconst hB 0 (by decide) dX11_review_52 ?_
      refine w_iald hB sh_314 (Or.inl hp.1) sl_314 (by decide) dX11_review_53 ?_
      rw [show (0 : Int32).toNatClampNeg = 0 by decide]
      refine w_icmp_gt hB 84 dX11_review_54 (by decide) (fun hc => ?_) (fun hc => ?_)
      · replace hF := ifT hc hF
        exact Wt.sub (L' := [(2, vi x2), (3, vi x3)]) [2, 3] rfl (b_X11_review_b84 hp hB hF)
      · replace hF := ifF hc hF
        refine w_aload_n hB 0 dX11_review_57 rfl rfl ?_
        refine w_dup hB rfl dX11_review_58 ?_
        refine w_getI hB ff_X11_44 sh_311 (Or.inl hp.1) q_1204 dX11_review_59 ?_
        refine w_iconst hB 1 (by decide) dX11_review_62 ?_
        refine w_iadd hB dX11_review_63 ?_
        obtain ⟨M1m, e_M1m, hF⟩ := bndS hF
        refine w_putI hB ff_X11_44 sh_311 (Or.inl hp.1) q_1204 e_M1m dX11_review_64 ?_
        refine w_aload_n hB 0 dX11_review_67 rfl rfl ?_
        refine w_iload_n hB 1 dX11_review_68 rfl rfl ?_
        refine w_iconst hB 1 (by decide) dX11_review_69 ?_
        refine w_aload_n hB 0 dX11_review_70 rfl rfl ?_
        refine w_getI hB ff_X11_44 sh_311 (Or.inl hp.1) q_1204 dX11_review_71 ?_
        refine w_ishl hB dX11_review_74 ?_
        refine w_iconst hB 1 (by decide) dX11_review_75 ?_
        refine w_isub hB dX11_review_76 ?_
        obtain ⟨r1, M2m, hc_M2m, hF⟩ := clS hF
        refine w_callV hB (ci := 9) (As := [vi x1, vi (((1 : Int32) <<< ((M1m.1 311 44) &&& 31)) - 1)]) (st := []) cw_X11_331 q_1564 q_56 rfl sh_311 (Or.inl hp.1) (c_X11_verdictOf hp hc_M2m) ⟨rfl, rfl⟩ (by decide) (by decide) rfl (Nat.le_of_ble_eq_true rfl) dX11_review_77 rfl ?_
        refine w_istore_n hB (L' := [(3, vi r1), (0, vr 311), (1, vi x1), (2, vi x2)]) dX11_review_80 rfl (by decide) rfl rfl ?_
        refine w_goto hB 12 dX11_review_81 (by decide) ?_
        exact Wt.sub (L' := [(0, vr 311), (1, vi x1), (2, vi x2), (3, vi r1)]) [1, 2, 3, 0] rfl (h12 _ _ _ M2m hF)
def f_X11_review_b12 (k : Nat) : Int32 → Int32 → Int32 → Mem → Option (Int32 × Mem) := lpN (fun _ _ _ _ => none) (f_X11_review_b12_s) k
theorem b_X11_review_b12 {K : Kt} {X : Xt} (hp : St K) (hB : Bx K X { frames := 4, cells := 0, slots := 0, locals := 98 } cX11_review 4 RX11 (some .int)) {r : Int32} {M1 : Mem} (k : Nat) : ∀ (x1 : Int32) (x2 : Int32) (x3 : Int32) M, f_X11_review_b12 k x1 x2 x3 M = some (r, M1) → Wt K X (QM K X (some (vi r)) M1 0 0) 0 0 M 12 [(0, vr 311), (1, vi x1), (2, vi x2), (3, vi x3)] [] := by
  refine lpN_ind (P := fun (f : Int32 → Int32 → Int32 → Mem → Option (Int32 × Mem)) => ∀ (x1 : Int32) (x2 : Int32) (x3 : Int32) M, f x1 x2 x3 M = some (r, M1) → Wt K X (QM K X (some (vi r)) M1 0 0) 0 0 M 12 [(0, vr 311), (1, vi x1), (2, vi x2), (3, vi x3)] []) (fun _ _ _ _ h => by cases h) (fun f hf x1 x2 x3 M hF => ?_) k
  exact b_X11_review_b12_s hp hB hf hF
def f_X11_review (x1 : Int32) (x2 : Int32) (M : Mem) : Option (Int32 × Mem) :=
  bnd (setI M 311 44 0) fun M1m =>
  cl (f_X11_verdictOf x1 0 M1m) fun r1 M2m =>
  f_X11_review_b12 fuel x1 x2 r1 M2m
set_option maxRecDepth 100000 in
set_option maxHeartbeats 4000000 in
theorem b_X11_review {K : Kt} {X : Xt} (hp : St K) (hB : Bx K X { frames := 4, cells := 0, slots := 0, locals := 98 } cX11_review 4 RX11 (some .int)) {r : Int32} {M1 : Mem} {x1 : Int32} {x2 : Int32} {M : Mem} (hF : f_X11_review x1 x2 M = some (r, M1)) : Wt K X (QM K X (some (vi r)) M1 0 0) 0 0 M 0 [(0, vr 311), (1, vi x1), (2, vi x2)] [] := by
  unfold f_X11_review at hF
  refine w_aload_n hB 0 dX11_review_0 rfl rfl ?_
  refine w_iconst hB 0 (by decide) dX11_review_1 ?_
  obtain ⟨M1m, e_M1m, hF⟩ := bndS hF
  refine w_putI hB ff_X11_44 sh_311 (Or.inl hp.1) q_1204 e_M1m dX11_review_2 ?_
  refine w_aload_n hB 0 dX11_review_5 rfl rfl ?_
  refine w_iload_n hB 1 dX11_review_6 rfl rfl ?_
  refine w_iconst hB 0 (by decide) dX11_review_7 ?_
  obtain ⟨r1, M2m, hc_M2m, hF⟩ := clS hF
  refine w_callV hB (ci := 9) (As := [vi x1, vi 0]) (st := []) cw_X11_331 q_1564 q_56 rfl sh_311 (Or.inl hp.1) (c_X11_verdictOf hp hc_M2m) ⟨rfl, rfl⟩ (by decide) (by decide) rfl (Nat.le_of_ble_eq_true rfl) dX11_review_8 rfl ?_
  refine w_istore_n hB (L' := [(3, vi r1), (0, vr 311), (1, vi x1), (2, vi x2)]) dX11_review_11 rfl (by decide) rfl rfl ?_
  exact Wt.sub (L' := [(0, vr 311), (1, vi x1), (2, vi x2), (3, vi r1)]) [1, 2, 3, 0] rfl (b_X11_review_b12 hp hB fuel _ _ _ M2m hF)
theorem c_X11_review {K : Kt} {l : Launch} (hp : St K) {r : Int32} {M1 : Mem} {x1 : Int32} {x2 : Int32} {M : Mem} (hF : f_X11_review x1 x2 M = some (r, M1)) : MT K l yX11_review cX11_review 4 (some .int) { frames := 4, cells := 0, slots := 0, locals := 98 } [vr 311, vi x1, vi x2] M (some (vi r)) M1 0 0 :=
  MT_of (by decide) rfl (Nat.le_of_ble_eq_true rfl) (fun X _ hB _ => b_X11_review hp hB hF)
def f_X11_secondsOf (x1 : Int32) (M : Mem) : Option (Int32 × Mem) :=
  gd (inb x1 16) <|
  gd (inb (M.1 331 x1.toNatClampNeg) 10) <|
  some ((M.1 311 44) * (M.1 321 (M.1 331 x1.toNatClampNeg).toNatClampNeg), M)
set_option maxRecDepth 100000 in
set_option maxHeartbeats 4000000 in
theorem b_X11_secondsOf {K : Kt} {X : Xt} (hp : St K) (hB : Bx K X { frames := 0, cells := 0, slots := 0, locals := 0 } cX11_secondsOf 2 RX11 (some .int)) {r : Int32} {M1 : Mem} {x1 : Int32} {M : Mem} (hF : f_X11_secondsOf x1 M = some (r, M1)) : Wt K X (QM K X (some (vi r)) M1 0 0) 0 0 M 0 [(0, vr 311), (1, vi x1)] [] := by
  unfold f_X11_secondsOf at hF
  refine w_aload_n hB 0 dX11_secondsOf_0 rfl rfl ?_
  refine w_getI hB ff_X11_44 sh_311 (Or.inl hp.1) q_1204 dX11_secondsOf_1 ?_
  refine w_aload_n hB 0 dX11_secondsOf_4 rfl rfl ?_
  refine w_getC hB (v := 321) ff_X11_19 sh_311 hp.1 cr_311_19 (by decide) q_1179 dX11_secondsOf_5 ?_
  refine w_aload_n hB 0 dX11_secondsOf_8 rfl rfl ?_
  refine w_getC hB (v := 331) ff_X11_29 sh_311 hp.1 cr_311_29 (by decide) q_1189 dX11_secondsOf_9 ?_
  refine w_iload_n hB 1 dX11_secondsOf_12 rfl rfl ?_
  obtain ⟨g1, hF⟩ := gdS hF
  refine w_iald hB sh_331 (Or.inl hp.1) sl_331 g1 dX11_secondsOf_13 ?_
  obtain ⟨g2, hF⟩ := gdS hF
  refine w_iald hB sh_321 (Or.inl hp.1) sl_321 g2 dX11_secondsOf_14 ?_
  refine w_imul hB dX11_secondsOf_15 ?_
  obtain ⟨e1, e2⟩ := retS hF
  subst e2
  exact w_iret hB dX11_secondsOf_16 e1
theorem c_X11_secondsOf {K : Kt} {l : Launch} (hp : St K) {r : Int32} {M1 : Mem} {x1 : Int32} {M : Mem} (hF : f_X11_secondsOf x1 M = some (r, M1)) : MT K l yX11_secondsOf cX11_secondsOf 2 (some .int) { frames := 0, cells := 0, slots := 0, locals := 0 } [vr 311, vi x1] M (some (vi r)) M1 0 0 :=
  MT_of (by decide) rfl (Nat.le_of_ble_eq_true rfl) (fun X _ hB _ => b_X11_secondsOf hp hB hF)
def f_X11_look (x1 : Int32) (x2 : Int32) (M : Mem) : Option (Int32 × Mem) :=
  bnd (setI M 311 0 0) fun M1m =>
  cl (f_X11_isPlay x1 M1m) fun r1 M2m =>
  if r1 = 0 then
    some ((-1), M2m)
  else
    cl (f_X11_within (x2.toInt64) 0 2 M2m) fun r2 M3m =>
    if r2 = 0 then
      some ((-1), M3m)
    else
      cl (f_X11_callOf x1 M3m) fun r3 M4m =>
      cl (f_X11_review x1 r3 M4m) fun r4 M5m =>
      if x2 = 0 then
        some (r4, M5m)
      else
        if x2 = 1 then
          cl (f_X11_secondsOf x1 M5m) fun r5 M6m =>
          some (r5, M6m)
        else
          some (M5m.1 311 44, M5m)
set_option maxRecDepth 100000 in
set_option maxHeartbeats 4000000 in
theorem b_X11_look {K : Kt} {X : Xt} (hp : St K) (hB : Bx K X { frames := 5, cells := 0, slots := 0, locals := 121 } cX11_look 4 RX11 (some .int)) {r : Int32} {M1 : Mem} {x1 : Int32} {x2 : Int32} {M : Mem} (hF : f_X11_look x1 x2 M = some (r, M1)) : Wt K X (QM K X (some (vi r)) M1 0 0) 0 0 M 0 [(0, vr 311), (1, vi x1), (2, vi x2)] [] := by
  unfold f_X11_look at hF
  refine w_aload_n hB 0 dX11_look_0 rfl rfl ?_
  refine w_iconst hB 0 (by decide) dX11_look_1 ?_
  obtain ⟨M1m, e_M1m, hF⟩ := bndS hF
  refine w_putI hB ff_X11_0 sh_311 (Or.inl hp.1) q_1160 e_M1m dX11_look_2 ?_
  refine w_aload_n hB 0 dX11_look_5 rfl rfl ?_
  refine w_iload_n hB 1 dX11_look_6 rfl rfl ?_
  obtain ⟨r1, M2m, hc_M2m, hF⟩ := clS hF
  refine w_callV hB (ci := 9) (As := [vi x1]) (st := []) cw_X11_343 q_1552 q_55 rfl sh_311 (Or.inl hp.1) (c_X11_isPlay hp hc_M2m) ⟨rfl, rfl⟩ (by decide) (by decide) rfl (Nat.le_of_ble_eq_true rfl) dX11_look_7 rfl ?_
  refine w_if_eq hB 25 dX11_look_10 (by decide) (fun hc => ?_) (fun hc => ?_)
  · replace hF := ifT hc hF
    refine w_iconst hB (-1) (by decide) dX11_look_25 ?_
    obtain ⟨e1, e2⟩ := retS hF
    subst e2
    exact w_iret hB dX11_look_26 e1
  · replace hF := ifF hc hF
    refine w_iload_n hB 2 dX11_look_13 rfl rfl ?_
    refine w_i2l hB dX11_look_14 ?_
    refine w_lconst hB 0 (by decide) dX11_look_15 ?_
    refine w_ldc2 hB (v := 2) q_1622 dX11_look_16 ?_
    obtain ⟨r2, M3m, hc_M3m, hF⟩ := clS hF
    refine w_callS hB (As := [vl (x2.toInt64), vl 0, vl 2]) (st := []) cw_X11_156 q_1320 (c_X11_within hp hc_M3m) ⟨rfl, rfl⟩ (by decide) (by decide) rfl (Nat.le_of_ble_eq_true rfl) dX11_look_19 rfl ?_
    refine w_if_ne hB 27 dX11_look_22 (by decide) (fun hc => ?_) (fun hc => ?_)
    · replace hF := ifF hc hF
      refine w_aload_n hB 0 dX11_look_27 rfl rfl ?_
      refine w_iload_n hB 1 dX11_look_28 rfl rfl ?_
      refine w_aload_n hB 0 dX11_look_29 rfl rfl ?_
      refine w_iload_n hB 1 dX11_look_30 rfl rfl ?_
      obtain ⟨r3, M4m, hc_M4m, hF⟩ := clS hF
      refine w_callV hB (ci := 9) (As := [vi x1]) (st := [vi x1, vr 311]) cw_X11_369 q_1625 q_61 rfl sh_311 (Or.inl hp.1) (c_X11_callOf hp hc_M4m) ⟨rfl, rfl⟩ (by decide) (by decide) rfl (Nat.le_of_ble_eq_true rfl) dX11_look_31 rfl ?_
      obtain ⟨r4, M5m, hc_M5m, hF⟩ := clS hF
      refine w_callV hB (ci := 9) (As := [vi x1, vi r3]) (st := []) cw_X11_372 q_1629 q_62 rfl sh_311 (Or.inl hp.1) (c_X11_review hp hc_M5m) ⟨rfl, rfl⟩ (by decide) (by decide) rfl (Nat.le_of_ble_eq_true rfl) dX11_look_34 rfl ?_
      refine w_istore_n hB (L' := [(3, vi r4), (0, vr 311), (1, vi x1), (2, vi x2)]) dX11_look_37 rfl (by decide) rfl rfl ?_
      refine w_iload_n hB 3 dX11_look_38 rfl rfl ?_
      refine w_if_ne hB 46 dX11_look_39 (by decide) (fun hc => ?_) (fun hc => ?_)
      · replace hF := ifF hc hF
        refine w_iload_n hB 3 dX11_look_46 rfl rfl ?_
        refine w_iconst hB 1 (by decide) dX11_look_47 ?_
        refine w_icmp_ne hB 59 dX11_look_48 (by decide) (fun hc => ?_) (fun hc => ?_)
        · replace hF := ifF hc hF
          refine w_aload_n hB 1 dX11_look_59 rfl rfl ?_
          refine w_getI hB ff_X11_44 sh_311 (Or.inl hp.1) q_1204 dX11_look_60 ?_
          obtain ⟨e1, e2⟩ := retS hF
          subst e2
          exact w_iret hB dX11_look_63 e1
        · replace hF := ifT hc hF
          refine w_aload_n hB 1 dX11_look_51 rfl rfl ?_
          refine w_iload_n hB 2 dX11_look_52 rfl rfl ?_
          obtain ⟨r5, M6m, hc_M6m, hF⟩ := clS hF
          refine w_callV hB (ci := 9) (As := [vi x1]) (st := []) cw_X11_375 q_1633 q_63 rfl sh_311 (Or.inl hp.1) (c_X11_secondsOf hp hc_M6m) ⟨rfl, rfl⟩ (by decide) (by decide) rfl (Nat.le_of_ble_eq_true rfl) dX11_look_53 rfl ?_
          refine w_goto hB 63 dX11_look_56 (by decide) ?_
          obtain ⟨e1, e2⟩ := retS hF
          subst e2
          exact w_iret hB dX11_look_63 e1
      · replace hF := ifT hc hF
        refine w_iload_n hB 0 dX11_look_42 rfl rfl ?_
        refine w_goto hB 63 dX11_look_43 (by decide) ?_
        obtain ⟨e1, e2⟩ := retS hF
        subst e2
        exact w_iret hB dX11_look_63 e1
    · replace hF := ifT hc hF
      refine w_iconst hB (-1) (by decide) dX11_look_25 ?_
      obtain ⟨e1, e2⟩ := retS hF
      subst e2
      exact w_iret hB dX11_look_26 e1
theorem c_X11_look {K : Kt} {l : Launch} (hp : St K) {r : Int32} {M1 : Mem} {x1 : Int32} {x2 : Int32} {M : Mem} (hF : f_X11_look x1 x2 M = some (r, M1)) : MT K l yX11_look cX11_look 4 (some .int) { frames := 5, cells := 0, slots := 0, locals := 121 } [vr 311, vi x1, vi x2] M (some (vi r)) M1 0 0 :=
  MT_of (by decide) rfl (Nat.le_of_ble_eq_true rfl) (fun X _ hB _ => b_X11_look hp hB hF)
def f_X11_keeps_b51_s (rec51 : Int32 → Mem → Option Mem) (x1 : Int32) (M : Mem) : Option Mem :=
  if 114 ≤ x1 then
    bnd (setI M 311 40 ((M.1 311 40) + 1)) fun M1m =>
    some M1m
  else
    gd (inb x1 114) <|
    gd (inb ((114 * (M.1 311 40)) + x1) 1368) <|
    bnd (setI M 341 (((114 * (M.1 311 40)) + x1).toNatClampNeg) (M.1 340 x1.toNatClampNeg)) fun M2m =>
    bnd (x1 + 1) fun a1 =>
    rec51 a1 M2m
set_option maxRecDepth 100000 in
set_option maxHeartbeats 4000000 in
theorem b_X11_keeps_b51_s {K : Kt} {X : Xt} (hp : St K) (hB : Bx K X { frames := 0, cells := 0, slots := 0, locals := 0 } cX11_keeps 2 RX11 none) {M1 : Mem} {rec51 : Int32 → Mem → Option Mem}
    (h51 : ∀ x1 M, rec51 x1 M = some M1 → Wt K X (QM K X none M1 0 0) 0 0 M 51 [(0, vr 311), (1, vi x1)] []) {x1 : Int32} {M : Mem} (hF : f_X11_keeps_b51_s rec51 x1 M = some M1) : Wt K X (QM K X none M1 0 0) 0 0 M 51 [(0, vr 311), (1, vi x1)] [] := by
  unfold f_X11_keeps_b51_s at hF
  refine w_iload_n hB 1 dX11_keeps_51 rfl rfl ?_
  refine w_bipush hB 114 (by decide) dX11_keeps_52 ?_
  refine w_icmp_ge hB 83 dX11_keeps_54 (by decide) (fun hc => ?_) (fun hc => ?_)
  · replace hF := ifT hc hF
    refine w_aload_n hB 0 dX11_keeps_83 rfl rfl ?_
    refine w_dup hB rfl dX11_keeps_84 ?_
    refine w_getI hB ff_X11_40 sh_311 (Or.inl hp.1) q_1200 dX11_keeps_85 ?_
    refine w_iconst hB 1 (by decide) dX11_keeps_88 ?_
    refine w_iadd hB dX11_keeps_89 ?_
    obtain ⟨M1m, e_M1m, hF⟩ := bndS hF
    refine w_putI hB ff_X11_40 sh_311 (Or.inl hp.1) q_1200 e_M1m dX11_keeps_90 ?_
    cases hF
    exact w_vret hB dX11_keeps_93
  · replace hF := ifF hc hF
    refine w_aload_n hB 0 dX11_keeps_57 rfl rfl ?_
    refine w_getC hB (v := 341) ff_X11_39 sh_311 hp.1 cr_311_39 (by decide) q_1199 dX11_keeps_58 ?_
    refine w_bipush hB 114 (by decide) dX11_keeps_61 ?_
    refine w_aload_n hB 0 dX11_keeps_63 rfl rfl ?_
    refine w_getI hB ff_X11_40 sh_311 (Or.inl hp.1) q_1200 dX11_keeps_64 ?_
    refine w_imul hB dX11_keeps_67 ?_
    refine w_iload_n hB 1 dX11_keeps_68 rfl rfl ?_
    refine w_iadd hB dX11_keeps_69 ?_
    refine w_aload_n hB 0 dX11_keeps_70 rfl rfl ?_
    refine w_getC hB (v := 340) ff_X11_38 sh_311 hp.1 cr_311_38 (by decide) q_1198 dX11_keeps_71 ?_
    refine w_iload_n hB 1 dX11_keeps_74 rfl rfl ?_
    obtain ⟨g1, hF⟩ := gdS hF
    refine w_iald hB sh_340 (Or.inl hp.1) sl_340 g1 dX11_keeps_75 ?_
    obtain ⟨g2, hF⟩ := gdS hF
    obtain ⟨M2m, e_M2m, hF⟩ := bndS hF
    refine w_iast hB sh_341 (Or.inl hp.1) sl_341 g2 e_M2m dX11_keeps_76 ?_
    obtain ⟨a1, e_a1, hF⟩ := bndS hF
    refine w_iinc hB 1 (v := 1) (L' := [(1, vi a1), (0, vr 311)]) dX11_keeps_77 rfl (by decide) (by decide) e_a1 rfl ?_
    refine w_goto hB 51 dX11_keeps_80 (by decide) ?_
    exact Wt.sub (L' := [(0, vr 311), (1, vi a1)]) [1, 0] rfl (h51 _ M2m hF)
def f_X11_keeps_b51 (k : Nat) : Int32 → Mem → Option Mem := lpN (fun _ _ => none) (f_X11_keeps_b51_s) k
theorem b_X11_keeps_b51 {K : Kt} {X : Xt} (hp : St K) (hB : Bx K X { frames := 0, cells := 0, slots := 0, locals := 0 } cX11_keeps 2 RX11 none) {M1 : Mem} (k : Nat) : ∀ (x1 : Int32) M, f_X11_keeps_b51 k x1 M = some M1 → Wt K X (QM K X none M1 0 0) 0 0 M 51 [(0, vr 311), (1, vi x1)] [] := by
  refine lpN_ind (P := fun (f : Int32 → Mem → Option Mem) => ∀ (x1 : Int32) M, f x1 M = some M1 → Wt K X (QM K X none M1 0 0) 0 0 M 51 [(0, vr 311), (1, vi x1)] []) (fun _ _ h => by cases h) (fun f hf x1 M hF => ?_) k
  exact b_X11_keeps_b51_s hp hB hf hF
def f_X11_keeps_b11_s (rec11 : Int32 → Mem → Option Mem) (x1 : Int32) (M : Mem) : Option Mem :=
  if 1254 ≤ x1 then
    bnd (setI M 311 40 ((M.1 311 40) - 1)) fun M1m =>
    f_X11_keeps_b51 fuel 0 M1m
  else
    gd (inb (x1 + 114) 1368) <|
    gd (inb x1 1368) <|
    bnd (setI M 341 (x1.toNatClampNeg) (M.1 341 (x1 + 114).toNatClampNeg)) fun M2m =>
    bnd (x1 + 1) fun a1 =>
    rec11 a1 M2m
set_option maxRecDepth 100000 in
set_option maxHeartbeats 4000000 in
theorem b_X11_keeps_b11_s {K : Kt} {X : Xt} (hp : St K) (hB : Bx K X { frames := 0, cells := 0, slots := 0, locals := 0 } cX11_keeps 2 RX11 none) {M1 : Mem} {rec11 : Int32 → Mem → Option Mem}
    (h11 : ∀ x1 M, rec11 x1 M = some M1 → Wt K X (QM K X none M1 0 0) 0 0 M 11 [(0, vr 311), (1, vi x1)] []) {x1 : Int32} {M : Mem} (hF : f_X11_keeps_b11_s rec11 x1 M = some M1) : Wt K X (QM K X none M1 0 0) 0 0 M 11 [(0, vr 311), (1, vi x1)] [] := by
  unfold f_X11_keeps_b11_s at hF
  refine w_iload_n hB 1 dX11_keeps_11 rfl rfl ?_
  refine w_sipush hB 1254 (by decide) dX11_keeps_12 ?_
  refine w_icmp_ge hB 39 dX11_keeps_15 (by decide) (fun hc => ?_) (fun hc => ?_)
  · replace hF := ifT hc hF
    refine w_aload_n hB 0 dX11_keeps_39 rfl rfl ?_
    refine w_dup hB rfl dX11_keeps_40 ?_
    refine w_getI hB ff_X11_40 sh_311 (Or.inl hp.1) q_1200 dX11_keeps_41 ?_
    refine w_iconst hB 1 (by decide) dX11_keeps_44 ?_
    refine w_isub hB dX11_keeps_45 ?_
    obtain ⟨M1m, e_M1m, hF⟩ := bndS hF
    refine w_putI hB ff_X11_40 sh_311 (Or.inl hp.1) q_1200 e_M1m dX11_keeps_46 ?_
    refine w_iconst hB 0 (by decide) dX11_keeps_49 ?_
    refine w_istore_n hB (L' := [(1, vi 0), (0, vr 311)]) dX11_keeps_50 rfl (by decide) rfl rfl ?_
    exact Wt.sub (L' := [(0, vr 311), (1, vi 0)]) [1, 0] rfl (b_X11_keeps_b51 hp hB fuel _ M1m hF)
  · replace hF := ifF hc hF
    refine w_aload_n hB 0 dX11_keeps_18 rfl rfl ?_
    refine w_getC hB (v := 341) ff_X11_39 sh_311 hp.1 cr_311_39 (by decide) q_1199 dX11_keeps_19 ?_
    refine w_iload_n hB 1 dX11_keeps_22 rfl rfl ?_
    refine w_aload_n hB 0 dX11_keeps_23 rfl rfl ?_
    refine w_getC hB (v := 341) ff_X11_39 sh_311 hp.1 cr_311_39 (by decide) q_1199 dX11_keeps_24 ?_
    refine w_iload_n hB 1 dX11_keeps_27 rfl rfl ?_
    refine w_bipush hB 114 (by decide) dX11_keeps_28 ?_
    refine w_iadd hB dX11_keeps_30 ?_
    obtain ⟨g1, hF⟩ := gdS hF
    refine w_iald hB sh_341 (Or.inl hp.1) sl_341 g1 dX11_keeps_31 ?_
    obtain ⟨g2, hF⟩ := gdS hF
    obtain ⟨M2m, e_M2m, hF⟩ := bndS hF
    refine w_iast hB sh_341 (Or.inl hp.1) sl_341 g2 e_M2m dX11_keeps_32 ?_
    obtain ⟨a1, e_a1, hF⟩ := bndS hF
    refine w_iinc hB 1 (v := 1) (L' := [(1, vi a1), (0, vr 311)]) dX11_keeps_33 rfl (by decide) (by decide) e_a1 rfl ?_
    refine w_goto hB 11 dX11_keeps_36 (by decide) ?_
    exact Wt.sub (L' := [(0, vr 311), (1, vi a1)]) [1, 0] rfl (h11 _ M2m hF)
def f_X11_keeps_b11 (k : Nat) : Int32 → Mem → Option Mem := lpN (fun _ _ => none) (f_X11_keeps_b11_s) k
theorem b_X11_keeps_b11 {K : Kt} {X : Xt} (hp : St K) (hB : Bx K X { frames := 0, cells := 0, slots := 0, locals := 0 } cX11_keeps 2 RX11 none) {M1 : Mem} (k : Nat) : ∀ (x1 : Int32) M, f_X11_keeps_b11 k x1 M = some M1 → Wt K X (QM K X none M1 0 0) 0 0 M 11 [(0, vr 311), (1, vi x1)] [] := by
  refine lpN_ind (P := fun (f : Int32 → Mem → Option Mem) => ∀ (x1 : Int32) M, f x1 M = some M1 → Wt K X (QM K X none M1 0 0) 0 0 M 11 [(0, vr 311), (1, vi x1)] []) (fun _ _ h => by cases h) (fun f hf x1 M hF => ?_) k
  exact b_X11_keeps_b11_s hp hB hf hF
def f_X11_keeps (M : Mem) : Option Mem :=
  if (M.1 311 40) = 12 then
    f_X11_keeps_b11 fuel 0 M
  else
    f_X11_keeps_b51 fuel 0 M
set_option maxRecDepth 100000 in
set_option maxHeartbeats 4000000 in
theorem b_X11_keeps {K : Kt} {X : Xt} (hp : St K) (hB : Bx K X { frames := 0, cells := 0, slots := 0, locals := 0 } cX11_keeps 2 RX11 none) {M1 : Mem} {M : Mem} (hF : f_X11_keeps M = some M1) : Wt K X (QM K X none M1 0 0) 0 0 M 0 [(0, vr 311)] [] := by
  unfold f_X11_keeps at hF
  refine w_aload_n hB 0 dX11_keeps_0 rfl rfl ?_
  refine w_getI hB ff_X11_40 sh_311 (Or.inl hp.1) q_1200 dX11_keeps_1 ?_
  refine w_bipush hB 12 (by decide) dX11_keeps_4 ?_
  refine w_icmp_ne hB 49 dX11_keeps_6 (by decide) (fun hc => ?_) (fun hc => ?_)
  · replace hF := ifF hc hF
    refine w_iconst hB 0 (by decide) dX11_keeps_49 ?_
    refine w_istore_n hB (L' := [(1, vi 0), (0, vr 311)]) dX11_keeps_50 rfl (by decide) rfl rfl ?_
    exact Wt.sub (L' := [(0, vr 311), (1, vi 0)]) [1, 0] rfl (b_X11_keeps_b51 hp hB fuel _ M hF)
  · replace hF := ifT hc hF
    refine w_iconst hB 0 (by decide) dX11_keeps_9 ?_
    refine w_istore_n hB (L' := [(1, vi 0), (0, vr 311)]) dX11_keeps_10 rfl (by decide) rfl rfl ?_
    exact Wt.sub (L' := [(0, vr 311), (1, vi 0)]) [1, 0] rfl (b_X11_keeps_b11 hp hB fuel _ M hF)
theorem c_X11_keeps {K : Kt} {l : Launch} (hp : St K) {M1 : Mem} {M : Mem} (hF : f_X11_keeps M = some M1) : MT K l yX11_keeps cX11_keeps 2 none { frames := 0, cells := 0, slots := 0, locals := 0 } [vr 311] M none M1 0 0 :=
  MT_of (by decide) rfl (Nat.le_of_ble_eq_true rfl) (fun X _ hB _ => b_X11_keeps hp hB hF)
def f_X11_logs_b4_s (rec4 : Int32 → Int32 → Int32 → Int32 → Int32 → Mem → Option Mem) (x1 : Int32) (x2 : Int32) (x3 : Int32) (x4 : Int32) (x5 : Int32) (M : Mem) : Option Mem :=
  if x5 < 54 then
    bnd (setI M 340 50 x1) fun M1m =>
    bnd (setI M1m 340 51 x2) fun M2m =>
    bnd (setI M2m 340 52 x3) fun M3m =>
    bnd (setI M3m 340 53 x4) fun M4m =>
    if 16 ≤ (M4m.1 340 49) then
      some M4m
    else
      bnd (setI M4m 340 49 ((M4m.1 340 49) + 1)) fun M5m =>
      some M5m
  else
    gd (inb (x5 - 4) 114) <|
    gd (inb x5 114) <|
    bnd (setI M 340 (x5.toNatClampNeg) (M.1 340 (x5 - 4).toNatClampNeg)) fun M6m =>
    bnd (x5 + (-1)) fun a1 =>
    rec4 x1 x2 x3 x4 a1 M6m
set_option maxRecDepth 100000 in
set_option maxHeartbeats 4000000 in
theorem b_X11_logs_b4_s {K : Kt} {X : Xt} (hp : St K) (hB : Bx K X { frames := 0, cells := 0, slots := 0, locals := 0 } cX11_logs 6 RX11 none) {M1 : Mem} {rec4 : Int32 → Int32 → Int32 → Int32 → Int32 → Mem → Option Mem}
    (h4 : ∀ x1 x2 x3 x4 x5 M, rec4 x1 x2 x3 x4 x5 M = some M1 → Wt K X (QM K X none M1 0 0) 0 0 M 4 [(0, vr 311), (1, vi x1), (2, vi x2), (3, vi x3), (4, vi x4), (5, vi x5)] []) {x1 : Int32} {x2 : Int32} {x3 : Int32} {x4 : Int32} {x5 : Int32} {M : Mem} (hF : f_X11_logs_b4_s rec4 x1 x2 x3 x4 x5 M = some M1) : Wt K X (QM K X none M1 0 0) 0 0 M 4 [(0, vr 311), (1, vi x1), (2, vi x2), (3, vi x3), (4, vi x4), (5, vi x5)] [] := by
  unfold f_X11_logs_b4_s at hF
  refine w_iload hB 5 dX11_logs_4 rfl ?_
  refine w_bipush hB 54 (by decide) dX11_logs_6 ?_
  refine w_icmp_lt hB 33 dX11_logs_8 (by decide) (fun hc => ?_) (fun hc => ?_)
  · replace hF := ifT hc hF
    refine w_aload_n hB 0 dX11_logs_33 rfl rfl ?_
    refine w_getC hB (v := 340) ff_X11_38 sh_311 hp.1 cr_311_38 (by decide) q_1198 dX11_logs_34 ?_
    refine w_bipush hB 50 (by decide) dX11_logs_37 ?_
    refine w_iload_n hB 1 dX11_logs_39 rfl rfl ?_
    obtain ⟨M1m, e_M1m, hF⟩ := bndS hF
    refine w_iast hB sh_340 (Or.inl hp.1) sl_340 (by decide) e_M1m dX11_logs_40 ?_
    refine w_aload_n hB 0 dX11_logs_41 rfl rfl ?_
    refine w_getC hB (v := 340) ff_X11_38 sh_311 hp.1 cr_311_38 (by decide) q_1198 dX11_logs_42 ?_
    refine w_bipush hB 51 (by decide) dX11_logs_45 ?_
    refine w_iload_n hB 2 dX11_logs_47 rfl rfl ?_
    obtain ⟨M2m, e_M2m, hF⟩ := bndS hF
    refine w_iast hB sh_340 (Or.inl hp.1) sl_340 (by decide) e_M2m dX11_logs_48 ?_
    refine w_aload_n hB 0 dX11_logs_49 rfl rfl ?_
    refine w_getC hB (v := 340) ff_X11_38 sh_311 hp.1 cr_311_38 (by decide) q_1198 dX11_logs_50 ?_
    refine w_bipush hB 52 (by decide) dX11_logs_53 ?_
    refine w_iload_n hB 3 dX11_logs_55 rfl rfl ?_
    obtain ⟨M3m, e_M3m, hF⟩ := bndS hF
    refine w_iast hB sh_340 (Or.inl hp.1) sl_340 (by decide) e_M3m dX11_logs_56 ?_
    refine w_aload_n hB 0 dX11_logs_57 rfl rfl ?_
    refine w_getC hB (v := 340) ff_X11_38 sh_311 hp.1 cr_311_38 (by decide) q_1198 dX11_logs_58 ?_
    refine w_bipush hB 53 (by decide) dX11_logs_61 ?_
    refine w_iload hB 4 dX11_logs_63 rfl ?_
    obtain ⟨M4m, e_M4m, hF⟩ := bndS hF
    refine w_iast hB sh_340 (Or.inl hp.1) sl_340 (by decide) e_M4m dX11_logs_65 ?_
    refine w_aload_n hB 0 dX11_logs_66 rfl rfl ?_
    refine w_getC hB (v := 340) ff_X11_38 sh_311 hp.1 cr_311_38 (by decide) q_1198 dX11_logs_67 ?_
    refine w_bipush hB 49 (by decide) dX11_logs_70 ?_
    refine w_iald hB sh_340 (Or.inl hp.1) sl_340 (by decide) dX11_logs_72 ?_
    rw [show (49 : Int32).toNatClampNeg = 49 by decide]
    refine w_bipush hB 16 (by decide) dX11_logs_73 ?_
    refine w_icmp_ge hB 89 dX11_logs_75 (by decide) (fun hc => ?_) (fun hc => ?_)
    · replace hF := ifT hc hF
      cases hF
      exact w_vret hB dX11_logs_89
    · replace hF := ifF hc hF
      refine w_aload_n hB 0 dX11_logs_78 rfl rfl ?_
      refine w_getC hB (v := 340) ff_X11_38 sh_311 hp.1 cr_311_38 (by decide) q_1198 dX11_logs_79 ?_
      refine w_bipush hB 49 (by decide) dX11_logs_82 ?_
      refine w_dup2 hB rfl rfl dX11_logs_84 ?_
      refine w_iald hB sh_340 (Or.inl hp.1) sl_340 (by decide) dX11_logs_85 ?_
      rw [show (49 : Int32).toNatClampNeg = 49 by decide]
      refine w_iconst hB 1 (by decide) dX11_logs_86 ?_
      refine w_iadd hB dX11_logs_87 ?_
      obtain ⟨M5m, e_M5m, hF⟩ := bndS hF
      refine w_iast hB sh_340 (Or.inl hp.1) sl_340 (by decide) e_M5m dX11_logs_88 ?_
      cases hF
      exact w_vret hB dX11_logs_89
  · replace hF := ifF hc hF
    refine w_aload_n hB 0 dX11_logs_11 rfl rfl ?_
    refine w_getC hB (v := 340) ff_X11_38 sh_311 hp.1 cr_311_38 (by decide) q_1198 dX11_logs_12 ?_
    refine w_iload hB 5 dX11_logs_15 rfl ?_
    refine w_aload_n hB 0 dX11_logs_17 rfl rfl ?_
    refine w_getC hB (v := 340) ff_X11_38 sh_311 hp.1 cr_311_38 (by decide) q_1198 dX11_logs_18 ?_
    refine w_iload hB 5 dX11_logs_21 rfl ?_
    refine w_iconst hB 4 (by decide) dX11_logs_23 ?_
    refine w_isub hB dX11_logs_24 ?_
    obtain ⟨g1, hF⟩ := gdS hF
    refine w_iald hB sh_340 (Or.inl hp.1) sl_340 g1 dX11_logs_25 ?_
    obtain ⟨g2, hF⟩ := gdS hF
    obtain ⟨M6m, e_M6m, hF⟩ := bndS hF
    refine w_iast hB sh_340 (Or.inl hp.1) sl_340 g2 e_M6m dX11_logs_26 ?_
    obtain ⟨a1, e_a1, hF⟩ := bndS hF
    refine w_iinc hB 5 (v := (-1)) (L' := [(5, vi a1), (0, vr 311), (1, vi x1), (2, vi x2), (3, vi x3), (4, vi x4)]) dX11_logs_27 rfl (by decide) (by decide) e_a1 rfl ?_
    refine w_goto hB 4 dX11_logs_30 (by decide) ?_
    exact Wt.sub (L' := [(0, vr 311), (1, vi x1), (2, vi x2), (3, vi x3), (4, vi x4), (5, vi a1)]) [1, 2, 3, 4, 5, 0] rfl (h4 _ _ _ _ _ M6m hF)
def f_X11_logs_b4 (k : Nat) : Int32 → Int32 → Int32 → Int32 → Int32 → Mem → Option Mem := lpN (fun _ _ _ _ _ _ => none) (f_X11_logs_b4_s) k
theorem b_X11_logs_b4 {K : Kt} {X : Xt} (hp : St K) (hB : Bx K X { frames := 0, cells := 0, slots := 0, locals := 0 } cX11_logs 6 RX11 none) {M1 : Mem} (k : Nat) : ∀ (x1 : Int32) (x2 : Int32) (x3 : Int32) (x4 : Int32) (x5 : Int32) M, f_X11_logs_b4 k x1 x2 x3 x4 x5 M = some M1 → Wt K X (QM K X none M1 0 0) 0 0 M 4 [(0, vr 311), (1, vi x1), (2, vi x2), (3, vi x3), (4, vi x4), (5, vi x5)] [] := by
  refine lpN_ind (P := fun (f : Int32 → Int32 → Int32 → Int32 → Int32 → Mem → Option Mem) => ∀ (x1 : Int32) (x2 : Int32) (x3 : Int32) (x4 : Int32) (x5 : Int32) M, f x1 x2 x3 x4 x5 M = some M1 → Wt K X (QM K X none M1 0 0) 0 0 M 4 [(0, vr 311), (1, vi x1), (2, vi x2), (3, vi x3), (4, vi x4), (5, vi x5)] []) (fun _ _ _ _ _ _ h => by cases h) (fun f hf x1 x2 x3 x4 x5 M hF => ?_) k
  exact b_X11_logs_b4_s hp hB hf hF
def f_X11_logs (x1 : Int32) (x2 : Int32) (x3 : Int32) (x4 : Int32) (M : Mem) : Option Mem :=
  f_X11_logs_b4 fuel x1 x2 x3 x4 113 M
set_option maxRecDepth 100000 in
set_option maxHeartbeats 4000000 in
theorem b_X11_logs {K : Kt} {X : Xt} (hp : St K) (hB : Bx K X { frames := 0, cells := 0, slots := 0, locals := 0 } cX11_logs 6 RX11 none) {M1 : Mem} {x1 : Int32} {x2 : Int32} {x3 : Int32} {x4 : Int32} {M : Mem} (hF : f_X11_logs x1 x2 x3 x4 M = some M1) : Wt K X (QM K X none M1 0 0) 0 0 M 0 [(0, vr 311), (1, vi x1), (2, vi x2), (3, vi x3), (4, vi x4)] [] := by
  unfold f_X11_logs at hF
  refine w_bipush hB 113 (by decide) dX11_logs_0 ?_
  refine w_istore hB (L' := [(5, vi 113), (0, vr 311), (1, vi x1), (2, vi x2), (3, vi x3), (4, vi x4)]) dX11_logs_2 (by decide) rfl rfl ?_
  exact Wt.sub (L' := [(0, vr 311), (1, vi x1), (2, vi x2), (3, vi x3), (4, vi x4), (5, vi 113)]) [1, 2, 3, 4, 5, 0] rfl (b_X11_logs_b4 hp hB fuel _ _ _ _ _ M hF)
theorem c_X11_logs {K : Kt} {l : Launch} (hp : St K) {M1 : Mem} {x1 : Int32} {x2 : Int32} {x3 : Int32} {x4 : Int32} {M : Mem} (hF : f_X11_logs x1 x2 x3 x4 M = some M1) : MT K l yX11_logs cX11_logs 6 none { frames := 0, cells := 0, slots := 0, locals := 0 } [vr 311, vi x1, vi x2, vi x3, vi x4] M none M1 0 0 :=
  MT_of (by decide) rfl (Nat.le_of_ble_eq_true rfl) (fun X _ hB _ => b_X11_logs hp hB hF)
def f_X11_forgets_b2_s (rec2 : Int32 → Int32 → Mem → Option Mem) (x1 : Int32) (x2 : Int32) (M : Mem) : Option Mem :=
  if 8 ≤ x2 then
    bnd (setI M 340 0 x1) fun M1m =>
    some M1m
  else
    gd (inb (1 + x2) 114) <|
    bnd (setI M 340 ((1 + x2).toNatClampNeg) 0) fun M2m =>
    gd (inb (9 + x2) 114) <|
    bnd (setI M2m 340 ((9 + x2).toNatClampNeg) 0) fun M3m =>
    gd (inb (17 + x2) 114) <|
    bnd (setI M3m 340 ((17 + x2).toNatClampNeg) 0) fun M4m =>
    gd (inb (25 + x2) 114) <|
    bnd (setI M4m 340 ((25 + x2).toNatClampNeg) 0) fun M5m =>
    bnd (x2 + 1) fun a1 =>
    rec2 x1 a1 M5m
set_option maxRecDepth 100000 in
set_option maxHeartbeats 4000000 in
theorem b_X11_forgets_b2_s {K : Kt} {X : Xt} (hp : St K) (hB : Bx K X { frames := 0, cells := 0, slots := 0, locals := 0 } cX11_forgets 3 RX11 none) {M1 : Mem} {rec2 : Int32 → Int32 → Mem → Option Mem}
    (h2 : ∀ x1 x2 M, rec2 x1 x2 M = some M1 → Wt K X (QM K X none M1 0 0) 0 0 M 2 [(0, vr 311), (1, vi x1), (2, vi x2)] []) {x1 : Int32} {x2 : Int32} {M : Mem} (hF : f_X11_forgets_b2_s rec2 x1 x2 M = some M1) : Wt K X (QM K X none M1 0 0) 0 0 M 2 [(0, vr 311), (1, vi x1), (2, vi x2)] [] := by
  unfold f_X11_forgets_b2_s at hF
  refine w_iload_n hB 2 dX11_forgets_2 rfl rfl ?_
  refine w_bipush hB 8 (by decide) dX11_forgets_3 ?_
  refine w_icmp_ge hB 53 dX11_forgets_5 (by decide) (fun hc => ?_) (fun hc => ?_)
  · replace hF := ifT hc hF
    refine w_aload_n hB 0 dX11_forgets_53 rfl rfl ?_
    refine w_getC hB (v := 340) ff_X11_38 sh_311 hp.1 cr_311_38 (by decide) q_1198 dX11_forgets_54 ?_
    refine w_iconst hB 0 (by decide) dX11_forgets_57 ?_
    refine w_iload_n hB 1 dX11_forgets_58 rfl rfl ?_
    obtain ⟨M1m, e_M1m, hF⟩ := bndS hF
    refine w_iast hB sh_340 (Or.inl hp.1) sl_340 (by decide) e_M1m dX11_forgets_59 ?_
    cases hF
    exact w_vret hB dX11_forgets_60
  · replace hF := ifF hc hF
    refine w_aload_n hB 0 dX11_forgets_8 rfl rfl ?_
    refine w_getC hB (v := 340) ff_X11_38 sh_311 hp.1 cr_311_38 (by decide) q_1198 dX11_forgets_9 ?_
    refine w_iconst hB 1 (by decide) dX11_forgets_12 ?_
    refine w_iload_n hB 2 dX11_forgets_13 rfl rfl ?_
    refine w_iadd hB dX11_forgets_14 ?_
    refine w_iconst hB 0 (by decide) dX11_forgets_15 ?_
    obtain ⟨g1, hF⟩ := gdS hF
    obtain ⟨M2m, e_M2m, hF⟩ := bndS hF
    refine w_iast hB sh_340 (Or.inl hp.1) sl_340 g1 e_M2m dX11_forgets_16 ?_
    refine w_aload_n hB 0 dX11_forgets_17 rfl rfl ?_
    refine w_getC hB (v := 340) ff_X11_38 sh_311 hp.1 cr_311_38 (by decide) q_1198 dX11_forgets_18 ?_
    refine w_bipush hB 9 (by decide) dX11_forgets_21 ?_
    refine w_iload_n hB 2 dX11_forgets_23 rfl rfl ?_
    refine w_iadd hB dX11_forgets_24 ?_
    refine w_iconst hB 0 (by decide) dX11_forgets_25 ?_
    obtain ⟨g2, hF⟩ := gdS hF
    obtain ⟨M3m, e_M3m, hF⟩ := bndS hF
    refine w_iast hB sh_340 (Or.inl hp.1) sl_340 g2 e_M3m dX11_forgets_26 ?_
    refine w_aload_n hB 0 dX11_forgets_27 rfl rfl ?_
    refine w_getC hB (v := 340) ff_X11_38 sh_311 hp.1 cr_311_38 (by decide) q_1198 dX11_forgets_28 ?_
    refine w_bipush hB 17 (by decide) dX11_forgets_31 ?_
    refine w_iload_n hB 2 dX11_forgets_33 rfl rfl ?_
    refine w_iadd hB dX11_forgets_34 ?_
    refine w_iconst hB 0 (by decide) dX11_forgets_35 ?_
    obtain ⟨g3, hF⟩ := gdS hF
    obtain ⟨M4m, e_M4m, hF⟩ := bndS hF
    refine w_iast hB sh_340 (Or.inl hp.1) sl_340 g3 e_M4m dX11_forgets_36 ?_
    refine w_aload_n hB 0 dX11_forgets_37 rfl rfl ?_
    refine w_getC hB (v := 340) ff_X11_38 sh_311 hp.1 cr_311_38 (by decide) q_1198 dX11_forgets_38 ?_
    refine w_bipush hB 25 (by decide) dX11_forgets_41 ?_
    refine w_iload_n hB 2 dX11_forgets_43 rfl rfl ?_
    refine w_iadd hB dX11_forgets_44 ?_
    refine w_iconst hB 0 (by decide) dX11_forgets_45 ?_
    obtain ⟨g4, hF⟩ := gdS hF
    obtain ⟨M5m, e_M5m, hF⟩ := bndS hF
    refine w_iast hB sh_340 (Or.inl hp.1) sl_340 g4 e_M5m dX11_forgets_46 ?_
    obtain ⟨a1, e_a1, hF⟩ := bndS hF
    refine w_iinc hB 2 (v := 1) (L' := [(2, vi a1), (0, vr 311), (1, vi x1)]) dX11_forgets_47 rfl (by decide) (by decide) e_a1 rfl ?_
    refine w_goto hB 2 dX11_forgets_50 (by decide) ?_
    exact Wt.sub (L' := [(0, vr 311), (1, vi x1), (2, vi a1)]) [1, 2, 0] rfl (h2 _ _ M5m hF)
def f_X11_forgets_b2 (k : Nat) : Int32 → Int32 → Mem → Option Mem := lpN (fun _ _ _ => none) (f_X11_forgets_b2_s) k
theorem b_X11_forgets_b2 {K : Kt} {X : Xt} (hp : St K) (hB : Bx K X { frames := 0, cells := 0, slots := 0, locals := 0 } cX11_forgets 3 RX11 none) {M1 : Mem} (k : Nat) : ∀ (x1 : Int32) (x2 : Int32) M, f_X11_forgets_b2 k x1 x2 M = some M1 → Wt K X (QM K X none M1 0 0) 0 0 M 2 [(0, vr 311), (1, vi x1), (2, vi x2)] [] := by
  refine lpN_ind (P := fun (f : Int32 → Int32 → Mem → Option Mem) => ∀ (x1 : Int32) (x2 : Int32) M, f x1 x2 M = some M1 → Wt K X (QM K X none M1 0 0) 0 0 M 2 [(0, vr 311), (1, vi x1), (2, vi x2)] []) (fun _ _ _ h => by cases h) (fun f hf x1 x2 M hF => ?_) k
  exact b_X11_forgets_b2_s hp hB hf hF
def f_X11_forgets (x1 : Int32) (M : Mem) : Option Mem :=
  f_X11_forgets_b2 fuel x1 x1 M
set_option maxRecDepth 100000 in
set_option maxHeartbeats 4000000 in
theorem b_X11_forgets {K : Kt} {X : Xt} (hp : St K) (hB : Bx K X { frames := 0, cells := 0, slots := 0, locals := 0 } cX11_forgets 3 RX11 none) {M1 : Mem} {x1 : Int32} {M : Mem} (hF : f_X11_forgets x1 M = some M1) : Wt K X (QM K X none M1 0 0) 0 0 M 0 [(0, vr 311), (1, vi x1)] [] := by
  unfold f_X11_forgets at hF
  refine w_iload_n hB 1 dX11_forgets_0 rfl rfl ?_
  refine w_istore_n hB (L' := [(2, vi x1), (0, vr 311), (1, vi x1)]) dX11_forgets_1 rfl (by decide) rfl rfl ?_
  exact Wt.sub (L' := [(0, vr 311), (1, vi x1), (2, vi x1)]) [1, 2, 0] rfl (b_X11_forgets_b2 hp hB fuel _ _ M hF)
theorem c_X11_forgets {K : Kt} {l : Launch} (hp : St K) {M1 : Mem} {x1 : Int32} {M : Mem} (hF : f_X11_forgets x1 M = some M1) : MT K l yX11_forgets cX11_forgets 3 none { frames := 0, cells := 0, slots := 0, locals := 0 } [vr 311, vi x1] M none M1 0 0 :=
  MT_of (by decide) rfl (Nat.le_of_ble_eq_true rfl) (fun X _ hB _ => b_X11_forgets hp hB hF)
