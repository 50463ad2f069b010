def f_X11_undo_b26_s (rec26 : Int32 → Mem → Option (Int32 × Mem)) (x1 : Int32) (M : Mem) : Option (Int32 × Mem) :=
  if 114 ≤ x1 then
    some (M.1 311 40, M)
  else
    gd (inb ((114 * (M.1 311 40)) + x1) 1368) <|
    gd (inb x1 114) <|
    bnd (setI M 340 (x1.toNatClampNeg) (M.1 341 ((114 * (M.1 311 40)) + x1).toNatClampNeg)) fun M1m =>
    bnd (x1 + 1) fun a1 =>
    rec26 a1 M1m
set_option maxRecDepth 100000 in
set_option maxHeartbeats 4000000 in
theorem b_X11_undo_b26_s {K : Kt} {X : Xt} (hp : St K) (hB : Bx K X { frames := 0, cells := 0, slots := 0, locals := 0 } cX11_undo 2 RX11 (some .int)) {r : Int32} {M1 : Mem} {rec26 : Int32 → Mem → Option (Int32 × Mem)}
    (h26 : ∀ x1 M, rec26 x1 M = some (r, M1) → Wt K X (QM K X (some (vi r)) M1 0 0) 0 0 M 26 [(0, vr 311), (1, vi x1)] []) {x1 : Int32} {M : Mem} (hF : f_X11_undo_b26_s rec26 x1 M = some (r, M1)) : Wt K X (QM K X (some (vi r)) M1 0 0) 0 0 M 26 [(0, vr 311), (1, vi x1)] [] := by
  unfold f_X11_undo_b26_s at hF
  refine w_iload_n hB 1 dX11_undo_26 rfl rfl ?_
  refine w_bipush hB 114 (by decide) dX11_undo_27 ?_
  refine w_icmp_ge hB 58 dX11_undo_29 (by decide) (fun hc => ?_) (fun hc => ?_)
  · replace hF := ifT hc hF
    refine w_aload_n hB 0 dX11_undo_58 rfl rfl ?_
    refine w_getI hB ff_X11_40 sh_311 (Or.inl hp.1) q_1200 dX11_undo_59 ?_
    obtain ⟨e1, e2⟩ := retS hF
    subst e2
    exact w_iret hB dX11_undo_62 e1
  · replace hF := ifF hc hF
    refine w_aload_n hB 0 dX11_undo_32 rfl rfl ?_
    refine w_getC hB (v := 340) ff_X11_38 sh_311 hp.1 cr_311_38 (by decide) q_1198 dX11_undo_33 ?_
    refine w_iload_n hB 1 dX11_undo_36 rfl rfl ?_
    refine w_aload_n hB 0 dX11_undo_37 rfl rfl ?_
    refine w_getC hB (v := 341) ff_X11_39 sh_311 hp.1 cr_311_39 (by decide) q_1199 dX11_undo_38 ?_
    refine w_bipush hB 114 (by decide) dX11_undo_41 ?_
    refine w_aload_n hB 0 dX11_undo_43 rfl rfl ?_
    refine w_getI hB ff_X11_40 sh_311 (Or.inl hp.1) q_1200 dX11_undo_44 ?_
    refine w_imul hB dX11_undo_47 ?_
    refine w_iload_n hB 1 dX11_undo_48 rfl rfl ?_
    refine w_iadd hB dX11_undo_49 ?_
    obtain ⟨g1, hF⟩ := gdS hF
    refine w_iald hB sh_341 (Or.inl hp.1) sl_341 g1 dX11_undo_50 ?_
    obtain ⟨g2, hF⟩ := gdS hF
    obtain ⟨M1m, e_M1m, hF⟩ := bndS hF
    refine w_iast hB sh_340 (Or.inl hp.1) sl_340 g2 e_M1m dX11_undo_51 ?_
    obtain ⟨a1, e_a1, hF⟩ := bndS hF
    refine w_iinc hB 1 (v := 1) (L' := [(1, vi a1), (0, vr 311)]) dX11_undo_52 rfl (by decide) (by decide) e_a1 rfl ?_
    refine w_goto hB 26 dX11_undo_55 (by decide) ?_
    exact Wt.sub (L' := [(0, vr 311), (1, vi a1)]) [1, 0] rfl (h26 _ M1m hF)
def f_X11_undo_b26 (k : Nat) : Int32 → Mem → Option (Int32 × Mem) := lpN (fun _ _ => none) (f_X11_undo_b26_s) k
theorem b_X11_undo_b26 {K : Kt} {X : Xt} (hp : St K) (hB : Bx K X { frames := 0, cells := 0, slots := 0, locals := 0 } cX11_undo 2 RX11 (some .int)) {r : Int32} {M1 : Mem} (k : Nat) : ∀ (x1 : Int32) M, f_X11_undo_b26 k x1 M = some (r, M1) → Wt K X (QM K X (some (vi r)) M1 0 0) 0 0 M 26 [(0, vr 311), (1, vi x1)] [] := by
  refine lpN_ind (P := fun (f : Int32 → Mem → Option (Int32 × Mem)) => ∀ (x1 : Int32) M, f x1 M = some (r, M1) → Wt K X (QM K X (some (vi r)) M1 0 0) 0 0 M 26 [(0, vr 311), (1, vi x1)] []) (fun _ _ h => by cases h) (fun f hf x1 M hF => ?_) k
  exact b_X11_undo_b26_s hp hB hf hF
def f_X11_undo (M : Mem) : Option (Int32 × Mem) :=
  bnd (setI M 311 0 0) fun M1m =>
  if (M1m.1 311 40) = 0 then
    some ((-1), M1m)
  else
    bnd (setI M1m 311 40 ((M1m.1 311 40) - 1)) fun M2m =>
    f_X11_undo_b26 fuel 0 M2m
set_option maxRecDepth 100000 in
set_option maxHeartbeats 4000000 in
theorem b_X11_undo {K : Kt} {X : Xt} (hp : St K) (hB : Bx K X { frames := 0, cells := 0, slots := 0, locals := 0 } cX11_undo 2 RX11 (some .int)) {r : Int32} {M1 : Mem} {M : Mem} (hF : f_X11_undo M = some (r, M1)) : Wt K X (QM K X (some (vi r)) M1 0 0) 0 0 M 0 [(0, vr 311)] [] := by
  unfold f_X11_undo at hF
  refine w_aload_n hB 0 dX11_undo_0 rfl rfl ?_
  refine w_iconst hB 0 (by decide) dX11_undo_1 ?_
  obtain ⟨M1m, e_M1m, hF⟩ := bndS hF
  refine w_putI hB ff_X11_0 sh_311 (Or.inl hp.1) q_1160 e_M1m dX11_undo_2 ?_
  refine w_aload_n hB 0 dX11_undo_5 rfl rfl ?_
  refine w_getI hB ff_X11_40 sh_311 (Or.inl hp.1) q_1200 dX11_undo_6 ?_
  refine w_if_ne hB 14 dX11_undo_9 (by decide) (fun hc => ?_) (fun hc => ?_)
  · replace hF := ifF hc hF
    refine w_aload_n hB 0 dX11_undo_14 rfl rfl ?_
    refine w_dup hB rfl dX11_undo_15 ?_
    refine w_getI hB ff_X11_40 sh_311 (Or.inl hp.1) q_1200 dX11_undo_16 ?_
    refine w_iconst hB 1 (by decide) dX11_undo_19 ?_
    refine w_isub hB dX11_undo_20 ?_
    obtain ⟨M2m, e_M2m, hF⟩ := bndS hF
    refine w_putI hB ff_X11_40 sh_311 (Or.inl hp.1) q_1200 e_M2m dX11_undo_21 ?_
    refine w_iconst hB 0 (by decide) dX11_undo_24 ?_
    refine w_istore_n hB (L' := [(1, vi 0), (0, vr 311)]) dX11_undo_25 rfl (by decide) rfl rfl ?_
    exact Wt.sub (L' := [(0, vr 311), (1, vi 0)]) [1, 0] rfl (b_X11_undo_b26 hp hB fuel _ M2m hF)
  · replace hF := ifT hc hF
    refine w_iconst hB (-1) (by decide) dX11_undo_12 ?_
    obtain ⟨e1, e2⟩ := retS hF
    subst e2
    exact w_iret hB dX11_undo_13 e1
theorem c_X11_undo {K : Kt} {l : Launch} (hp : St K) {r : Int32} {M1 : Mem} {M : Mem} (hF : f_X11_undo M = some (r, M1)) : MT K l yX11_undo cX11_undo 2 (some .int) { frames := 0, cells := 0, slots := 0, locals := 0 } [vr 311] M (some (vi r)) M1 0 0 :=
  MT_of (by decide) rfl (Nat.le_of_ble_eq_true rfl) (fun X _ hB _ => b_X11_undo hp hB hF)
def f_X11_keep_b32_s (rec32 : Int32 → Int32 → Int32 → Mem → Option (Int32 × Mem)) (x1 : Int32) (x2 : Int32) (x3 : Int32) (M : Mem) : Option (Int32 × Mem) :=
  if 114 ≤ x3 then
    if x2 = 0 then
      gd (inb x1 2) <|
      bnd (setI M 343 (x1.toNatClampNeg) (vp_nar .boolean 1)) fun M1m =>
      some (1, M1m)
    else
      bnd (setI M 311 40 0) fun M2m =>
      some (1, M2m)
  else
    if x2 = 0 then
      gd (inb x3 114) <|
      gd (inb ((114 * x1) + x3) 228) <|
      bnd (setI M 342 (((114 * x1) + x3).toNatClampNeg) (M.1 340 x3.toNatClampNeg)) fun M3m =>
      bnd (x3 + 1) fun a1 =>
      rec32 x1 x2 a1 M3m
    else
      gd (inb ((114 * x1) + x3) 228) <|
      gd (inb x3 114) <|
      bnd (setI M 340 (x3.toNatClampNeg) (M.1 342 ((114 * x1) + x3).toNatClampNeg)) fun M4m =>
      bnd (x3 + 1) fun a2 =>
      rec32 x1 x2 a2 M4m
set_option maxRecDepth 100000 in
set_option maxHeartbeats 4000000 in
theorem b_X11_keep_b32_s {K : Kt} {X : Xt} (hp : St K) (hB : Bx K X { frames := 1, cells := 0, slots := 0, locals := 25 } cX11_keep 4 RX11 (some .boolean)) {r : Int32} {M1 : Mem} {rec32 : Int32 → Int32 → Int32 → Mem → Option (Int32 × Mem)}
    (h32 : ∀ x1 x2 x3 M, rec32 x1 x2 x3 M = some (r, M1) → Wt K X (QM K X (some (vi r)) M1 0 0) 0 0 M 32 [(0, vr 311), (1, vi x1), (2, vi x2), (3, vi x3)] []) {x1 : Int32} {x2 : Int32} {x3 : Int32} {M : Mem} (hF : f_X11_keep_b32_s rec32 x1 x2 x3 M = some (r, M1)) : Wt K X (QM K X (some (vi r)) M1 0 0) 0 0 M 32 [(0, vr 311), (1, vi x1), (2, vi x2), (3, vi x3)] [] := by
  unfold f_X11_keep_b32_s at hF
  refine w_iload_n hB 3 dX11_keep_32 rfl rfl ?_
  refine w_bipush hB 114 (by decide) dX11_keep_33 ?_
  refine w_icmp_ge hB 85 dX11_keep_35 (by decide) (fun hc => ?_) (fun hc => ?_)
  · replace hF := ifT hc hF
    refine w_iload_n hB 2 dX11_keep_85 rfl rfl ?_
    refine w_if_eq hB 97 dX11_keep_86 (by decide) (fun hc => ?_) (fun hc => ?_)
    · replace hF := ifT hc hF
      refine w_aload_n hB 0 dX11_keep_97 rfl rfl ?_
      refine w_getC hB (v := 343) ff_X11_42 sh_311 hp.1 cr_311_42 (by decide) q_1202 dX11_keep_98 ?_
      refine w_iload_n hB 1 dX11_keep_101 rfl rfl ?_
      refine w_iconst hB 1 (by decide) dX11_keep_102 ?_
      obtain ⟨g1, hF⟩ := gdS hF
      obtain ⟨M1m, e_M1m, hF⟩ := bndS hF
      refine w_zast hB sh_343 (Or.inl hp.1) sl_343 g1 e_M1m dX11_keep_103 ?_
      refine w_iconst hB 1 (by decide) dX11_keep_104 ?_
      obtain ⟨e1, e2⟩ := retS hF
      subst e2
      exact w_zret hB (by decide) dX11_keep_105 e1
    · replace hF := ifF hc hF
      refine w_aload_n hB 0 dX11_keep_89 rfl rfl ?_
      refine w_iconst hB 0 (by decide) dX11_keep_90 ?_
      obtain ⟨M2m, e_M2m, hF⟩ := bndS hF
      refine w_putI hB ff_X11_40 sh_311 (Or.inl hp.1) q_1200 e_M2m dX11_keep_91 ?_
      refine w_goto hB 104 dX11_keep_94 (by decide) ?_
      refine w_iconst hB 1 (by decide) dX11_keep_104 ?_
      obtain ⟨e1, e2⟩ := retS hF
      subst e2
      exact w_zret hB (by decide) dX11_keep_105 e1
  · replace hF := ifF hc hF
    refine w_iload_n hB 2 dX11_keep_38 rfl rfl ?_
    refine w_if_eq hB 62 dX11_keep_39 (by decide) (fun hc => ?_) (fun hc => ?_)
    · replace hF := ifT hc hF
      refine w_aload_n hB 0 dX11_keep_62 rfl rfl ?_
      refine w_getC hB (v := 342) ff_X11_41 sh_311 hp.1 cr_311_41 (by decide) q_1201 dX11_keep_63 ?_
      refine w_bipush hB 114 (by decide) dX11_keep_66 ?_
      refine w_iload_n hB 1 dX11_keep_68 rfl rfl ?_
      refine w_imul hB dX11_keep_69 ?_
      refine w_iload_n hB 3 dX11_keep_70 rfl rfl ?_
      refine w_iadd hB dX11_keep_71 ?_
      refine w_aload_n hB 0 dX11_keep_72 rfl rfl ?_
      refine w_getC hB (v := 340) ff_X11_38 sh_311 hp.1 cr_311_38 (by decide) q_1198 dX11_keep_73 ?_
      refine w_iload_n hB 3 dX11_keep_76 rfl rfl ?_
      obtain ⟨g2, hF⟩ := gdS hF
      refine w_iald hB sh_340 (Or.inl hp.1) sl_340 g2 dX11_keep_77 ?_
      obtain ⟨g3, hF⟩ := gdS hF
      obtain ⟨M3m, e_M3m, hF⟩ := bndS hF
      refine w_iast hB sh_342 (Or.inl hp.1) sl_342 g3 e_M3m dX11_keep_78 ?_
      obtain ⟨a1, e_a1, hF⟩ := bndS hF
      refine w_iinc hB 3 (v := 1) (L' := [(3, vi a1), (0, vr 311), (1, vi x1), (2, vi x2)]) dX11_keep_79 rfl (by decide) (by decide) e_a1 rfl ?_
      refine w_goto hB 32 dX11_keep_82 (by decide) ?_
      exact Wt.sub (L' := [(0, vr 311), (1, vi x1), (2, vi x2), (3, vi a1)]) [1, 2, 3, 0] rfl (h32 _ _ _ M3m hF)
    · replace hF := ifF hc hF
      refine w_aload_n hB 0 dX11_keep_42 rfl rfl ?_
      refine w_getC hB (v := 340) ff_X11_38 sh_311 hp.1 cr_311_38 (by decide) q_1198 dX11_keep_43 ?_
      refine w_iload_n hB 3 dX11_keep_46 rfl rfl ?_
      refine w_aload_n hB 0 dX11_keep_47 rfl rfl ?_
      refine w_getC hB (v := 342) ff_X11_41 sh_311 hp.1 cr_311_41 (by decide) q_1201 dX11_keep_48 ?_
      refine w_bipush hB 114 (by decide) dX11_keep_51 ?_
      refine w_iload_n hB 1 dX11_keep_53 rfl rfl ?_
      refine w_imul hB dX11_keep_54 ?_
      refine w_iload_n hB 3 dX11_keep_55 rfl rfl ?_
      refine w_iadd hB dX11_keep_56 ?_
      obtain ⟨g4, hF⟩ := gdS hF
      refine w_iald hB sh_342 (Or.inl hp.1) sl_342 g4 dX11_keep_57 ?_
      obtain ⟨g5, hF⟩ := gdS hF
      obtain ⟨M4m, e_M4m, hF⟩ := bndS hF
      refine w_iast hB sh_340 (Or.inl hp.1) sl_340 g5 e_M4m dX11_keep_58 ?_
      refine w_goto hB 79 dX11_keep_59 (by decide) ?_
      obtain ⟨a2, e_a2, hF⟩ := bndS hF
      refine w_iinc hB 3 (v := 1) (L' := [(3, vi a2), (0, vr 311), (1, vi x1), (2, vi x2)]) dX11_keep_79 rfl (by decide) (by decide) e_a2 rfl ?_
      refine w_goto hB 32 dX11_keep_82 (by decide) ?_
      exact Wt.sub (L' := [(0, vr 311), (1, vi x1), (2, vi x2), (3, vi a2)]) [1, 2, 3, 0] rfl (h32 _ _ _ M4m hF)
def f_X11_keep_b32 (k : Nat) : Int32 → Int32 → Int32 → Mem → Option (Int32 × Mem) := lpN (fun _ _ _ _ => none) (f_X11_keep_b32_s) k
theorem b_X11_keep_b32 {K : Kt} {X : Xt} (hp : St K) (hB : Bx K X { frames := 1, cells := 0, slots := 0, locals := 25 } cX11_keep 4 RX11 (some .boolean)) {r : Int32} {M1 : Mem} (k : Nat) : ∀ (x1 : Int32) (x2 : Int32) (x3 : Int32) M, f_X11_keep_b32 k x1 x2 x3 M = some (r, M1) → Wt K X (QM K X (some (vi r)) M1 0 0) 0 0 M 32 [(0, vr 311), (1, vi x1), (2, vi x2), (3, vi x3)] [] := by
  refine lpN_ind (P := fun (f : Int32 → Int32 → Int32 → Mem → Option (Int32 × Mem)) => ∀ (x1 : Int32) (x2 : Int32) (x3 : Int32) M, f x1 x2 x3 M = some (r, M1) → Wt K X (QM K X (some (vi r)) M1 0 0) 0 0 M 32 [(0, vr 311), (1, vi x1), (2, vi x2), (3, vi x3)] []) (fun _ _ _ _ h => by cases h) (fun f hf x1 x2 x3 M hF => ?_) k
  exact b_X11_keep_b32_s hp hB hf hF
def f_X11_keep (x1 : Int32) (x2 : Int32) (M : Mem) : Option (Int32 × Mem) :=
  bnd (setI M 311 0 0) fun M1m =>
  cl (f_X11_within (x1.toInt64) 0 1 M1m) fun r1 M2m =>
  if r1 = 0 then
    some (0, M2m)
  else
    if x2 = 0 then
      f_X11_keep_b32 fuel x1 x2 0 M2m
    else
      gd (inb x1 2) <|
      if (M2m.1 343 x1.toNatClampNeg) = 0 then
        some (0, M2m)
      else
        f_X11_keep_b32 fuel x1 x2 0 M2m
set_option maxRecDepth 100000 in
set_option maxHeartbeats 4000000 in
theorem b_X11_keep {K : Kt} {X : Xt} (hp : St K) (hB : Bx K X { frames := 1, cells := 0, slots := 0, locals := 25 } cX11_keep 4 RX11 (some .boolean)) {r : Int32} {M1 : Mem} {x1 : Int32} {x2 : Int32} {M : Mem} (hF : f_X11_keep x1 x2 M = some (r, M1)) : Wt K X (QM K X (some (vi r)) M1 0 0) 0 0 M 0 [(0, vr 311), (1, vi x1), (2, vi x2)] [] := by
  unfold f_X11_keep at hF
  refine w_aload_n hB 0 dX11_keep_0 rfl rfl ?_
  refine w_iconst hB 0 (by decide) dX11_keep_1 ?_
  obtain ⟨M1m, e_M1m, hF⟩ := bndS hF
  refine w_putI hB ff_X11_0 sh_311 (Or.inl hp.1) q_1160 e_M1m dX11_keep_2 ?_
  refine w_iload_n hB 1 dX11_keep_5 rfl rfl ?_
  refine w_i2l hB dX11_keep_6 ?_
  refine w_lconst hB 0 (by decide) dX11_keep_7 ?_
  refine w_lconst hB 1 (by decide) dX11_keep_8 ?_
  obtain ⟨r1, M2m, hc_M2m, hF⟩ := clS hF
  refine w_callS hB (As := [vl (x1.toInt64), vl 0, vl 1]) (st := []) cw_X11_156 q_1320 (c_X11_within hp hc_M2m) ⟨rfl, rfl⟩ (by decide) (by decide) rfl (Nat.le_of_ble_eq_true rfl) dX11_keep_9 rfl ?_
  refine w_if_eq hB 28 dX11_keep_12 (by decide) (fun hc => ?_) (fun hc => ?_)
  · replace hF := ifT hc hF
    refine w_iconst hB 0 (by decide) dX11_keep_28 ?_
    obtain ⟨e1, e2⟩ := retS hF
    subst e2
    exact w_zret hB (by decide) dX11_keep_29 e1
  · replace hF := ifF hc hF
    refine w_iload_n hB 2 dX11_keep_15 rfl rfl ?_
    refine w_if_eq hB 30 dX11_keep_16 (by decide) (fun hc => ?_) (fun hc => ?_)
    · replace hF := ifT hc hF
      refine w_iconst hB 0 (by decide) dX11_keep_30 ?_
      refine w_istore_n hB (L' := [(3, vi 0), (0, vr 311), (1, vi x1), (2, vi x2)]) dX11_keep_31 rfl (by decide) rfl rfl ?_
      exact Wt.sub (L' := [(0, vr 311), (1, vi x1), (2, vi x2), (3, vi 0)]) [1, 2, 3, 0] rfl (b_X11_keep_b32 hp hB fuel _ _ _ M2m hF)
    · replace hF := ifF hc hF
      refine w_aload_n hB 0 dX11_keep_19 rfl rfl ?_
      refine w_getC hB (v := 343) ff_X11_42 sh_311 hp.1 cr_311_42 (by decide) q_1202 dX11_keep_20 ?_
      refine w_iload_n hB 1 dX11_keep_23 rfl rfl ?_
      obtain ⟨g1, hF⟩ := gdS hF
      refine w_zald hB sh_343 (Or.inl hp.1) sl_343 g1 dX11_keep_24 ?_
      refine w_if_ne hB 30 dX11_keep_25 (by decide) (fun hc => ?_) (fun hc => ?_)
      · replace hF := ifF hc hF
        refine w_iconst hB 0 (by decide) dX11_keep_30 ?_
        refine w_istore_n hB (L' := [(3, vi 0), (0, vr 311), (1, vi x1), (2, vi x2)]) dX11_keep_31 rfl (by decide) rfl rfl ?_
        exact Wt.sub (L' := [(0, vr 311), (1, vi x1), (2, vi x2), (3, vi 0)]) [1, 2, 3, 0] rfl (b_X11_keep_b32 hp hB fuel _ _ _ M2m hF)
      · replace hF := ifT hc hF
        refine w_iconst hB 0 (by decide) dX11_keep_28 ?_
        obtain ⟨e1, e2⟩ := retS hF
        subst e2
        exact w_zret hB (by decide) dX11_keep_29 e1
theorem c_X11_keep {K : Kt} {l : Launch} (hp : St K) {r : Int32} {M1 : Mem} {x1 : Int32} {x2 : Int32} {M : Mem} (hF : f_X11_keep x1 x2 M = some (r, M1)) : MT K l yX11_keep cX11_keep 4 (some .boolean) { frames := 1, cells := 0, slots := 0, locals := 25 } [vr 311, vi x1, vi x2] M (some (vi r)) M1 0 0 :=
  MT_of (by decide) rfl (Nat.le_of_ble_eq_true rfl) (fun X _ hB _ => b_X11_keep hp hB hF)
def f_X11_count (x1 : Int32) (M : Mem) : Option (Int32 × Mem) :=
  bnd (setI M 311 0 0) fun M1m =>
  if x1 = 0 then
    some (M1m.1 313 0, M1m)
  else
  if x1 = 1 then
    some (M1m.1 313 5, M1m)
  else
  if x1 = 2 then
    some (M1m.1 313 1, M1m)
  else
  if x1 = 3 then
    some (M1m.1 313 2, M1m)
  else
  if x1 = 4 then
    some (M1m.1 313 3, M1m)
  else
  if x1 = 5 then
    some (M1m.1 313 4, M1m)
  else
  if x1 = 6 then
    some (M1m.1 340 0, M1m)
  else
  if x1 = 7 then
    some (M1m.1 340 49, M1m)
  else
  if x1 = 8 then
    some (M1m.1 311 40, M1m)
  else
  if x1 = 9 then
    some (M1m.1 311 2, M1m)
  else
  if x1 = 10 then
    some (M1m.1 311 46, M1m)
  else
  if x1 = 11 then
    gd (inb (x1 - 11) 8) <|
    some (M1m.1 314 (x1 - 11).toNatClampNeg, M1m)
  else
  if x1 = 12 then
    gd (inb (x1 - 11) 8) <|
    some (M1m.1 314 (x1 - 11).toNatClampNeg, M1m)
  else
  if x1 = 13 then
    gd (inb (x1 - 11) 8) <|
    some (M1m.1 314 (x1 - 11).toNatClampNeg, M1m)
  else
  if x1 = 14 then
    gd (inb (x1 - 11) 8) <|
    some (M1m.1 314 (x1 - 11).toNatClampNeg, M1m)
  else
    some ((-1), M1m)
set_option maxRecDepth 100000 in
set_option maxHeartbeats 4000000 in
theorem b_X11_count {K : Kt} {X : Xt} (hp : St K) (hB : Bx K X { frames := 0, cells := 0, slots := 0, locals := 0 } cX11_count 2 RX11 (some .int)) {r : Int32} {M1 : Mem} {x1 : Int32} {M : Mem} (hF : f_X11_count x1 M = some (r, M1)) : Wt K X (QM K X (some (vi r)) M1 0 0) 0 0 M 0 [(0, vr 311), (1, vi x1)] [] := by
  unfold f_X11_count at hF
  refine w_aload_n hB 0 dX11_count_0 rfl rfl ?_
  refine w_iconst hB 0 (by decide) dX11_count_1 ?_
  obtain ⟨M1m, e_M1m, hF⟩ := bndS hF
  refine w_putI hB ff_X11_0 sh_311 (Or.inl hp.1) q_1160 e_M1m dX11_count_2 ?_
  refine w_iload_n hB 1 dX11_count_5 rfl rfl ?_
  by_cases ht0 : x1 = 0
  · replace hF := ifT ht0 hF
    refine w_tsIn hB 80 dX11_count_6 (off := 74) (by rw [ht0]; decide) (by rw [ht0]; decide) (by rw [ht0]; rfl) (by decide) ?_
    refine w_aload_n hB 0 dX11_count_80 rfl rfl ?_
    refine w_getC hB (v := 313) ff_X11_11 sh_311 hp.1 cr_311_11 (by decide) q_1171 dX11_count_81 ?_
    refine w_iconst hB 0 (by decide) dX11_count_84 ?_
    refine w_iald hB sh_313 (Or.inl hp.1) sl_313 (by decide) dX11_count_85 ?_
    rw [show (0 : Int32).toNatClampNeg = 0 by decide]
    obtain ⟨e1, e2⟩ := retS hF
    subst e2
    exact w_iret hB dX11_count_86 e1
  replace hF := ifF ht0 hF
  by_cases ht1 : x1 = 1
  · replace hF := ifT ht1 hF
    refine w_tsIn hB 87 dX11_count_6 (off := 81) (by rw [ht1]; decide) (by rw [ht1]; decide) (by rw [ht1]; rfl) (by decide) ?_
    refine w_aload_n hB 0 dX11_count_87 rfl rfl ?_
    refine w_getC hB (v := 313) ff_X11_11 sh_311 hp.1 cr_311_11 (by decide) q_1171 dX11_count_88 ?_
    refine w_iconst hB 5 (by decide) dX11_count_91 ?_
    refine w_iald hB sh_313 (Or.inl hp.1) sl_313 (by decide) dX11_count_92 ?_
    rw [show (5 : Int32).toNatClampNeg = 5 by decide]
    obtain ⟨e1, e2⟩ := retS hF
    subst e2
    exact w_iret hB dX11_count_93 e1
  replace hF := ifF ht1 hF
  by_cases ht2 : x1 = 2
  · replace hF := ifT ht2 hF
    refine w_tsIn hB 94 dX11_count_6 (off := 88) (by rw [ht2]; decide) (by rw [ht2]; decide) (by rw [ht2]; rfl) (by decide) ?_
    refine w_aload_n hB 0 dX11_count_94 rfl rfl ?_
    refine w_getC hB (v := 313) ff_X11_11 sh_311 hp.1 cr_311_11 (by decide) q_1171 dX11_count_95 ?_
    refine w_iconst hB 1 (by decide) dX11_count_98 ?_
    refine w_iald hB sh_313 (Or.inl hp.1) sl_313 (by decide) dX11_count_99 ?_
    rw [show (1 : Int32).toNatClampNeg = 1 by decide]
    obtain ⟨e1, e2⟩ := retS hF
    subst e2
    exact w_iret hB dX11_count_100 e1
  replace hF := ifF ht2 hF
  by_cases ht3 : x1 = 3
  · replace hF := ifT ht3 hF
    refine w_tsIn hB 101 dX11_count_6 (off := 95) (by rw [ht3]; decide) (by rw [ht3]; decide) (by rw [ht3]; rfl) (by decide) ?_
    refine w_aload_n hB 0 dX11_count_101 rfl rfl ?_
    refine w_getC hB (v := 313) ff_X11_11 sh_311 hp.1 cr_311_11 (by decide) q_1171 dX11_count_102 ?_
    refine w_iconst hB 2 (by decide) dX11_count_105 ?_
    refine w_iald hB sh_313 (Or.inl hp.1) sl_313 (by decide) dX11_count_106 ?_
    rw [show (2 : Int32).toNatClampNeg = 2 by decide]
    obtain ⟨e1, e2⟩ := retS hF
    subst e2
    exact w_iret hB dX11_count_107 e1
  replace hF := ifF ht3 hF
  by_cases ht4 : x1 = 4
  · replace hF := ifT ht4 hF
    refine w_tsIn hB 108 dX11_count_6 (off := 102) (by rw [ht4]; decide) (by rw [ht4]; decide) (by rw [ht4]; rfl) (by decide) ?_
    refine w_aload_n hB 0 dX11_count_108 rfl rfl ?_
    refine w_getC hB (v := 313) ff_X11_11 sh_311 hp.1 cr_311_11 (by decide) q_1171 dX11_count_109 ?_
    refine w_iconst hB 3 (by decide) dX11_count_112 ?_
    refine w_iald hB sh_313 (Or.inl hp.1) sl_313 (by decide) dX11_count_113 ?_
    rw [show (3 : Int32).toNatClampNeg = 3 by decide]
    obtain ⟨e1, e2⟩ := retS hF
    subst e2
    exact w_iret hB dX11_count_114 e1
  replace hF := ifF ht4 hF
  by_cases ht5 : x1 = 5
  · replace hF := ifT ht5 hF
    refine w_tsIn hB 115 dX11_count_6 (off := 109) (by rw [ht5]; decide) (by rw [ht5]; decide) (by rw [ht5]; rfl) (by decide) ?_
    refine w_aload_n hB 0 dX11_count_115 rfl rfl ?_
    refine w_getC hB (v := 313) ff_X11_11 sh_311 hp.1 cr_311_11 (by decide) q_1171 dX11_count_116 ?_
    refine w_iconst hB 4 (by decide) dX11_count_119 ?_
    refine w_iald hB sh_313 (Or.inl hp.1) sl_313 (by decide) dX11_count_120 ?_
    rw [show (4 : Int32).toNatClampNeg = 4 by decide]
    obtain ⟨e1, e2⟩ := retS hF
    subst e2
    exact w_iret hB dX11_count_121 e1
  replace hF := ifF ht5 hF
  by_cases ht6 : x1 = 6
  · replace hF := ifT ht6 hF
    refine w_tsIn hB 122 dX11_count_6 (off := 116) (by rw [ht6]; decide) (by rw [ht6]; decide) (by rw [ht6]; rfl) (by decide) ?_
    refine w_aload_n hB 0 dX11_count_122 rfl rfl ?_
    refine w_getC hB (v := 340) ff_X11_38 sh_311 hp.1 cr_311_38 (by decide) q_1198 dX11_count_123 ?_
    refine w_iconst hB 0 (by decide) dX11_count_126 ?_
    refine w_iald hB sh_340 (Or.inl hp.1) sl_340 (by decide) dX11_count_127 ?_
    rw [show (0 : Int32).toNatClampNeg = 0 by decide]
    obtain ⟨e1, e2⟩ := retS hF
    subst e2
    exact w_iret hB dX11_count_128 e1
  replace hF := ifF ht6 hF
  by_cases ht7 : x1 = 7
  · replace hF := ifT ht7 hF
    refine w_tsIn hB 129 dX11_count_6 (off := 123) (by rw [ht7]; decide) (by rw [ht7]; decide) (by rw [ht7]; rfl) (by decide) ?_
    refine w_aload_n hB 0 dX11_count_129 rfl rfl ?_
    refine w_getC hB (v := 340) ff_X11_38 sh_311 hp.1 cr_311_38 (by decide) q_1198 dX11_count_130 ?_
    refine w_bipush hB 49 (by decide) dX11_count_133 ?_
    refine w_iald hB sh_340 (Or.inl hp.1) sl_340 (by decide) dX11_count_135 ?_
    rw [show (49 : Int32).toNatClampNeg = 49 by decide]
    obtain ⟨e1, e2⟩ := retS hF
    subst e2
    exact w_iret hB dX11_count_136 e1
  replace hF := ifF ht7 hF
  by_cases ht8 : x1 = 8
  · replace hF := ifT ht8 hF
    refine w_tsIn hB 137 dX11_count_6 (off := 131) (by rw [ht8]; decide) (by rw [ht8]; decide) (by rw [ht8]; rfl) (by decide) ?_
    refine w_aload_n hB 0 dX11_count_137 rfl rfl ?_
    refine w_getI hB ff_X11_40 sh_311 (Or.inl hp.1) q_1200 dX11_count_138 ?_
    obtain ⟨e1, e2⟩ := retS hF
    subst e2
    exact w_iret hB dX11_count_141 e1
  replace hF := ifF ht8 hF
  by_cases ht9 : x1 = 9
  · replace hF := ifT ht9 hF
    refine w_tsIn hB 142 dX11_count_6 (off := 136) (by rw [ht9]; decide) (by rw [ht9]; decide) (by rw [ht9]; rfl) (by decide) ?_
    refine w_aload_n hB 0 dX11_count_142 rfl rfl ?_
    refine w_getI hB ff_X11_2 sh_311 (Or.inl hp.1) q_1162 dX11_count_143 ?_
    obtain ⟨e1, e2⟩ := retS hF
    subst e2
    exact w_iret hB dX11_count_146 e1
  replace hF := ifF ht9 hF
  by_cases ht10 : x1 = 10
  · replace hF := ifT ht10 hF
    refine w_tsIn hB 147 dX11_count_6 (off := 141) (by rw [ht10]; decide) (by rw [ht10]; decide) (by rw [ht10]; rfl) (by decide) ?_
    refine w_aload_n hB 0 dX11_count_147 rfl rfl ?_
    refine w_getI hB ff_X11_46 sh_311 (Or.inl hp.1) q_1206 dX11_count_148 ?_
    obtain ⟨e1, e2⟩ := retS hF
    subst e2
    exact w_iret hB dX11_count_151 e1
  replace hF := ifF ht10 hF
  by_cases ht11 : x1 = 11
  · replace hF := ifT ht11 hF
    refine w_tsIn hB 152 dX11_count_6 (off := 146) (by rw [ht11]; decide) (by rw [ht11]; decide) (by rw [ht11]; rfl) (by decide) ?_
    refine w_aload_n hB 0 dX11_count_152 rfl rfl ?_
    refine w_getC hB (v := 314) ff_X11_12 sh_311 hp.1 cr_311_12 (by decide) q_1172 dX11_count_153 ?_
    refine w_iload_n hB 1 dX11_count_156 rfl rfl ?_
    refine w_bipush hB 11 (by decide) dX11_count_157 ?_
    refine w_isub hB dX11_count_159 ?_
    obtain ⟨g1, hF⟩ := gdS hF
    refine w_iald hB sh_314 (Or.inl hp.1) sl_314 g1 dX11_count_160 ?_
    obtain ⟨e1, e2⟩ := retS hF
    subst e2
    exact w_iret hB dX11_count_161 e1
  replace hF := ifF ht11 hF
  by_cases ht12 : x1 = 12
  · replace hF := ifT ht12 hF
    refine w_tsIn hB 152 dX11_count_6 (off := 146) (by rw [ht12]; decide) (by rw [ht12]; decide) (by rw [ht12]; rfl) (by decide) ?_
    refine w_aload_n hB 0 dX11_count_152 rfl rfl ?_
    refine w_getC hB (v := 314) ff_X11_12 sh_311 hp.1 cr_311_12 (by decide) q_1172 dX11_count_153 ?_
    refine w_iload_n hB 1 dX11_count_156 rfl rfl ?_
    refine w_bipush hB 11 (by decide) dX11_count_157 ?_
    refine w_isub hB dX11_count_159 ?_
    obtain ⟨g2, hF⟩ := gdS hF
    refine w_iald hB sh_314 (Or.inl hp.1) sl_314 g2 dX11_count_160 ?_
    obtain ⟨e1, e2⟩ := retS hF
    subst e2
    exact w_iret hB dX11_count_161 e1
  replace hF := ifF ht12 hF
  by_cases ht13 : x1 = 13
  · replace hF := ifT ht13 hF
    refine w_tsIn hB 152 dX11_count_6 (off := 146) (by rw [ht13]; decide) (by rw [ht13]; decide) (by rw [ht13]; rfl) (by decide) ?_
    refine w_aload_n hB 0 dX11_count_152 rfl rfl ?_
    refine w_getC hB (v := 314) ff_X11_12 sh_311 hp.1 cr_311_12 (by decide) q_1172 dX11_count_153 ?_
    refine w_iload_n hB 1 dX11_count_156 rfl rfl ?_
    refine w_bipush hB 11 (by decide) dX11_count_157 ?_
    refine w_isub hB dX11_count_159 ?_
    obtain ⟨g3, hF⟩ := gdS hF
    refine w_iald hB sh_314 (Or.inl hp.1) sl_314 g3 dX11_count_160 ?_
    obtain ⟨e1, e2⟩ := retS hF
    subst e2
    exact w_iret hB dX11_count_161 e1
  replace hF := ifF ht13 hF
  by_cases ht14 : x1 = 14
  · replace hF := ifT ht14 hF
    refine w_tsIn hB 152 dX11_count_6 (off := 146) (by rw [ht14]; decide) (by rw [ht14]; decide) (by rw [ht14]; rfl) (by decide) ?_
    refine w_aload_n hB 0 dX11_count_152 rfl rfl ?_
    refine w_getC hB (v := 314) ff_X11_12 sh_311 hp.1 cr_311_12 (by decide) q_1172 dX11_count_153 ?_
    refine w_iload_n hB 1 dX11_count_156 rfl rfl ?_
    refine w_bipush hB 11 (by decide) dX11_count_157 ?_
    refine w_isub hB dX11_count_159 ?_
    obtain ⟨g4, hF⟩ := gdS hF
    refine w_iald hB sh_314 (Or.inl hp.1) sl_314 g4 dX11_count_160 ?_
    obtain ⟨e1, e2⟩ := retS hF
    subst e2
    exact w_iret hB dX11_count_161 e1
  replace hF := ifF ht14 hF
  have tht0 := lv_neT ht0 (show (0 : Int32).toInt = 0 by decide)
  have tht1 := lv_neT ht1 (show (1 : Int32).toInt = 1 by decide)
  have tht2 := lv_neT ht2 (show (2 : Int32).toInt = 2 by decide)
  have tht3 := lv_neT ht3 (show (3 : Int32).toInt = 3 by decide)
  have tht4 := lv_neT ht4 (show (4 : Int32).toInt = 4 by decide)
  have tht5 := lv_neT ht5 (show (5 : Int32).toInt = 5 by decide)
  have tht6 := lv_neT ht6 (show (6 : Int32).toInt = 6 by decide)
  have tht7 := lv_neT ht7 (show (7 : Int32).toInt = 7 by decide)
  have tht8 := lv_neT ht8 (show (8 : Int32).toInt = 8 by decide)
  have tht9 := lv_neT ht9 (show (9 : Int32).toInt = 9 by decide)
  have tht10 := lv_neT ht10 (show (10 : Int32).toInt = 10 by decide)
  have tht11 := lv_neT ht11 (show (11 : Int32).toInt = 11 by decide)
  have tht12 := lv_neT ht12 (show (12 : Int32).toInt = 12 by decide)
  have tht13 := lv_neT ht13 (show (13 : Int32).toInt = 13 by decide)
  have tht14 := lv_neT ht14 (show (14 : Int32).toInt = 14 by decide)
  refine w_tsOut hB 162 dX11_count_6 (by omega) (by decide) ?_
  refine w_iconst hB (-1) (by decide) dX11_count_162 ?_
  obtain ⟨e1, e2⟩ := retS hF
  subst e2
  exact w_iret hB dX11_count_163 e1
theorem c_X11_count {K : Kt} {l : Launch} (hp : St K) {r : Int32} {M1 : Mem} {x1 : Int32} {M : Mem} (hF : f_X11_count x1 M = some (r, M1)) : MT K l yX11_count cX11_count 2 (some .int) { frames := 0, cells := 0, slots := 0, locals := 0 } [vr 311, vi x1] M (some (vi r)) M1 0 0 :=
  MT_of (by decide) rfl (Nat.le_of_ble_eq_true rfl) (fun X _ hB _ => b_X11_count hp hB hF)
