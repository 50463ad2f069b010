def f_X11_reviewed (x1 : Int32) (x2 : Int32) (M : Mem) : Option (Int32 × Mem) :=
  gd (inb (1 + x1) 114) <|
  cl (f_X11_review x1 (M.1 340 (1 + x1).toNatClampNeg) M) fun r1 M1m =>
  gd (inb (9 + x1) 114) <|
  bnd (setI M1m 340 ((9 + x1).toNatClampNeg) 1) fun M2m =>
  gd (inb (41 + x1) 114) <|
  cl (f_X11_secondsOf x1 M2m) fun r2 M3m =>
  bnd (setI M3m 340 ((41 + x1).toNatClampNeg) ((M2m.1 340 (41 + x1).toNatClampNeg) + r2)) fun M4m =>
  cl (f_X11_secondsOf x1 M4m) fun r3 M5m =>
  clv (f_X11_logs x1 x2 r1 r3 M5m) fun M6m =>
  if r1 = 2 then
    bnd (setI M6m 340 ((1 + x1).toNatClampNeg) (1 - (M6m.1 340 (1 + x1).toNatClampNeg))) fun M7m =>
    gd (inb x1 16) <|
    gd (inb (M7m.1 331 x1.toNatClampNeg) 10) <|
    if (M7m.1 323 (M7m.1 331 x1.toNatClampNeg).toNatClampNeg) = 0 then
      some (r1, M7m)
    else
      clv (f_X11_forgets (x1 + 1) M7m) fun M8m =>
      some (r1, M8m)
  else
    some (r1, M6m)
set_option maxRecDepth 100000 in
set_option maxHeartbeats 4000000 in
theorem b_X11_reviewed {K : Kt} {X : Xt} (hp : St K) (hB : Bx K X { frames := 5, cells := 0, slots := 0, locals := 121 } cX11_reviewed 4 RX11 (some .int)) {r : Int32} {M1 : Mem} {x1 : Int32} {x2 : Int32} {M : Mem} (hF : f_X11_reviewed x1 x2 M = some (r, M1)) : Wt K X (QM K X (some (vi r)) M1 0 0) 0 0 M 0 [(0, vr 311), (1, vi x1), (2, vi x2)] [] := by
  unfold f_X11_reviewed at hF
  refine w_aload_n hB 0 dX11_reviewed_0 rfl rfl ?_
  refine w_iload_n hB 1 dX11_reviewed_1 rfl rfl ?_
  refine w_aload_n hB 0 dX11_reviewed_2 rfl rfl ?_
  refine w_getC hB (v := 340) ff_X11_38 sh_311 hp.1 cr_311_38 (by decide) q_1198 dX11_reviewed_3 ?_
  refine w_iconst hB 1 (by decide) dX11_reviewed_6 ?_
  refine w_iload_n hB 1 dX11_reviewed_7 rfl rfl ?_
  refine w_iadd hB dX11_reviewed_8 ?_
  obtain ⟨g1, hF⟩ := gdS hF
  refine w_iald hB sh_340 (Or.inl hp.1) sl_340 g1 dX11_reviewed_9 ?_
  obtain ⟨r1, M1m, hc_M1m, hF⟩ := clS hF
  refine w_callV hB (ci := 9) (As := [vi x1, vi (M.1 340 (1 + x1).toNatClampNeg)]) (st := []) cw_X11_372 q_1629 q_62 rfl sh_311 (Or.inl hp.1) (c_X11_review hp hc_M1m) ⟨rfl, rfl⟩ (by decide) (by decide) rfl (Nat.le_of_ble_eq_true rfl) dX11_reviewed_10 rfl ?_
  refine w_istore_n hB (L' := [(3, vi r1), (0, vr 311), (1, vi x1), (2, vi x2)]) dX11_reviewed_13 rfl (by decide) rfl rfl ?_
  refine w_aload_n hB 1 dX11_reviewed_14 rfl rfl ?_
  refine w_getC hB (v := 340) ff_X11_38 sh_311 hp.1 cr_311_38 (by decide) q_1198 dX11_reviewed_15 ?_
  refine w_bipush hB 9 (by decide) dX11_reviewed_18 ?_
  refine w_iload_n hB 2 dX11_reviewed_20 rfl rfl ?_
  refine w_iadd hB dX11_reviewed_21 ?_
  refine w_iconst hB 1 (by decide) dX11_reviewed_22 ?_
  obtain ⟨g2, hF⟩ := gdS hF
  obtain ⟨M2m, e_M2m, hF⟩ := bndS hF
  refine w_iast hB sh_340 (Or.inl hp.1) sl_340 g2 e_M2m dX11_reviewed_23 ?_
  refine w_aload_n hB 1 dX11_reviewed_24 rfl rfl ?_
  refine w_getC hB (v := 340) ff_X11_38 sh_311 hp.1 cr_311_38 (by decide) q_1198 dX11_reviewed_25 ?_
  refine w_bipush hB 41 (by decide) dX11_reviewed_28 ?_
  refine w_iload_n hB 2 dX11_reviewed_30 rfl rfl ?_
  refine w_iadd hB dX11_reviewed_31 ?_
  refine w_dup2 hB rfl rfl dX11_reviewed_32 ?_
  obtain ⟨g3, hF⟩ := gdS hF
  refine w_iald hB sh_340 (Or.inl hp.1) sl_340 g3 dX11_reviewed_33 ?_
  refine w_aload_n hB 1 dX11_reviewed_34 rfl rfl ?_
  refine w_iload_n hB 2 dX11_reviewed_35 rfl rfl ?_
  obtain ⟨r2, M3m, hc_M3m, hF⟩ := clS hF
  refine w_callV hB (ci := 9) (As := [vi x1]) (st := [vi (M2m.1 340 (41 + x1).toNatClampNeg), vi (41 + x1), vr 340]) cw_X11_375 q_1633 q_63 rfl sh_311 (Or.inl hp.1) (c_X11_secondsOf hp hc_M3m) ⟨rfl, rfl⟩ (by decide) (by decide) rfl (Nat.le_of_ble_eq_true rfl) dX11_reviewed_36 rfl ?_
  refine w_iadd hB dX11_reviewed_39 ?_
  obtain ⟨M4m, e_M4m, hF⟩ := bndS hF
  refine w_iast hB sh_340 (Or.inl hp.1) sl_340 g3 e_M4m dX11_reviewed_40 ?_
  refine w_aload_n hB 1 dX11_reviewed_41 rfl rfl ?_
  refine w_iload_n hB 2 dX11_reviewed_42 rfl rfl ?_
  refine w_iload_n hB 3 dX11_reviewed_43 rfl rfl ?_
  refine w_iload_n hB 0 dX11_reviewed_44 rfl rfl ?_
  refine w_aload_n hB 1 dX11_reviewed_45 rfl rfl ?_
  refine w_iload_n hB 2 dX11_reviewed_46 rfl rfl ?_
  obtain ⟨r3, M5m, hc_M5m, hF⟩ := clS hF
  refine w_callV hB (ci := 9) (As := [vi x1]) (st := [vi r1, vi x2, vi x1, vr 311]) cw_X11_375 q_1633 q_63 rfl sh_311 (Or.inl hp.1) (c_X11_secondsOf hp hc_M5m) ⟨rfl, rfl⟩ (by decide) (by decide) rfl (Nat.le_of_ble_eq_true rfl) dX11_reviewed_47 rfl ?_
  obtain ⟨M6m, hc_M6m, hF⟩ := clvS hF
  refine w_callV hB (ci := 9) (As := [vi x1, vi x2, vi r1, vi r3]) (st := []) cw_X11_378 q_1653 q_67 rfl sh_311 (Or.inl hp.1) (c_X11_logs hp hc_M6m) ⟨rfl, rfl⟩ (by decide) (by decide) rfl (Nat.le_of_ble_eq_true rfl) dX11_reviewed_50 rfl ?_
  refine w_iload_n hB 0 dX11_reviewed_53 rfl rfl ?_
  refine w_iconst hB 2 (by decide) dX11_reviewed_54 ?_
  refine w_icmp_eq hB 60 dX11_reviewed_55 (by decide) (fun hc => ?_) (fun hc => ?_)
  · replace hF := ifT hc hF
    refine w_aload_n hB 1 dX11_reviewed_60 rfl rfl ?_
    refine w_getC hB (v := 340) ff_X11_38 sh_311 hp.1 cr_311_38 (by decide) q_1198 dX11_reviewed_61 ?_
    refine w_iconst hB 1 (by decide) dX11_reviewed_64 ?_
    refine w_iload_n hB 2 dX11_reviewed_65 rfl rfl ?_
    refine w_iadd hB dX11_reviewed_66 ?_
    refine w_iconst hB 1 (by decide) dX11_reviewed_67 ?_
    refine w_aload_n hB 1 dX11_reviewed_68 rfl rfl ?_
    refine w_getC hB (v := 340) ff_X11_38 sh_311 hp.1 cr_311_38 (by decide) q_1198 dX11_reviewed_69 ?_
    refine w_iconst hB 1 (by decide) dX11_reviewed_72 ?_
    refine w_iload_n hB 2 dX11_reviewed_73 rfl rfl ?_
    refine w_iadd hB dX11_reviewed_74 ?_
    refine w_iald hB sh_340 (Or.inl hp.1) sl_340 g1 dX11_reviewed_75 ?_
    refine w_isub hB dX11_reviewed_76 ?_
    obtain ⟨M7m, e_M7m, hF⟩ := bndS hF
    refine w_iast hB sh_340 (Or.inl hp.1) sl_340 g1 e_M7m dX11_reviewed_77 ?_
    refine w_aload_n hB 1 dX11_reviewed_78 rfl rfl ?_
    refine w_getC hB (v := 323) ff_X11_21 sh_311 hp.1 cr_311_21 (by decide) q_1181 dX11_reviewed_79 ?_
    refine w_aload_n hB 1 dX11_reviewed_82 rfl rfl ?_
    refine w_getC hB (v := 331) ff_X11_29 sh_311 hp.1 cr_311_29 (by decide) q_1189 dX11_reviewed_83 ?_
    refine w_iload_n hB 2 dX11_reviewed_86 rfl rfl ?_
    obtain ⟨g4, hF⟩ := gdS hF
    refine w_iald hB sh_331 (Or.inl hp.1) sl_331 g4 dX11_reviewed_87 ?_
    obtain ⟨g5, hF⟩ := gdS hF
    refine w_zald hB sh_323 (Or.inl hp.1) sl_323 g5 dX11_reviewed_88 ?_
    refine w_if_eq hB 99 dX11_reviewed_89 (by decide) (fun hc => ?_) (fun hc => ?_)
    · replace hF := ifT hc hF
      refine w_iload_n hB 0 dX11_reviewed_99 rfl rfl ?_
      obtain ⟨e1, e2⟩ := retS hF
      subst e2
      exact w_iret hB dX11_reviewed_100 e1
    · replace hF := ifF hc hF
      refine w_aload_n hB 1 dX11_reviewed_92 rfl rfl ?_
      refine w_iload_n hB 2 dX11_reviewed_93 rfl rfl ?_
      refine w_iconst hB 1 (by decide) dX11_reviewed_94 ?_
      refine w_iadd hB dX11_reviewed_95 ?_
      obtain ⟨M8m, hc_M8m, hF⟩ := clvS hF
      refine w_callV hB (ci := 9) (As := [vi (x1 + 1)]) (st := []) cw_X11_382 q_1657 q_68 rfl sh_311 (Or.inl hp.1) (c_X11_forgets hp hc_M8m) ⟨rfl, rfl⟩ (by decide) (by decide) rfl (Nat.le_of_ble_eq_true rfl) dX11_reviewed_96 rfl ?_
      refine w_iload_n hB 0 dX11_reviewed_99 rfl rfl ?_
      obtain ⟨e1, e2⟩ := retS hF
      subst e2
      exact w_iret hB dX11_reviewed_100 e1
  · replace hF := ifF hc hF
    refine w_iload_n hB 0 dX11_reviewed_58 rfl rfl ?_
    obtain ⟨e1, e2⟩ := retS hF
    subst e2
    exact w_iret hB dX11_reviewed_59 e1
theorem c_X11_reviewed {K : Kt} {l : Launch} (hp : St K) {r : Int32} {M1 : Mem} {x1 : Int32} {x2 : Int32} {M : Mem} (hF : f_X11_reviewed x1 x2 M = some (r, M1)) : MT K l yX11_reviewed cX11_reviewed 4 (some .int) { frames := 5, cells := 0, slots := 0, locals := 121 } [vr 311, vi x1, vi x2] M (some (vi r)) M1 0 0 :=
  MT_of (by decide) rfl (Nat.le_of_ble_eq_true rfl) (fun X _ hB _ => b_X11_reviewed hp hB hF)
def f_X11_isAtOnce (x1 : Int32) (M : Mem) : Option (Int32 × Mem) :=
  gd (inb x1 16) <|
  gd (inb (M.1 331 x1.toNatClampNeg) 10) <|
  if (M.1 322 (M.1 331 x1.toNatClampNeg).toNatClampNeg) = 0 then
    if (M.1 330 x1.toNatClampNeg) < (M.1 314 2) then
      some (0, M)
    else
      some (1, M)
  else
    some (1, M)
set_option maxRecDepth 100000 in
set_option maxHeartbeats 4000000 in
theorem b_X11_isAtOnce {K : Kt} {X : Xt} (hp : St K) (hB : Bx K X { frames := 0, cells := 0, slots := 0, locals := 0 } cX11_isAtOnce 2 RX11 (some .boolean)) {r : Int32} {M1 : Mem} {x1 : Int32} {M : Mem} (hF : f_X11_isAtOnce x1 M = some (r, M1)) : Wt K X (QM K X (some (vi r)) M1 0 0) 0 0 M 0 [(0, vr 311), (1, vi x1)] [] := by
  unfold f_X11_isAtOnce at hF
  refine w_aload_n hB 0 dX11_isAtOnce_0 rfl rfl ?_
  refine w_getC hB (v := 322) ff_X11_20 sh_311 hp.1 cr_311_20 (by decide) q_1180 dX11_isAtOnce_1 ?_
  refine w_aload_n hB 0 dX11_isAtOnce_4 rfl rfl ?_
  refine w_getC hB (v := 331) ff_X11_29 sh_311 hp.1 cr_311_29 (by decide) q_1189 dX11_isAtOnce_5 ?_
  refine w_iload_n hB 1 dX11_isAtOnce_8 rfl rfl ?_
  obtain ⟨g1, hF⟩ := gdS hF
  refine w_iald hB sh_331 (Or.inl hp.1) sl_331 g1 dX11_isAtOnce_9 ?_
  obtain ⟨g2, hF⟩ := gdS hF
  refine w_zald hB sh_322 (Or.inl hp.1) sl_322 g2 dX11_isAtOnce_10 ?_
  refine w_if_ne hB 29 dX11_isAtOnce_11 (by decide) (fun hc => ?_) (fun hc => ?_)
  · replace hF := ifF hc hF
    refine w_iconst hB 1 (by decide) dX11_isAtOnce_29 ?_
    refine w_goto hB 34 dX11_isAtOnce_30 (by decide) ?_
    obtain ⟨e1, e2⟩ := retS hF
    subst e2
    exact w_zret hB (by decide) dX11_isAtOnce_34 e1
  · replace hF := ifT hc hF
    refine w_aload_n hB 0 dX11_isAtOnce_14 rfl rfl ?_
    refine w_getC hB (v := 330) ff_X11_28 sh_311 hp.1 cr_311_28 (by decide) q_1188 dX11_isAtOnce_15 ?_
    refine w_iload_n hB 1 dX11_isAtOnce_18 rfl rfl ?_
    refine w_iald hB sh_330 (Or.inl hp.1) sl_330 g1 dX11_isAtOnce_19 ?_
    refine w_aload_n hB 0 dX11_isAtOnce_20 rfl rfl ?_
    refine w_getC hB (v := 314) ff_X11_12 sh_311 hp.1 cr_311_12 (by decide) q_1172 dX11_isAtOnce_21 ?_
    refine w_iconst hB 2 (by decide) dX11_isAtOnce_24 ?_
    refine w_iald hB sh_314 (Or.inl hp.1) sl_314 (by decide) dX11_isAtOnce_25 ?_
    rw [show (2 : Int32).toNatClampNeg = 2 by decide]
    refine w_icmp_lt hB 33 dX11_isAtOnce_26 (by decide) (fun hc => ?_) (fun hc => ?_)
    · replace hF := ifT hc hF
      refine w_iconst hB 0 (by decide) dX11_isAtOnce_33 ?_
      obtain ⟨e1, e2⟩ := retS hF
      subst e2
      exact w_zret hB (by decide) dX11_isAtOnce_34 e1
    · replace hF := ifF hc hF
      refine w_iconst hB 1 (by decide) dX11_isAtOnce_29 ?_
      refine w_goto hB 34 dX11_isAtOnce_30 (by decide) ?_
      obtain ⟨e1, e2⟩ := retS hF
      subst e2
      exact w_zret hB (by decide) dX11_isAtOnce_34 e1
theorem c_X11_isAtOnce {K : Kt} {l : Launch} (hp : St K) {r : Int32} {M1 : Mem} {x1 : Int32} {M : Mem} (hF : f_X11_isAtOnce x1 M = some (r, M1)) : MT K l yX11_isAtOnce cX11_isAtOnce 2 (some .boolean) { frames := 0, cells := 0, slots := 0, locals := 0 } [vr 311, vi x1] M (some (vi r)) M1 0 0 :=
  MT_of (by decide) rfl (Nat.le_of_ble_eq_true rfl) (fun X _ hB _ => b_X11_isAtOnce hp hB hF)
def f_X11_next (M : Mem) : Option (Int32 × Mem) :=
  bnd (setI M 311 0 0) fun M1m =>
  if (M1m.1 340 0) < (M1m.1 313 4) then
    clv (f_X11_keeps M1m) fun M2m =>
    bnd (M2m.1 340 0) fun a1 =>
    bnd (setI M2m 340 0 ((M2m.1 340 0) + 1)) fun M3m =>
    gd (inb a1 16) <|
    gd (inb (1 + a1) 114) <|
    bnd (setI M3m 340 ((1 + a1).toNatClampNeg) (M3m.1 334 a1.toNatClampNeg)) fun M4m =>
    cl (f_X11_isAtOnce a1 M4m) fun r1 M5m =>
    if r1 = 0 then
      some (3, M5m)
    else
      cl (f_X11_reviewed a1 (-1) M5m) fun r2 M6m =>
      some (r2, M6m)
  else
    some ((-1), M1m)
set_option maxRecDepth 100000 in
set_option maxHeartbeats 4000000 in
theorem b_X11_next {K : Kt} {X : Xt} (hp : St K) (hB : Bx K X { frames := 6, cells := 0, slots := 0, locals := 144 } cX11_next 2 RX11 (some .int)) {r : Int32} {M1 : Mem} {M : Mem} (hF : f_X11_next M = some (r, M1)) : Wt K X (QM K X (some (vi r)) M1 0 0) 0 0 M 0 [(0, vr 311)] [] := by
  unfold f_X11_next at hF
  refine w_aload_n hB 0 dX11_next_0 rfl rfl ?_
  refine w_iconst hB 0 (by decide) dX11_next_1 ?_
  obtain ⟨M1m, e_M1m, hF⟩ := bndS hF
  refine w_putI hB ff_X11_0 sh_311 (Or.inl hp.1) q_1160 e_M1m dX11_next_2 ?_
  refine w_aload_n hB 0 dX11_next_5 rfl rfl ?_
  refine w_getC hB (v := 340) ff_X11_38 sh_311 hp.1 cr_311_38 (by decide) q_1198 dX11_next_6 ?_
  refine w_iconst hB 0 (by decide) dX11_next_9 ?_
  refine w_iald hB sh_340 (Or.inl hp.1) sl_340 (by decide) dX11_next_10 ?_
  rw [show (0 : Int32).toNatClampNeg = 0 by decide]
  refine w_aload_n hB 0 dX11_next_11 rfl rfl ?_
  refine w_getC hB (v := 313) ff_X11_11 sh_311 hp.1 cr_311_11 (by decide) q_1171 dX11_next_12 ?_
  refine w_iconst hB 4 (by decide) dX11_next_15 ?_
  refine w_iald hB sh_313 (Or.inl hp.1) sl_313 (by decide) dX11_next_16 ?_
  rw [show (4 : Int32).toNatClampNeg = 4 by decide]
  refine w_icmp_lt hB 22 dX11_next_17 (by decide) (fun hc => ?_) (fun hc => ?_)
  · replace hF := ifT hc hF
    refine w_aload_n hB 0 dX11_next_22 rfl rfl ?_
    obtain ⟨M2m, hc_M2m, hF⟩ := clvS hF
    refine w_callV hB (ci := 9) (As := []) (st := []) cw_X11_385 q_1641 q_64 rfl sh_311 (Or.inl hp.1) (c_X11_keeps hp hc_M2m) ⟨rfl, rfl⟩ (by decide) (by decide) rfl (Nat.le_of_ble_eq_true rfl) dX11_next_23 rfl ?_
    refine w_aload_n hB 0 dX11_next_26 rfl rfl ?_
    refine w_getC hB (v := 340) ff_X11_38 sh_311 hp.1 cr_311_38 (by decide) q_1198 dX11_next_27 ?_
    refine w_iconst hB 0 (by decide) dX11_next_30 ?_
    refine w_iald hB sh_340 (Or.inl hp.1) sl_340 (by decide) dX11_next_31 ?_
    rw [show (0 : Int32).toNatClampNeg = 0 by decide]
    obtain ⟨a1, e_a1, hF⟩ := bndS hF
    refine w_istore_n hB (L' := [(1, vi a1), (0, vr 311)]) dX11_next_32 rfl (by decide) e_a1 rfl ?_
    refine w_aload_n hB 1 dX11_next_33 rfl rfl ?_
    refine w_getC hB (v := 340) ff_X11_38 sh_311 hp.1 cr_311_38 (by decide) q_1198 dX11_next_34 ?_
    refine w_iconst hB 0 (by decide) dX11_next_37 ?_
    refine w_dup2 hB rfl rfl dX11_next_38 ?_
    refine w_iald hB sh_340 (Or.inl hp.1) sl_340 (by decide) dX11_next_39 ?_
    rw [show (0 : Int32).toNatClampNeg = 0 by decide]
    refine w_iconst hB 1 (by decide) dX11_next_40 ?_
    refine w_iadd hB dX11_next_41 ?_
    obtain ⟨M3m, e_M3m, hF⟩ := bndS hF
    refine w_iast hB sh_340 (Or.inl hp.1) sl_340 (by decide) e_M3m dX11_next_42 ?_
    refine w_aload_n hB 1 dX11_next_43 rfl rfl ?_
    refine w_getC hB (v := 340) ff_X11_38 sh_311 hp.1 cr_311_38 (by decide) q_1198 dX11_next_44 ?_
    refine w_iconst hB 1 (by decide) dX11_next_47 ?_
    refine w_iload_n hB 0 dX11_next_48 rfl rfl ?_
    refine w_iadd hB dX11_next_49 ?_
    refine w_aload_n hB 1 dX11_next_50 rfl rfl ?_
    refine w_getC hB (v := 334) ff_X11_32 sh_311 hp.1 cr_311_32 (by decide) q_1192 dX11_next_51 ?_
    refine w_iload_n hB 0 dX11_next_54 rfl rfl ?_
    obtain ⟨g1, hF⟩ := gdS hF
    refine w_iald hB sh_334 (Or.inl hp.1) sl_334 g1 dX11_next_55 ?_
    obtain ⟨g2, hF⟩ := gdS hF
    obtain ⟨M4m, e_M4m, hF⟩ := bndS hF
    refine w_iast hB sh_340 (Or.inl hp.1) sl_340 g2 e_M4m dX11_next_56 ?_
    refine w_aload_n hB 1 dX11_next_57 rfl rfl ?_
    refine w_iload_n hB 0 dX11_next_58 rfl rfl ?_
    obtain ⟨r1, M5m, hc_M5m, hF⟩ := clS hF
    refine w_callV hB (ci := 9) (As := [vi a1]) (st := []) cw_X11_388 q_1645 q_65 rfl sh_311 (Or.inl hp.1) (c_X11_isAtOnce hp hc_M5m) ⟨rfl, rfl⟩ (by decide) (by decide) rfl (Nat.le_of_ble_eq_true rfl) dX11_next_59 rfl ?_
    refine w_if_eq hB 74 dX11_next_62 (by decide) (fun hc => ?_) (fun hc => ?_)
    · replace hF := ifT hc hF
      refine w_iconst hB 3 (by decide) dX11_next_74 ?_
      obtain ⟨e1, e2⟩ := retS hF
      subst e2
      exact w_iret hB dX11_next_75 e1
    · replace hF := ifF hc hF
      refine w_aload_n hB 1 dX11_next_65 rfl rfl ?_
      refine w_iload_n hB 0 dX11_next_66 rfl rfl ?_
      refine w_iconst hB (-1) (by decide) dX11_next_67 ?_
      obtain ⟨r2, M6m, hc_M6m, hF⟩ := clS hF
      refine w_callV hB (ci := 9) (As := [vi a1, vi (-1)]) (st := []) cw_X11_391 q_1649 q_66 rfl sh_311 (Or.inl hp.1) (c_X11_reviewed hp hc_M6m) ⟨rfl, rfl⟩ (by decide) (by decide) rfl (Nat.le_of_ble_eq_true rfl) dX11_next_68 rfl ?_
      refine w_goto hB 75 dX11_next_71 (by decide) ?_
      obtain ⟨e1, e2⟩ := retS hF
      subst e2
      exact w_iret hB dX11_next_75 e1
  · replace hF := ifF hc hF
    refine w_iconst hB (-1) (by decide) dX11_next_20 ?_
    obtain ⟨e1, e2⟩ := retS hF
    subst e2
    exact w_iret hB dX11_next_21 e1
theorem c_X11_next {K : Kt} {l : Launch} (hp : St K) {r : Int32} {M1 : Mem} {M : Mem} (hF : f_X11_next M = some (r, M1)) : MT K l yX11_next cX11_next 2 (some .int) { frames := 6, cells := 0, slots := 0, locals := 144 } [vr 311] M (some (vi r)) M1 0 0 :=
  MT_of (by decide) rfl (Nat.le_of_ble_eq_true rfl) (fun X _ hB _ => b_X11_next hp hB hF)
def f_X11_gains (x1 : Int32) (M : Mem) : Option Mem :=
  gd (inb (33 + x1) 114) <|
  if 9 ≤ (M.1 340 (33 + x1).toNatClampNeg) then
    some M
  else
    bnd (setI M 340 ((33 + x1).toNatClampNeg) ((M.1 340 (33 + x1).toNatClampNeg) + 1)) fun M1m =>
    some M1m
set_option maxRecDepth 100000 in
set_option maxHeartbeats 4000000 in
theorem b_X11_gains {K : Kt} {X : Xt} (hp : St K) (hB : Bx K X { frames := 0, cells := 0, slots := 0, locals := 0 } cX11_gains 2 RX11 none) {M1 : Mem} {x1 : Int32} {M : Mem} (hF : f_X11_gains x1 M = some M1) : Wt K X (QM K X none M1 0 0) 0 0 M 0 [(0, vr 311), (1, vi x1)] [] := by
  unfold f_X11_gains at hF
  refine w_aload_n hB 0 dX11_gains_0 rfl rfl ?_
  refine w_getC hB (v := 340) ff_X11_38 sh_311 hp.1 cr_311_38 (by decide) q_1198 dX11_gains_1 ?_
  refine w_bipush hB 33 (by decide) dX11_gains_4 ?_
  refine w_iload_n hB 1 dX11_gains_6 rfl rfl ?_
  refine w_iadd hB dX11_gains_7 ?_
  obtain ⟨g1, hF⟩ := gdS hF
  refine w_iald hB sh_340 (Or.inl hp.1) sl_340 g1 dX11_gains_8 ?_
  refine w_bipush hB 9 (by decide) dX11_gains_9 ?_
  refine w_icmp_ge hB 27 dX11_gains_11 (by decide) (fun hc => ?_) (fun hc => ?_)
  · replace hF := ifT hc hF
    cases hF
    exact w_vret hB dX11_gains_27
  · replace hF := ifF hc hF
    refine w_aload_n hB 0 dX11_gains_14 rfl rfl ?_
    refine w_getC hB (v := 340) ff_X11_38 sh_311 hp.1 cr_311_38 (by decide) q_1198 dX11_gains_15 ?_
    refine w_bipush hB 33 (by decide) dX11_gains_18 ?_
    refine w_iload_n hB 1 dX11_gains_20 rfl rfl ?_
    refine w_iadd hB dX11_gains_21 ?_
    refine w_dup2 hB rfl rfl dX11_gains_22 ?_
    refine w_iald hB sh_340 (Or.inl hp.1) sl_340 g1 dX11_gains_23 ?_
    refine w_iconst hB 1 (by decide) dX11_gains_24 ?_
    refine w_iadd hB dX11_gains_25 ?_
    obtain ⟨M1m, e_M1m, hF⟩ := bndS hF
    refine w_iast hB sh_340 (Or.inl hp.1) sl_340 g1 e_M1m dX11_gains_26 ?_
    cases hF
    exact w_vret hB dX11_gains_27
theorem c_X11_gains {K : Kt} {l : Launch} (hp : St K) {M1 : Mem} {x1 : Int32} {M : Mem} (hF : f_X11_gains x1 M = some M1) : MT K l yX11_gains cX11_gains 2 none { frames := 0, cells := 0, slots := 0, locals := 0 } [vr 311, vi x1] M none M1 0 0 :=
  MT_of (by decide) rfl (Nat.le_of_ble_eq_true rfl) (fun X _ hB _ => b_X11_gains hp hB hF)
def f_X11_challenge (x1 : Int32) (x2 : Int32) (M : Mem) : Option (Int32 × Mem) :=
  bnd (setI M 311 0 0) fun M1m =>
  cl (f_X11_isSide x1 M1m) fun r1 M2m =>
  if r1 = 0 then
    some ((-1), M2m)
  else
    cl (f_X11_isPlay x2 M2m) fun r2 M3m =>
    if r2 = 0 then
      some ((-1), M3m)
    else
      gd (inb (33 + x1) 114) <|
      if (M3m.1 340 (33 + x1).toNatClampNeg) = 0 then
        some ((-2), M3m)
      else
        if (M3m.1 340 0) ≤ x2 then
          some ((-2), M3m)
        else
          if (M3m.1 314 3) < (((M3m.1 340 0) - 1) - x2) then
            some ((-2), M3m)
          else
            gd (inb (9 + x2) 114) <|
            if (M3m.1 340 (9 + x2).toNatClampNeg) = 1 then
              some ((-2), M3m)
            else
              gd (inb (17 + x2) 114) <|
              if (M3m.1 340 (17 + x2).toNatClampNeg) = 1 then
                some ((-2), M3m)
              else
                clv (f_X11_keeps M3m) fun M4m =>
                cl (f_X11_reviewed x2 x1 M4m) fun r3 M5m =>
                if r3 = 2 then
                  gd (inb (37 + x1) 114) <|
                  bnd (setI M5m 340 ((37 + x1).toNatClampNeg) ((M5m.1 340 (37 + x1).toNatClampNeg) + 1)) fun M6m =>
                  if (M6m.1 314 1) ≤ 0 then
                    some (r3, M6m)
                  else
                    gd (¬ (M6m.1 314 1) = 0) <|
                    if ((M6m.1 340 (37 + x1).toNatClampNeg) - (M6m.1 340 (37 + x1).toNatClampNeg) / (M6m.1 314 1) * (M6m.1 314 1)) = 0 then
                      clv (f_X11_gains x1 M6m) fun M7m =>
                      some (r3, M7m)
                    else
                      some (r3, M6m)
                else
                  bnd (setI M5m 340 ((33 + x1).toNatClampNeg) ((M5m.1 340 (33 + x1).toNatClampNeg) - 1)) fun M8m =>
                  gd (inb (25 + x2) 114) <|
                  bnd (setI M8m 340 ((25 + x2).toNatClampNeg) (x1 + 1)) fun M9m =>
                  some (r3, M9m)
set_option maxRecDepth 100000 in
set_option maxHeartbeats 4000000 in
theorem b_X11_challenge {K : Kt} {X : Xt} (hp : St K) (hB : Bx K X { frames := 6, cells := 0, slots := 0, locals := 144 } cX11_challenge 4 RX11 (some .int)) {r : Int32} {M1 : Mem} {x1 : Int32} {x2 : Int32} {M : Mem} (hF : f_X11_challenge x1 x2 M = some (r, M1)) : Wt K X (QM K X (some (vi r)) M1 0 0) 0 0 M 0 [(0, vr 311), (1, vi x1), (2, vi x2)] [] := by
  unfold f_X11_challenge at hF
  refine w_aload_n hB 0 dX11_challenge_0 rfl rfl ?_
  refine w_iconst hB 0 (by decide) dX11_challenge_1 ?_
  obtain ⟨M1m, e_M1m, hF⟩ := bndS hF
  refine w_putI hB ff_X11_0 sh_311 (Or.inl hp.1) q_1160 e_M1m dX11_challenge_2 ?_
  refine w_aload_n hB 0 dX11_challenge_5 rfl rfl ?_
  refine w_iload_n hB 1 dX11_challenge_6 rfl rfl ?_
  obtain ⟨r1, M2m, hc_M2m, hF⟩ := clS hF
  refine w_callV hB (ci := 9) (As := [vi x1]) (st := []) cw_X11_336 q_1540 q_53 rfl sh_311 (Or.inl hp.1) (c_X11_isSide hp hc_M2m) ⟨rfl, rfl⟩ (by decide) (by decide) rfl (Nat.le_of_ble_eq_true rfl) dX11_challenge_7 rfl ?_
  refine w_if_eq hB 21 dX11_challenge_10 (by decide) (fun hc => ?_) (fun hc => ?_)
  · replace hF := ifT hc hF
    refine w_iconst hB (-1) (by decide) dX11_challenge_21 ?_
    obtain ⟨e1, e2⟩ := retS hF
    subst e2
    exact w_iret hB dX11_challenge_22 e1
  · replace hF := ifF hc hF
    refine w_aload_n hB 0 dX11_challenge_13 rfl rfl ?_
    refine w_iload_n hB 2 dX11_challenge_14 rfl rfl ?_
    obtain ⟨r2, M3m, hc_M3m, hF⟩ := clS hF
    refine w_callV hB (ci := 9) (As := [vi x2]) (st := []) cw_X11_343 q_1552 q_55 rfl sh_311 (Or.inl hp.1) (c_X11_isPlay hp hc_M3m) ⟨rfl, rfl⟩ (by decide) (by decide) rfl (Nat.le_of_ble_eq_true rfl) dX11_challenge_15 rfl ?_
    refine w_if_ne hB 23 dX11_challenge_18 (by decide) (fun hc => ?_) (fun hc => ?_)
    · replace hF := ifF hc hF
      refine w_aload_n hB 0 dX11_challenge_23 rfl rfl ?_
      refine w_getC hB (v := 340) ff_X11_38 sh_311 hp.1 cr_311_38 (by decide) q_1198 dX11_challenge_24 ?_
      refine w_bipush hB 33 (by decide) dX11_challenge_27 ?_
      refine w_iload_n hB 1 dX11_challenge_29 rfl rfl ?_
      refine w_iadd hB dX11_challenge_30 ?_
      obtain ⟨g1, hF⟩ := gdS hF
      refine w_iald hB sh_340 (Or.inl hp.1) sl_340 g1 dX11_challenge_31 ?_
      refine w_if_eq hB 90 dX11_challenge_32 (by decide) (fun hc => ?_) (fun hc => ?_)
      · replace hF := ifT hc hF
        refine w_bipush hB (-2) (by decide) dX11_challenge_90 ?_
        obtain ⟨e1, e2⟩ := retS hF
        subst e2
        exact w_iret hB dX11_challenge_92 e1
      · replace hF := ifF hc hF
        refine w_iload_n hB 2 dX11_challenge_35 rfl rfl ?_
        refine w_aload_n hB 0 dX11_challenge_36 rfl rfl ?_
        refine w_getC hB (v := 340) ff_X11_38 sh_311 hp.1 cr_311_38 (by decide) q_1198 dX11_challenge_37 ?_
        refine w_iconst hB 0 (by decide) dX11_challenge_40 ?_
        refine w_iald hB sh_340 (Or.inl hp.1) sl_340 (by decide) dX11_challenge_41 ?_
        rw [show (0 : Int32).toNatClampNeg = 0 by decide]
        refine w_icmp_ge hB 90 dX11_challenge_42 (by decide) (fun hc => ?_) (fun hc => ?_)
        · replace hF := ifT hc hF
          refine w_bipush hB (-2) (by decide) dX11_challenge_90 ?_
          obtain ⟨e1, e2⟩ := retS hF
          subst e2
          exact w_iret hB dX11_challenge_92 e1
        · replace hF := ifF hc hF
          refine w_aload_n hB 0 dX11_challenge_45 rfl rfl ?_
          refine w_getC hB (v := 340) ff_X11_38 sh_311 hp.1 cr_311_38 (by decide) q_1198 dX11_challenge_46 ?_
          refine w_iconst hB 0 (by decide) dX11_challenge_49 ?_
          refine w_iald hB sh_340 (Or.inl hp.1) sl_340 (by decide) dX11_challenge_50 ?_
          rw [show (0 : Int32).toNatClampNeg = 0 by decide]
          refine w_iconst hB 1 (by decide) dX11_challenge_51 ?_
          refine w_isub hB dX11_challenge_52 ?_
          refine w_iload_n hB 2 dX11_challenge_53 rfl rfl ?_
          refine w_isub hB dX11_challenge_54 ?_
          refine w_aload_n hB 0 dX11_challenge_55 rfl rfl ?_
          refine w_getC hB (v := 314) ff_X11_12 sh_311 hp.1 cr_311_12 (by decide) q_1172 dX11_challenge_56 ?_
          refine w_iconst hB 3 (by decide) dX11_challenge_59 ?_
          refine w_iald hB sh_314 (Or.inl hp.1) sl_314 (by decide) dX11_challenge_60 ?_
          rw [show (3 : Int32).toNatClampNeg = 3 by decide]
          refine w_icmp_gt hB 90 dX11_challenge_61 (by decide) (fun hc => ?_) (fun hc => ?_)
          · replace hF := ifT hc hF
            refine w_bipush hB (-2) (by decide) dX11_challenge_90 ?_
            obtain ⟨e1, e2⟩ := retS hF
            subst e2
            exact w_iret hB dX11_challenge_92 e1
          · replace hF := ifF hc hF
            refine w_aload_n hB 0 dX11_challenge_64 rfl rfl ?_
            refine w_getC hB (v := 340) ff_X11_38 sh_311 hp.1 cr_311_38 (by decide) q_1198 dX11_challenge_65 ?_
            refine w_bipush hB 9 (by decide) dX11_challenge_68 ?_
            refine w_iload_n hB 2 dX11_challenge_70 rfl rfl ?_
            refine w_iadd hB dX11_challenge_71 ?_
            obtain ⟨g2, hF⟩ := gdS hF
            refine w_iald hB sh_340 (Or.inl hp.1) sl_340 g2 dX11_challenge_72 ?_
            refine w_iconst hB 1 (by decide) dX11_challenge_73 ?_
            refine w_icmp_eq hB 90 dX11_challenge_74 (by decide) (fun hc => ?_) (fun hc => ?_)
            · replace hF := ifT hc hF
              refine w_bipush hB (-2) (by decide) dX11_challenge_90 ?_
              obtain ⟨e1, e2⟩ := retS hF
              subst e2
              exact w_iret hB dX11_challenge_92 e1
            · replace hF := ifF hc hF
              refine w_aload_n hB 0 dX11_challenge_77 rfl rfl ?_
              refine w_getC hB (v := 340) ff_X11_38 sh_311 hp.1 cr_311_38 (by decide) q_1198 dX11_challenge_78 ?_
              refine w_bipush hB 17 (by decide) dX11_challenge_81 ?_
              refine w_iload_n hB 2 dX11_challenge_83 rfl rfl ?_
              refine w_iadd hB dX11_challenge_84 ?_
              obtain ⟨g3, hF⟩ := gdS hF
              refine w_iald hB sh_340 (Or.inl hp.1) sl_340 g3 dX11_challenge_85 ?_
              refine w_iconst hB 1 (by decide) dX11_challenge_86 ?_
              refine w_icmp_ne hB 93 dX11_challenge_87 (by decide) (fun hc => ?_) (fun hc => ?_)
              · replace hF := ifF hc hF
                refine w_aload_n hB 0 dX11_challenge_93 rfl rfl ?_
                obtain ⟨M4m, hc_M4m, hF⟩ := clvS hF
                refine w_callV hB (ci := 9) (As := []) (st := []) cw_X11_385 q_1641 q_64 rfl sh_311 (Or.inl hp.1) (c_X11_keeps hp hc_M4m) ⟨rfl, rfl⟩ (by decide) (by decide) rfl (Nat.le_of_ble_eq_true rfl) dX11_challenge_94 rfl ?_
                refine w_aload_n hB 0 dX11_challenge_97 rfl rfl ?_
                refine w_iload_n hB 2 dX11_challenge_98 rfl rfl ?_
                refine w_iload_n hB 1 dX11_challenge_99 rfl rfl ?_
                obtain ⟨r3, M5m, hc_M5m, hF⟩ := clS hF
                refine w_callV hB (ci := 9) (As := [vi x2, vi x1]) (st := []) cw_X11_391 q_1649 q_66 rfl sh_311 (Or.inl hp.1) (c_X11_reviewed hp hc_M5m) ⟨rfl, rfl⟩ (by decide) (by decide) rfl (Nat.le_of_ble_eq_true rfl) dX11_challenge_100 rfl ?_
                refine w_istore_n hB (L' := [(3, vi r3), (0, vr 311), (1, vi x1), (2, vi x2)]) dX11_challenge_103 rfl (by decide) rfl rfl ?_
                refine w_iload_n hB 0 dX11_challenge_104 rfl rfl ?_
                refine w_iconst hB 2 (by decide) dX11_challenge_105 ?_
                refine w_icmp_ne hB 158 dX11_challenge_106 (by decide) (fun hc => ?_) (fun hc => ?_)
                · replace hF := ifF hc hF
                  refine w_aload_n hB 1 dX11_challenge_158 rfl rfl ?_
                  refine w_getC hB (v := 340) ff_X11_38 sh_311 hp.1 cr_311_38 (by decide) q_1198 dX11_challenge_159 ?_
                  refine w_bipush hB 33 (by decide) dX11_challenge_162 ?_
                  refine w_iload_n hB 2 dX11_challenge_164 rfl rfl ?_
                  refine w_iadd hB dX11_challenge_165 ?_
                  refine w_dup2 hB rfl rfl dX11_challenge_166 ?_
                  refine w_iald hB sh_340 (Or.inl hp.1) sl_340 g1 dX11_challenge_167 ?_
                  refine w_iconst hB 1 (by decide) dX11_challenge_168 ?_
                  refine w_isub hB dX11_challenge_169 ?_
                  obtain ⟨M8m, e_M8m, hF⟩ := bndS hF
                  refine w_iast hB sh_340 (Or.inl hp.1) sl_340 g1 e_M8m dX11_challenge_170 ?_
                  refine w_aload_n hB 1 dX11_challenge_171 rfl rfl ?_
                  refine w_getC hB (v := 340) ff_X11_38 sh_311 hp.1 cr_311_38 (by decide) q_1198 dX11_challenge_172 ?_
                  refine w_bipush hB 25 (by decide) dX11_challenge_175 ?_
                  refine w_iload_n hB 3 dX11_challenge_177 rfl rfl ?_
                  refine w_iadd hB dX11_challenge_178 ?_
                  refine w_iload_n hB 2 dX11_challenge_179 rfl rfl ?_
                  refine w_iconst hB 1 (by decide) dX11_challenge_180 ?_
                  refine w_iadd hB dX11_challenge_181 ?_
                  obtain ⟨g6, hF⟩ := gdS hF
                  obtain ⟨M9m, e_M9m, hF⟩ := bndS hF
                  refine w_iast hB sh_340 (Or.inl hp.1) sl_340 g6 e_M9m dX11_challenge_182 ?_
                  refine w_iload_n hB 0 dX11_challenge_183 rfl rfl ?_
                  obtain ⟨e1, e2⟩ := retS hF
                  subst e2
                  exact w_iret hB dX11_challenge_184 e1
                · replace hF := ifT hc hF
                  refine w_aload_n hB 1 dX11_challenge_109 rfl rfl ?_
                  refine w_getC hB (v := 340) ff_X11_38 sh_311 hp.1 cr_311_38 (by decide) q_1198 dX11_challenge_110 ?_
                  refine w_bipush hB 37 (by decide) dX11_challenge_113 ?_
                  refine w_iload_n hB 2 dX11_challenge_115 rfl rfl ?_
                  refine w_iadd hB dX11_challenge_116 ?_
                  refine w_dup2 hB rfl rfl dX11_challenge_117 ?_
                  obtain ⟨g4, hF⟩ := gdS hF
                  refine w_iald hB sh_340 (Or.inl hp.1) sl_340 g4 dX11_challenge_118 ?_
                  refine w_iconst hB 1 (by decide) dX11_challenge_119 ?_
                  refine w_iadd hB dX11_challenge_120 ?_
                  obtain ⟨M6m, e_M6m, hF⟩ := bndS hF
                  refine w_iast hB sh_340 (Or.inl hp.1) sl_340 g4 e_M6m dX11_challenge_121 ?_
                  refine w_aload_n hB 1 dX11_challenge_122 rfl rfl ?_
                  refine w_getC hB (v := 314) ff_X11_12 sh_311 hp.1 cr_311_12 (by decide) q_1172 dX11_challenge_123 ?_
                  refine w_iconst hB 1 (by decide) dX11_challenge_126 ?_
                  refine w_iald hB sh_314 (Or.inl hp.1) sl_314 (by decide) dX11_challenge_127 ?_
                  rw [show (1 : Int32).toNatClampNeg = 1 by decide]
                  refine w_if_le hB 183 dX11_challenge_128 (by decide) (fun hc => ?_) (fun hc => ?_)
                  · replace hF := ifT hc hF
                    refine w_iload_n hB 0 dX11_challenge_183 rfl rfl ?_
                    obtain ⟨e1, e2⟩ := retS hF
                    subst e2
                    exact w_iret hB dX11_challenge_184 e1
                  · replace hF := ifF hc hF
                    refine w_aload_n hB 1 dX11_challenge_131 rfl rfl ?_
                    refine w_getC hB (v := 340) ff_X11_38 sh_311 hp.1 cr_311_38 (by decide) q_1198 dX11_challenge_132 ?_
                    refine w_bipush hB 37 (by decide) dX11_challenge_135 ?_
                    refine w_iload_n hB 2 dX11_challenge_137 rfl rfl ?_
                    refine w_iadd hB dX11_challenge_138 ?_
                    refine w_iald hB sh_340 (Or.inl hp.1) sl_340 g4 dX11_challenge_139 ?_
                    refine w_aload_n hB 1 dX11_challenge_140 rfl rfl ?_
                    refine w_getC hB (v := 314) ff_X11_12 sh_311 hp.1 cr_311_12 (by decide) q_1172 dX11_challenge_141 ?_
                    refine w_iconst hB 1 (by decide) dX11_challenge_144 ?_
                    refine w_iald hB sh_314 (Or.inl hp.1) sl_314 (by decide) dX11_challenge_145 ?_
                    rw [show (1 : Int32).toNatClampNeg = 1 by decide]
                    obtain ⟨g5, hF⟩ := gdS hF
                    refine w_irem hB g5 dX11_challenge_146 ?_
                    refine w_if_ne hB 183 dX11_challenge_147 (by decide) (fun hc => ?_) (fun hc => ?_)
                    · replace hF := ifF hc hF
                      refine w_iload_n hB 0 dX11_challenge_183 rfl rfl ?_
                      obtain ⟨e1, e2⟩ := retS hF
                      subst e2
                      exact w_iret hB dX11_challenge_184 e1
                    · replace hF := ifT hc hF
                      refine w_aload_n hB 1 dX11_challenge_150 rfl rfl ?_
                      refine w_iload_n hB 2 dX11_challenge_151 rfl rfl ?_
                      obtain ⟨M7m, hc_M7m, hF⟩ := clvS hF
                      refine w_callV hB (ci := 9) (As := [vi x1]) (st := []) cw_X11_394 q_1665 q_69 rfl sh_311 (Or.inl hp.1) (c_X11_gains hp hc_M7m) ⟨rfl, rfl⟩ (by decide) (by decide) rfl (Nat.le_of_ble_eq_true rfl) dX11_challenge_152 rfl ?_
                      refine w_goto hB 183 dX11_challenge_155 (by decide) ?_
                      refine w_iload_n hB 0 dX11_challenge_183 rfl rfl ?_
                      obtain ⟨e1, e2⟩ := retS hF
                      subst e2
                      exact w_iret hB dX11_challenge_184 e1
              · replace hF := ifT hc hF
                refine w_bipush hB (-2) (by decide) dX11_challenge_90 ?_
                obtain ⟨e1, e2⟩ := retS hF
                subst e2
                exact w_iret hB dX11_challenge_92 e1
    · replace hF := ifT hc hF
      refine w_iconst hB (-1) (by decide) dX11_challenge_21 ?_
      obtain ⟨e1, e2⟩ := retS hF
      subst e2
      exact w_iret hB dX11_challenge_22 e1
theorem c_X11_challenge {K : Kt} {l : Launch} (hp : St K) {r : Int32} {M1 : Mem} {x1 : Int32} {x2 : Int32} {M : Mem} (hF : f_X11_challenge x1 x2 M = some (r, M1)) : MT K l yX11_challenge cX11_challenge 4 (some .int) { frames := 6, cells := 0, slots := 0, locals := 144 } [vr 311, vi x1, vi x2] M (some (vi r)) M1 0 0 :=
  MT_of (by decide) rfl (Nat.le_of_ble_eq_true rfl) (fun X _ hB _ => b_X11_challenge hp hB hF)
def f_X11_against_b70 (rec12 : Int32 → Int32 → Int32 → Int32 → Int32 → Mem → Option (Int32 × Mem)) (x1 : Int32) (x2 : Int32) (x4 : Int32) (x5 : Int32) (xs0 : Int32) (M : Mem) : Option (Int32 × Mem) :=
  bnd (xs0 ||| 0) fun a1 =>
  bnd (x5 + 1) fun a2 =>
  rec12 x1 x2 a1 x4 a2 M
set_option maxRecDepth 100000 in
set_option maxHeartbeats 4000000 in
theorem b_X11_against_b70 {K : Kt} {X : Xt} (hp : St K) (hB : Bx K X { frames := 4, cells := 0, slots := 0, locals := 98 } cX11_against 7 RX11 (some .int)) {r : Int32} {M1 : Mem} {rec12 : Int32 → Int32 → Int32 → Int32 → Int32 → Mem → Option (Int32 × Mem)}
    (h12 : ∀ x1 x2 x3 x4 x5 M, rec12 x1 x2 x3 x4 x5 M = some (r, M1) → Wt K X (QM K X (some (vi r)) M1 0 0) 0 0 M 12 [(0, vr 311), (1, vi x1), (2, vi x2), (3, vi x3), (4, vi x4), (5, vi x5)] []) {x1 : Int32} {x2 : Int32} {x4 : Int32} {x5 : Int32} {xs0 : Int32} {M : Mem} (hF : f_X11_against_b70 rec12 x1 x2 x4 x5 xs0 M = some (r, M1)) : Wt K X (QM K X (some (vi r)) M1 0 0) 0 0 M 70 [(0, vr 311), (1, vi x1), (2, vi x2), (4, vi x4), (5, vi x5)] [vi xs0] := by
  unfold f_X11_against_b70 at hF
  refine w_iconst hB 0 (by decide) dX11_against_70 ?_
  refine w_ior hB dX11_against_71 ?_
  obtain ⟨a1, e_a1, hF⟩ := bndS hF
  refine w_istore_n hB (L' := [(3, vi a1), (0, vr 311), (1, vi x1), (2, vi x2), (4, vi x4), (5, vi x5)]) dX11_against_72 rfl (by decide) e_a1 rfl ?_
  obtain ⟨a2, e_a2, hF⟩ := bndS hF
  refine w_iinc hB 5 (v := 1) (L' := [(5, vi a2), (3, vi a1), (0, vr 311), (1, vi x1), (2, vi x2), (4, vi x4)]) dX11_against_73 rfl (by decide) (by decide) e_a2 rfl ?_
  refine w_goto hB 12 dX11_against_76 (by decide) ?_
  exact Wt.sub (L' := [(0, vr 311), (1, vi x1), (2, vi x2), (3, vi a1), (4, vi x4), (5, vi a2)]) [2, 3, 4, 1, 5, 0] rfl (h12 _ _ _ _ _ M hF)
def f_X11_against_b12_s (rec12 : Int32 → Int32 → Int32 → Int32 → Int32 → Mem → Option (Int32 × Mem)) (x1 : Int32) (x2 : Int32) (x3 : Int32) (x4 : Int32) (x5 : Int32) (M : Mem) : Option (Int32 × Mem) :=
  gd (inb x1 6) <|
  if (M.1 328 x1.toNatClampNeg) ≤ x5 then
    some (x3, M)
  else
    gd (inb ((7 * x1) + x5) 42) <|
    cl (f_X11_framesOf x2 (M.1 329 ((7 * x1) + x5).toNatClampNeg) M) fun r1 M1m =>
    cl (f_X11_verdictOf x2 r1 M1m) fun r2 M2m =>
    cl (f_X11_isSure r2 M2m) fun r3 M3m =>
    if r3 = 0 then
      f_X11_against_b70 rec12 x1 x2 x4 x5 x3 M3m
    else
      if r2 = x4 then
        f_X11_against_b70 rec12 x1 x2 x4 x5 x3 M3m
      else
        bnd (x3 ||| ((1 : Int32) <<< (x5 &&& 31))) fun a1 =>
        bnd (x5 + 1) fun a2 =>
        rec12 x1 x2 a1 x4 a2 M3m
set_option maxRecDepth 100000 in
set_option maxHeartbeats 4000000 in
theorem b_X11_against_b12_s {K : Kt} {X : Xt} (hp : St K) (hB : Bx K X { frames := 4, cells := 0, slots := 0, locals := 98 } cX11_against 7 RX11 (some .int)) {r : Int32} {M1 : Mem} {rec12 : Int32 → Int32 → Int32 → Int32 → Int32 → Mem → Option (Int32 × Mem)}
    (h12 : ∀ x1 x2 x3 x4 x5 M, rec12 x1 x2 x3 x4 x5 M = some (r, M1) → Wt K X (QM K X (some (vi r)) M1 0 0) 0 0 M 12 [(0, vr 311), (1, vi x1), (2, vi x2), (3, vi x3), (4, vi x4), (5, vi x5)] []) {x1 : Int32} {x2 : Int32} {x3 : Int32} {x4 : Int32} {x5 : Int32} {M : Mem} (hF : f_X11_against_b12_s rec12 x1 x2 x3 x4 x5 M = some (r, M1)) : Wt K X (QM K X (some (vi r)) M1 0 0) 0 0 M 12 [(0, vr 311), (1, vi x1), (2, vi x2), (3, vi x3), (4, vi x4), (5, vi x5)] [] := by
  unfold f_X11_against_b12_s at hF
  refine w_iload hB 5 dX11_against_12 rfl ?_
  refine w_aload_n hB 0 dX11_against_14 rfl rfl ?_
  refine w_getC hB (v := 328) ff_X11_26 sh_311 hp.1 cr_311_26 (by decide) q_1186 dX11_against_15 ?_
  refine w_iload_n hB 1 dX11_against_18 rfl rfl ?_
  obtain ⟨g1, hF⟩ := gdS hF
  refine w_iald hB sh_328 (Or.inl hp.1) sl_328 g1 dX11_against_19 ?_
  refine w_icmp_ge hB 79 dX11_against_20 (by decide) (fun hc => ?_) (fun hc => ?_)
  · replace hF := ifT hc hF
    refine w_iload_n hB 3 dX11_against_79 rfl rfl ?_
    obtain ⟨e1, e2⟩ := retS hF
    subst e2
    exact w_iret hB dX11_against_80 e1
  · replace hF := ifF hc hF
    refine w_aload_n hB 0 dX11_against_23 rfl rfl ?_
    refine w_iload_n hB 2 dX11_against_24 rfl rfl ?_
    refine w_aload_n hB 0 dX11_against_25 rfl rfl ?_
    refine w_iload_n hB 2 dX11_against_26 rfl rfl ?_
    refine w_aload_n hB 0 dX11_against_27 rfl rfl ?_
    refine w_getC hB (v := 329) ff_X11_27 sh_311 hp.1 cr_311_27 (by decide) q_1187 dX11_against_28 ?_
    refine w_bipush hB 7 (by decide) dX11_against_31 ?_
    refine w_iload_n hB 1 dX11_against_33 rfl rfl ?_
    refine w_imul hB dX11_against_34 ?_
    refine w_iload hB 5 dX11_against_35 rfl ?_
    refine w_iadd hB dX11_against_37 ?_
    obtain ⟨g2, hF⟩ := gdS hF
    refine w_iald hB sh_329 (Or.inl hp.1) sl_329 g2 dX11_against_38 ?_
    obtain ⟨r1, M1m, hc_M1m, hF⟩ := clS hF
    refine w_callV hB (ci := 9) (As := [vi x2, vi (M.1 329 ((7 * x1) + x5).toNatClampNeg)]) (st := [vi x2, vr 311]) cw_X11_346 q_1576 q_58 rfl sh_311 (Or.inl hp.1) (c_X11_framesOf hp hc_M1m) ⟨rfl, rfl⟩ (by decide) (by decide) rfl (Nat.le_of_ble_eq_true rfl) dX11_against_39 rfl ?_
    obtain ⟨r2, M2m, hc_M2m, hF⟩ := clS hF
    refine w_callV hB (ci := 9) (As := [vi x2, vi r1]) (st := []) cw_X11_331 q_1564 q_56 rfl sh_311 (Or.inl hp.1) (c_X11_verdictOf hp hc_M2m) ⟨rfl, rfl⟩ (by decide) (by decide) rfl (Nat.le_of_ble_eq_true rfl) dX11_against_42 rfl ?_
    refine w_istore hB (L' := [(6, vi r2), (0, vr 311), (1, vi x1), (2, vi x2), (3, vi x3), (4, vi x4), (5, vi x5)]) dX11_against_45 (by decide) rfl rfl ?_
    refine w_iload_n hB 4 dX11_against_47 rfl rfl ?_
    refine w_iload hB 0 dX11_against_48 rfl ?_
    obtain ⟨r3, M3m, hc_M3m, hF⟩ := clS hF
    refine w_callS hB (As := [vi r2]) (st := [vi x3]) cw_X11_358 q_1598 (c_X11_isSure hp hc_M3m) ⟨rfl, rfl⟩ (by decide) (by decide) rfl (Nat.le_of_ble_eq_true rfl) dX11_against_50 rfl ?_
    refine w_if_eq hB 70 dX11_against_53 (by decide) (fun hc => ?_) (fun hc => ?_)
    · replace hF := ifT hc hF
      exact Wt.sub (L' := [(0, vr 311), (1, vi x1), (2, vi x2), (4, vi x4), (5, vi x5)]) [1, 2, 3, 5, 6] rfl (b_X11_against_b70 hp hB h12 hF)
    · replace hF := ifF hc hF
      refine w_iload hB 0 dX11_against_56 rfl ?_
      refine w_iload hB 5 dX11_against_58 rfl ?_
      refine w_icmp_eq hB 70 dX11_against_60 (by decide) (fun hc => ?_) (fun hc => ?_)
      · replace hF := ifT hc hF
        exact Wt.sub (L' := [(0, vr 311), (1, vi x1), (2, vi x2), (4, vi x4), (5, vi x5)]) [1, 2, 3, 5, 6] rfl (b_X11_against_b70 hp hB h12 hF)
      · replace hF := ifF hc hF
        refine w_iconst hB 1 (by decide) dX11_against_63 ?_
        refine w_iload hB 6 dX11_against_64 rfl ?_
        refine w_ishl hB dX11_against_66 ?_
        refine w_goto hB 71 dX11_against_67 (by decide) ?_
        refine w_ior hB dX11_against_71 ?_
        obtain ⟨a1, e_a1, hF⟩ := bndS hF
        refine w_istore_n hB (L' := [(3, vi a1), (6, vi r2), (0, vr 311), (1, vi x1), (2, vi x2), (4, vi x4), (5, vi x5)]) dX11_against_72 rfl (by decide) e_a1 rfl ?_
        obtain ⟨a2, e_a2, hF⟩ := bndS hF
        refine w_iinc hB 6 (v := 1) (L' := [(5, vi a2), (3, vi a1), (6, vi r2), (0, vr 311), (1, vi x1), (2, vi x2), (4, vi x4)]) dX11_against_73 rfl (by decide) (by decide) e_a2 rfl ?_
        refine w_goto hB 12 dX11_against_76 (by decide) ?_
        exact Wt.sub (L' := [(0, vr 311), (1, vi x1), (2, vi x2), (3, vi a1), (4, vi x4), (5, vi a2)]) [3, 4, 5, 1, 6, 0] rfl (h12 _ _ _ _ _ M3m hF)
def f_X11_against_b12 (k : Nat) : Int32 → Int32 → Int32 → Int32 → Int32 → Mem → Option (Int32 × Mem) := lpN (fun _ _ _ _ _ _ => none) (f_X11_against_b12_s) k
theorem b_X11_against_b12 {K : Kt} {X : Xt} (hp : St K) (hB : Bx K X { frames := 4, cells := 0, slots := 0, locals := 98 } cX11_against 7 RX11 (some .int)) {r : Int32} {M1 : Mem} (k : Nat) : ∀ (x1 : Int32) (x2 : Int32) (x3 : Int32) (x4 : Int32) (x5 : Int32) M, f_X11_against_b12 k x1 x2 x3 x4 x5 M = some (r, M1) → Wt K X (QM K X (some (vi r)) M1 0 0) 0 0 M 12 [(0, vr 311), (1, vi x1), (2, vi x2), (3, vi x3), (4, vi x4), (5, vi x5)] [] := by
  refine lpN_ind (P := fun (f : Int32 → Int32 → Int32 → Int32 → Int32 → Mem → Option (Int32 × Mem)) => ∀ (x1 : Int32) (x2 : Int32) (x3 : Int32) (x4 : Int32) (x5 : Int32) M, f x1 x2 x3 x4 x5 M = some (r, M1) → Wt K X (QM K X (some (vi r)) M1 0 0) 0 0 M 12 [(0, vr 311), (1, vi x1), (2, vi x2), (3, vi x3), (4, vi x4), (5, vi x5)] []) (fun _ _ _ _ _ _ h => by cases h) (fun f hf x1 x2 x3 x4 x5 M hF => ?_) k
  exact b_X11_against_b12_s hp hB hf hF
def f_X11_against (x1 : Int32) (x2 : Int32) (M : Mem) : Option (Int32 × Mem) :=
  cl (f_X11_callOf x2 M) fun r1 M1m =>
  f_X11_against_b12 fuel x1 x2 0 r1 0 M1m
set_option maxRecDepth 100000 in
set_option maxHeartbeats 4000000 in
theorem b_X11_against {K : Kt} {X : Xt} (hp : St K) (hB : Bx K X { frames := 4, cells := 0, slots := 0, locals := 98 } cX11_against 7 RX11 (some .int)) {r : Int32} {M1 : Mem} {x1 : Int32} {x2 : Int32} {M : Mem} (hF : f_X11_against x1 x2 M = some (r, M1)) : Wt K X (QM K X (some (vi r)) M1 0 0) 0 0 M 0 [(0, vr 311), (1, vi x1), (2, vi x2)] [] := by
  unfold f_X11_against at hF
  refine w_iconst hB 0 (by decide) dX11_against_0 ?_
  refine w_istore_n hB (L' := [(3, vi 0), (0, vr 311), (1, vi x1), (2, vi x2)]) dX11_against_1 rfl (by decide) rfl rfl ?_
  refine w_aload_n hB 1 dX11_against_2 rfl rfl ?_
  refine w_iload_n hB 3 dX11_against_3 rfl rfl ?_
  obtain ⟨r1, M1m, hc_M1m, hF⟩ := clS hF
  refine w_callV hB (ci := 9) (As := [vi x2]) (st := []) cw_X11_369 q_1625 q_61 rfl sh_311 (Or.inl hp.1) (c_X11_callOf hp hc_M1m) ⟨rfl, rfl⟩ (by decide) (by decide) rfl (Nat.le_of_ble_eq_true rfl) dX11_against_4 rfl ?_
  refine w_istore hB (L' := [(4, vi r1), (3, vi 0), (0, vr 311), (1, vi x1), (2, vi x2)]) dX11_against_7 (by decide) rfl rfl ?_
  refine w_iconst hB 0 (by decide) dX11_against_9 ?_
  refine w_istore hB (L' := [(5, vi 0), (4, vi r1), (3, vi 0), (0, vr 311), (1, vi x1), (2, vi x2)]) dX11_against_10 (by decide) rfl rfl ?_
  exact Wt.sub (L' := [(0, vr 311), (1, vi x1), (2, vi x2), (3, vi 0), (4, vi r1), (5, vi 0)]) [3, 4, 5, 2, 1, 0] rfl (b_X11_against_b12 hp hB fuel _ _ _ _ _ M1m hF)
theorem c_X11_against {K : Kt} {l : Launch} (hp : St K) {r : Int32} {M1 : Mem} {x1 : Int32} {x2 : Int32} {M : Mem} (hF : f_X11_against x1 x2 M = some (r, M1)) : MT K l yX11_against cX11_against 7 (some .int) { frames := 4, cells := 0, slots := 0, locals := 98 } [vr 311, vi x1, vi x2] M (some (vi r)) M1 0 0 :=
  MT_of (by decide) rfl (Nat.le_of_ble_eq_true rfl) (fun X _ hB _ => b_X11_against hp hB hF)
def f_X11_put_b157 (x2 : Int32) (M : Mem) : Option (Int32 × Mem) :=
  gd (inb (25 + x2) 114) <|
  bnd (setI M 340 ((25 + x2).toNatClampNeg) 0) fun M1m =>
  some (1, M1m)
set_option maxRecDepth 100000 in
set_option maxHeartbeats 4000000 in
theorem b_X11_put_b157 {K : Kt} {X : Xt} (hp : St K) (hB : Bx K X { frames := 5, cells := 0, slots := 0, locals := 124 } cX11_put 4 RX11 (some .int)) {r : Int32} {M1 : Mem} {x2 : Int32} {M : Mem} (hF : f_X11_put_b157 x2 M = some (r, M1)) : Wt K X (QM K X (some (vi r)) M1 0 0) 0 0 M 157 [(0, vr 311), (2, vi x2)] [] := by
  unfold f_X11_put_b157 at hF
  refine w_aload_n hB 0 dX11_put_157 rfl rfl ?_
  refine w_getC hB (v := 340) ff_X11_38 sh_311 hp.1 cr_311_38 (by decide) q_1198 dX11_put_158 ?_
  refine w_bipush hB 25 (by decide) dX11_put_161 ?_
  refine w_iload_n hB 1 dX11_put_163 rfl rfl ?_
  refine w_iadd hB dX11_put_164 ?_
  refine w_iconst hB 0 (by decide) dX11_put_165 ?_
  obtain ⟨g1, hF⟩ := gdS hF
  obtain ⟨M1m, e_M1m, hF⟩ := bndS hF
  refine w_iast hB sh_340 (Or.inl hp.1) sl_340 g1 e_M1m dX11_put_166 ?_
  refine w_iconst hB 1 (by decide) dX11_put_167 ?_
  obtain ⟨e1, e2⟩ := retS hF
  subst e2
  exact w_iret hB dX11_put_168 e1
def f_X11_put_b102 (x2 : Int32) (x3 : Int32) (xs1 : Int32) (xs2 : Int32) (xs3 : Int32) (M : Mem) : Option (Int32 × Mem) :=
  clv (f_X11_logs xs1 xs2 xs3 0 M) fun M1m =>
  if x3 = 0 then
    some (0, M1m)
  else
    gd (inb (1 + x2) 114) <|
    bnd (setI M1m 340 ((1 + x2).toNatClampNeg) (1 - (M1m.1 340 (1 + x2).toNatClampNeg))) fun M2m =>
    gd (inb (25 + x2) 114) <|
    if (M2m.1 340 (25 + x2).toNatClampNeg) ≤ 0 then
      f_X11_put_b157 x2 M2m
    else
      clv (f_X11_gains ((M2m.1 340 (25 + x2).toNatClampNeg) - 1) M2m) fun M3m =>
      f_X11_put_b157 x2 M3m
set_option maxRecDepth 100000 in
set_option maxHeartbeats 4000000 in
theorem b_X11_put_b102 {K : Kt} {X : Xt} (hp : St K) (hB : Bx K X { frames := 5, cells := 0, slots := 0, locals := 124 } cX11_put 4 RX11 (some .int)) {r : Int32} {M1 : Mem} {x2 : Int32} {x3 : Int32} {xs1 : Int32} {xs2 : Int32} {xs3 : Int32} {M : Mem} (hF : f_X11_put_b102 x2 x3 xs1 xs2 xs3 M = some (r, M1)) : Wt K X (QM K X (some (vi r)) M1 0 0) 0 0 M 102 [(0, vr 311), (2, vi x2), (3, vi x3)] [vi xs3, vi xs2, vi xs1, vr 311] := by
  unfold f_X11_put_b102 at hF
  refine w_iconst hB 0 (by decide) dX11_put_102 ?_
  obtain ⟨M1m, hc_M1m, hF⟩ := clvS hF
  refine w_callV hB (ci := 9) (As := [vi xs1, vi xs2, vi xs3, vi 0]) (st := []) cw_X11_378 q_1653 q_67 rfl sh_311 (Or.inl hp.1) (c_X11_logs hp hc_M1m) ⟨rfl, rfl⟩ (by decide) (by decide) rfl (Nat.le_of_ble_eq_true rfl) dX11_put_103 rfl ?_
  refine w_iload_n hB 2 dX11_put_106 rfl rfl ?_
  refine w_if_ne hB 112 dX11_put_107 (by decide) (fun hc => ?_) (fun hc => ?_)
  · replace hF := ifF hc hF
    refine w_aload_n hB 0 dX11_put_112 rfl rfl ?_
    refine w_getC hB (v := 340) ff_X11_38 sh_311 hp.1 cr_311_38 (by decide) q_1198 dX11_put_113 ?_
    refine w_iconst hB 1 (by decide) dX11_put_116 ?_
    refine w_iload_n hB 1 dX11_put_117 rfl rfl ?_
    refine w_iadd hB dX11_put_118 ?_
    refine w_iconst hB 1 (by decide) dX11_put_119 ?_
    refine w_aload_n hB 0 dX11_put_120 rfl rfl ?_
    refine w_getC hB (v := 340) ff_X11_38 sh_311 hp.1 cr_311_38 (by decide) q_1198 dX11_put_121 ?_
    refine w_iconst hB 1 (by decide) dX11_put_124 ?_
    refine w_iload_n hB 1 dX11_put_125 rfl rfl ?_
    refine w_iadd hB dX11_put_126 ?_
    obtain ⟨g1, hF⟩ := gdS hF
    refine w_iald hB sh_340 (Or.inl hp.1) sl_340 g1 dX11_put_127 ?_
    refine w_isub hB dX11_put_128 ?_
    obtain ⟨M2m, e_M2m, hF⟩ := bndS hF
    refine w_iast hB sh_340 (Or.inl hp.1) sl_340 g1 e_M2m dX11_put_129 ?_
    refine w_aload_n hB 0 dX11_put_130 rfl rfl ?_
    refine w_getC hB (v := 340) ff_X11_38 sh_311 hp.1 cr_311_38 (by decide) q_1198 dX11_put_131 ?_
    refine w_bipush hB 25 (by decide) dX11_put_134 ?_
    refine w_iload_n hB 1 dX11_put_136 rfl rfl ?_
    refine w_iadd hB dX11_put_137 ?_
    obtain ⟨g2, hF⟩ := gdS hF
    refine w_iald hB sh_340 (Or.inl hp.1) sl_340 g2 dX11_put_138 ?_
    refine w_if_le hB 157 dX11_put_139 (by decide) (fun hc => ?_) (fun hc => ?_)
    · replace hF := ifT hc hF
      exact Wt.sub (L' := [(0, vr 311), (2, vi x2)]) [0, 1] rfl (b_X11_put_b157 hp hB hF)
    · replace hF := ifF hc hF
      refine w_aload_n hB 0 dX11_put_142 rfl rfl ?_
      refine w_aload_n hB 0 dX11_put_143 rfl rfl ?_
      refine w_getC hB (v := 340) ff_X11_38 sh_311 hp.1 cr_311_38 (by decide) q_1198 dX11_put_144 ?_
      refine w_bipush hB 25 (by decide) dX11_put_147 ?_
      refine w_iload_n hB 1 dX11_put_149 rfl rfl ?_
      refine w_iadd hB dX11_put_150 ?_
      refine w_iald hB sh_340 (Or.inl hp.1) sl_340 g2 dX11_put_151 ?_
      refine w_iconst hB 1 (by decide) dX11_put_152 ?_
      refine w_isub hB dX11_put_153 ?_
      obtain ⟨M3m, hc_M3m, hF⟩ := clvS hF
      refine w_callV hB (ci := 9) (As := [vi ((M2m.1 340 (25 + x2).toNatClampNeg) - 1)]) (st := []) cw_X11_394 q_1665 q_69 rfl sh_311 (Or.inl hp.1) (c_X11_gains hp hc_M3m) ⟨rfl, rfl⟩ (by decide) (by decide) rfl (Nat.le_of_ble_eq_true rfl) dX11_put_154 rfl ?_
      exact Wt.sub (L' := [(0, vr 311), (2, vi x2)]) [0, 1] rfl (b_X11_put_b157 hp hB hF)
  · replace hF := ifT hc hF
    refine w_iconst hB 0 (by decide) dX11_put_110 ?_
    obtain ⟨e1, e2⟩ := retS hF
    subst e2
    exact w_iret hB dX11_put_111 e1
def f_X11_put_b76 (x1 : Int32) (x2 : Int32) (xs0 : Int32) (M : Mem) : Option (Int32 × Mem) :=
  gd (inb (17 + x2) 114) <|
  bnd (setI M 340 ((17 + x2).toNatClampNeg) 1) fun M1m =>
  if xs0 = 0 then
    f_X11_put_b102 x2 xs0 x2 (10 + x1) 0 M1m
  else
    f_X11_put_b102 x2 xs0 x2 (10 + x1) 2 M1m
set_option maxRecDepth 100000 in
set_option maxHeartbeats 4000000 in
theorem b_X11_put_b76 {K : Kt} {X : Xt} (hp : St K) (hB : Bx K X { frames := 5, cells := 0, slots := 0, locals := 124 } cX11_put 4 RX11 (some .int)) {r : Int32} {M1 : Mem} {x1 : Int32} {x2 : Int32} {xs0 : Int32} {M : Mem} (hF : f_X11_put_b76 x1 x2 xs0 M = some (r, M1)) : Wt K X (QM K X (some (vi r)) M1 0 0) 0 0 M 76 [(0, vr 311), (1, vi x1), (2, vi x2)] [vi xs0] := by
  unfold f_X11_put_b76 at hF
  refine w_istore_n hB (L' := [(3, vi xs0), (0, vr 311), (1, vi x1), (2, vi x2)]) dX11_put_76 rfl (by decide) rfl rfl ?_
  refine w_aload_n hB 1 dX11_put_77 rfl rfl ?_
  refine w_getC hB (v := 340) ff_X11_38 sh_311 hp.1 cr_311_38 (by decide) q_1198 dX11_put_78 ?_
  refine w_bipush hB 17 (by decide) dX11_put_81 ?_
  refine w_iload_n hB 3 dX11_put_83 rfl rfl ?_
  refine w_iadd hB dX11_put_84 ?_
  refine w_iconst hB 1 (by decide) dX11_put_85 ?_
  obtain ⟨g1, hF⟩ := gdS hF
  obtain ⟨M1m, e_M1m, hF⟩ := bndS hF
  refine w_iast hB sh_340 (Or.inl hp.1) sl_340 g1 e_M1m dX11_put_86 ?_
  refine w_aload_n hB 1 dX11_put_87 rfl rfl ?_
  refine w_iload_n hB 3 dX11_put_88 rfl rfl ?_
  refine w_bipush hB 10 (by decide) dX11_put_89 ?_
  refine w_iload_n hB 2 dX11_put_91 rfl rfl ?_
  refine w_iadd hB dX11_put_92 ?_
  refine w_iload_n hB 0 dX11_put_93 rfl rfl ?_
  refine w_if_eq hB 101 dX11_put_94 (by decide) (fun hc => ?_) (fun hc => ?_)
  · replace hF := ifT hc hF
    refine w_iconst hB 0 (by decide) dX11_put_101 ?_
    exact Wt.sub (L' := [(0, vr 311), (2, vi x2), (3, vi xs0)]) [1, 3, 0] rfl (b_X11_put_b102 hp hB hF)
  · replace hF := ifF hc hF
    refine w_iconst hB 2 (by decide) dX11_put_97 ?_
    refine w_goto hB 102 dX11_put_98 (by decide) ?_
    exact Wt.sub (L' := [(0, vr 311), (2, vi x2), (3, vi xs0)]) [1, 3, 0] rfl (b_X11_put_b102 hp hB hF)
def f_X11_put (x1 : Int32) (x2 : Int32) (M : Mem) : Option (Int32 × Mem) :=
  bnd (setI M 311 0 0) fun M1m =>
  cl (f_X11_isBoard x1 M1m) fun r1 M2m =>
  if r1 = 0 then
    some ((-1), M2m)
  else
    cl (f_X11_isPlay x2 M2m) fun r2 M3m =>
    if r2 = 0 then
      some ((-1), M3m)
    else
      if (M3m.1 340 0) ≤ x2 then
        some ((-2), M3m)
      else
        gd (inb (17 + x2) 114) <|
        if (M3m.1 340 (17 + x2).toNatClampNeg) = 1 then
          some ((-2), M3m)
        else
          clv (f_X11_keeps M3m) fun M4m =>
          cl (f_X11_against x1 x2 M4m) fun r3 M5m =>
          cl (f_X11_bits r3 M5m) fun r4 M6m =>
          gd (inb x1 6) <|
          if r4 < (M6m.1 327 x1.toNatClampNeg) then
            f_X11_put_b76 x1 x2 0 M6m
          else
            f_X11_put_b76 x1 x2 1 M6m
set_option maxRecDepth 100000 in
set_option maxHeartbeats 4000000 in
theorem b_X11_put {K : Kt} {X : Xt} (hp : St K) (hB : Bx K X { frames := 5, cells := 0, slots := 0, locals := 124 } cX11_put 4 RX11 (some .int)) {r : Int32} {M1 : Mem} {x1 : Int32} {x2 : Int32} {M : Mem} (hF : f_X11_put x1 x2 M = some (r, M1)) : Wt K X (QM K X (some (vi r)) M1 0 0) 0 0 M 0 [(0, vr 311), (1, vi x1), (2, vi x2)] [] := by
  unfold f_X11_put at hF
  refine w_aload_n hB 0 dX11_put_0 rfl rfl ?_
  refine w_iconst hB 0 (by decide) dX11_put_1 ?_
  obtain ⟨M1m, e_M1m, hF⟩ := bndS hF
  refine w_putI hB ff_X11_0 sh_311 (Or.inl hp.1) q_1160 e_M1m dX11_put_2 ?_
  refine w_aload_n hB 0 dX11_put_5 rfl rfl ?_
  refine w_iload_n hB 1 dX11_put_6 rfl rfl ?_
  obtain ⟨r1, M2m, hc_M2m, hF⟩ := clS hF
  refine w_callV hB (ci := 9) (As := [vi x1]) (st := []) cw_X11_397 q_1673 q_70 rfl sh_311 (Or.inl hp.1) (c_X11_isBoard hp hc_M2m) ⟨rfl, rfl⟩ (by decide) (by decide) rfl (Nat.le_of_ble_eq_true rfl) dX11_put_7 rfl ?_
  refine w_if_eq hB 21 dX11_put_10 (by decide) (fun hc => ?_) (fun hc => ?_)
  · replace hF := ifT hc hF
    refine w_iconst hB (-1) (by decide) dX11_put_21 ?_
    obtain ⟨e1, e2⟩ := retS hF
    subst e2
    exact w_iret hB dX11_put_22 e1
  · replace hF := ifF hc hF
    refine w_aload_n hB 0 dX11_put_13 rfl rfl ?_
    refine w_iload_n hB 2 dX11_put_14 rfl rfl ?_
    obtain ⟨r2, M3m, hc_M3m, hF⟩ := clS hF
    refine w_callV hB (ci := 9) (As := [vi x2]) (st := []) cw_X11_343 q_1552 q_55 rfl sh_311 (Or.inl hp.1) (c_X11_isPlay hp hc_M3m) ⟨rfl, rfl⟩ (by decide) (by decide) rfl (Nat.le_of_ble_eq_true rfl) dX11_put_15 rfl ?_
    refine w_if_ne hB 23 dX11_put_18 (by decide) (fun hc => ?_) (fun hc => ?_)
    · replace hF := ifF hc hF
      refine w_iload_n hB 2 dX11_put_23 rfl rfl ?_
      refine w_aload_n hB 0 dX11_put_24 rfl rfl ?_
      refine w_getC hB (v := 340) ff_X11_38 sh_311 hp.1 cr_311_38 (by decide) q_1198 dX11_put_25 ?_
      refine w_iconst hB 0 (by decide) dX11_put_28 ?_
      refine w_iald hB sh_340 (Or.inl hp.1) sl_340 (by decide) dX11_put_29 ?_
      rw [show (0 : Int32).toNatClampNeg = 0 by decide]
      refine w_icmp_ge hB 46 dX11_put_30 (by decide) (fun hc => ?_) (fun hc => ?_)
      · replace hF := ifT hc hF
        refine w_bipush hB (-2) (by decide) dX11_put_46 ?_
        obtain ⟨e1, e2⟩ := retS hF
        subst e2
        exact w_iret hB dX11_put_48 e1
      · replace hF := ifF hc hF
        refine w_aload_n hB 0 dX11_put_33 rfl rfl ?_
        refine w_getC hB (v := 340) ff_X11_38 sh_311 hp.1 cr_311_38 (by decide) q_1198 dX11_put_34 ?_
        refine w_bipush hB 17 (by decide) dX11_put_37 ?_
        refine w_iload_n hB 2 dX11_put_39 rfl rfl ?_
        refine w_iadd hB dX11_put_40 ?_
        obtain ⟨g1, hF⟩ := gdS hF
        refine w_iald hB sh_340 (Or.inl hp.1) sl_340 g1 dX11_put_41 ?_
        refine w_iconst hB 1 (by decide) dX11_put_42 ?_
        refine w_icmp_ne hB 49 dX11_put_43 (by decide) (fun hc => ?_) (fun hc => ?_)
        · replace hF := ifF hc hF
          refine w_aload_n hB 0 dX11_put_49 rfl rfl ?_
          obtain ⟨M4m, hc_M4m, hF⟩ := clvS hF
          refine w_callV hB (ci := 9) (As := []) (st := []) cw_X11_385 q_1641 q_64 rfl sh_311 (Or.inl hp.1) (c_X11_keeps hp hc_M4m) ⟨rfl, rfl⟩ (by decide) (by decide) rfl (Nat.le_of_ble_eq_true rfl) dX11_put_50 rfl ?_
          refine w_aload_n hB 0 dX11_put_53 rfl rfl ?_
          refine w_iload_n hB 1 dX11_put_54 rfl rfl ?_
          refine w_iload_n hB 2 dX11_put_55 rfl rfl ?_
          obtain ⟨r3, M5m, hc_M5m, hF⟩ := clS hF
          refine w_callV hB (ci := 9) (As := [vi x1, vi x2]) (st := []) cw_X11_400 q_1677 q_71 rfl sh_311 (Or.inl hp.1) (c_X11_against hp hc_M5m) ⟨rfl, rfl⟩ (by decide) (by decide) rfl (Nat.le_of_ble_eq_true rfl) dX11_put_56 rfl ?_
          obtain ⟨r4, M6m, hc_M6m, hF⟩ := clS hF
          refine w_callS hB (As := [vi r3]) (st := []) cw_X11_352 q_1604 (c_X11_bits hp hc_M6m) ⟨rfl, rfl⟩ (by decide) (by decide) rfl (Nat.le_of_ble_eq_true rfl) dX11_put_59 rfl ?_
          refine w_aload_n hB 0 dX11_put_62 rfl rfl ?_
          refine w_getC hB (v := 327) ff_X11_25 sh_311 hp.1 cr_311_25 (by decide) q_1185 dX11_put_63 ?_
          refine w_iload_n hB 1 dX11_put_66 rfl rfl ?_
          obtain ⟨g2, hF⟩ := gdS hF
          refine w_iald hB sh_327 (Or.inl hp.1) sl_327 g2 dX11_put_67 ?_
          refine w_icmp_lt hB 75 dX11_put_68 (by decide) (fun hc => ?_) (fun hc => ?_)
          · replace hF := ifT hc hF
            refine w_iconst hB 0 (by decide) dX11_put_75 ?_
            exact Wt.sub (L' := [(0, vr 311), (1, vi x1), (2, vi x2)]) [0, 1, 2] rfl (b_X11_put_b76 hp hB hF)
          · replace hF := ifF hc hF
            refine w_iconst hB 1 (by decide) dX11_put_71 ?_
            refine w_goto hB 76 dX11_put_72 (by decide) ?_
            exact Wt.sub (L' := [(0, vr 311), (1, vi x1), (2, vi x2)]) [0, 1, 2] rfl (b_X11_put_b76 hp hB hF)
        · replace hF := ifT hc hF
          refine w_bipush hB (-2) (by decide) dX11_put_46 ?_
          obtain ⟨e1, e2⟩ := retS hF
          subst e2
          exact w_iret hB dX11_put_48 e1
    · replace hF := ifT hc hF
      refine w_iconst hB (-1) (by decide) dX11_put_21 ?_
      obtain ⟨e1, e2⟩ := retS hF
      subst e2
      exact w_iret hB dX11_put_22 e1
theorem c_X11_put {K : Kt} {l : Launch} (hp : St K) {r : Int32} {M1 : Mem} {x1 : Int32} {x2 : Int32} {M : Mem} (hF : f_X11_put x1 x2 M = some (r, M1)) : MT K l yX11_put cX11_put 4 (some .int) { frames := 5, cells := 0, slots := 0, locals := 124 } [vr 311, vi x1, vi x2] M (some (vi r)) M1 0 0 :=
  MT_of (by decide) rfl (Nat.le_of_ble_eq_true rfl) (fun X _ hB _ => b_X11_put hp hB hF)
def f_X11_votes (x1 : Int32) (x2 : Int32) (M : Mem) : Option (Int32 × Mem) :=
  bnd (setI M 311 0 0) fun M1m =>
  cl (f_X11_isBoard x1 M1m) fun r1 M2m =>
  if r1 = 0 then
    some ((-1), M2m)
  else
    cl (f_X11_isPlay x2 M2m) fun r2 M3m =>
    if r2 = 0 then
      some ((-1), M3m)
    else
      cl (f_X11_against x1 x2 M3m) fun r3 M4m =>
      some (r3, M4m)
set_option maxRecDepth 100000 in
set_option maxHeartbeats 4000000 in
theorem b_X11_votes {K : Kt} {X : Xt} (hp : St K) (hB : Bx K X { frames := 5, cells := 0, slots := 0, locals := 124 } cX11_votes 3 RX11 (some .int)) {r : Int32} {M1 : Mem} {x1 : Int32} {x2 : Int32} {M : Mem} (hF : f_X11_votes x1 x2 M = some (r, M1)) : Wt K X (QM K X (some (vi r)) M1 0 0) 0 0 M 0 [(0, vr 311), (1, vi x1), (2, vi x2)] [] := by
  unfold f_X11_votes at hF
  refine w_aload_n hB 0 dX11_votes_0 rfl rfl ?_
  refine w_iconst hB 0 (by decide) dX11_votes_1 ?_
  obtain ⟨M1m, e_M1m, hF⟩ := bndS hF
  refine w_putI hB ff_X11_0 sh_311 (Or.inl hp.1) q_1160 e_M1m dX11_votes_2 ?_
  refine w_aload_n hB 0 dX11_votes_5 rfl rfl ?_
  refine w_iload_n hB 1 dX11_votes_6 rfl rfl ?_
  obtain ⟨r1, M2m, hc_M2m, hF⟩ := clS hF
  refine w_callV hB (ci := 9) (As := [vi x1]) (st := []) cw_X11_397 q_1673 q_70 rfl sh_311 (Or.inl hp.1) (c_X11_isBoard hp hc_M2m) ⟨rfl, rfl⟩ (by decide) (by decide) rfl (Nat.le_of_ble_eq_true rfl) dX11_votes_7 rfl ?_
  refine w_if_eq hB 30 dX11_votes_10 (by decide) (fun hc => ?_) (fun hc => ?_)
  · replace hF := ifT hc hF
    refine w_iconst hB (-1) (by decide) dX11_votes_30 ?_
    obtain ⟨e1, e2⟩ := retS hF
    subst e2
    exact w_iret hB dX11_votes_31 e1
  · replace hF := ifF hc hF
    refine w_aload_n hB 0 dX11_votes_13 rfl rfl ?_
    refine w_iload_n hB 2 dX11_votes_14 rfl rfl ?_
    obtain ⟨r2, M3m, hc_M3m, hF⟩ := clS hF
    refine w_callV hB (ci := 9) (As := [vi x2]) (st := []) cw_X11_343 q_1552 q_55 rfl sh_311 (Or.inl hp.1) (c_X11_isPlay hp hc_M3m) ⟨rfl, rfl⟩ (by decide) (by decide) rfl (Nat.le_of_ble_eq_true rfl) dX11_votes_15 rfl ?_
    refine w_if_eq hB 30 dX11_votes_18 (by decide) (fun hc => ?_) (fun hc => ?_)
    · replace hF := ifT hc hF
      refine w_iconst hB (-1) (by decide) dX11_votes_30 ?_
      obtain ⟨e1, e2⟩ := retS hF
      subst e2
      exact w_iret hB dX11_votes_31 e1
    · replace hF := ifF hc hF
      refine w_aload_n hB 0 dX11_votes_21 rfl rfl ?_
      refine w_iload_n hB 1 dX11_votes_22 rfl rfl ?_
      refine w_iload_n hB 2 dX11_votes_23 rfl rfl ?_
      obtain ⟨r3, M4m, hc_M4m, hF⟩ := clS hF
      refine w_callV hB (ci := 9) (As := [vi x1, vi x2]) (st := []) cw_X11_400 q_1677 q_71 rfl sh_311 (Or.inl hp.1) (c_X11_against hp hc_M4m) ⟨rfl, rfl⟩ (by decide) (by decide) rfl (Nat.le_of_ble_eq_true rfl) dX11_votes_24 rfl ?_
      refine w_goto hB 31 dX11_votes_27 (by decide) ?_
      obtain ⟨e1, e2⟩ := retS hF
      subst e2
      exact w_iret hB dX11_votes_31 e1
theorem c_X11_votes {K : Kt} {l : Launch} (hp : St K) {r : Int32} {M1 : Mem} {x1 : Int32} {x2 : Int32} {M : Mem} (hF : f_X11_votes x1 x2 M = some (r, M1)) : MT K l yX11_votes cX11_votes 3 (some .int) { frames := 5, cells := 0, slots := 0, locals := 124 } [vr 311, vi x1, vi x2] M (some (vi r)) M1 0 0 :=
  MT_of (by decide) rfl (Nat.le_of_ble_eq_true rfl) (fun X _ hB _ => b_X11_votes hp hB hF)
def f_X11_pivot (x1 : Int32) (x2 : Int32) (M : Mem) : Option (Int32 × Mem) :=
  bnd (setI M 311 0 0) fun M1m =>
  cl (f_X11_isBoard x1 M1m) fun r1 M2m =>
  if r1 = 0 then
    some ((-1), M2m)
  else
    cl (f_X11_isPlay x2 M2m) fun r2 M3m =>
    if r2 = 0 then
      some ((-1), M3m)
    else
      cl (f_X11_against x1 x2 M3m) fun r3 M4m =>
      cl (f_X11_bits r3 M4m) fun r4 M5m =>
      gd (inb x1 6) <|
      if r4 = (M5m.1 327 x1.toNatClampNeg) then
        some (r3, M5m)
      else
        some (0, M5m)
set_option maxRecDepth 100000 in
set_option maxHeartbeats 4000000 in
theorem b_X11_pivot {K : Kt} {X : Xt} (hp : St K) (hB : Bx K X { frames := 5, cells := 0, slots := 0, locals := 124 } cX11_pivot 4 RX11 (some .int)) {r : Int32} {M1 : Mem} {x1 : Int32} {x2 : Int32} {M : Mem} (hF : f_X11_pivot x1 x2 M = some (r, M1)) : Wt K X (QM K X (some (vi r)) M1 0 0) 0 0 M 0 [(0, vr 311), (1, vi x1), (2, vi x2)] [] := by
  unfold f_X11_pivot at hF
  refine w_aload_n hB 0 dX11_pivot_0 rfl rfl ?_
  refine w_iconst hB 0 (by decide) dX11_pivot_1 ?_
  obtain ⟨M1m, e_M1m, hF⟩ := bndS hF
  refine w_putI hB ff_X11_0 sh_311 (Or.inl hp.1) q_1160 e_M1m dX11_pivot_2 ?_
  refine w_aload_n hB 0 dX11_pivot_5 rfl rfl ?_
  refine w_iload_n hB 1 dX11_pivot_6 rfl rfl ?_
  obtain ⟨r1, M2m, hc_M2m, hF⟩ := clS hF
  refine w_callV hB (ci := 9) (As := [vi x1]) (st := []) cw_X11_397 q_1673 q_70 rfl sh_311 (Or.inl hp.1) (c_X11_isBoard hp hc_M2m) ⟨rfl, rfl⟩ (by decide) (by decide) rfl (Nat.le_of_ble_eq_true rfl) dX11_pivot_7 rfl ?_
  refine w_if_eq hB 21 dX11_pivot_10 (by decide) (fun hc => ?_) (fun hc => ?_)
  · replace hF := ifT hc hF
    refine w_iconst hB (-1) (by decide) dX11_pivot_21 ?_
    obtain ⟨e1, e2⟩ := retS hF
    subst e2
    exact w_iret hB dX11_pivot_22 e1
  · replace hF := ifF hc hF
    refine w_aload_n hB 0 dX11_pivot_13 rfl rfl ?_
    refine w_iload_n hB 2 dX11_pivot_14 rfl rfl ?_
    obtain ⟨r2, M3m, hc_M3m, hF⟩ := clS hF
    refine w_callV hB (ci := 9) (As := [vi x2]) (st := []) cw_X11_343 q_1552 q_55 rfl sh_311 (Or.inl hp.1) (c_X11_isPlay hp hc_M3m) ⟨rfl, rfl⟩ (by decide) (by decide) rfl (Nat.le_of_ble_eq_true rfl) dX11_pivot_15 rfl ?_
    refine w_if_ne hB 23 dX11_pivot_18 (by decide) (fun hc => ?_) (fun hc => ?_)
    · replace hF := ifF hc hF
      refine w_aload_n hB 0 dX11_pivot_23 rfl rfl ?_
      refine w_iload_n hB 1 dX11_pivot_24 rfl rfl ?_
      refine w_iload_n hB 2 dX11_pivot_25 rfl rfl ?_
      obtain ⟨r3, M4m, hc_M4m, hF⟩ := clS hF
      refine w_callV hB (ci := 9) (As := [vi x1, vi x2]) (st := []) cw_X11_400 q_1677 q_71 rfl sh_311 (Or.inl hp.1) (c_X11_against hp hc_M4m) ⟨rfl, rfl⟩ (by decide) (by decide) rfl (Nat.le_of_ble_eq_true rfl) dX11_pivot_26 rfl ?_
      refine w_istore_n hB (L' := [(3, vi r3), (0, vr 311), (1, vi x1), (2, vi x2)]) dX11_pivot_29 rfl (by decide) rfl rfl ?_
      refine w_iload_n hB 0 dX11_pivot_30 rfl rfl ?_
      obtain ⟨r4, M5m, hc_M5m, hF⟩ := clS hF
      refine w_callS hB (As := [vi r3]) (st := []) cw_X11_352 q_1604 (c_X11_bits hp hc_M5m) ⟨rfl, rfl⟩ (by decide) (by decide) rfl (Nat.le_of_ble_eq_true rfl) dX11_pivot_31 rfl ?_
      refine w_aload_n hB 1 dX11_pivot_34 rfl rfl ?_
      refine w_getC hB (v := 327) ff_X11_25 sh_311 hp.1 cr_311_25 (by decide) q_1185 dX11_pivot_35 ?_
      refine w_iload_n hB 2 dX11_pivot_38 rfl rfl ?_
      obtain ⟨g1, hF⟩ := gdS hF
      refine w_iald hB sh_327 (Or.inl hp.1) sl_327 g1 dX11_pivot_39 ?_
      refine w_icmp_ne hB 47 dX11_pivot_40 (by decide) (fun hc => ?_) (fun hc => ?_)
      · replace hF := ifF hc hF
        refine w_iconst hB 0 (by decide) dX11_pivot_47 ?_
        obtain ⟨e1, e2⟩ := retS hF
        subst e2
        exact w_iret hB dX11_pivot_48 e1
      · replace hF := ifT hc hF
        refine w_iload_n hB 0 dX11_pivot_43 rfl rfl ?_
        refine w_goto hB 48 dX11_pivot_44 (by decide) ?_
        obtain ⟨e1, e2⟩ := retS hF
        subst e2
        exact w_iret hB dX11_pivot_48 e1
    · replace hF := ifT hc hF
      refine w_iconst hB (-1) (by decide) dX11_pivot_21 ?_
      obtain ⟨e1, e2⟩ := retS hF
      subst e2
      exact w_iret hB dX11_pivot_22 e1
theorem c_X11_pivot {K : Kt} {l : Launch} (hp : St K) {r : Int32} {M1 : Mem} {x1 : Int32} {x2 : Int32} {M : Mem} (hF : f_X11_pivot x1 x2 M = some (r, M1)) : MT K l yX11_pivot cX11_pivot 4 (some .int) { frames := 5, cells := 0, slots := 0, locals := 124 } [vr 311, vi x1, vi x2] M (some (vi r)) M1 0 0 :=
  MT_of (by decide) rfl (Nat.le_of_ble_eq_true rfl) (fun X _ hB _ => b_X11_pivot hp hB hF)
def f_X11_boards_b19_s (rec19 : Int32 → Int32 → Int32 → Mem → Option (Int32 × Mem)) (x1 : Int32) (x2 : Int32) (x3 : Int32) (M : Mem) : Option (Int32 × Mem) :=
  if (M.1 313 3) ≤ x3 then
    some (x2, M)
  else
    cl (f_X11_against x3 x1 M) fun r1 M1m =>
    cl (f_X11_bits r1 M1m) fun r2 M2m =>
    gd (inb x3 6) <|
    if r2 < (M2m.1 327 x3.toNatClampNeg) then
      bnd (x2 ||| 0) fun a1 =>
      bnd (x3 + 1) fun a2 =>
      rec19 x1 a1 a2 M2m
    else
      bnd (x2 ||| ((1 : Int32) <<< (x3 &&& 31))) fun a3 =>
      bnd (x3 + 1) fun a4 =>
      rec19 x1 a3 a4 M2m
set_option maxRecDepth 100000 in
set_option maxHeartbeats 4000000 in
theorem b_X11_boards_b19_s {K : Kt} {X : Xt} (hp : St K) (hB : Bx K X { frames := 5, cells := 0, slots := 0, locals := 124 } cX11_boards 4 RX11 (some .int)) {r : Int32} {M1 : Mem} {rec19 : Int32 → Int32 → Int32 → Mem → Option (Int32 × Mem)}
    (h19 : ∀ x1 x2 x3 M, rec19 x1 x2 x3 M = some (r, M1) → Wt K X (QM K X (some (vi r)) M1 0 0) 0 0 M 19 [(0, vr 311), (1, vi x1), (2, vi x2), (3, vi x3)] []) {x1 : Int32} {x2 : Int32} {x3 : Int32} {M : Mem} (hF : f_X11_boards_b19_s rec19 x1 x2 x3 M = some (r, M1)) : Wt K X (QM K X (some (vi r)) M1 0 0) 0 0 M 19 [(0, vr 311), (1, vi x1), (2, vi x2), (3, vi x3)] [] := by
  unfold f_X11_boards_b19_s at hF
  refine w_iload_n hB 3 dX11_boards_19 rfl rfl ?_
  refine w_aload_n hB 0 dX11_boards_20 rfl rfl ?_
  refine w_getC hB (v := 313) ff_X11_11 sh_311 hp.1 cr_311_11 (by decide) q_1171 dX11_boards_21 ?_
  refine w_iconst hB 3 (by decide) dX11_boards_24 ?_
  refine w_iald hB sh_313 (Or.inl hp.1) sl_313 (by decide) dX11_boards_25 ?_
  rw [show (3 : Int32).toNatClampNeg = 3 by decide]
  refine w_icmp_ge hB 63 dX11_boards_26 (by decide) (fun hc => ?_) (fun hc => ?_)
  · replace hF := ifT hc hF
    refine w_iload_n hB 2 dX11_boards_63 rfl rfl ?_
    obtain ⟨e1, e2⟩ := retS hF
    subst e2
    exact w_iret hB dX11_boards_64 e1
  · replace hF := ifF hc hF
    refine w_iload_n hB 2 dX11_boards_29 rfl rfl ?_
    refine w_aload_n hB 0 dX11_boards_30 rfl rfl ?_
    refine w_iload_n hB 3 dX11_boards_31 rfl rfl ?_
    refine w_iload_n hB 1 dX11_boards_32 rfl rfl ?_
    obtain ⟨r1, M1m, hc_M1m, hF⟩ := clS hF
    refine w_callV hB (ci := 9) (As := [vi x3, vi x1]) (st := [vi x2]) cw_X11_400 q_1677 q_71 rfl sh_311 (Or.inl hp.1) (c_X11_against hp hc_M1m) ⟨rfl, rfl⟩ (by decide) (by decide) rfl (Nat.le_of_ble_eq_true rfl) dX11_boards_33 rfl ?_
    obtain ⟨r2, M2m, hc_M2m, hF⟩ := clS hF
    refine w_callS hB (As := [vi r1]) (st := [vi x2]) cw_X11_352 q_1604 (c_X11_bits hp hc_M2m) ⟨rfl, rfl⟩ (by decide) (by decide) rfl (Nat.le_of_ble_eq_true rfl) dX11_boards_36 rfl ?_
    refine w_aload_n hB 0 dX11_boards_39 rfl rfl ?_
    refine w_getC hB (v := 327) ff_X11_25 sh_311 hp.1 cr_311_25 (by decide) q_1185 dX11_boards_40 ?_
    refine w_iload_n hB 3 dX11_boards_43 rfl rfl ?_
    obtain ⟨g1, hF⟩ := gdS hF
    refine w_iald hB sh_327 (Or.inl hp.1) sl_327 g1 dX11_boards_44 ?_
    refine w_icmp_lt hB 54 dX11_boards_45 (by decide) (fun hc => ?_) (fun hc => ?_)
    · replace hF := ifT hc hF
      refine w_iconst hB 0 (by decide) dX11_boards_54 ?_
      refine w_ior hB dX11_boards_55 ?_
      obtain ⟨a1, e_a1, hF⟩ := bndS hF
      refine w_istore_n hB (L' := [(2, vi a1), (0, vr 311), (1, vi x1), (3, vi x3)]) dX11_boards_56 rfl (by decide) e_a1 rfl ?_
      obtain ⟨a2, e_a2, hF⟩ := bndS hF
      refine w_iinc hB 3 (v := 1) (L' := [(3, vi a2), (2, vi a1), (0, vr 311), (1, vi x1)]) dX11_boards_57 rfl (by decide) (by decide) e_a2 rfl ?_
      refine w_goto hB 19 dX11_boards_60 (by decide) ?_
      exact Wt.sub (L' := [(0, vr 311), (1, vi x1), (2, vi a1), (3, vi a2)]) [2, 3, 1, 0] rfl (h19 _ _ _ M2m hF)
    · replace hF := ifF hc hF
      refine w_iconst hB 1 (by decide) dX11_boards_48 ?_
      refine w_iload_n hB 3 dX11_boards_49 rfl rfl ?_
      refine w_ishl hB dX11_boards_50 ?_
      refine w_goto hB 55 dX11_boards_51 (by decide) ?_
      refine w_ior hB dX11_boards_55 ?_
      obtain ⟨a3, e_a3, hF⟩ := bndS hF
      refine w_istore_n hB (L' := [(2, vi a3), (0, vr 311), (1, vi x1), (3, vi x3)]) dX11_boards_56 rfl (by decide) e_a3 rfl ?_
      obtain ⟨a4, e_a4, hF⟩ := bndS hF
      refine w_iinc hB 3 (v := 1) (L' := [(3, vi a4), (2, vi a3), (0, vr 311), (1, vi x1)]) dX11_boards_57 rfl (by decide) (by decide) e_a4 rfl ?_
      refine w_goto hB 19 dX11_boards_60 (by decide) ?_
      exact Wt.sub (L' := [(0, vr 311), (1, vi x1), (2, vi a3), (3, vi a4)]) [2, 3, 1, 0] rfl (h19 _ _ _ M2m hF)
def f_X11_boards_b19 (k : Nat) : Int32 → Int32 → Int32 → Mem → Option (Int32 × Mem) := lpN (fun _ _ _ _ => none) (f_X11_boards_b19_s) k
theorem b_X11_boards_b19 {K : Kt} {X : Xt} (hp : St K) (hB : Bx K X { frames := 5, cells := 0, slots := 0, locals := 124 } cX11_boards 4 RX11 (some .int)) {r : Int32} {M1 : Mem} (k : Nat) : ∀ (x1 : Int32) (x2 : Int32) (x3 : Int32) M, f_X11_boards_b19 k x1 x2 x3 M = some (r, M1) → Wt K X (QM K X (some (vi r)) M1 0 0) 0 0 M 19 [(0, vr 311), (1, vi x1), (2, vi x2), (3, vi x3)] [] := by
  refine lpN_ind (P := fun (f : Int32 → Int32 → Int32 → Mem → Option (Int32 × Mem)) => ∀ (x1 : Int32) (x2 : Int32) (x3 : Int32) M, f x1 x2 x3 M = some (r, M1) → Wt K X (QM K X (some (vi r)) M1 0 0) 0 0 M 19 [(0, vr 311), (1, vi x1), (2, vi x2), (3, vi x3)] []) (fun _ _ _ _ h => by cases h) (fun f hf x1 x2 x3 M hF => ?_) k
  exact b_X11_boards_b19_s hp hB hf hF
def f_X11_boards (x1 : Int32) (M : Mem) : Option (Int32 × Mem) :=
  bnd (setI M 311 0 0) fun M1m =>
  cl (f_X11_isPlay x1 M1m) fun r1 M2m =>
  if r1 = 0 then
    some ((-1), M2m)
  else
    f_X11_boards_b19 fuel x1 0 0 M2m
set_option maxRecDepth 100000 in
set_option maxHeartbeats 4000000 in
theorem b_X11_boards {K : Kt} {X : Xt} (hp : St K) (hB : Bx K X { frames := 5, cells := 0, slots := 0, locals := 124 } cX11_boards 4 RX11 (some .int)) {r : Int32} {M1 : Mem} {x1 : Int32} {M : Mem} (hF : f_X11_boards x1 M = some (r, M1)) : Wt K X (QM K X (some (vi r)) M1 0 0) 0 0 M 0 [(0, vr 311), (1, vi x1)] [] := by
  unfold f_X11_boards at hF
  refine w_aload_n hB 0 dX11_boards_0 rfl rfl ?_
  refine w_iconst hB 0 (by decide) dX11_boards_1 ?_
  obtain ⟨M1m, e_M1m, hF⟩ := bndS hF
  refine w_putI hB ff_X11_0 sh_311 (Or.inl hp.1) q_1160 e_M1m dX11_boards_2 ?_
  refine w_aload_n hB 0 dX11_boards_5 rfl rfl ?_
  refine w_iload_n hB 1 dX11_boards_6 rfl rfl ?_
  obtain ⟨r1, M2m, hc_M2m, hF⟩ := clS hF
  refine w_callV hB (ci := 9) (As := [vi x1]) (st := []) cw_X11_343 q_1552 q_55 rfl sh_311 (Or.inl hp.1) (c_X11_isPlay hp hc_M2m) ⟨rfl, rfl⟩ (by decide) (by decide) rfl (Nat.le_of_ble_eq_true rfl) dX11_boards_7 rfl ?_
  refine w_if_ne hB 15 dX11_boards_10 (by decide) (fun hc => ?_) (fun hc => ?_)
  · replace hF := ifF hc hF
    refine w_iconst hB 0 (by decide) dX11_boards_15 ?_
    refine w_istore_n hB (L' := [(2, vi 0), (0, vr 311), (1, vi x1)]) dX11_boards_16 rfl (by decide) rfl rfl ?_
    refine w_iconst hB 0 (by decide) dX11_boards_17 ?_
    refine w_istore_n hB (L' := [(3, vi 0), (2, vi 0), (0, vr 311), (1, vi x1)]) dX11_boards_18 rfl (by decide) rfl rfl ?_
    exact Wt.sub (L' := [(0, vr 311), (1, vi x1), (2, vi 0), (3, vi 0)]) [2, 3, 1, 0] rfl (b_X11_boards_b19 hp hB fuel _ _ _ M2m hF)
  · replace hF := ifT hc hF
    refine w_iconst hB (-1) (by decide) dX11_boards_13 ?_
    obtain ⟨e1, e2⟩ := retS hF
    subst e2
    exact w_iret hB dX11_boards_14 e1
theorem c_X11_boards {K : Kt} {l : Launch} (hp : St K) {r : Int32} {M1 : Mem} {x1 : Int32} {M : Mem} (hF : f_X11_boards x1 M = some (r, M1)) : MT K l yX11_boards cX11_boards 4 (some .int) { frames := 5, cells := 0, slots := 0, locals := 124 } [vr 311, vi x1] M (some (vi r)) M1 0 0 :=
  MT_of (by decide) rfl (Nat.le_of_ble_eq_true rfl) (fun X _ hB _ => b_X11_boards hp hB hF)
def f_X11_trueCall (x1 : Int32) (x2 : Int32) (M : Mem) : Option (Int32 × Mem) :=
  cl (f_X11_byAll x1 M) fun r1 M1m =>
  cl (f_X11_isSure r1 M1m) fun r2 M2m =>
  if r2 = 0 then
    some (x2, M2m)
  else
    some (r1, M2m)
set_option maxRecDepth 100000 in
set_option maxHeartbeats 4000000 in
theorem b_X11_trueCall {K : Kt} {X : Xt} (hp : St K) (hB : Bx K X { frames := 5, cells := 0, slots := 0, locals := 119 } cX11_trueCall 4 RX11 (some .int)) {r : Int32} {M1 : Mem} {x1 : Int32} {x2 : Int32} {M : Mem} (hF : f_X11_trueCall x1 x2 M = some (r, M1)) : Wt K X (QM K X (some (vi r)) M1 0 0) 0 0 M 0 [(0, vr 311), (1, vi x1), (2, vi x2)] [] := by
  unfold f_X11_trueCall at hF
  refine w_aload_n hB 0 dX11_trueCall_0 rfl rfl ?_
  refine w_iload_n hB 1 dX11_trueCall_1 rfl rfl ?_
  obtain ⟨r1, M1m, hc_M1m, hF⟩ := clS hF
  refine w_callV hB (ci := 9) (As := [vi x1]) (st := []) cw_X11_355 q_1595 q_60 rfl sh_311 (Or.inl hp.1) (c_X11_byAll hp hc_M1m) ⟨rfl, rfl⟩ (by decide) (by decide) rfl (Nat.le_of_ble_eq_true rfl) dX11_trueCall_2 rfl ?_
  refine w_istore_n hB (L' := [(3, vi r1), (0, vr 311), (1, vi x1), (2, vi x2)]) dX11_trueCall_5 rfl (by decide) rfl rfl ?_
  refine w_iload_n hB 0 dX11_trueCall_6 rfl rfl ?_
  obtain ⟨r2, M2m, hc_M2m, hF⟩ := clS hF
  refine w_callS hB (As := [vi r1]) (st := []) cw_X11_358 q_1598 (c_X11_isSure hp hc_M2m) ⟨rfl, rfl⟩ (by decide) (by decide) rfl (Nat.le_of_ble_eq_true rfl) dX11_trueCall_7 rfl ?_
  refine w_if_eq hB 17 dX11_trueCall_10 (by decide) (fun hc => ?_) (fun hc => ?_)
  · replace hF := ifT hc hF
    refine w_iload_n hB 3 dX11_trueCall_17 rfl rfl ?_
    obtain ⟨e1, e2⟩ := retS hF
    subst e2
    exact w_iret hB dX11_trueCall_18 e1
  · replace hF := ifF hc hF
    refine w_iload_n hB 0 dX11_trueCall_13 rfl rfl ?_
    refine w_goto hB 18 dX11_trueCall_14 (by decide) ?_
    obtain ⟨e1, e2⟩ := retS hF
    subst e2
    exact w_iret hB dX11_trueCall_18 e1
theorem c_X11_trueCall {K : Kt} {l : Launch} (hp : St K) {r : Int32} {M1 : Mem} {x1 : Int32} {x2 : Int32} {M : Mem} (hF : f_X11_trueCall x1 x2 M = some (r, M1)) : MT K l yX11_trueCall cX11_trueCall 4 (some .int) { frames := 5, cells := 0, slots := 0, locals := 119 } [vr 311, vi x1, vi x2] M (some (vi r)) M1 0 0 :=
  MT_of (by decide) rfl (Nat.le_of_ble_eq_true rfl) (fun X _ hB _ => b_X11_trueCall hp hB hF)
def f_X11_truth_b19_s (rec19 : Int32 → Int32 → Int32 → Mem → Option (Int32 × Mem)) (x1 : Int32) (x2 : Int32) (x3 : Int32) (M : Mem) : Option (Int32 × Mem) :=
  if (M.1 313 4) ≤ x3 then
    some (x2, M)
  else
    gd (inb x3 16) <|
    if (M.1 332 x3.toNatClampNeg) = x1 then
      cl (f_X11_trueCall x3 (M.1 334 x3.toNatClampNeg) M) fun r1 M1m =>
      bnd (x2 + ((M.1 333 x3.toNatClampNeg) * r1)) fun a1 =>
      bnd (x3 + 1) fun a2 =>
      rec19 x1 a1 a2 M1m
    else
      bnd (x2 + 0) fun a3 =>
      bnd (x3 + 1) fun a4 =>
      rec19 x1 a3 a4 M
set_option maxRecDepth 100000 in
set_option maxHeartbeats 4000000 in
theorem b_X11_truth_b19_s {K : Kt} {X : Xt} (hp : St K) (hB : Bx K X { frames := 6, cells := 0, slots := 0, locals := 142 } cX11_truth 4 RX11 (some .int)) {r : Int32} {M1 : Mem} {rec19 : Int32 → Int32 → Int32 → Mem → Option (Int32 × Mem)}
    (h19 : ∀ x1 x2 x3 M, rec19 x1 x2 x3 M = some (r, M1) → Wt K X (QM K X (some (vi r)) M1 0 0) 0 0 M 19 [(0, vr 311), (1, vi x1), (2, vi x2), (3, vi x3)] []) {x1 : Int32} {x2 : Int32} {x3 : Int32} {M : Mem} (hF : f_X11_truth_b19_s rec19 x1 x2 x3 M = some (r, M1)) : Wt K X (QM K X (some (vi r)) M1 0 0) 0 0 M 19 [(0, vr 311), (1, vi x1), (2, vi x2), (3, vi x3)] [] := by
  unfold f_X11_truth_b19_s at hF
  refine w_iload_n hB 3 dX11_truth_19 rfl rfl ?_
  refine w_aload_n hB 0 dX11_truth_20 rfl rfl ?_
  refine w_getC hB (v := 313) ff_X11_11 sh_311 hp.1 cr_311_11 (by decide) q_1171 dX11_truth_21 ?_
  refine w_iconst hB 4 (by decide) dX11_truth_24 ?_
  refine w_iald hB sh_313 (Or.inl hp.1) sl_313 (by decide) dX11_truth_25 ?_
  rw [show (4 : Int32).toNatClampNeg = 4 by decide]
  refine w_icmp_ge hB 70 dX11_truth_26 (by decide) (fun hc => ?_) (fun hc => ?_)
  · replace hF := ifT hc hF
    refine w_iload_n hB 2 dX11_truth_70 rfl rfl ?_
    obtain ⟨e1, e2⟩ := retS hF
    subst e2
    exact w_iret hB dX11_truth_71 e1
  · replace hF := ifF hc hF
    refine w_iload_n hB 2 dX11_truth_29 rfl rfl ?_
    refine w_aload_n hB 0 dX11_truth_30 rfl rfl ?_
    refine w_getC hB (v := 332) ff_X11_30 sh_311 hp.1 cr_311_30 (by decide) q_1190 dX11_truth_31 ?_
    refine w_iload_n hB 3 dX11_truth_34 rfl rfl ?_
    obtain ⟨g1, hF⟩ := gdS hF
    refine w_iald hB sh_332 (Or.inl hp.1) sl_332 g1 dX11_truth_35 ?_
    refine w_iload_n hB 1 dX11_truth_36 rfl rfl ?_
    refine w_icmp_ne hB 61 dX11_truth_37 (by decide) (fun hc => ?_) (fun hc => ?_)
    · replace hF := ifF hc hF
      refine w_iconst hB 0 (by decide) dX11_truth_61 ?_
      refine w_iadd hB dX11_truth_62 ?_
      obtain ⟨a3, e_a3, hF⟩ := bndS hF
      refine w_istore_n hB (L' := [(2, vi a3), (0, vr 311), (1, vi x1), (3, vi x3)]) dX11_truth_63 rfl (by decide) e_a3 rfl ?_
      obtain ⟨a4, e_a4, hF⟩ := bndS hF
      refine w_iinc hB 3 (v := 1) (L' := [(3, vi a4), (2, vi a3), (0, vr 311), (1, vi x1)]) dX11_truth_64 rfl (by decide) (by decide) e_a4 rfl ?_
      refine w_goto hB 19 dX11_truth_67 (by decide) ?_
      exact Wt.sub (L' := [(0, vr 311), (1, vi x1), (2, vi a3), (3, vi a4)]) [2, 3, 1, 0] rfl (h19 _ _ _ M hF)
    · replace hF := ifT hc hF
      refine w_aload_n hB 0 dX11_truth_40 rfl rfl ?_
      refine w_getC hB (v := 333) ff_X11_31 sh_311 hp.1 cr_311_31 (by decide) q_1191 dX11_truth_41 ?_
      refine w_iload_n hB 3 dX11_truth_44 rfl rfl ?_
      refine w_iald hB sh_333 (Or.inl hp.1) sl_333 g1 dX11_truth_45 ?_
      refine w_aload_n hB 0 dX11_truth_46 rfl rfl ?_
      refine w_iload_n hB 3 dX11_truth_47 rfl rfl ?_
      refine w_aload_n hB 0 dX11_truth_48 rfl rfl ?_
      refine w_getC hB (v := 334) ff_X11_32 sh_311 hp.1 cr_311_32 (by decide) q_1192 dX11_truth_49 ?_
      refine w_iload_n hB 3 dX11_truth_52 rfl rfl ?_
      refine w_iald hB sh_334 (Or.inl hp.1) sl_334 g1 dX11_truth_53 ?_
      obtain ⟨r1, M1m, hc_M1m, hF⟩ := clS hF
      refine w_callV hB (ci := 9) (As := [vi x3, vi (M.1 334 x3.toNatClampNeg)]) (st := [vi (M.1 333 x3.toNatClampNeg), vi x2]) cw_X11_403 q_1697 q_72 rfl sh_311 (Or.inl hp.1) (c_X11_trueCall hp hc_M1m) ⟨rfl, rfl⟩ (by decide) (by decide) rfl (Nat.le_of_ble_eq_true rfl) dX11_truth_54 rfl ?_
      refine w_imul hB dX11_truth_57 ?_
      refine w_goto hB 62 dX11_truth_58 (by decide) ?_
      refine w_iadd hB dX11_truth_62 ?_
      obtain ⟨a1, e_a1, hF⟩ := bndS hF
      refine w_istore_n hB (L' := [(2, vi a1), (0, vr 311), (1, vi x1), (3, vi x3)]) dX11_truth_63 rfl (by decide) e_a1 rfl ?_
      obtain ⟨a2, e_a2, hF⟩ := bndS hF
      refine w_iinc hB 3 (v := 1) (L' := [(3, vi a2), (2, vi a1), (0, vr 311), (1, vi x1)]) dX11_truth_64 rfl (by decide) (by decide) e_a2 rfl ?_
      refine w_goto hB 19 dX11_truth_67 (by decide) ?_
      exact Wt.sub (L' := [(0, vr 311), (1, vi x1), (2, vi a1), (3, vi a2)]) [2, 3, 1, 0] rfl (h19 _ _ _ M1m hF)
def f_X11_truth_b19 (k : Nat) : Int32 → Int32 → Int32 → Mem → Option (Int32 × Mem) := lpN (fun _ _ _ _ => none) (f_X11_truth_b19_s) k
theorem b_X11_truth_b19 {K : Kt} {X : Xt} (hp : St K) (hB : Bx K X { frames := 6, cells := 0, slots := 0, locals := 142 } cX11_truth 4 RX11 (some .int)) {r : Int32} {M1 : Mem} (k : Nat) : ∀ (x1 : Int32) (x2 : Int32) (x3 : Int32) M, f_X11_truth_b19 k x1 x2 x3 M = some (r, M1) → Wt K X (QM K X (some (vi r)) M1 0 0) 0 0 M 19 [(0, vr 311), (1, vi x1), (2, vi x2), (3, vi x3)] [] := by
  refine lpN_ind (P := fun (f : Int32 → Int32 → Int32 → Mem → Option (Int32 × Mem)) => ∀ (x1 : Int32) (x2 : Int32) (x3 : Int32) M, f x1 x2 x3 M = some (r, M1) → Wt K X (QM K X (some (vi r)) M1 0 0) 0 0 M 19 [(0, vr 311), (1, vi x1), (2, vi x2), (3, vi x3)] []) (fun _ _ _ _ h => by cases h) (fun f hf x1 x2 x3 M hF => ?_) k
  exact b_X11_truth_b19_s hp hB hf hF
def f_X11_truth (x1 : Int32) (M : Mem) : Option (Int32 × Mem) :=
  bnd (setI M 311 0 0) fun M1m =>
  cl (f_X11_isSide x1 M1m) fun r1 M2m =>
  if r1 = 0 then
    some ((-1), M2m)
  else
    f_X11_truth_b19 fuel x1 0 0 M2m
set_option maxRecDepth 100000 in
set_option maxHeartbeats 4000000 in
theorem b_X11_truth {K : Kt} {X : Xt} (hp : St K) (hB : Bx K X { frames := 6, cells := 0, slots := 0, locals := 142 } cX11_truth 4 RX11 (some .int)) {r : Int32} {M1 : Mem} {x1 : Int32} {M : Mem} (hF : f_X11_truth x1 M = some (r, M1)) : Wt K X (QM K X (some (vi r)) M1 0 0) 0 0 M 0 [(0, vr 311), (1, vi x1)] [] := by
  unfold f_X11_truth at hF
  refine w_aload_n hB 0 dX11_truth_0 rfl rfl ?_
  refine w_iconst hB 0 (by decide) dX11_truth_1 ?_
  obtain ⟨M1m, e_M1m, hF⟩ := bndS hF
  refine w_putI hB ff_X11_0 sh_311 (Or.inl hp.1) q_1160 e_M1m dX11_truth_2 ?_
  refine w_aload_n hB 0 dX11_truth_5 rfl rfl ?_
  refine w_iload_n hB 1 dX11_truth_6 rfl rfl ?_
  obtain ⟨r1, M2m, hc_M2m, hF⟩ := clS hF
  refine w_callV hB (ci := 9) (As := [vi x1]) (st := []) cw_X11_336 q_1540 q_53 rfl sh_311 (Or.inl hp.1) (c_X11_isSide hp hc_M2m) ⟨rfl, rfl⟩ (by decide) (by decide) rfl (Nat.le_of_ble_eq_true rfl) dX11_truth_7 rfl ?_
  refine w_if_ne hB 15 dX11_truth_10 (by decide) (fun hc => ?_) (fun hc => ?_)
  · replace hF := ifF hc hF
    refine w_iconst hB 0 (by decide) dX11_truth_15 ?_
    refine w_istore_n hB (L' := [(2, vi 0), (0, vr 311), (1, vi x1)]) dX11_truth_16 rfl (by decide) rfl rfl ?_
    refine w_iconst hB 0 (by decide) dX11_truth_17 ?_
    refine w_istore_n hB (L' := [(3, vi 0), (2, vi 0), (0, vr 311), (1, vi x1)]) dX11_truth_18 rfl (by decide) rfl rfl ?_
    exact Wt.sub (L' := [(0, vr 311), (1, vi x1), (2, vi 0), (3, vi 0)]) [2, 3, 1, 0] rfl (b_X11_truth_b19 hp hB fuel _ _ _ M2m hF)
  · replace hF := ifT hc hF
    refine w_iconst hB (-1) (by decide) dX11_truth_13 ?_
    obtain ⟨e1, e2⟩ := retS hF
    subst e2
    exact w_iret hB dX11_truth_14 e1
theorem c_X11_truth {K : Kt} {l : Launch} (hp : St K) {r : Int32} {M1 : Mem} {x1 : Int32} {M : Mem} (hF : f_X11_truth x1 M = some (r, M1)) : MT K l yX11_truth cX11_truth 4 (some .int) { frames := 6, cells := 0, slots := 0, locals := 142 } [vr 311, vi x1] M (some (vi r)) M1 0 0 :=
  MT_of (by decide) rfl (Nat.le_of_ble_eq_true rfl) (fun X _ hB _ => b_X11_truth hp hB hF)
def f_X11_range_b62 (rec20 : Int32 → Int32 → Int32 → Int32 → Mem → Option (Int32 × Mem)) (x1 : Int32) (x2 : Int32) (x4 : Int32) (xs0 : Int32) (xs1 : Int32) (xs3 : Int32) (xs4 : Int32) (M : Mem) : Option (Int32 × Mem) :=
  cl (f_X11_trueCall xs3 xs4 M) fun r1 M1m =>
  bnd (xs0 + (xs1 * r1)) fun a1 =>
  bnd (x4 + 1) fun a2 =>
  rec20 x1 x2 a1 a2 M1m
set_option maxRecDepth 100000 in
set_option maxHeartbeats 4000000 in
theorem b_X11_range_b62 {K : Kt} {X : Xt} (hp : St K) (hB : Bx K X { frames := 6, cells := 0, slots := 0, locals := 142 } cX11_range 5 RX11 (some .int)) {r : Int32} {M1 : Mem} {rec20 : Int32 → Int32 → Int32 → Int32 → Mem → Option (Int32 × Mem)}
    (h20 : ∀ x1 x2 x3 x4 M, rec20 x1 x2 x3 x4 M = some (r, M1) → Wt K X (QM K X (some (vi r)) M1 0 0) 0 0 M 20 [(0, vr 311), (1, vi x1), (2, vi x2), (3, vi x3), (4, vi x4)] []) {x1 : Int32} {x2 : Int32} {x4 : Int32} {xs0 : Int32} {xs1 : Int32} {xs3 : Int32} {xs4 : Int32} {M : Mem} (hF : f_X11_range_b62 rec20 x1 x2 x4 xs0 xs1 xs3 xs4 M = some (r, M1)) : Wt K X (QM K X (some (vi r)) M1 0 0) 0 0 M 62 [(0, vr 311), (1, vi x1), (2, vi x2), (4, vi x4)] [vi xs4, vi xs3, vr 311, vi xs1, vi xs0] := by
  unfold f_X11_range_b62 at hF
  obtain ⟨r1, M1m, hc_M1m, hF⟩ := clS hF
  refine w_callV hB (ci := 9) (As := [vi xs3, vi xs4]) (st := [vi xs1, vi xs0]) cw_X11_403 q_1697 q_72 rfl sh_311 (Or.inl hp.1) (c_X11_trueCall hp hc_M1m) ⟨rfl, rfl⟩ (by decide) (by decide) rfl (Nat.le_of_ble_eq_true rfl) dX11_range_62 rfl ?_
  refine w_imul hB dX11_range_65 ?_
  refine w_goto hB 70 dX11_range_66 (by decide) ?_
  refine w_iadd hB dX11_range_70 ?_
  obtain ⟨a1, e_a1, hF⟩ := bndS hF
  refine w_istore_n hB (L' := [(3, vi a1), (0, vr 311), (1, vi x1), (2, vi x2), (4, vi x4)]) dX11_range_71 rfl (by decide) e_a1 rfl ?_
  obtain ⟨a2, e_a2, hF⟩ := bndS hF
  refine w_iinc hB 4 (v := 1) (L' := [(4, vi a2), (3, vi a1), (0, vr 311), (1, vi x1), (2, vi x2)]) dX11_range_72 rfl (by decide) (by decide) e_a2 rfl ?_
  refine w_goto hB 20 dX11_range_75 (by decide) ?_
  exact Wt.sub (L' := [(0, vr 311), (1, vi x1), (2, vi x2), (3, vi a1), (4, vi a2)]) [2, 3, 4, 1, 0] rfl (h20 _ _ _ _ M1m hF)
def f_X11_range_b20_s (rec20 : Int32 → Int32 → Int32 → Int32 → Mem → Option (Int32 × Mem)) (x1 : Int32) (x2 : Int32) (x3 : Int32) (x4 : Int32) (M : Mem) : Option (Int32 × Mem) :=
  if (M.1 313 4) ≤ x4 then
    some (x3, M)
  else
    gd (inb x4 16) <|
    if (M.1 332 x4.toNatClampNeg) = x1 then
      if x2 = 0 then
        f_X11_range_b62 rec20 x1 x2 x4 x3 (M.1 333 x4.toNatClampNeg) x4 0 M
      else
        f_X11_range_b62 rec20 x1 x2 x4 x3 (M.1 333 x4.toNatClampNeg) x4 1 M
    else
      bnd (x3 + 0) fun a1 =>
      bnd (x4 + 1) fun a2 =>
      rec20 x1 x2 a1 a2 M
set_option maxRecDepth 100000 in
set_option maxHeartbeats 4000000 in
theorem b_X11_range_b20_s {K : Kt} {X : Xt} (hp : St K) (hB : Bx K X { frames := 6, cells := 0, slots := 0, locals := 142 } cX11_range 5 RX11 (some .int)) {r : Int32} {M1 : Mem} {rec20 : Int32 → Int32 → Int32 → Int32 → Mem → Option (Int32 × Mem)}
    (h20 : ∀ x1 x2 x3 x4 M, rec20 x1 x2 x3 x4 M = some (r, M1) → Wt K X (QM K X (some (vi r)) M1 0 0) 0 0 M 20 [(0, vr 311), (1, vi x1), (2, vi x2), (3, vi x3), (4, vi x4)] []) {x1 : Int32} {x2 : Int32} {x3 : Int32} {x4 : Int32} {M : Mem} (hF : f_X11_range_b20_s rec20 x1 x2 x3 x4 M = some (r, M1)) : Wt K X (QM K X (some (vi r)) M1 0 0) 0 0 M 20 [(0, vr 311), (1, vi x1), (2, vi x2), (3, vi x3), (4, vi x4)] [] := by
  unfold f_X11_range_b20_s at hF
  refine w_iload hB 4 dX11_range_20 rfl ?_
  refine w_aload_n hB 0 dX11_range_22 rfl rfl ?_
  refine w_getC hB (v := 313) ff_X11_11 sh_311 hp.1 cr_311_11 (by decide) q_1171 dX11_range_23 ?_
  refine w_iconst hB 4 (by decide) dX11_range_26 ?_
  refine w_iald hB sh_313 (Or.inl hp.1) sl_313 (by decide) dX11_range_27 ?_
  rw [show (4 : Int32).toNatClampNeg = 4 by decide]
  refine w_icmp_ge hB 78 dX11_range_28 (by decide) (fun hc => ?_) (fun hc => ?_)
  · replace hF := ifT hc hF
    refine w_iload_n hB 3 dX11_range_78 rfl rfl ?_
    obtain ⟨e1, e2⟩ := retS hF
    subst e2
    exact w_iret hB dX11_range_79 e1
  · replace hF := ifF hc hF
    refine w_iload_n hB 3 dX11_range_31 rfl rfl ?_
    refine w_aload_n hB 0 dX11_range_32 rfl rfl ?_
    refine w_getC hB (v := 332) ff_X11_30 sh_311 hp.1 cr_311_30 (by decide) q_1190 dX11_range_33 ?_
    refine w_iload hB 4 dX11_range_36 rfl ?_
    obtain ⟨g1, hF⟩ := gdS hF
    refine w_iald hB sh_332 (Or.inl hp.1) sl_332 g1 dX11_range_38 ?_
    refine w_iload_n hB 1 dX11_range_39 rfl rfl ?_
    refine w_icmp_ne hB 69 dX11_range_40 (by decide) (fun hc => ?_) (fun hc => ?_)
    · replace hF := ifF hc hF
      refine w_iconst hB 0 (by decide) dX11_range_69 ?_
      refine w_iadd hB dX11_range_70 ?_
      obtain ⟨a1, e_a1, hF⟩ := bndS hF
      refine w_istore_n hB (L' := [(3, vi a1), (0, vr 311), (1, vi x1), (2, vi x2), (4, vi x4)]) dX11_range_71 rfl (by decide) e_a1 rfl ?_
      obtain ⟨a2, e_a2, hF⟩ := bndS hF
      refine w_iinc hB 4 (v := 1) (L' := [(4, vi a2), (3, vi a1), (0, vr 311), (1, vi x1), (2, vi x2)]) dX11_range_72 rfl (by decide) (by decide) e_a2 rfl ?_
      refine w_goto hB 20 dX11_range_75 (by decide) ?_
      exact Wt.sub (L' := [(0, vr 311), (1, vi x1), (2, vi x2), (3, vi a1), (4, vi a2)]) [2, 3, 4, 1, 0] rfl (h20 _ _ _ _ M hF)
    · replace hF := ifT hc hF
      refine w_aload_n hB 0 dX11_range_43 rfl rfl ?_
      refine w_getC hB (v := 333) ff_X11_31 sh_311 hp.1 cr_311_31 (by decide) q_1191 dX11_range_44 ?_
      refine w_iload hB 4 dX11_range_47 rfl ?_
      refine w_iald hB sh_333 (Or.inl hp.1) sl_333 g1 dX11_range_49 ?_
      refine w_aload_n hB 0 dX11_range_50 rfl rfl ?_
      refine w_iload hB 4 dX11_range_51 rfl ?_
      refine w_iload_n hB 2 dX11_range_53 rfl rfl ?_
      refine w_if_eq hB 61 dX11_range_54 (by decide) (fun hc => ?_) (fun hc => ?_)
      · replace hF := ifT hc hF
        refine w_iconst hB 0 (by decide) dX11_range_61 ?_
        exact Wt.sub (L' := [(0, vr 311), (1, vi x1), (2, vi x2), (4, vi x4)]) [0, 1, 2, 4] rfl (b_X11_range_b62 hp hB h20 hF)
      · replace hF := ifF hc hF
        refine w_iconst hB 1 (by decide) dX11_range_57 ?_
        refine w_goto hB 62 dX11_range_58 (by decide) ?_
        exact Wt.sub (L' := [(0, vr 311), (1, vi x1), (2, vi x2), (4, vi x4)]) [0, 1, 2, 4] rfl (b_X11_range_b62 hp hB h20 hF)
def f_X11_range_b20 (k : Nat) : Int32 → Int32 → Int32 → Int32 → Mem → Option (Int32 × Mem) := lpN (fun _ _ _ _ _ => none) (f_X11_range_b20_s) k
theorem b_X11_range_b20 {K : Kt} {X : Xt} (hp : St K) (hB : Bx K X { frames := 6, cells := 0, slots := 0, locals := 142 } cX11_range 5 RX11 (some .int)) {r : Int32} {M1 : Mem} (k : Nat) : ∀ (x1 : Int32) (x2 : Int32) (x3 : Int32) (x4 : Int32) M, f_X11_range_b20 k x1 x2 x3 x4 M = some (r, M1) → Wt K X (QM K X (some (vi r)) M1 0 0) 0 0 M 20 [(0, vr 311), (1, vi x1), (2, vi x2), (3, vi x3), (4, vi x4)] [] := by
  refine lpN_ind (P := fun (f : Int32 → Int32 → Int32 → Int32 → Mem → Option (Int32 × Mem)) => ∀ (x1 : Int32) (x2 : Int32) (x3 : Int32) (x4 : Int32) M, f x1 x2 x3 x4 M = some (r, M1) → Wt K X (QM K X (some (vi r)) M1 0 0) 0 0 M 20 [(0, vr 311), (1, vi x1), (2, vi x2), (3, vi x3), (4, vi x4)] []) (fun _ _ _ _ _ h => by cases h) (fun f hf x1 x2 x3 x4 M hF => ?_) k
  exact b_X11_range_b20_s hp hB hf hF
def f_X11_range (x1 : Int32) (x2 : Int32) (M : Mem) : Option (Int32 × Mem) :=
  bnd (setI M 311 0 0) fun M1m =>
  cl (f_X11_isSide x1 M1m) fun r1 M2m =>
  if r1 = 0 then
    some ((-1), M2m)
  else
    f_X11_range_b20 fuel x1 x2 0 0 M2m
set_option maxRecDepth 100000 in
set_option maxHeartbeats 4000000 in
theorem b_X11_range {K : Kt} {X : Xt} (hp : St K) (hB : Bx K X { frames := 6, cells := 0, slots := 0, locals := 142 } cX11_range 5 RX11 (some .int)) {r : Int32} {M1 : Mem} {x1 : Int32} {x2 : Int32} {M : Mem} (hF : f_X11_range x1 x2 M = some (r, M1)) : Wt K X (QM K X (some (vi r)) M1 0 0) 0 0 M 0 [(0, vr 311), (1, vi x1), (2, vi x2)] [] := by
  unfold f_X11_range at hF
  refine w_aload_n hB 0 dX11_range_0 rfl rfl ?_
  refine w_iconst hB 0 (by decide) dX11_range_1 ?_
  obtain ⟨M1m, e_M1m, hF⟩ := bndS hF
  refine w_putI hB ff_X11_0 sh_311 (Or.inl hp.1) q_1160 e_M1m dX11_range_2 ?_
  refine w_aload_n hB 0 dX11_range_5 rfl rfl ?_
  refine w_iload_n hB 1 dX11_range_6 rfl rfl ?_
  obtain ⟨r1, M2m, hc_M2m, hF⟩ := clS hF
  refine w_callV hB (ci := 9) (As := [vi x1]) (st := []) cw_X11_336 q_1540 q_53 rfl sh_311 (Or.inl hp.1) (c_X11_isSide hp hc_M2m) ⟨rfl, rfl⟩ (by decide) (by decide) rfl (Nat.le_of_ble_eq_true rfl) dX11_range_7 rfl ?_
  refine w_if_ne hB 15 dX11_range_10 (by decide) (fun hc => ?_) (fun hc => ?_)
  · replace hF := ifF hc hF
    refine w_iconst hB 0 (by decide) dX11_range_15 ?_
    refine w_istore_n hB (L' := [(3, vi 0), (0, vr 311), (1, vi x1), (2, vi x2)]) dX11_range_16 rfl (by decide) rfl rfl ?_
    refine w_iconst hB 0 (by decide) dX11_range_17 ?_
    refine w_istore hB (L' := [(4, vi 0), (3, vi 0), (0, vr 311), (1, vi x1), (2, vi x2)]) dX11_range_18 (by decide) rfl rfl ?_
    exact Wt.sub (L' := [(0, vr 311), (1, vi x1), (2, vi x2), (3, vi 0), (4, vi 0)]) [2, 3, 4, 1, 0] rfl (b_X11_range_b20 hp hB fuel _ _ _ _ M2m hF)
  · replace hF := ifT hc hF
    refine w_iconst hB (-1) (by decide) dX11_range_13 ?_
    obtain ⟨e1, e2⟩ := retS hF
    subst e2
    exact w_iret hB dX11_range_14 e1
theorem c_X11_range {K : Kt} {l : Launch} (hp : St K) {r : Int32} {M1 : Mem} {x1 : Int32} {x2 : Int32} {M : Mem} (hF : f_X11_range x1 x2 M = some (r, M1)) : MT K l yX11_range cX11_range 5 (some .int) { frames := 6, cells := 0, slots := 0, locals := 142 } [vr 311, vi x1, vi x2] M (some (vi r)) M1 0 0 :=
  MT_of (by decide) rfl (Nat.le_of_ble_eq_true rfl) (fun X _ hB _ => b_X11_range hp hB hF)
def f_X11_wrong_b9_s (rec9 : Int32 → Int32 → Mem → Option (Int32 × Mem)) (x1 : Int32) (x2 : Int32) (M : Mem) : Option (Int32 × Mem) :=
  if (M.1 313 4) ≤ x2 then
    some (x1, M)
  else
    gd (inb x2 16) <|
    cl (f_X11_trueCall x2 (M.1 334 x2.toNatClampNeg) M) fun r1 M1m =>
    if r1 = (M1m.1 334 x2.toNatClampNeg) then
      bnd (x1 ||| 0) fun a1 =>
      bnd (x2 + 1) fun a2 =>
      rec9 a1 a2 M1m
    else
      bnd (x1 ||| ((1 : Int32) <<< (x2 &&& 31))) fun a3 =>
      bnd (x2 + 1) fun a4 =>
      rec9 a3 a4 M1m
set_option maxRecDepth 100000 in
set_option maxHeartbeats 4000000 in
theorem b_X11_wrong_b9_s {K : Kt} {X : Xt} (hp : St K) (hB : Bx K X { frames := 6, cells := 0, slots := 0, locals := 142 } cX11_wrong 3 RX11 (some .int)) {r : Int32} {M1 : Mem} {rec9 : Int32 → Int32 → Mem → Option (Int32 × Mem)}
    (h9 : ∀ x1 x2 M, rec9 x1 x2 M = some (r, M1) → Wt K X (QM K X (some (vi r)) M1 0 0) 0 0 M 9 [(0, vr 311), (1, vi x1), (2, vi x2)] []) {x1 : Int32} {x2 : Int32} {M : Mem} (hF : f_X11_wrong_b9_s rec9 x1 x2 M = some (r, M1)) : Wt K X (QM K X (some (vi r)) M1 0 0) 0 0 M 9 [(0, vr 311), (1, vi x1), (2, vi x2)] [] := by
  unfold f_X11_wrong_b9_s at hF
  refine w_iload_n hB 2 dX11_wrong_9 rfl rfl ?_
  refine w_aload_n hB 0 dX11_wrong_10 rfl rfl ?_
  refine w_getC hB (v := 313) ff_X11_11 sh_311 hp.1 cr_311_11 (by decide) q_1171 dX11_wrong_11 ?_
  refine w_iconst hB 4 (by decide) dX11_wrong_14 ?_
  refine w_iald hB sh_313 (Or.inl hp.1) sl_313 (by decide) dX11_wrong_15 ?_
  rw [show (4 : Int32).toNatClampNeg = 4 by decide]
  refine w_icmp_ge hB 55 dX11_wrong_16 (by decide) (fun hc => ?_) (fun hc => ?_)
  · replace hF := ifT hc hF
    refine w_iload_n hB 1 dX11_wrong_55 rfl rfl ?_
    obtain ⟨e1, e2⟩ := retS hF
    subst e2
    exact w_iret hB dX11_wrong_56 e1
  · replace hF := ifF hc hF
    refine w_iload_n hB 1 dX11_wrong_19 rfl rfl ?_
    refine w_aload_n hB 0 dX11_wrong_20 rfl rfl ?_
    refine w_iload_n hB 2 dX11_wrong_21 rfl rfl ?_
    refine w_aload_n hB 0 dX11_wrong_22 rfl rfl ?_
    refine w_getC hB (v := 334) ff_X11_32 sh_311 hp.1 cr_311_32 (by decide) q_1192 dX11_wrong_23 ?_
    refine w_iload_n hB 2 dX11_wrong_26 rfl rfl ?_
    obtain ⟨g1, hF⟩ := gdS hF
    refine w_iald hB sh_334 (Or.inl hp.1) sl_334 g1 dX11_wrong_27 ?_
    obtain ⟨r1, M1m, hc_M1m, hF⟩ := clS hF
    refine w_callV hB (ci := 9) (As := [vi x2, vi (M.1 334 x2.toNatClampNeg)]) (st := [vi x1]) cw_X11_403 q_1697 q_72 rfl sh_311 (Or.inl hp.1) (c_X11_trueCall hp hc_M1m) ⟨rfl, rfl⟩ (by decide) (by decide) rfl (Nat.le_of_ble_eq_true rfl) dX11_wrong_28 rfl ?_
    refine w_aload_n hB 0 dX11_wrong_31 rfl rfl ?_
    refine w_getC hB (v := 334) ff_X11_32 sh_311 hp.1 cr_311_32 (by decide) q_1192 dX11_wrong_32 ?_
    refine w_iload_n hB 2 dX11_wrong_35 rfl rfl ?_
    refine w_iald hB sh_334 (Or.inl hp.1) sl_334 g1 dX11_wrong_36 ?_
    refine w_icmp_eq hB 46 dX11_wrong_37 (by decide) (fun hc => ?_) (fun hc => ?_)
    · replace hF := ifT hc hF
      refine w_iconst hB 0 (by decide) dX11_wrong_46 ?_
      refine w_ior hB dX11_wrong_47 ?_
      obtain ⟨a1, e_a1, hF⟩ := bndS hF
      refine w_istore_n hB (L' := [(1, vi a1), (0, vr 311), (2, vi x2)]) dX11_wrong_48 rfl (by decide) e_a1 rfl ?_
      obtain ⟨a2, e_a2, hF⟩ := bndS hF
      refine w_iinc hB 2 (v := 1) (L' := [(2, vi a2), (1, vi a1), (0, vr 311)]) dX11_wrong_49 rfl (by decide) (by decide) e_a2 rfl ?_
      refine w_goto hB 9 dX11_wrong_52 (by decide) ?_
      exact Wt.sub (L' := [(0, vr 311), (1, vi a1), (2, vi a2)]) [2, 1, 0] rfl (h9 _ _ M1m hF)
    · replace hF := ifF hc hF
      refine w_iconst hB 1 (by decide) dX11_wrong_40 ?_
      refine w_iload_n hB 2 dX11_wrong_41 rfl rfl ?_
      refine w_ishl hB dX11_wrong_42 ?_
      refine w_goto hB 47 dX11_wrong_43 (by decide) ?_
      refine w_ior hB dX11_wrong_47 ?_
      obtain ⟨a3, e_a3, hF⟩ := bndS hF
      refine w_istore_n hB (L' := [(1, vi a3), (0, vr 311), (2, vi x2)]) dX11_wrong_48 rfl (by decide) e_a3 rfl ?_
      obtain ⟨a4, e_a4, hF⟩ := bndS hF
      refine w_iinc hB 2 (v := 1) (L' := [(2, vi a4), (1, vi a3), (0, vr 311)]) dX11_wrong_49 rfl (by decide) (by decide) e_a4 rfl ?_
      refine w_goto hB 9 dX11_wrong_52 (by decide) ?_
      exact Wt.sub (L' := [(0, vr 311), (1, vi a3), (2, vi a4)]) [2, 1, 0] rfl (h9 _ _ M1m hF)
def f_X11_wrong_b9 (k : Nat) : Int32 → Int32 → Mem → Option (Int32 × Mem) := lpN (fun _ _ _ => none) (f_X11_wrong_b9_s) k
theorem b_X11_wrong_b9 {K : Kt} {X : Xt} (hp : St K) (hB : Bx K X { frames := 6, cells := 0, slots := 0, locals := 142 } cX11_wrong 3 RX11 (some .int)) {r : Int32} {M1 : Mem} (k : Nat) : ∀ (x1 : Int32) (x2 : Int32) M, f_X11_wrong_b9 k x1 x2 M = some (r, M1) → Wt K X (QM K X (some (vi r)) M1 0 0) 0 0 M 9 [(0, vr 311), (1, vi x1), (2, vi x2)] [] := by
  refine lpN_ind (P := fun (f : Int32 → Int32 → Mem → Option (Int32 × Mem)) => ∀ (x1 : Int32) (x2 : Int32) M, f x1 x2 M = some (r, M1) → Wt K X (QM K X (some (vi r)) M1 0 0) 0 0 M 9 [(0, vr 311), (1, vi x1), (2, vi x2)] []) (fun _ _ _ h => by cases h) (fun f hf x1 x2 M hF => ?_) k
  exact b_X11_wrong_b9_s hp hB hf hF
def f_X11_wrong (M : Mem) : Option (Int32 × Mem) :=
  bnd (setI M 311 0 0) fun M1m =>
  f_X11_wrong_b9 fuel 0 0 M1m
set_option maxRecDepth 100000 in
set_option maxHeartbeats 4000000 in
theorem b_X11_wrong {K : Kt} {X : Xt} (hp : St K) (hB : Bx K X { frames := 6, cells := 0, slots := 0, locals := 142 } cX11_wrong 3 RX11 (some .int)) {r : Int32} {M1 : Mem} {M : Mem} (hF : f_X11_wrong M = some (r, M1)) : Wt K X (QM K X (some (vi r)) M1 0 0) 0 0 M 0 [(0, vr 311)] [] := by
  unfold f_X11_wrong at hF
  refine w_aload_n hB 0 dX11_wrong_0 rfl rfl ?_
  refine w_iconst hB 0 (by decide) dX11_wrong_1 ?_
  obtain ⟨M1m, e_M1m, hF⟩ := bndS hF
  refine w_putI hB ff_X11_0 sh_311 (Or.inl hp.1) q_1160 e_M1m dX11_wrong_2 ?_
  refine w_iconst hB 0 (by decide) dX11_wrong_5 ?_
  refine w_istore_n hB (L' := [(1, vi 0), (0, vr 311)]) dX11_wrong_6 rfl (by decide) rfl rfl ?_
  refine w_iconst hB 0 (by decide) dX11_wrong_7 ?_
  refine w_istore_n hB (L' := [(2, vi 0), (1, vi 0), (0, vr 311)]) dX11_wrong_8 rfl (by decide) rfl rfl ?_
  exact Wt.sub (L' := [(0, vr 311), (1, vi 0), (2, vi 0)]) [2, 1, 0] rfl (b_X11_wrong_b9 hp hB fuel _ _ M1m hF)
theorem c_X11_wrong {K : Kt} {l : Launch} (hp : St K) {r : Int32} {M1 : Mem} {M : Mem} (hF : f_X11_wrong M = some (r, M1)) : MT K l yX11_wrong cX11_wrong 3 (some .int) { frames := 6, cells := 0, slots := 0, locals := 142 } [vr 311] M (some (vi r)) M1 0 0 :=
  MT_of (by decide) rfl (Nat.le_of_ble_eq_true rfl) (fun X _ hB _ => b_X11_wrong hp hB hF)
def f_X11_left_b89 (rec19 : Int32 → Int32 → Int32 → Mem → Option (Int32 × Mem)) (x1 : Int32) (x3 : Int32) (xs0 : Int32) (xs1 : Int32) (xs2 : Int32) (M : Mem) : Option (Int32 × Mem) :=
  if xs1 = xs2 then
    gd (inb x3 16) <|
    bnd (xs0 + (M.1 333 x3.toNatClampNeg)) fun a1 =>
    bnd (x3 + 1) fun a2 =>
    rec19 x1 a1 a2 M
  else
    bnd (xs0 + 0) fun a3 =>
    bnd (x3 + 1) fun a4 =>
    rec19 x1 a3 a4 M
set_option maxRecDepth 100000 in
set_option maxHeartbeats 4000000 in
theorem b_X11_left_b89 {K : Kt} {X : Xt} (hp : St K) (hB : Bx K X { frames := 5, cells := 0, slots := 0, locals := 121 } cX11_left 5 RX11 (some .int)) {r : Int32} {M1 : Mem} {rec19 : Int32 → Int32 → Int32 → Mem → Option (Int32 × Mem)}
    (h19 : ∀ x1 x2 x3 M, rec19 x1 x2 x3 M = some (r, M1) → Wt K X (QM K X (some (vi r)) M1 0 0) 0 0 M 19 [(0, vr 311), (1, vi x1), (2, vi x2), (3, vi x3)] []) {x1 : Int32} {x3 : Int32} {xs0 : Int32} {xs1 : Int32} {xs2 : Int32} {M : Mem} (hF : f_X11_left_b89 rec19 x1 x3 xs0 xs1 xs2 M = some (r, M1)) : Wt K X (QM K X (some (vi r)) M1 0 0) 0 0 M 89 [(0, vr 311), (1, vi x1), (3, vi x3)] [vi xs2, vi xs1, vi xs0] := by
  unfold f_X11_left_b89 at hF
  refine w_icmp_ne hB 101 dX11_left_89 (by decide) (fun hc => ?_) (fun hc => ?_)
  · replace hF := ifF hc hF
    refine w_iconst hB 0 (by decide) dX11_left_101 ?_
    refine w_iadd hB dX11_left_102 ?_
    obtain ⟨a3, e_a3, hF⟩ := bndS hF
    refine w_istore_n hB (L' := [(2, vi a3), (0, vr 311), (1, vi x1), (3, vi x3)]) dX11_left_103 rfl (by decide) e_a3 rfl ?_
    obtain ⟨a4, e_a4, hF⟩ := bndS hF
    refine w_iinc hB 3 (v := 1) (L' := [(3, vi a4), (2, vi a3), (0, vr 311), (1, vi x1)]) dX11_left_104 rfl (by decide) (by decide) e_a4 rfl ?_
    refine w_goto hB 19 dX11_left_107 (by decide) ?_
    exact Wt.sub (L' := [(0, vr 311), (1, vi x1), (2, vi a3), (3, vi a4)]) [2, 3, 1, 0] rfl (h19 _ _ _ M hF)
  · replace hF := ifT hc hF
    refine w_aload_n hB 0 dX11_left_92 rfl rfl ?_
    refine w_getC hB (v := 333) ff_X11_31 sh_311 hp.1 cr_311_31 (by decide) q_1191 dX11_left_93 ?_
    refine w_iload_n hB 2 dX11_left_96 rfl rfl ?_
    obtain ⟨g1, hF⟩ := gdS hF
    refine w_iald hB sh_333 (Or.inl hp.1) sl_333 g1 dX11_left_97 ?_
    refine w_goto hB 102 dX11_left_98 (by decide) ?_
    refine w_iadd hB dX11_left_102 ?_
    obtain ⟨a1, e_a1, hF⟩ := bndS hF
    refine w_istore_n hB (L' := [(2, vi a1), (0, vr 311), (1, vi x1), (3, vi x3)]) dX11_left_103 rfl (by decide) e_a1 rfl ?_
    obtain ⟨a2, e_a2, hF⟩ := bndS hF
    refine w_iinc hB 3 (v := 1) (L' := [(3, vi a2), (2, vi a1), (0, vr 311), (1, vi x1)]) dX11_left_104 rfl (by decide) (by decide) e_a2 rfl ?_
    refine w_goto hB 19 dX11_left_107 (by decide) ?_
    exact Wt.sub (L' := [(0, vr 311), (1, vi x1), (2, vi a1), (3, vi a2)]) [2, 3, 1, 0] rfl (h19 _ _ _ M hF)
def f_X11_left_b70 (rec19 : Int32 → Int32 → Int32 → Mem → Option (Int32 × Mem)) (x1 : Int32) (x2 : Int32) (x3 : Int32) (xs0 : Int32) (M : Mem) : Option (Int32 × Mem) :=
  gd (inb x3 16) <|
  if (M.1 334 x3.toNatClampNeg) = 0 then
    f_X11_left_b89 rec19 x1 x3 x2 xs0 1 M
  else
    f_X11_left_b89 rec19 x1 x3 x2 xs0 0 M
set_option maxRecDepth 100000 in
set_option maxHeartbeats 4000000 in
theorem b_X11_left_b70 {K : Kt} {X : Xt} (hp : St K) (hB : Bx K X { frames := 5, cells := 0, slots := 0, locals := 121 } cX11_left 5 RX11 (some .int)) {r : Int32} {M1 : Mem} {rec19 : Int32 → Int32 → Int32 → Mem → Option (Int32 × Mem)}
    (h19 : ∀ x1 x2 x3 M, rec19 x1 x2 x3 M = some (r, M1) → Wt K X (QM K X (some (vi r)) M1 0 0) 0 0 M 19 [(0, vr 311), (1, vi x1), (2, vi x2), (3, vi x3)] []) {x1 : Int32} {x2 : Int32} {x3 : Int32} {xs0 : Int32} {M : Mem} (hF : f_X11_left_b70 rec19 x1 x2 x3 xs0 M = some (r, M1)) : Wt K X (QM K X (some (vi r)) M1 0 0) 0 0 M 70 [(0, vr 311), (1, vi x1), (2, vi x2), (3, vi x3)] [vi xs0] := by
  unfold f_X11_left_b70 at hF
  refine w_istore hB (L' := [(4, vi xs0), (0, vr 311), (1, vi x1), (2, vi x2), (3, vi x3)]) dX11_left_70 (by decide) rfl rfl ?_
  refine w_iload_n hB 3 dX11_left_72 rfl rfl ?_
  refine w_iload hB 0 dX11_left_73 rfl ?_
  refine w_aload_n hB 1 dX11_left_75 rfl rfl ?_
  refine w_getC hB (v := 334) ff_X11_32 sh_311 hp.1 cr_311_32 (by decide) q_1192 dX11_left_76 ?_
  refine w_iload_n hB 4 dX11_left_79 rfl rfl ?_
  obtain ⟨g1, hF⟩ := gdS hF
  refine w_iald hB sh_334 (Or.inl hp.1) sl_334 g1 dX11_left_80 ?_
  refine w_if_ne hB 88 dX11_left_81 (by decide) (fun hc => ?_) (fun hc => ?_)
  · replace hF := ifF hc hF
    refine w_iconst hB 0 (by decide) dX11_left_88 ?_
    exact Wt.sub (L' := [(0, vr 311), (1, vi x1), (3, vi x3)]) [1, 2, 4] rfl (b_X11_left_b89 hp hB h19 hF)
  · replace hF := ifT hc hF
    refine w_iconst hB 1 (by decide) dX11_left_84 ?_
    refine w_goto hB 89 dX11_left_85 (by decide) ?_
    exact Wt.sub (L' := [(0, vr 311), (1, vi x1), (3, vi x3)]) [1, 2, 4] rfl (b_X11_left_b89 hp hB h19 hF)
def f_X11_left_b69 (rec19 : Int32 → Int32 → Int32 → Mem → Option (Int32 × Mem)) (x1 : Int32) (x2 : Int32) (x3 : Int32) (M : Mem) : Option (Int32 × Mem) :=
  f_X11_left_b70 rec19 x1 x2 x3 0 M
set_option maxRecDepth 100000 in
set_option maxHeartbeats 4000000 in
theorem b_X11_left_b69 {K : Kt} {X : Xt} (hp : St K) (hB : Bx K X { frames := 5, cells := 0, slots := 0, locals := 121 } cX11_left 5 RX11 (some .int)) {r : Int32} {M1 : Mem} {rec19 : Int32 → Int32 → Int32 → Mem → Option (Int32 × Mem)}
    (h19 : ∀ x1 x2 x3 M, rec19 x1 x2 x3 M = some (r, M1) → Wt K X (QM K X (some (vi r)) M1 0 0) 0 0 M 19 [(0, vr 311), (1, vi x1), (2, vi x2), (3, vi x3)] []) {x1 : Int32} {x2 : Int32} {x3 : Int32} {M : Mem} (hF : f_X11_left_b69 rec19 x1 x2 x3 M = some (r, M1)) : Wt K X (QM K X (some (vi r)) M1 0 0) 0 0 M 69 [(0, vr 311), (1, vi x1), (2, vi x2), (3, vi x3)] [] := by
  unfold f_X11_left_b69 at hF
  refine w_iconst hB 0 (by decide) dX11_left_69 ?_
  exact Wt.sub (L' := [(0, vr 311), (1, vi x1), (2, vi x2), (3, vi x3)]) [0, 1, 2, 3] rfl (b_X11_left_b70 hp hB h19 hF)
def f_X11_left_b19_s (rec19 : Int32 → Int32 → Int32 → Mem → Option (Int32 × Mem)) (x1 : Int32) (x2 : Int32) (x3 : Int32) (M : Mem) : Option (Int32 × Mem) :=
  if (M.1 313 4) ≤ x3 then
    some (x2, M)
  else
    gd (inb x3 16) <|
    if (M.1 332 x3.toNatClampNeg) = x1 then
      cl (f_X11_isAtOnce x3 M) fun r1 M1m =>
      if r1 = 0 then
        f_X11_left_b69 rec19 x1 x2 x3 M1m
      else
        cl (f_X11_review x3 (M1m.1 334 x3.toNatClampNeg) M1m) fun r2 M2m =>
        if r2 = 2 then
          f_X11_left_b70 rec19 x1 x2 x3 1 M2m
        else
          f_X11_left_b69 rec19 x1 x2 x3 M2m
    else
      bnd (x3 + 1) fun a1 =>
      rec19 x1 x2 a1 M
set_option maxRecDepth 100000 in
set_option maxHeartbeats 4000000 in
theorem b_X11_left_b19_s {K : Kt} {X : Xt} (hp : St K) (hB : Bx K X { frames := 5, cells := 0, slots := 0, locals := 121 } cX11_left 5 RX11 (some .int)) {r : Int32} {M1 : Mem} {rec19 : Int32 → Int32 → Int32 → Mem → Option (Int32 × Mem)}
    (h19 : ∀ x1 x2 x3 M, rec19 x1 x2 x3 M = some (r, M1) → Wt K X (QM K X (some (vi r)) M1 0 0) 0 0 M 19 [(0, vr 311), (1, vi x1), (2, vi x2), (3, vi x3)] []) {x1 : Int32} {x2 : Int32} {x3 : Int32} {M : Mem} (hF : f_X11_left_b19_s rec19 x1 x2 x3 M = some (r, M1)) : Wt K X (QM K X (some (vi r)) M1 0 0) 0 0 M 19 [(0, vr 311), (1, vi x1), (2, vi x2), (3, vi x3)] [] := by
  unfold f_X11_left_b19_s at hF
  refine w_iload_n hB 3 dX11_left_19 rfl rfl ?_
  refine w_aload_n hB 0 dX11_left_20 rfl rfl ?_
  refine w_getC hB (v := 313) ff_X11_11 sh_311 hp.1 cr_311_11 (by decide) q_1171 dX11_left_21 ?_
  refine w_iconst hB 4 (by decide) dX11_left_24 ?_
  refine w_iald hB sh_313 (Or.inl hp.1) sl_313 (by decide) dX11_left_25 ?_
  rw [show (4 : Int32).toNatClampNeg = 4 by decide]
  refine w_icmp_ge hB 110 dX11_left_26 (by decide) (fun hc => ?_) (fun hc => ?_)
  · replace hF := ifT hc hF
    refine w_iload_n hB 2 dX11_left_110 rfl rfl ?_
    obtain ⟨e1, e2⟩ := retS hF
    subst e2
    exact w_iret hB dX11_left_111 e1
  · replace hF := ifF hc hF
    refine w_aload_n hB 0 dX11_left_29 rfl rfl ?_
    refine w_getC hB (v := 332) ff_X11_30 sh_311 hp.1 cr_311_30 (by decide) q_1190 dX11_left_30 ?_
    refine w_iload_n hB 3 dX11_left_33 rfl rfl ?_
    obtain ⟨g1, hF⟩ := gdS hF
    refine w_iald hB sh_332 (Or.inl hp.1) sl_332 g1 dX11_left_34 ?_
    refine w_iload_n hB 1 dX11_left_35 rfl rfl ?_
    refine w_icmp_eq hB 42 dX11_left_36 (by decide) (fun hc => ?_) (fun hc => ?_)
    · replace hF := ifT hc hF
      refine w_aload_n hB 0 dX11_left_42 rfl rfl ?_
      refine w_iload_n hB 3 dX11_left_43 rfl rfl ?_
      obtain ⟨r1, M1m, hc_M1m, hF⟩ := clS hF
      refine w_callV hB (ci := 9) (As := [vi x3]) (st := []) cw_X11_388 q_1645 q_65 rfl sh_311 (Or.inl hp.1) (c_X11_isAtOnce hp hc_M1m) ⟨rfl, rfl⟩ (by decide) (by decide) rfl (Nat.le_of_ble_eq_true rfl) dX11_left_44 rfl ?_
      refine w_if_eq hB 69 dX11_left_47 (by decide) (fun hc => ?_) (fun hc => ?_)
      · replace hF := ifT hc hF
        exact Wt.sub (L' := [(0, vr 311), (1, vi x1), (2, vi x2), (3, vi x3)]) [0, 1, 2, 3] rfl (b_X11_left_b69 hp hB h19 hF)
      · replace hF := ifF hc hF
        refine w_aload_n hB 0 dX11_left_50 rfl rfl ?_
        refine w_iload_n hB 3 dX11_left_51 rfl rfl ?_
        refine w_aload_n hB 0 dX11_left_52 rfl rfl ?_
        refine w_getC hB (v := 334) ff_X11_32 sh_311 hp.1 cr_311_32 (by decide) q_1192 dX11_left_53 ?_
        refine w_iload_n hB 3 dX11_left_56 rfl rfl ?_
        refine w_iald hB sh_334 (Or.inl hp.1) sl_334 g1 dX11_left_57 ?_
        obtain ⟨r2, M2m, hc_M2m, hF⟩ := clS hF
        refine w_callV hB (ci := 9) (As := [vi x3, vi (M1m.1 334 x3.toNatClampNeg)]) (st := []) cw_X11_372 q_1629 q_62 rfl sh_311 (Or.inl hp.1) (c_X11_review hp hc_M2m) ⟨rfl, rfl⟩ (by decide) (by decide) rfl (Nat.le_of_ble_eq_true rfl) dX11_left_58 rfl ?_
        refine w_iconst hB 2 (by decide) dX11_left_61 ?_
        refine w_icmp_ne hB 69 dX11_left_62 (by decide) (fun hc => ?_) (fun hc => ?_)
        · replace hF := ifF hc hF
          exact Wt.sub (L' := [(0, vr 311), (1, vi x1), (2, vi x2), (3, vi x3)]) [0, 1, 2, 3] rfl (b_X11_left_b69 hp hB h19 hF)
        · replace hF := ifT hc hF
          refine w_iconst hB 1 (by decide) dX11_left_65 ?_
          refine w_goto hB 70 dX11_left_66 (by decide) ?_
          exact Wt.sub (L' := [(0, vr 311), (1, vi x1), (2, vi x2), (3, vi x3)]) [0, 1, 2, 3] rfl (b_X11_left_b70 hp hB h19 hF)
    · replace hF := ifF hc hF
      refine w_goto hB 104 dX11_left_39 (by decide) ?_
      obtain ⟨a1, e_a1, hF⟩ := bndS hF
      refine w_iinc hB 3 (v := 1) (L' := [(3, vi a1), (0, vr 311), (1, vi x1), (2, vi x2)]) dX11_left_104 rfl (by decide) (by decide) e_a1 rfl ?_
      refine w_goto hB 19 dX11_left_107 (by decide) ?_
      exact Wt.sub (L' := [(0, vr 311), (1, vi x1), (2, vi x2), (3, vi a1)]) [1, 2, 3, 0] rfl (h19 _ _ _ M hF)
def f_X11_left_b19 (k : Nat) : Int32 → Int32 → Int32 → Mem → Option (Int32 × Mem) := lpN (fun _ _ _ _ => none) (f_X11_left_b19_s) k
theorem b_X11_left_b19 {K : Kt} {X : Xt} (hp : St K) (hB : Bx K X { frames := 5, cells := 0, slots := 0, locals := 121 } cX11_left 5 RX11 (some .int)) {r : Int32} {M1 : Mem} (k : Nat) : ∀ (x1 : Int32) (x2 : Int32) (x3 : Int32) M, f_X11_left_b19 k x1 x2 x3 M = some (r, M1) → Wt K X (QM K X (some (vi r)) M1 0 0) 0 0 M 19 [(0, vr 311), (1, vi x1), (2, vi x2), (3, vi x3)] [] := by
  refine lpN_ind (P := fun (f : Int32 → Int32 → Int32 → Mem → Option (Int32 × Mem)) => ∀ (x1 : Int32) (x2 : Int32) (x3 : Int32) M, f x1 x2 x3 M = some (r, M1) → Wt K X (QM K X (some (vi r)) M1 0 0) 0 0 M 19 [(0, vr 311), (1, vi x1), (2, vi x2), (3, vi x3)] []) (fun _ _ _ _ h => by cases h) (fun f hf x1 x2 x3 M hF => ?_) k
  exact b_X11_left_b19_s hp hB hf hF
def f_X11_left (x1 : Int32) (M : Mem) : Option (Int32 × Mem) :=
  bnd (setI M 311 0 0) fun M1m =>
  cl (f_X11_isSide x1 M1m) fun r1 M2m =>
  if r1 = 0 then
    some ((-1), M2m)
  else
    f_X11_left_b19 fuel x1 0 0 M2m
set_option maxRecDepth 100000 in
set_option maxHeartbeats 4000000 in
theorem b_X11_left {K : Kt} {X : Xt} (hp : St K) (hB : Bx K X { frames := 5, cells := 0, slots := 0, locals := 121 } cX11_left 5 RX11 (some .int)) {r : Int32} {M1 : Mem} {x1 : Int32} {M : Mem} (hF : f_X11_left x1 M = some (r, M1)) : Wt K X (QM K X (some (vi r)) M1 0 0) 0 0 M 0 [(0, vr 311), (1, vi x1)] [] := by
  unfold f_X11_left at hF
  refine w_aload_n hB 0 dX11_left_0 rfl rfl ?_
  refine w_iconst hB 0 (by decide) dX11_left_1 ?_
  obtain ⟨M1m, e_M1m, hF⟩ := bndS hF
  refine w_putI hB ff_X11_0 sh_311 (Or.inl hp.1) q_1160 e_M1m dX11_left_2 ?_
  refine w_aload_n hB 0 dX11_left_5 rfl rfl ?_
  refine w_iload_n hB 1 dX11_left_6 rfl rfl ?_
  obtain ⟨r1, M2m, hc_M2m, hF⟩ := clS hF
  refine w_callV hB (ci := 9) (As := [vi x1]) (st := []) cw_X11_336 q_1540 q_53 rfl sh_311 (Or.inl hp.1) (c_X11_isSide hp hc_M2m) ⟨rfl, rfl⟩ (by decide) (by decide) rfl (Nat.le_of_ble_eq_true rfl) dX11_left_7 rfl ?_
  refine w_if_ne hB 15 dX11_left_10 (by decide) (fun hc => ?_) (fun hc => ?_)
  · replace hF := ifF hc hF
    refine w_iconst hB 0 (by decide) dX11_left_15 ?_
    refine w_istore_n hB (L' := [(2, vi 0), (0, vr 311), (1, vi x1)]) dX11_left_16 rfl (by decide) rfl rfl ?_
    refine w_iconst hB 0 (by decide) dX11_left_17 ?_
    refine w_istore_n hB (L' := [(3, vi 0), (2, vi 0), (0, vr 311), (1, vi x1)]) dX11_left_18 rfl (by decide) rfl rfl ?_
    exact Wt.sub (L' := [(0, vr 311), (1, vi x1), (2, vi 0), (3, vi 0)]) [2, 3, 1, 0] rfl (b_X11_left_b19 hp hB fuel _ _ _ M2m hF)
  · replace hF := ifT hc hF
    refine w_iconst hB (-1) (by decide) dX11_left_13 ?_
    obtain ⟨e1, e2⟩ := retS hF
    subst e2
    exact w_iret hB dX11_left_14 e1
theorem c_X11_left {K : Kt} {l : Launch} (hp : St K) {r : Int32} {M1 : Mem} {x1 : Int32} {M : Mem} (hF : f_X11_left x1 M = some (r, M1)) : MT K l yX11_left cX11_left 5 (some .int) { frames := 5, cells := 0, slots := 0, locals := 121 } [vr 311, vi x1] M (some (vi r)) M1 0 0 :=
  MT_of (by decide) rfl (Nat.le_of_ble_eq_true rfl) (fun X _ hB _ => b_X11_left hp hB hF)
def f_X11_isEnough_b51 (rec8 : Int32 → Int32 → Int32 → Int32 → Mem → Option (Int32 × Mem)) (x1 : Int32) (x3 : Int32) (x4 : Int32) (x5 : Int32) (xs0 : Int32) (xs1 : Int32) (M : Mem) : Option (Int32 × Mem) :=
  if xs0 = xs1 then
    bnd (x5 + 1) fun a1 =>
    rec8 x1 x3 x4 a1 M
  else
    if x3 = 0 then
      some (0, M)
    else
      gd (inb x5 16) <|
      cl (f_X11_review x5 (M.1 334 x5.toNatClampNeg) M) fun r1 M1m =>
      if r1 = 2 then
        bnd (x4 + 1) fun a2 =>
        if (M1m.1 314 1) ≤ 0 then
          bnd (x5 + 1) fun a3 =>
          rec8 x1 x3 a2 a3 M1m
        else
          gd (¬ (M1m.1 314 1) = 0) <|
          if (a2 - a2 / (M1m.1 314 1) * (M1m.1 314 1)) = 0 then
            if 9 ≤ x3 then
              bnd (x5 + 1) fun a4 =>
              rec8 x1 x3 a2 a4 M1m
            else
              bnd (x3 + 1) fun a5 =>
              bnd (x5 + 1) fun a6 =>
              rec8 x1 a5 a2 a6 M1m
          else
            bnd (x5 + 1) fun a7 =>
            rec8 x1 x3 a2 a7 M1m
      else
        bnd (x3 + (-1)) fun a8 =>
        bnd (x5 + 1) fun a9 =>
        rec8 x1 a8 x4 a9 M1m
set_option maxRecDepth 100000 in
set_option maxHeartbeats 4000000 in
theorem b_X11_isEnough_b51 {K : Kt} {X : Xt} (hp : St K) (hB : Bx K X { frames := 5, cells := 0, slots := 0, locals := 121 } cX11_isEnough 6 RX11 (some .boolean)) {r : Int32} {M1 : Mem} {rec8 : Int32 → Int32 → Int32 → Int32 → Mem → Option (Int32 × Mem)}
    (h8 : ∀ x1 x3 x4 x5 M, rec8 x1 x3 x4 x5 M = some (r, M1) → Wt K X (QM K X (some (vi r)) M1 0 0) 0 0 M 8 [(0, vr 311), (1, vi x1), (3, vi x3), (4, vi x4), (5, vi x5)] []) {x1 : Int32} {x3 : Int32} {x4 : Int32} {x5 : Int32} {xs0 : Int32} {xs1 : Int32} {M : Mem} (hF : f_X11_isEnough_b51 rec8 x1 x3 x4 x5 xs0 xs1 M = some (r, M1)) : Wt K X (QM K X (some (vi r)) M1 0 0) 0 0 M 51 [(0, vr 311), (1, vi x1), (3, vi x3), (4, vi x4), (5, vi x5)] [vi xs1, vi xs0] := by
  unfold f_X11_isEnough_b51 at hF
  refine w_icmp_ne hB 57 dX11_isEnough_51 (by decide) (fun hc => ?_) (fun hc => ?_)
  · replace hF := ifF hc hF
    refine w_iload_n hB 2 dX11_isEnough_57 rfl rfl ?_
    refine w_if_ne hB 63 dX11_isEnough_58 (by decide) (fun hc => ?_) (fun hc => ?_)
    · replace hF := ifF hc hF
      refine w_aload_n hB 0 dX11_isEnough_63 rfl rfl ?_
      refine w_iload hB 4 dX11_isEnough_64 rfl ?_
      refine w_aload_n hB 0 dX11_isEnough_66 rfl rfl ?_
      refine w_getC hB (v := 334) ff_X11_32 sh_311 hp.1 cr_311_32 (by decide) q_1192 dX11_isEnough_67 ?_
      refine w_iload hB 4 dX11_isEnough_70 rfl ?_
      obtain ⟨g1, hF⟩ := gdS hF
      refine w_iald hB sh_334 (Or.inl hp.1) sl_334 g1 dX11_isEnough_72 ?_
      obtain ⟨r1, M1m, hc_M1m, hF⟩ := clS hF
      refine w_callV hB (ci := 9) (As := [vi x5, vi (M.1 334 x5.toNatClampNeg)]) (st := []) cw_X11_372 q_1629 q_62 rfl sh_311 (Or.inl hp.1) (c_X11_review hp hc_M1m) ⟨rfl, rfl⟩ (by decide) (by decide) rfl (Nat.le_of_ble_eq_true rfl) dX11_isEnough_73 rfl ?_
      refine w_iconst hB 2 (by decide) dX11_isEnough_76 ?_
      refine w_icmp_eq hB 86 dX11_isEnough_77 (by decide) (fun hc => ?_) (fun hc => ?_)
      · replace hF := ifT hc hF
        obtain ⟨a2, e_a2, hF⟩ := bndS hF
        refine w_iinc hB 3 (v := 1) (L' := [(4, vi a2), (0, vr 311), (1, vi x1), (3, vi x3), (5, vi x5)]) dX11_isEnough_86 rfl (by decide) (by decide) e_a2 rfl ?_
        refine w_aload_n hB 1 dX11_isEnough_89 rfl rfl ?_
        refine w_getC hB (v := 314) ff_X11_12 sh_311 hp.1 cr_311_12 (by decide) q_1172 dX11_isEnough_90 ?_
        refine w_iconst hB 1 (by decide) dX11_isEnough_93 ?_
        refine w_iald hB sh_314 (Or.inl hp.1) sl_314 (by decide) dX11_isEnough_94 ?_
        rw [show (1 : Int32).toNatClampNeg = 1 by decide]
        refine w_if_le hB 119 dX11_isEnough_95 (by decide) (fun hc => ?_) (fun hc => ?_)
        · replace hF := ifT hc hF
          obtain ⟨a3, e_a3, hF⟩ := bndS hF
          refine w_iinc hB 4 (v := 1) (L' := [(5, vi a3), (4, vi a2), (0, vr 311), (1, vi x1), (3, vi x3)]) dX11_isEnough_119 rfl (by decide) (by decide) e_a3 rfl ?_
          refine w_goto hB 8 dX11_isEnough_122 (by decide) ?_
          exact Wt.sub (L' := [(0, vr 311), (1, vi x1), (3, vi x3), (4, vi a2), (5, vi a3)]) [2, 3, 4, 1, 0] rfl (h8 _ _ _ _ M1m hF)
        · replace hF := ifF hc hF
          refine w_iload hB 0 dX11_isEnough_98 rfl ?_
          refine w_aload_n hB 1 dX11_isEnough_100 rfl rfl ?_
          refine w_getC hB (v := 314) ff_X11_12 sh_311 hp.1 cr_311_12 (by decide) q_1172 dX11_isEnough_101 ?_
          refine w_iconst hB 1 (by decide) dX11_isEnough_104 ?_
          refine w_iald hB sh_314 (Or.inl hp.1) sl_314 (by decide) dX11_isEnough_105 ?_
          rw [show (1 : Int32).toNatClampNeg = 1 by decide]
          obtain ⟨g2, hF⟩ := gdS hF
          refine w_irem hB g2 dX11_isEnough_106 ?_
          refine w_if_ne hB 119 dX11_isEnough_107 (by decide) (fun hc => ?_) (fun hc => ?_)
          · replace hF := ifF hc hF
            obtain ⟨a7, e_a7, hF⟩ := bndS hF
            refine w_iinc hB 4 (v := 1) (L' := [(5, vi a7), (4, vi a2), (0, vr 311), (1, vi x1), (3, vi x3)]) dX11_isEnough_119 rfl (by decide) (by decide) e_a7 rfl ?_
            refine w_goto hB 8 dX11_isEnough_122 (by decide) ?_
            exact Wt.sub (L' := [(0, vr 311), (1, vi x1), (3, vi x3), (4, vi a2), (5, vi a7)]) [2, 3, 4, 1, 0] rfl (h8 _ _ _ _ M1m hF)
          · replace hF := ifT hc hF
            refine w_iload_n hB 3 dX11_isEnough_110 rfl rfl ?_
            refine w_bipush hB 9 (by decide) dX11_isEnough_111 ?_
            refine w_icmp_ge hB 119 dX11_isEnough_113 (by decide) (fun hc => ?_) (fun hc => ?_)
            · replace hF := ifT hc hF
              obtain ⟨a4, e_a4, hF⟩ := bndS hF
              refine w_iinc hB 4 (v := 1) (L' := [(5, vi a4), (4, vi a2), (0, vr 311), (1, vi x1), (3, vi x3)]) dX11_isEnough_119 rfl (by decide) (by decide) e_a4 rfl ?_
              refine w_goto hB 8 dX11_isEnough_122 (by decide) ?_
              exact Wt.sub (L' := [(0, vr 311), (1, vi x1), (3, vi x3), (4, vi a2), (5, vi a4)]) [2, 3, 4, 1, 0] rfl (h8 _ _ _ _ M1m hF)
            · replace hF := ifF hc hF
              obtain ⟨a5, e_a5, hF⟩ := bndS hF
              refine w_iinc hB 3 (v := 1) (L' := [(3, vi a5), (4, vi a2), (0, vr 311), (1, vi x1), (5, vi x5)]) dX11_isEnough_116 rfl (by decide) (by decide) e_a5 rfl ?_
              obtain ⟨a6, e_a6, hF⟩ := bndS hF
              refine w_iinc hB 4 (v := 1) (L' := [(5, vi a6), (3, vi a5), (4, vi a2), (0, vr 311), (1, vi x1)]) dX11_isEnough_119 rfl (by decide) (by decide) e_a6 rfl ?_
              refine w_goto hB 8 dX11_isEnough_122 (by decide) ?_
              exact Wt.sub (L' := [(0, vr 311), (1, vi x1), (3, vi a5), (4, vi a2), (5, vi a6)]) [3, 4, 1, 2, 0] rfl (h8 _ _ _ _ M1m hF)
      · replace hF := ifF hc hF
        obtain ⟨a8, e_a8, hF⟩ := bndS hF
        refine w_iinc hB 2 (v := (-1)) (L' := [(3, vi a8), (0, vr 311), (1, vi x1), (4, vi x4), (5, vi x5)]) dX11_isEnough_80 rfl (by decide) (by decide) e_a8 rfl ?_
        refine w_goto hB 119 dX11_isEnough_83 (by decide) ?_
        obtain ⟨a9, e_a9, hF⟩ := bndS hF
        refine w_iinc hB 4 (v := 1) (L' := [(5, vi a9), (3, vi a8), (0, vr 311), (1, vi x1), (4, vi x4)]) dX11_isEnough_119 rfl (by decide) (by decide) e_a9 rfl ?_
        refine w_goto hB 8 dX11_isEnough_122 (by decide) ?_
        exact Wt.sub (L' := [(0, vr 311), (1, vi x1), (3, vi a8), (4, vi x4), (5, vi a9)]) [2, 3, 1, 4, 0] rfl (h8 _ _ _ _ M1m hF)
    · replace hF := ifT hc hF
      refine w_iconst hB 0 (by decide) dX11_isEnough_61 ?_
      obtain ⟨e1, e2⟩ := retS hF
      subst e2
      exact w_zret hB (by decide) dX11_isEnough_62 e1
  · replace hF := ifT hc hF
    refine w_goto hB 119 dX11_isEnough_54 (by decide) ?_
    obtain ⟨a1, e_a1, hF⟩ := bndS hF
    refine w_iinc hB 4 (v := 1) (L' := [(5, vi a1), (0, vr 311), (1, vi x1), (3, vi x3), (4, vi x4)]) dX11_isEnough_119 rfl (by decide) (by decide) e_a1 rfl ?_
    refine w_goto hB 8 dX11_isEnough_122 (by decide) ?_
    exact Wt.sub (L' := [(0, vr 311), (1, vi x1), (3, vi x3), (4, vi x4), (5, vi a1)]) [1, 2, 3, 4, 0] rfl (h8 _ _ _ _ M hF)
def f_X11_isEnough_b8_s (rec8 : Int32 → Int32 → Int32 → Int32 → Mem → Option (Int32 × Mem)) (x1 : Int32) (x3 : Int32) (x4 : Int32) (x5 : Int32) (M : Mem) : Option (Int32 × Mem) :=
  if (M.1 313 4) ≤ x5 then
    some (1, M)
  else
    cl (f_X11_isAtOnce x5 M) fun r1 M1m =>
    if r1 = 0 then
      gd (inb x5 16) <|
      if (M1m.1 332 x5.toNatClampNeg) = x1 then
        f_X11_isEnough_b51 rec8 x1 x3 x4 x5 (M1m.1 334 x5.toNatClampNeg) 1 M1m
      else
        f_X11_isEnough_b51 rec8 x1 x3 x4 x5 (M1m.1 334 x5.toNatClampNeg) 0 M1m
    else
      bnd (x5 + 1) fun a1 =>
      rec8 x1 x3 x4 a1 M1m
set_option maxRecDepth 100000 in
set_option maxHeartbeats 4000000 in
theorem b_X11_isEnough_b8_s {K : Kt} {X : Xt} (hp : St K) (hB : Bx K X { frames := 5, cells := 0, slots := 0, locals := 121 } cX11_isEnough 6 RX11 (some .boolean)) {r : Int32} {M1 : Mem} {rec8 : Int32 → Int32 → Int32 → Int32 → Mem → Option (Int32 × Mem)}
    (h8 : ∀ x1 x3 x4 x5 M, rec8 x1 x3 x4 x5 M = some (r, M1) → Wt K X (QM K X (some (vi r)) M1 0 0) 0 0 M 8 [(0, vr 311), (1, vi x1), (3, vi x3), (4, vi x4), (5, vi x5)] []) {x1 : Int32} {x3 : Int32} {x4 : Int32} {x5 : Int32} {M : Mem} (hF : f_X11_isEnough_b8_s rec8 x1 x3 x4 x5 M = some (r, M1)) : Wt K X (QM K X (some (vi r)) M1 0 0) 0 0 M 8 [(0, vr 311), (1, vi x1), (3, vi x3), (4, vi x4), (5, vi x5)] [] := by
  unfold f_X11_isEnough_b8_s at hF
  refine w_iload hB 4 dX11_isEnough_8 rfl ?_
  refine w_aload_n hB 0 dX11_isEnough_10 rfl rfl ?_
  refine w_getC hB (v := 313) ff_X11_11 sh_311 hp.1 cr_311_11 (by decide) q_1171 dX11_isEnough_11 ?_
  refine w_iconst hB 4 (by decide) dX11_isEnough_14 ?_
  refine w_iald hB sh_313 (Or.inl hp.1) sl_313 (by decide) dX11_isEnough_15 ?_
  rw [show (4 : Int32).toNatClampNeg = 4 by decide]
  refine w_icmp_ge hB 125 dX11_isEnough_16 (by decide) (fun hc => ?_) (fun hc => ?_)
  · replace hF := ifT hc hF
    refine w_iconst hB 1 (by decide) dX11_isEnough_125 ?_
    obtain ⟨e1, e2⟩ := retS hF
    subst e2
    exact w_zret hB (by decide) dX11_isEnough_126 e1
  · replace hF := ifF hc hF
    refine w_aload_n hB 0 dX11_isEnough_19 rfl rfl ?_
    refine w_iload hB 4 dX11_isEnough_20 rfl ?_
    obtain ⟨r1, M1m, hc_M1m, hF⟩ := clS hF
    refine w_callV hB (ci := 9) (As := [vi x5]) (st := []) cw_X11_388 q_1645 q_65 rfl sh_311 (Or.inl hp.1) (c_X11_isAtOnce hp hc_M1m) ⟨rfl, rfl⟩ (by decide) (by decide) rfl (Nat.le_of_ble_eq_true rfl) dX11_isEnough_22 rfl ?_
    refine w_if_ne hB 119 dX11_isEnough_25 (by decide) (fun hc => ?_) (fun hc => ?_)
    · replace hF := ifF hc hF
      obtain ⟨a1, e_a1, hF⟩ := bndS hF
      refine w_iinc hB 4 (v := 1) (L' := [(5, vi a1), (0, vr 311), (1, vi x1), (3, vi x3), (4, vi x4)]) dX11_isEnough_119 rfl (by decide) (by decide) e_a1 rfl ?_
      refine w_goto hB 8 dX11_isEnough_122 (by decide) ?_
      exact Wt.sub (L' := [(0, vr 311), (1, vi x1), (3, vi x3), (4, vi x4), (5, vi a1)]) [1, 2, 3, 4, 0] rfl (h8 _ _ _ _ M1m hF)
    · replace hF := ifT hc hF
      refine w_aload_n hB 0 dX11_isEnough_28 rfl rfl ?_
      refine w_getC hB (v := 334) ff_X11_32 sh_311 hp.1 cr_311_32 (by decide) q_1192 dX11_isEnough_29 ?_
      refine w_iload hB 4 dX11_isEnough_32 rfl ?_
      obtain ⟨g1, hF⟩ := gdS hF
      refine w_iald hB sh_334 (Or.inl hp.1) sl_334 g1 dX11_isEnough_34 ?_
      refine w_aload_n hB 0 dX11_isEnough_35 rfl rfl ?_
      refine w_getC hB (v := 332) ff_X11_30 sh_311 hp.1 cr_311_30 (by decide) q_1190 dX11_isEnough_36 ?_
      refine w_iload hB 4 dX11_isEnough_39 rfl ?_
      refine w_iald hB sh_332 (Or.inl hp.1) sl_332 g1 dX11_isEnough_41 ?_
      refine w_iload_n hB 1 dX11_isEnough_42 rfl rfl ?_
      refine w_icmp_ne hB 50 dX11_isEnough_43 (by decide) (fun hc => ?_) (fun hc => ?_)
      · replace hF := ifF hc hF
        refine w_iconst hB 0 (by decide) dX11_isEnough_50 ?_
        exact Wt.sub (L' := [(0, vr 311), (1, vi x1), (3, vi x3), (4, vi x4), (5, vi x5)]) [0, 1, 2, 3, 4] rfl (b_X11_isEnough_b51 hp hB h8 hF)
      · replace hF := ifT hc hF
        refine w_iconst hB 1 (by decide) dX11_isEnough_46 ?_
        refine w_goto hB 51 dX11_isEnough_47 (by decide) ?_
        exact Wt.sub (L' := [(0, vr 311), (1, vi x1), (3, vi x3), (4, vi x4), (5, vi x5)]) [0, 1, 2, 3, 4] rfl (b_X11_isEnough_b51 hp hB h8 hF)
def f_X11_isEnough_b8 (k : Nat) : Int32 → Int32 → Int32 → Int32 → Mem → Option (Int32 × Mem) := lpN (fun _ _ _ _ _ => none) (f_X11_isEnough_b8_s) k
theorem b_X11_isEnough_b8 {K : Kt} {X : Xt} (hp : St K) (hB : Bx K X { frames := 5, cells := 0, slots := 0, locals := 121 } cX11_isEnough 6 RX11 (some .boolean)) {r : Int32} {M1 : Mem} (k : Nat) : ∀ (x1 : Int32) (x3 : Int32) (x4 : Int32) (x5 : Int32) M, f_X11_isEnough_b8 k x1 x3 x4 x5 M = some (r, M1) → Wt K X (QM K X (some (vi r)) M1 0 0) 0 0 M 8 [(0, vr 311), (1, vi x1), (3, vi x3), (4, vi x4), (5, vi x5)] [] := by
  refine lpN_ind (P := fun (f : Int32 → Int32 → Int32 → Int32 → Mem → Option (Int32 × Mem)) => ∀ (x1 : Int32) (x3 : Int32) (x4 : Int32) (x5 : Int32) M, f x1 x3 x4 x5 M = some (r, M1) → Wt K X (QM K X (some (vi r)) M1 0 0) 0 0 M 8 [(0, vr 311), (1, vi x1), (3, vi x3), (4, vi x4), (5, vi x5)] []) (fun _ _ _ _ _ h => by cases h) (fun f hf x1 x3 x4 x5 M hF => ?_) k
  exact b_X11_isEnough_b8_s hp hB hf hF
def f_X11_isEnough (x1 : Int32) (x2 : Int32) (M : Mem) : Option (Int32 × Mem) :=
  f_X11_isEnough_b8 fuel x1 x2 0 0 M
set_option maxRecDepth 100000 in
set_option maxHeartbeats 4000000 in
theorem b_X11_isEnough {K : Kt} {X : Xt} (hp : St K) (hB : Bx K X { frames := 5, cells := 0, slots := 0, locals := 121 } cX11_isEnough 6 RX11 (some .boolean)) {r : Int32} {M1 : Mem} {x1 : Int32} {x2 : Int32} {M : Mem} (hF : f_X11_isEnough x1 x2 M = some (r, M1)) : Wt K X (QM K X (some (vi r)) M1 0 0) 0 0 M 0 [(0, vr 311), (1, vi x1), (2, vi x2)] [] := by
  unfold f_X11_isEnough at hF
  refine w_iload_n hB 2 dX11_isEnough_0 rfl rfl ?_
  refine w_istore_n hB (L' := [(3, vi x2), (0, vr 311), (1, vi x1), (2, vi x2)]) dX11_isEnough_1 rfl (by decide) rfl rfl ?_
  refine w_iconst hB 0 (by decide) dX11_isEnough_2 ?_
  refine w_istore hB (L' := [(4, vi 0), (3, vi x2), (0, vr 311), (1, vi x1), (2, vi x2)]) dX11_isEnough_3 (by decide) rfl rfl ?_
  refine w_iconst hB 0 (by decide) dX11_isEnough_5 ?_
  refine w_istore hB (L' := [(5, vi 0), (4, vi 0), (3, vi x2), (0, vr 311), (1, vi x1), (2, vi x2)]) dX11_isEnough_6 (by decide) rfl rfl ?_
  exact Wt.sub (L' := [(0, vr 311), (1, vi x1), (3, vi x2), (4, vi 0), (5, vi 0)]) [3, 4, 2, 1, 0] rfl (b_X11_isEnough_b8 hp hB fuel _ _ _ _ M hF)
theorem c_X11_isEnough {K : Kt} {l : Launch} (hp : St K) {r : Int32} {M1 : Mem} {x1 : Int32} {x2 : Int32} {M : Mem} (hF : f_X11_isEnough x1 x2 M = some (r, M1)) : MT K l yX11_isEnough cX11_isEnough 6 (some .boolean) { frames := 5, cells := 0, slots := 0, locals := 121 } [vr 311, vi x1, vi x2] M (some (vi r)) M1 0 0 :=
  MT_of (by decide) rfl (Nat.le_of_ble_eq_true rfl) (fun X _ hB _ => b_X11_isEnough hp hB hF)
def f_X11_need_b17_s (rec17 : Int32 → Int32 → Mem → Option (Int32 × Mem)) (x1 : Int32) (x2 : Int32) (M : Mem) : Option (Int32 × Mem) :=
  if 9 ≤ x2 then
    some (9, M)
  else
    cl (f_X11_isEnough x1 x2 M) fun r1 M1m =>
    if r1 = 0 then
      bnd (x2 + 1) fun a1 =>
      rec17 x1 a1 M1m
    else
      some (x2, M1m)
set_option maxRecDepth 100000 in
set_option maxHeartbeats 4000000 in
theorem b_X11_need_b17_s {K : Kt} {X : Xt} (hp : St K) (hB : Bx K X { frames := 6, cells := 0, slots := 0, locals := 146 } cX11_need 3 RX11 (some .int)) {r : Int32} {M1 : Mem} {rec17 : Int32 → Int32 → Mem → Option (Int32 × Mem)}
    (h17 : ∀ x1 x2 M, rec17 x1 x2 M = some (r, M1) → Wt K X (QM K X (some (vi r)) M1 0 0) 0 0 M 17 [(0, vr 311), (1, vi x1), (2, vi x2)] []) {x1 : Int32} {x2 : Int32} {M : Mem} (hF : f_X11_need_b17_s rec17 x1 x2 M = some (r, M1)) : Wt K X (QM K X (some (vi r)) M1 0 0) 0 0 M 17 [(0, vr 311), (1, vi x1), (2, vi x2)] [] := by
  unfold f_X11_need_b17_s at hF
  refine w_iload_n hB 2 dX11_need_17 rfl rfl ?_
  refine w_bipush hB 9 (by decide) dX11_need_18 ?_
  refine w_icmp_ge hB 40 dX11_need_20 (by decide) (fun hc => ?_) (fun hc => ?_)
  · replace hF := ifT hc hF
    refine w_bipush hB 9 (by decide) dX11_need_40 ?_
    obtain ⟨e1, e2⟩ := retS hF
    subst e2
    exact w_iret hB dX11_need_42 e1
  · replace hF := ifF hc hF
    refine w_aload_n hB 0 dX11_need_23 rfl rfl ?_
    refine w_iload_n hB 1 dX11_need_24 rfl rfl ?_
    refine w_iload_n hB 2 dX11_need_25 rfl rfl ?_
    obtain ⟨r1, M1m, hc_M1m, hF⟩ := clS hF
    refine w_callV hB (ci := 9) (As := [vi x1, vi x2]) (st := []) cw_X11_406 q_1717 q_73 rfl sh_311 (Or.inl hp.1) (c_X11_isEnough hp hc_M1m) ⟨rfl, rfl⟩ (by decide) (by decide) rfl (Nat.le_of_ble_eq_true rfl) dX11_need_26 rfl ?_
    refine w_if_eq hB 34 dX11_need_29 (by decide) (fun hc => ?_) (fun hc => ?_)
    · replace hF := ifT hc hF
      obtain ⟨a1, e_a1, hF⟩ := bndS hF
      refine w_iinc hB 2 (v := 1) (L' := [(2, vi a1), (0, vr 311), (1, vi x1)]) dX11_need_34 rfl (by decide) (by decide) e_a1 rfl ?_
      refine w_goto hB 17 dX11_need_37 (by decide) ?_
      exact Wt.sub (L' := [(0, vr 311), (1, vi x1), (2, vi a1)]) [1, 2, 0] rfl (h17 _ _ M1m hF)
    · replace hF := ifF hc hF
      refine w_iload_n hB 2 dX11_need_32 rfl rfl ?_
      obtain ⟨e1, e2⟩ := retS hF
      subst e2
      exact w_iret hB dX11_need_33 e1
def f_X11_need_b17 (k : Nat) : Int32 → Int32 → Mem → Option (Int32 × Mem) := lpN (fun _ _ _ => none) (f_X11_need_b17_s) k
theorem b_X11_need_b17 {K : Kt} {X : Xt} (hp : St K) (hB : Bx K X { frames := 6, cells := 0, slots := 0, locals := 146 } cX11_need 3 RX11 (some .int)) {r : Int32} {M1 : Mem} (k : Nat) : ∀ (x1 : Int32) (x2 : Int32) M, f_X11_need_b17 k x1 x2 M = some (r, M1) → Wt K X (QM K X (some (vi r)) M1 0 0) 0 0 M 17 [(0, vr 311), (1, vi x1), (2, vi x2)] [] := by
  refine lpN_ind (P := fun (f : Int32 → Int32 → Mem → Option (Int32 × Mem)) => ∀ (x1 : Int32) (x2 : Int32) M, f x1 x2 M = some (r, M1) → Wt K X (QM K X (some (vi r)) M1 0 0) 0 0 M 17 [(0, vr 311), (1, vi x1), (2, vi x2)] []) (fun _ _ _ h => by cases h) (fun f hf x1 x2 M hF => ?_) k
  exact b_X11_need_b17_s hp hB hf hF
def f_X11_need (x1 : Int32) (M : Mem) : Option (Int32 × Mem) :=
  bnd (setI M 311 0 0) fun M1m =>
  cl (f_X11_isSide x1 M1m) fun r1 M2m =>
  if r1 = 0 then
    some ((-1), M2m)
  else
    f_X11_need_b17 fuel x1 0 M2m
set_option maxRecDepth 100000 in
set_option maxHeartbeats 4000000 in
theorem b_X11_need {K : Kt} {X : Xt} (hp : St K) (hB : Bx K X { frames := 6, cells := 0, slots := 0, locals := 146 } cX11_need 3 RX11 (some .int)) {r : Int32} {M1 : Mem} {x1 : Int32} {M : Mem} (hF : f_X11_need x1 M = some (r, M1)) : Wt K X (QM K X (some (vi r)) M1 0 0) 0 0 M 0 [(0, vr 311), (1, vi x1)] [] := by
  unfold f_X11_need at hF
  refine w_aload_n hB 0 dX11_need_0 rfl rfl ?_
  refine w_iconst hB 0 (by decide) dX11_need_1 ?_
  obtain ⟨M1m, e_M1m, hF⟩ := bndS hF
  refine w_putI hB ff_X11_0 sh_311 (Or.inl hp.1) q_1160 e_M1m dX11_need_2 ?_
  refine w_aload_n hB 0 dX11_need_5 rfl rfl ?_
  refine w_iload_n hB 1 dX11_need_6 rfl rfl ?_
  obtain ⟨r1, M2m, hc_M2m, hF⟩ := clS hF
  refine w_callV hB (ci := 9) (As := [vi x1]) (st := []) cw_X11_336 q_1540 q_53 rfl sh_311 (Or.inl hp.1) (c_X11_isSide hp hc_M2m) ⟨rfl, rfl⟩ (by decide) (by decide) rfl (Nat.le_of_ble_eq_true rfl) dX11_need_7 rfl ?_
  refine w_if_ne hB 15 dX11_need_10 (by decide) (fun hc => ?_) (fun hc => ?_)
  · replace hF := ifF hc hF
    refine w_iconst hB 0 (by decide) dX11_need_15 ?_
    refine w_istore_n hB (L' := [(2, vi 0), (0, vr 311), (1, vi x1)]) dX11_need_16 rfl (by decide) rfl rfl ?_
    exact Wt.sub (L' := [(0, vr 311), (1, vi x1), (2, vi 0)]) [1, 2, 0] rfl (b_X11_need_b17 hp hB fuel _ _ M2m hF)
  · replace hF := ifT hc hF
    refine w_iconst hB (-1) (by decide) dX11_need_13 ?_
    obtain ⟨e1, e2⟩ := retS hF
    subst e2
    exact w_iret hB dX11_need_14 e1
theorem c_X11_need {K : Kt} {l : Launch} (hp : St K) {r : Int32} {M1 : Mem} {x1 : Int32} {M : Mem} (hF : f_X11_need x1 M = some (r, M1)) : MT K l yX11_need cX11_need 3 (some .int) { frames := 6, cells := 0, slots := 0, locals := 146 } [vr 311, vi x1] M (some (vi r)) M1 0 0 :=
  MT_of (by decide) rfl (Nat.le_of_ble_eq_true rfl) (fun X _ hB _ => b_X11_need hp hB hF)
def f_X11_timeOf_b4_s (rec4 : Int32 → Int32 → Int32 → Mem → Option (Int32 × Mem)) (x1 : Int32) (x2 : Int32) (x3 : Int32) (M : Mem) : Option (Int32 × Mem) :=
  if (M.1 313 4) ≤ x3 then
    some (x2, M)
  else
    gd (inb x3 16) <|
    if (M.1 330 x3.toNatClampNeg) = x1 then
      gd (inb (41 + x3) 114) <|
      bnd (x2 + (M.1 340 (41 + x3).toNatClampNeg)) fun a1 =>
      bnd (x3 + 1) fun a2 =>
      rec4 x1 a1 a2 M
    else
      bnd (x2 + 0) fun a3 =>
      bnd (x3 + 1) fun a4 =>
      rec4 x1 a3 a4 M
set_option maxRecDepth 100000 in
set_option maxHeartbeats 4000000 in
theorem b_X11_timeOf_b4_s {K : Kt} {X : Xt} (hp : St K) (hB : Bx K X { frames := 0, cells := 0, slots := 0, locals := 0 } cX11_timeOf 4 RX11 (some .int)) {r : Int32} {M1 : Mem} {rec4 : Int32 → Int32 → Int32 → Mem → Option (Int32 × Mem)}
    (h4 : ∀ x1 x2 x3 M, rec4 x1 x2 x3 M = some (r, M1) → Wt K X (QM K X (some (vi r)) M1 0 0) 0 0 M 4 [(0, vr 311), (1, vi x1), (2, vi x2), (3, vi x3)] []) {x1 : Int32} {x2 : Int32} {x3 : Int32} {M : Mem} (hF : f_X11_timeOf_b4_s rec4 x1 x2 x3 M = some (r, M1)) : Wt K X (QM K X (some (vi r)) M1 0 0) 0 0 M 4 [(0, vr 311), (1, vi x1), (2, vi x2), (3, vi x3)] [] := by
  unfold f_X11_timeOf_b4_s at hF
  refine w_iload_n hB 3 dX11_timeOf_4 rfl rfl ?_
  refine w_aload_n hB 0 dX11_timeOf_5 rfl rfl ?_
  refine w_getC hB (v := 313) ff_X11_11 sh_311 hp.1 cr_311_11 (by decide) q_1171 dX11_timeOf_6 ?_
  refine w_iconst hB 4 (by decide) dX11_timeOf_9 ?_
  refine w_iald hB sh_313 (Or.inl hp.1) sl_313 (by decide) dX11_timeOf_10 ?_
  rw [show (4 : Int32).toNatClampNeg = 4 by decide]
  refine w_icmp_ge hB 46 dX11_timeOf_11 (by decide) (fun hc => ?_) (fun hc => ?_)
  · replace hF := ifT hc hF
    refine w_iload_n hB 2 dX11_timeOf_46 rfl rfl ?_
    obtain ⟨e1, e2⟩ := retS hF
    subst e2
    exact w_iret hB dX11_timeOf_47 e1
  · replace hF := ifF hc hF
    refine w_iload_n hB 2 dX11_timeOf_14 rfl rfl ?_
    refine w_aload_n hB 0 dX11_timeOf_15 rfl rfl ?_
    refine w_getC hB (v := 330) ff_X11_28 sh_311 hp.1 cr_311_28 (by decide) q_1188 dX11_timeOf_16 ?_
    refine w_iload_n hB 3 dX11_timeOf_19 rfl rfl ?_
    obtain ⟨g1, hF⟩ := gdS hF
    refine w_iald hB sh_330 (Or.inl hp.1) sl_330 g1 dX11_timeOf_20 ?_
    refine w_iload_n hB 1 dX11_timeOf_21 rfl rfl ?_
    refine w_icmp_ne hB 37 dX11_timeOf_22 (by decide) (fun hc => ?_) (fun hc => ?_)
    · replace hF := ifF hc hF
      refine w_iconst hB 0 (by decide) dX11_timeOf_37 ?_
      refine w_iadd hB dX11_timeOf_38 ?_
      obtain ⟨a3, e_a3, hF⟩ := bndS hF
      refine w_istore_n hB (L' := [(2, vi a3), (0, vr 311), (1, vi x1), (3, vi x3)]) dX11_timeOf_39 rfl (by decide) e_a3 rfl ?_
      obtain ⟨a4, e_a4, hF⟩ := bndS hF
      refine w_iinc hB 3 (v := 1) (L' := [(3, vi a4), (2, vi a3), (0, vr 311), (1, vi x1)]) dX11_timeOf_40 rfl (by decide) (by decide) e_a4 rfl ?_
      refine w_goto hB 4 dX11_timeOf_43 (by decide) ?_
      exact Wt.sub (L' := [(0, vr 311), (1, vi x1), (2, vi a3), (3, vi a4)]) [2, 3, 1, 0] rfl (h4 _ _ _ M hF)
    · replace hF := ifT hc hF
      refine w_aload_n hB 0 dX11_timeOf_25 rfl rfl ?_
      refine w_getC hB (v := 340) ff_X11_38 sh_311 hp.1 cr_311_38 (by decide) q_1198 dX11_timeOf_26 ?_
      refine w_bipush hB 41 (by decide) dX11_timeOf_29 ?_
      refine w_iload_n hB 3 dX11_timeOf_31 rfl rfl ?_
      refine w_iadd hB dX11_timeOf_32 ?_
      obtain ⟨g2, hF⟩ := gdS hF
      refine w_iald hB sh_340 (Or.inl hp.1) sl_340 g2 dX11_timeOf_33 ?_
      refine w_goto hB 38 dX11_timeOf_34 (by decide) ?_
      refine w_iadd hB dX11_timeOf_38 ?_
      obtain ⟨a1, e_a1, hF⟩ := bndS hF
      refine w_istore_n hB (L' := [(2, vi a1), (0, vr 311), (1, vi x1), (3, vi x3)]) dX11_timeOf_39 rfl (by decide) e_a1 rfl ?_
      obtain ⟨a2, e_a2, hF⟩ := bndS hF
      refine w_iinc hB 3 (v := 1) (L' := [(3, vi a2), (2, vi a1), (0, vr 311), (1, vi x1)]) dX11_timeOf_40 rfl (by decide) (by decide) e_a2 rfl ?_
      refine w_goto hB 4 dX11_timeOf_43 (by decide) ?_
      exact Wt.sub (L' := [(0, vr 311), (1, vi x1), (2, vi a1), (3, vi a2)]) [2, 3, 1, 0] rfl (h4 _ _ _ M hF)
def f_X11_timeOf_b4 (k : Nat) : Int32 → Int32 → Int32 → Mem → Option (Int32 × Mem) := lpN (fun _ _ _ _ => none) (f_X11_timeOf_b4_s) k
theorem b_X11_timeOf_b4 {K : Kt} {X : Xt} (hp : St K) (hB : Bx K X { frames := 0, cells := 0, slots := 0, locals := 0 } cX11_timeOf 4 RX11 (some .int)) {r : Int32} {M1 : Mem} (k : Nat) : ∀ (x1 : Int32) (x2 : Int32) (x3 : Int32) M, f_X11_timeOf_b4 k x1 x2 x3 M = some (r, M1) → Wt K X (QM K X (some (vi r)) M1 0 0) 0 0 M 4 [(0, vr 311), (1, vi x1), (2, vi x2), (3, vi x3)] [] := by
  refine lpN_ind (P := fun (f : Int32 → Int32 → Int32 → Mem → Option (Int32 × Mem)) => ∀ (x1 : Int32) (x2 : Int32) (x3 : Int32) M, f x1 x2 x3 M = some (r, M1) → Wt K X (QM K X (some (vi r)) M1 0 0) 0 0 M 4 [(0, vr 311), (1, vi x1), (2, vi x2), (3, vi x3)] []) (fun _ _ _ _ h => by cases h) (fun f hf x1 x2 x3 M hF => ?_) k
  exact b_X11_timeOf_b4_s hp hB hf hF
def f_X11_timeOf (x1 : Int32) (M : Mem) : Option (Int32 × Mem) :=
  f_X11_timeOf_b4 fuel x1 0 0 M
set_option maxRecDepth 100000 in
set_option maxHeartbeats 4000000 in
theorem b_X11_timeOf {K : Kt} {X : Xt} (hp : St K) (hB : Bx K X { frames := 0, cells := 0, slots := 0, locals := 0 } cX11_timeOf 4 RX11 (some .int)) {r : Int32} {M1 : Mem} {x1 : Int32} {M : Mem} (hF : f_X11_timeOf x1 M = some (r, M1)) : Wt K X (QM K X (some (vi r)) M1 0 0) 0 0 M 0 [(0, vr 311), (1, vi x1)] [] := by
  unfold f_X11_timeOf at hF
  refine w_iconst hB 0 (by decide) dX11_timeOf_0 ?_
  refine w_istore_n hB (L' := [(2, vi 0), (0, vr 311), (1, vi x1)]) dX11_timeOf_1 rfl (by decide) rfl rfl ?_
  refine w_iconst hB 0 (by decide) dX11_timeOf_2 ?_
  refine w_istore_n hB (L' := [(3, vi 0), (2, vi 0), (0, vr 311), (1, vi x1)]) dX11_timeOf_3 rfl (by decide) rfl rfl ?_
  exact Wt.sub (L' := [(0, vr 311), (1, vi x1), (2, vi 0), (3, vi 0)]) [2, 3, 1, 0] rfl (b_X11_timeOf_b4 hp hB fuel _ _ _ M hF)
theorem c_X11_timeOf {K : Kt} {l : Launch} (hp : St K) {r : Int32} {M1 : Mem} {x1 : Int32} {M : Mem} (hF : f_X11_timeOf x1 M = some (r, M1)) : MT K l yX11_timeOf cX11_timeOf 4 (some .int) { frames := 0, cells := 0, slots := 0, locals := 0 } [vr 311, vi x1] M (some (vi r)) M1 0 0 :=
  MT_of (by decide) rfl (Nat.le_of_ble_eq_true rfl) (fun X _ hB _ => b_X11_timeOf hp hB hF)
def f_X11_seconds (x1 : Int32) (M : Mem) : Option (Int32 × Mem) :=
  bnd (setI M 311 0 0) fun M1m =>
  cl (f_X11_within (x1.toInt64) 0 999 M1m) fun r1 M2m =>
  if r1 = 0 then
    some ((-1), M2m)
  else
    cl (f_X11_timeOf x1 M2m) fun r2 M3m =>
    some (r2, M3m)
set_option maxRecDepth 100000 in
set_option maxHeartbeats 4000000 in
theorem b_X11_seconds {K : Kt} {X : Xt} (hp : St K) (hB : Bx K X { frames := 1, cells := 0, slots := 0, locals := 25 } cX11_seconds 2 RX11 (some .int)) {r : Int32} {M1 : Mem} {x1 : Int32} {M : Mem} (hF : f_X11_seconds x1 M = some (r, M1)) : Wt K X (QM K X (some (vi r)) M1 0 0) 0 0 M 0 [(0, vr 311), (1, vi x1)] [] := by
  unfold f_X11_seconds at hF
  refine w_aload_n hB 0 dX11_seconds_0 rfl rfl ?_
  refine w_iconst hB 0 (by decide) dX11_seconds_1 ?_
  obtain ⟨M1m, e_M1m, hF⟩ := bndS hF
  refine w_putI hB ff_X11_0 sh_311 (Or.inl hp.1) q_1160 e_M1m dX11_seconds_2 ?_
  refine w_iload_n hB 1 dX11_seconds_5 rfl rfl ?_
  refine w_i2l hB dX11_seconds_6 ?_
  refine w_lconst hB 0 (by decide) dX11_seconds_7 ?_
  refine w_ldc2 hB (v := 999) q_1723 dX11_seconds_8 ?_
  obtain ⟨r1, M2m, hc_M2m, hF⟩ := clS hF
  refine w_callS hB (As := [vl (x1.toInt64), vl 0, vl 999]) (st := []) cw_X11_156 q_1320 (c_X11_within hp hc_M2m) ⟨rfl, rfl⟩ (by decide) (by decide) rfl (Nat.le_of_ble_eq_true rfl) dX11_seconds_11 rfl ?_
  refine w_if_eq hB 25 dX11_seconds_14 (by decide) (fun hc => ?_) (fun hc => ?_)
  · replace hF := ifT hc hF
    refine w_iconst hB (-1) (by decide) dX11_seconds_25 ?_
    obtain ⟨e1, e2⟩ := retS hF
    subst e2
    exact w_iret hB dX11_seconds_26 e1
  · replace hF := ifF hc hF
    refine w_aload_n hB 0 dX11_seconds_17 rfl rfl ?_
    refine w_iload_n hB 1 dX11_seconds_18 rfl rfl ?_
    obtain ⟨r2, M3m, hc_M3m, hF⟩ := clS hF
    refine w_callV hB (ci := 9) (As := [vi x1]) (st := []) cw_X11_411 q_1726 q_74 rfl sh_311 (Or.inl hp.1) (c_X11_timeOf hp hc_M3m) ⟨rfl, rfl⟩ (by decide) (by decide) rfl (Nat.le_of_ble_eq_true rfl) dX11_seconds_19 rfl ?_
    refine w_goto hB 26 dX11_seconds_22 (by decide) ?_
    obtain ⟨e1, e2⟩ := retS hF
    subst e2
    exact w_iret hB dX11_seconds_26 e1
theorem c_X11_seconds {K : Kt} {l : Launch} (hp : St K) {r : Int32} {M1 : Mem} {x1 : Int32} {M : Mem} (hF : f_X11_seconds x1 M = some (r, M1)) : MT K l yX11_seconds cX11_seconds 2 (some .int) { frames := 1, cells := 0, slots := 0, locals := 25 } [vr 311, vi x1] M (some (vi r)) M1 0 0 :=
  MT_of (by decide) rfl (Nat.le_of_ble_eq_true rfl) (fun X _ hB _ => b_X11_seconds hp hB hF)
def f_X11_extra_b41 (rec9 : Int32 → Int32 → Mem → Option (Int32 × Mem)) (x2 : Int32) (xs0 : Int32) (M : Mem) : Option (Int32 × Mem) :=
  gd (inb x2 16) <|
  cl (f_X11_timeOf (M.1 330 x2.toNatClampNeg) M) fun r1 M1m =>
  bnd (xs0 + ((r1 + 59) / 60)) fun a1 =>
  bnd (x2 + 1) fun a2 =>
  rec9 a1 a2 M1m
set_option maxRecDepth 100000 in
set_option maxHeartbeats 4000000 in
theorem b_X11_extra_b41 {K : Kt} {X : Xt} (hp : St K) (hB : Bx K X { frames := 1, cells := 0, slots := 0, locals := 23 } cX11_extra 3 RX11 (some .int)) {r : Int32} {M1 : Mem} {rec9 : Int32 → Int32 → Mem → Option (Int32 × Mem)}
    (h9 : ∀ x1 x2 M, rec9 x1 x2 M = some (r, M1) → Wt K X (QM K X (some (vi r)) M1 0 0) 0 0 M 9 [(0, vr 311), (1, vi x1), (2, vi x2)] []) {x2 : Int32} {xs0 : Int32} {M : Mem} (hF : f_X11_extra_b41 rec9 x2 xs0 M = some (r, M1)) : Wt K X (QM K X (some (vi r)) M1 0 0) 0 0 M 41 [(0, vr 311), (2, vi x2)] [vi xs0] := by
  unfold f_X11_extra_b41 at hF
  refine w_aload_n hB 0 dX11_extra_41 rfl rfl ?_
  refine w_aload_n hB 0 dX11_extra_42 rfl rfl ?_
  refine w_getC hB (v := 330) ff_X11_28 sh_311 hp.1 cr_311_28 (by decide) q_1188 dX11_extra_43 ?_
  refine w_iload_n hB 1 dX11_extra_46 rfl rfl ?_
  obtain ⟨g1, hF⟩ := gdS hF
  refine w_iald hB sh_330 (Or.inl hp.1) sl_330 g1 dX11_extra_47 ?_
  obtain ⟨r1, M1m, hc_M1m, hF⟩ := clS hF
  refine w_callV hB (ci := 9) (As := [vi (M.1 330 x2.toNatClampNeg)]) (st := [vi xs0]) cw_X11_411 q_1726 q_74 rfl sh_311 (Or.inl hp.1) (c_X11_timeOf hp hc_M1m) ⟨rfl, rfl⟩ (by decide) (by decide) rfl (Nat.le_of_ble_eq_true rfl) dX11_extra_48 rfl ?_
  refine w_bipush hB 59 (by decide) dX11_extra_51 ?_
  refine w_iadd hB dX11_extra_53 ?_
  refine w_bipush hB 60 (by decide) dX11_extra_54 ?_
  refine w_idiv hB (by decide) dX11_extra_56 ?_
  refine w_goto hB 61 dX11_extra_57 (by decide) ?_
  refine w_iadd hB dX11_extra_61 ?_
  obtain ⟨a1, e_a1, hF⟩ := bndS hF
  refine w_istore_n hB (L' := [(1, vi a1), (0, vr 311), (2, vi x2)]) dX11_extra_62 rfl (by decide) e_a1 rfl ?_
  obtain ⟨a2, e_a2, hF⟩ := bndS hF
  refine w_iinc hB 2 (v := 1) (L' := [(2, vi a2), (1, vi a1), (0, vr 311)]) dX11_extra_63 rfl (by decide) (by decide) e_a2 rfl ?_
  refine w_goto hB 9 dX11_extra_66 (by decide) ?_
  exact Wt.sub (L' := [(0, vr 311), (1, vi a1), (2, vi a2)]) [2, 1, 0] rfl (h9 _ _ M1m hF)
def f_X11_extra_b9_s (rec9 : Int32 → Int32 → Mem → Option (Int32 × Mem)) (x1 : Int32) (x2 : Int32) (M : Mem) : Option (Int32 × Mem) :=
  if (M.1 313 4) ≤ x2 then
    some (x1, M)
  else
    if x2 = 0 then
      f_X11_extra_b41 rec9 x2 x1 M
    else
      gd (inb x2 16) <|
      gd (inb (x2 - 1) 16) <|
      if (M.1 330 x2.toNatClampNeg) = (M.1 330 (x2 - 1).toNatClampNeg) then
        bnd (x1 + 0) fun a1 =>
        bnd (x2 + 1) fun a2 =>
        rec9 a1 a2 M
      else
        f_X11_extra_b41 rec9 x2 x1 M
set_option maxRecDepth 100000 in
set_option maxHeartbeats 4000000 in
theorem b_X11_extra_b9_s {K : Kt} {X : Xt} (hp : St K) (hB : Bx K X { frames := 1, cells := 0, slots := 0, locals := 23 } cX11_extra 3 RX11 (some .int)) {r : Int32} {M1 : Mem} {rec9 : Int32 → Int32 → Mem → Option (Int32 × Mem)}
    (h9 : ∀ x1 x2 M, rec9 x1 x2 M = some (r, M1) → Wt K X (QM K X (some (vi r)) M1 0 0) 0 0 M 9 [(0, vr 311), (1, vi x1), (2, vi x2)] []) {x1 : Int32} {x2 : Int32} {M : Mem} (hF : f_X11_extra_b9_s rec9 x1 x2 M = some (r, M1)) : Wt K X (QM K X (some (vi r)) M1 0 0) 0 0 M 9 [(0, vr 311), (1, vi x1), (2, vi x2)] [] := by
  unfold f_X11_extra_b9_s at hF
  refine w_iload_n hB 2 dX11_extra_9 rfl rfl ?_
  refine w_aload_n hB 0 dX11_extra_10 rfl rfl ?_
  refine w_getC hB (v := 313) ff_X11_11 sh_311 hp.1 cr_311_11 (by decide) q_1171 dX11_extra_11 ?_
  refine w_iconst hB 4 (by decide) dX11_extra_14 ?_
  refine w_iald hB sh_313 (Or.inl hp.1) sl_313 (by decide) dX11_extra_15 ?_
  rw [show (4 : Int32).toNatClampNeg = 4 by decide]
  refine w_icmp_ge hB 69 dX11_extra_16 (by decide) (fun hc => ?_) (fun hc => ?_)
  · replace hF := ifT hc hF
    refine w_iload_n hB 1 dX11_extra_69 rfl rfl ?_
    obtain ⟨e1, e2⟩ := retS hF
    subst e2
    exact w_iret hB dX11_extra_70 e1
  · replace hF := ifF hc hF
    refine w_iload_n hB 1 dX11_extra_19 rfl rfl ?_
    refine w_iload_n hB 2 dX11_extra_20 rfl rfl ?_
    refine w_if_eq hB 41 dX11_extra_21 (by decide) (fun hc => ?_) (fun hc => ?_)
    · replace hF := ifT hc hF
      exact Wt.sub (L' := [(0, vr 311), (2, vi x2)]) [0, 2] rfl (b_X11_extra_b41 hp hB h9 hF)
    · replace hF := ifF hc hF
      refine w_aload_n hB 0 dX11_extra_24 rfl rfl ?_
      refine w_getC hB (v := 330) ff_X11_28 sh_311 hp.1 cr_311_28 (by decide) q_1188 dX11_extra_25 ?_
      refine w_iload_n hB 2 dX11_extra_28 rfl rfl ?_
      obtain ⟨g1, hF⟩ := gdS hF
      refine w_iald hB sh_330 (Or.inl hp.1) sl_330 g1 dX11_extra_29 ?_
      refine w_aload_n hB 0 dX11_extra_30 rfl rfl ?_
      refine w_getC hB (v := 330) ff_X11_28 sh_311 hp.1 cr_311_28 (by decide) q_1188 dX11_extra_31 ?_
      refine w_iload_n hB 2 dX11_extra_34 rfl rfl ?_
      refine w_iconst hB 1 (by decide) dX11_extra_35 ?_
      refine w_isub hB dX11_extra_36 ?_
      obtain ⟨g2, hF⟩ := gdS hF
      refine w_iald hB sh_330 (Or.inl hp.1) sl_330 g2 dX11_extra_37 ?_
      refine w_icmp_eq hB 60 dX11_extra_38 (by decide) (fun hc => ?_) (fun hc => ?_)
      · replace hF := ifT hc hF
        refine w_iconst hB 0 (by decide) dX11_extra_60 ?_
        refine w_iadd hB dX11_extra_61 ?_
        obtain ⟨a1, e_a1, hF⟩ := bndS hF
        refine w_istore_n hB (L' := [(1, vi a1), (0, vr 311), (2, vi x2)]) dX11_extra_62 rfl (by decide) e_a1 rfl ?_
        obtain ⟨a2, e_a2, hF⟩ := bndS hF
        refine w_iinc hB 2 (v := 1) (L' := [(2, vi a2), (1, vi a1), (0, vr 311)]) dX11_extra_63 rfl (by decide) (by decide) e_a2 rfl ?_
        refine w_goto hB 9 dX11_extra_66 (by decide) ?_
        exact Wt.sub (L' := [(0, vr 311), (1, vi a1), (2, vi a2)]) [2, 1, 0] rfl (h9 _ _ M hF)
      · replace hF := ifF hc hF
        exact Wt.sub (L' := [(0, vr 311), (2, vi x2)]) [0, 2] rfl (b_X11_extra_b41 hp hB h9 hF)
def f_X11_extra_b9 (k : Nat) : Int32 → Int32 → Mem → Option (Int32 × Mem) := lpN (fun _ _ _ => none) (f_X11_extra_b9_s) k
theorem b_X11_extra_b9 {K : Kt} {X : Xt} (hp : St K) (hB : Bx K X { frames := 1, cells := 0, slots := 0, locals := 23 } cX11_extra 3 RX11 (some .int)) {r : Int32} {M1 : Mem} (k : Nat) : ∀ (x1 : Int32) (x2 : Int32) M, f_X11_extra_b9 k x1 x2 M = some (r, M1) → Wt K X (QM K X (some (vi r)) M1 0 0) 0 0 M 9 [(0, vr 311), (1, vi x1), (2, vi x2)] [] := by
  refine lpN_ind (P := fun (f : Int32 → Int32 → Mem → Option (Int32 × Mem)) => ∀ (x1 : Int32) (x2 : Int32) M, f x1 x2 M = some (r, M1) → Wt K X (QM K X (some (vi r)) M1 0 0) 0 0 M 9 [(0, vr 311), (1, vi x1), (2, vi x2)] []) (fun _ _ _ h => by cases h) (fun f hf x1 x2 M hF => ?_) k
  exact b_X11_extra_b9_s hp hB hf hF
def f_X11_extra (M : Mem) : Option (Int32 × Mem) :=
  bnd (setI M 311 0 0) fun M1m =>
  f_X11_extra_b9 fuel 0 0 M1m
set_option maxRecDepth 100000 in
set_option maxHeartbeats 4000000 in
theorem b_X11_extra {K : Kt} {X : Xt} (hp : St K) (hB : Bx K X { frames := 1, cells := 0, slots := 0, locals := 23 } cX11_extra 3 RX11 (some .int)) {r : Int32} {M1 : Mem} {M : Mem} (hF : f_X11_extra M = some (r, M1)) : Wt K X (QM K X (some (vi r)) M1 0 0) 0 0 M 0 [(0, vr 311)] [] := by
  unfold f_X11_extra at hF
  refine w_aload_n hB 0 dX11_extra_0 rfl rfl ?_
  refine w_iconst hB 0 (by decide) dX11_extra_1 ?_
  obtain ⟨M1m, e_M1m, hF⟩ := bndS hF
  refine w_putI hB ff_X11_0 sh_311 (Or.inl hp.1) q_1160 e_M1m dX11_extra_2 ?_
  refine w_iconst hB 0 (by decide) dX11_extra_5 ?_
  refine w_istore_n hB (L' := [(1, vi 0), (0, vr 311)]) dX11_extra_6 rfl (by decide) rfl rfl ?_
  refine w_iconst hB 0 (by decide) dX11_extra_7 ?_
  refine w_istore_n hB (L' := [(2, vi 0), (1, vi 0), (0, vr 311)]) dX11_extra_8 rfl (by decide) rfl rfl ?_
  exact Wt.sub (L' := [(0, vr 311), (1, vi 0), (2, vi 0)]) [2, 1, 0] rfl (b_X11_extra_b9 hp hB fuel _ _ M1m hF)
theorem c_X11_extra {K : Kt} {l : Launch} (hp : St K) {r : Int32} {M1 : Mem} {M : Mem} (hF : f_X11_extra M = some (r, M1)) : MT K l yX11_extra cX11_extra 3 (some .int) { frames := 1, cells := 0, slots := 0, locals := 23 } [vr 311] M (some (vi r)) M1 0 0 :=
  MT_of (by decide) rfl (Nat.le_of_ble_eq_true rfl) (fun X _ hB _ => b_X11_extra hp hB hF)
def f_X11_log_b37 (x1 : Int32) (x2 : Int32) (xs1 : Int32) (M : Mem) : Option (Int32 × Mem) :=
  bnd (setI M 311 0 xs1) fun M1m =>
  if (M1m.1 311 0) = 1 then
    some (0, M1m)
  else
    gd (inb ((50 + (4 * x1)) + x2) 114) <|
    some (M1m.1 340 ((50 + (4 * x1)) + x2).toNatClampNeg, M1m)
set_option maxRecDepth 100000 in
set_option maxHeartbeats 4000000 in
theorem b_X11_log_b37 {K : Kt} {X : Xt} (hp : St K) (hB : Bx K X { frames := 1, cells := 0, slots := 0, locals := 25 } cX11_log 3 RX11 (some .int)) {r : Int32} {M1 : Mem} {x1 : Int32} {x2 : Int32} {xs1 : Int32} {M : Mem} (hF : f_X11_log_b37 x1 x2 xs1 M = some (r, M1)) : Wt K X (QM K X (some (vi r)) M1 0 0) 0 0 M 37 [(0, vr 311), (1, vi x1), (2, vi x2)] [vi xs1, vr 311] := by
  unfold f_X11_log_b37 at hF
  obtain ⟨M1m, e_M1m, hF⟩ := bndS hF
  refine w_putI hB ff_X11_0 sh_311 (Or.inl hp.1) q_1160 e_M1m dX11_log_37 ?_
  refine w_aload_n hB 0 dX11_log_40 rfl rfl ?_
  refine w_getI hB ff_X11_0 sh_311 (Or.inl hp.1) q_1160 dX11_log_41 ?_
  refine w_iconst hB 1 (by decide) dX11_log_44 ?_
  refine w_icmp_ne hB 52 dX11_log_45 (by decide) (fun hc => ?_) (fun hc => ?_)
  · replace hF := ifF hc hF
    refine w_aload_n hB 0 dX11_log_52 rfl rfl ?_
    refine w_getC hB (v := 340) ff_X11_38 sh_311 hp.1 cr_311_38 (by decide) q_1198 dX11_log_53 ?_
    refine w_bipush hB 50 (by decide) dX11_log_56 ?_
    refine w_iconst hB 4 (by decide) dX11_log_58 ?_
    refine w_iload_n hB 1 dX11_log_59 rfl rfl ?_
    refine w_imul hB dX11_log_60 ?_
    refine w_iadd hB dX11_log_61 ?_
    refine w_iload_n hB 2 dX11_log_62 rfl rfl ?_
    refine w_iadd hB dX11_log_63 ?_
    obtain ⟨g1, hF⟩ := gdS hF
    refine w_iald hB sh_340 (Or.inl hp.1) sl_340 g1 dX11_log_64 ?_
    obtain ⟨e1, e2⟩ := retS hF
    subst e2
    exact w_iret hB dX11_log_65 e1
  · replace hF := ifT hc hF
    refine w_iconst hB 0 (by decide) dX11_log_48 ?_
    refine w_goto hB 65 dX11_log_49 (by decide) ?_
    obtain ⟨e1, e2⟩ := retS hF
    subst e2
    exact w_iret hB dX11_log_65 e1
def f_X11_log_b36 (x1 : Int32) (x2 : Int32) (M : Mem) : Option (Int32 × Mem) :=
  f_X11_log_b37 x1 x2 1 M
set_option maxRecDepth 100000 in
set_option maxHeartbeats 4000000 in
theorem b_X11_log_b36 {K : Kt} {X : Xt} (hp : St K) (hB : Bx K X { frames := 1, cells := 0, slots := 0, locals := 25 } cX11_log 3 RX11 (some .int)) {r : Int32} {M1 : Mem} {x1 : Int32} {x2 : Int32} {M : Mem} (hF : f_X11_log_b36 x1 x2 M = some (r, M1)) : Wt K X (QM K X (some (vi r)) M1 0 0) 0 0 M 36 [(0, vr 311), (1, vi x1), (2, vi x2)] [vr 311] := by
  unfold f_X11_log_b36 at hF
  refine w_iconst hB 1 (by decide) dX11_log_36 ?_
  exact Wt.sub (L' := [(0, vr 311), (1, vi x1), (2, vi x2)]) [0, 1, 2] rfl (b_X11_log_b37 hp hB hF)
def f_X11_log (x1 : Int32) (x2 : Int32) (M : Mem) : Option (Int32 × Mem) :=
  cl (f_X11_within (x1.toInt64) 0 (((M.1 340 49) - 1).toInt64) M) fun r1 M1m =>
  if r1 = 0 then
    f_X11_log_b36 x1 x2 M1m
  else
    cl (f_X11_within (x2.toInt64) 0 3 M1m) fun r2 M2m =>
    if r2 = 0 then
      f_X11_log_b36 x1 x2 M2m
    else
      f_X11_log_b37 x1 x2 0 M2m
set_option maxRecDepth 100000 in
set_option maxHeartbeats 4000000 in
theorem b_X11_log {K : Kt} {X : Xt} (hp : St K) (hB : Bx K X { frames := 1, cells := 0, slots := 0, locals := 25 } cX11_log 3 RX11 (some .int)) {r : Int32} {M1 : Mem} {x1 : Int32} {x2 : Int32} {M : Mem} (hF : f_X11_log x1 x2 M = some (r, M1)) : Wt K X (QM K X (some (vi r)) M1 0 0) 0 0 M 0 [(0, vr 311), (1, vi x1), (2, vi x2)] [] := by
  unfold f_X11_log at hF
  refine w_aload_n hB 0 dX11_log_0 rfl rfl ?_
  refine w_iload_n hB 1 dX11_log_1 rfl rfl ?_
  refine w_i2l hB dX11_log_2 ?_
  refine w_lconst hB 0 (by decide) dX11_log_3 ?_
  refine w_aload_n hB 0 dX11_log_4 rfl rfl ?_
  refine w_getC hB (v := 340) ff_X11_38 sh_311 hp.1 cr_311_38 (by decide) q_1198 dX11_log_5 ?_
  refine w_bipush hB 49 (by decide) dX11_log_8 ?_
  refine w_iald hB sh_340 (Or.inl hp.1) sl_340 (by decide) dX11_log_10 ?_
  rw [show (49 : Int32).toNatClampNeg = 49 by decide]
  refine w_iconst hB 1 (by decide) dX11_log_11 ?_
  refine w_isub hB dX11_log_12 ?_
  refine w_i2l hB dX11_log_13 ?_
  obtain ⟨r1, M1m, hc_M1m, hF⟩ := clS hF
  refine w_callS hB (As := [vl (x1.toInt64), vl 0, vl (((M.1 340 49) - 1).toInt64)]) (st := [vr 311]) cw_X11_156 q_1320 (c_X11_within hp hc_M1m) ⟨rfl, rfl⟩ (by decide) (by decide) rfl (Nat.le_of_ble_eq_true rfl) dX11_log_14 rfl ?_
  refine w_if_eq hB 36 dX11_log_17 (by decide) (fun hc => ?_) (fun hc => ?_)
  · replace hF := ifT hc hF
    exact Wt.sub (L' := [(0, vr 311), (1, vi x1), (2, vi x2)]) [0, 1, 2] rfl (b_X11_log_b36 hp hB hF)
  · replace hF := ifF hc hF
    refine w_iload_n hB 2 dX11_log_20 rfl rfl ?_
    refine w_i2l hB dX11_log_21 ?_
    refine w_lconst hB 0 (by decide) dX11_log_22 ?_
    refine w_ldc2 hB (v := 3) q_1516 dX11_log_23 ?_
    obtain ⟨r2, M2m, hc_M2m, hF⟩ := clS hF
    refine w_callS hB (As := [vl (x2.toInt64), vl 0, vl 3]) (st := [vr 311]) cw_X11_156 q_1320 (c_X11_within hp hc_M2m) ⟨rfl, rfl⟩ (by decide) (by decide) rfl (Nat.le_of_ble_eq_true rfl) dX11_log_26 rfl ?_
    refine w_if_eq hB 36 dX11_log_29 (by decide) (fun hc => ?_) (fun hc => ?_)
    · replace hF := ifT hc hF
      exact Wt.sub (L' := [(0, vr 311), (1, vi x1), (2, vi x2)]) [0, 1, 2] rfl (b_X11_log_b36 hp hB hF)
    · replace hF := ifF hc hF
      refine w_iconst hB 0 (by decide) dX11_log_32 ?_
      refine w_goto hB 37 dX11_log_33 (by decide) ?_
      exact Wt.sub (L' := [(0, vr 311), (1, vi x1), (2, vi x2)]) [0, 1, 2] rfl (b_X11_log_b37 hp hB hF)
theorem c_X11_log {K : Kt} {l : Launch} (hp : St K) {r : Int32} {M1 : Mem} {x1 : Int32} {x2 : Int32} {M : Mem} (hF : f_X11_log x1 x2 M = some (r, M1)) : MT K l yX11_log cX11_log 3 (some .int) { frames := 1, cells := 0, slots := 0, locals := 25 } [vr 311, vi x1, vi x2] M (some (vi r)) M1 0 0 :=
  MT_of (by decide) rfl (Nat.le_of_ble_eq_true rfl) (fun X _ hB _ => b_X11_log hp hB hF)
def f_X11_sheet_b108 (rec52 : Int32 → Int32 → Int32 → Mem → Option (Int32 × Mem)) (x1 : Int32) (x2 : Int32) (x4 : Int32) (xs1 : Int32) (xs2 : Int32) (M : Mem) : Option (Int32 × Mem) :=
  gd (inb xs1 16) <|
  bnd (setI M 345 (xs1.toNatClampNeg) xs2) fun M1m =>
  bnd (x4 + 1) fun a1 =>
  rec52 x1 x2 a1 M1m
set_option maxRecDepth 100000 in
set_option maxHeartbeats 4000000 in
theorem b_X11_sheet_b108 {K : Kt} {X : Xt} (hp : St K) (hB : Bx K X { frames := 1, cells := 0, slots := 0, locals := 25 } cX11_sheet 6 RX11 (some .int)) {r : Int32} {M1 : Mem} {rec52 : Int32 → Int32 → Int32 → Mem → Option (Int32 × Mem)}
    (h52 : ∀ x1 x2 x4 M, rec52 x1 x2 x4 M = some (r, M1) → Wt K X (QM K X (some (vi r)) M1 0 0) 0 0 M 52 [(0, vr 311), (1, vi x1), (2, vi x2), (4, vi x4)] []) {x1 : Int32} {x2 : Int32} {x4 : Int32} {xs1 : Int32} {xs2 : Int32} {M : Mem} (hF : f_X11_sheet_b108 rec52 x1 x2 x4 xs1 xs2 M = some (r, M1)) : Wt K X (QM K X (some (vi r)) M1 0 0) 0 0 M 108 [(0, vr 311), (1, vi x1), (2, vi x2), (4, vi x4)] [vi xs2, vi xs1, vr 345] := by
  unfold f_X11_sheet_b108 at hF
  obtain ⟨g1, hF⟩ := gdS hF
  obtain ⟨M1m, e_M1m, hF⟩ := bndS hF
  refine w_iast hB sh_345 (Or.inl hp.1) sl_345 g1 e_M1m dX11_sheet_108 ?_
  obtain ⟨a1, e_a1, hF⟩ := bndS hF
  refine w_iinc hB 3 (v := 1) (L' := [(4, vi a1), (0, vr 311), (1, vi x1), (2, vi x2)]) dX11_sheet_109 rfl (by decide) (by decide) e_a1 rfl ?_
  refine w_goto hB 52 dX11_sheet_112 (by decide) ?_
  exact Wt.sub (L' := [(0, vr 311), (1, vi x1), (2, vi x2), (4, vi a1)]) [1, 2, 3, 0] rfl (h52 _ _ _ M1m hF)
def f_X11_sheet_b52_s (rec52 : Int32 → Int32 → Int32 → Mem → Option (Int32 × Mem)) (x1 : Int32) (x2 : Int32) (x4 : Int32) (M : Mem) : Option (Int32 × Mem) :=
  if (M.1 311 46) ≤ x4 then
    some (M.1 311 46, M)
  else
    gd (inb ((50 + (4 * (x2 + x4))) + 3) 114) <|
    bnd (M.1 340 ((50 + (4 * (x2 + x4))) + 3).toNatClampNeg) fun a1 =>
    if x1 = 0 then
      f_X11_sheet_b108 rec52 x1 x2 x4 x4 (a1.toInt8.toInt32) M
    else
      if x1 = 1 then
        f_X11_sheet_b108 rec52 x1 x2 x4 x4 (a1.toInt16.toInt32) M
      else
        f_X11_sheet_b108 rec52 x1 x2 x4 x4 a1 M
set_option maxRecDepth 100000 in
set_option maxHeartbeats 4000000 in
theorem b_X11_sheet_b52_s {K : Kt} {X : Xt} (hp : St K) (hB : Bx K X { frames := 1, cells := 0, slots := 0, locals := 25 } cX11_sheet 6 RX11 (some .int)) {r : Int32} {M1 : Mem} {rec52 : Int32 → Int32 → Int32 → Mem → Option (Int32 × Mem)}
    (h52 : ∀ x1 x2 x4 M, rec52 x1 x2 x4 M = some (r, M1) → Wt K X (QM K X (some (vi r)) M1 0 0) 0 0 M 52 [(0, vr 311), (1, vi x1), (2, vi x2), (4, vi x4)] []) {x1 : Int32} {x2 : Int32} {x4 : Int32} {M : Mem} (hF : f_X11_sheet_b52_s rec52 x1 x2 x4 M = some (r, M1)) : Wt K X (QM K X (some (vi r)) M1 0 0) 0 0 M 52 [(0, vr 311), (1, vi x1), (2, vi x2), (4, vi x4)] [] := by
  unfold f_X11_sheet_b52_s at hF
  refine w_iload hB 3 dX11_sheet_52 rfl ?_
  refine w_aload_n hB 0 dX11_sheet_54 rfl rfl ?_
  refine w_getI hB ff_X11_46 sh_311 (Or.inl hp.1) q_1206 dX11_sheet_55 ?_
  refine w_icmp_ge hB 115 dX11_sheet_58 (by decide) (fun hc => ?_) (fun hc => ?_)
  · replace hF := ifT hc hF
    refine w_aload_n hB 0 dX11_sheet_115 rfl rfl ?_
    refine w_getI hB ff_X11_46 sh_311 (Or.inl hp.1) q_1206 dX11_sheet_116 ?_
    obtain ⟨e1, e2⟩ := retS hF
    subst e2
    exact w_iret hB dX11_sheet_119 e1
  · replace hF := ifF hc hF
    refine w_aload_n hB 0 dX11_sheet_61 rfl rfl ?_
    refine w_getC hB (v := 340) ff_X11_38 sh_311 hp.1 cr_311_38 (by decide) q_1198 dX11_sheet_62 ?_
    refine w_bipush hB 50 (by decide) dX11_sheet_65 ?_
    refine w_iconst hB 4 (by decide) dX11_sheet_67 ?_
    refine w_iload_n hB 2 dX11_sheet_68 rfl rfl ?_
    refine w_iload hB 3 dX11_sheet_69 rfl ?_
    refine w_iadd hB dX11_sheet_71 ?_
    refine w_imul hB dX11_sheet_72 ?_
    refine w_iadd hB dX11_sheet_73 ?_
    refine w_iconst hB 3 (by decide) dX11_sheet_74 ?_
    refine w_iadd hB dX11_sheet_75 ?_
    obtain ⟨g1, hF⟩ := gdS hF
    refine w_iald hB sh_340 (Or.inl hp.1) sl_340 g1 dX11_sheet_76 ?_
    obtain ⟨a1, e_a1, hF⟩ := bndS hF
    refine w_istore hB (L' := [(5, vi a1), (0, vr 311), (1, vi x1), (2, vi x2), (4, vi x4)]) dX11_sheet_77 (by decide) e_a1 rfl ?_
    refine w_aload_n hB 1 dX11_sheet_79 rfl rfl ?_
    refine w_getC hB (v := 345) ff_X11_45 sh_311 hp.1 cr_311_45 (by decide) q_1205 dX11_sheet_80 ?_
    refine w_iload hB 4 dX11_sheet_83 rfl ?_
    refine w_iload_n hB 2 dX11_sheet_85 rfl rfl ?_
    refine w_if_ne hB 95 dX11_sheet_86 (by decide) (fun hc => ?_) (fun hc => ?_)
    · replace hF := ifF hc hF
      refine w_iload_n hB 2 dX11_sheet_95 rfl rfl ?_
      refine w_iconst hB 1 (by decide) dX11_sheet_96 ?_
      refine w_icmp_ne hB 106 dX11_sheet_97 (by decide) (fun hc => ?_) (fun hc => ?_)
      · replace hF := ifF hc hF
        refine w_iload hB 0 dX11_sheet_106 rfl ?_
        exact Wt.sub (L' := [(0, vr 311), (1, vi x1), (2, vi x2), (4, vi x4)]) [1, 2, 3, 4] rfl (b_X11_sheet_b108 hp hB h52 hF)
      · replace hF := ifT hc hF
        refine w_iload hB 0 dX11_sheet_100 rfl ?_
        refine w_i2s hB dX11_sheet_102 ?_
        refine w_goto hB 108 dX11_sheet_103 (by decide) ?_
        exact Wt.sub (L' := [(0, vr 311), (1, vi x1), (2, vi x2), (4, vi x4)]) [1, 2, 3, 4] rfl (b_X11_sheet_b108 hp hB h52 hF)
    · replace hF := ifT hc hF
      refine w_iload hB 0 dX11_sheet_89 rfl ?_
      refine w_i2b hB dX11_sheet_91 ?_
      refine w_goto hB 108 dX11_sheet_92 (by decide) ?_
      exact Wt.sub (L' := [(0, vr 311), (1, vi x1), (2, vi x2), (4, vi x4)]) [1, 2, 3, 4] rfl (b_X11_sheet_b108 hp hB h52 hF)
def f_X11_sheet_b52 (k : Nat) : Int32 → Int32 → Int32 → Mem → Option (Int32 × Mem) := lpN (fun _ _ _ _ => none) (f_X11_sheet_b52_s) k
theorem b_X11_sheet_b52 {K : Kt} {X : Xt} (hp : St K) (hB : Bx K X { frames := 1, cells := 0, slots := 0, locals := 25 } cX11_sheet 6 RX11 (some .int)) {r : Int32} {M1 : Mem} (k : Nat) : ∀ (x1 : Int32) (x2 : Int32) (x4 : Int32) M, f_X11_sheet_b52 k x1 x2 x4 M = some (r, M1) → Wt K X (QM K X (some (vi r)) M1 0 0) 0 0 M 52 [(0, vr 311), (1, vi x1), (2, vi x2), (4, vi x4)] [] := by
  refine lpN_ind (P := fun (f : Int32 → Int32 → Int32 → Mem → Option (Int32 × Mem)) => ∀ (x1 : Int32) (x2 : Int32) (x4 : Int32) M, f x1 x2 x4 M = some (r, M1) → Wt K X (QM K X (some (vi r)) M1 0 0) 0 0 M 52 [(0, vr 311), (1, vi x1), (2, vi x2), (4, vi x4)] []) (fun _ _ _ _ h => by cases h) (fun f hf x1 x2 x4 M hF => ?_) k
  exact b_X11_sheet_b52_s hp hB hf hF
def f_X11_sheet (x1 : Int32) (x2 : Int32) (x3 : Int32) (M : Mem) : Option (Int32 × Mem) :=
  bnd (setI M 311 0 0) fun M1m =>
  cl (f_X11_within (x1.toInt64) 0 2 M1m) fun r1 M2m =>
  if r1 = 0 then
    some ((-1), M2m)
  else
    if x2 < 0 then
      some ((-1), M2m)
    else
      if x3 ≤ (M2m.1 340 49) then
        if x2 ≤ x3 then
          bnd (setI M2m 311 46 (x3 - x2)) fun M3m =>
          f_X11_sheet_b52 fuel x1 x2 0 M3m
        else
          some ((-2), M2m)
      else
        some ((-1), M2m)
set_option maxRecDepth 100000 in
set_option maxHeartbeats 4000000 in
theorem b_X11_sheet {K : Kt} {X : Xt} (hp : St K) (hB : Bx K X { frames := 1, cells := 0, slots := 0, locals := 25 } cX11_sheet 6 RX11 (some .int)) {r : Int32} {M1 : Mem} {x1 : Int32} {x2 : Int32} {x3 : Int32} {M : Mem} (hF : f_X11_sheet x1 x2 x3 M = some (r, M1)) : Wt K X (QM K X (some (vi r)) M1 0 0) 0 0 M 0 [(0, vr 311), (1, vi x1), (2, vi x2), (3, vi x3)] [] := by
  unfold f_X11_sheet at hF
  refine w_aload_n hB 0 dX11_sheet_0 rfl rfl ?_
  refine w_iconst hB 0 (by decide) dX11_sheet_1 ?_
  obtain ⟨M1m, e_M1m, hF⟩ := bndS hF
  refine w_putI hB ff_X11_0 sh_311 (Or.inl hp.1) q_1160 e_M1m dX11_sheet_2 ?_
  refine w_iload_n hB 1 dX11_sheet_5 rfl rfl ?_
  refine w_i2l hB dX11_sheet_6 ?_
  refine w_lconst hB 0 (by decide) dX11_sheet_7 ?_
  refine w_ldc2 hB (v := 2) q_1622 dX11_sheet_8 ?_
  obtain ⟨r1, M2m, hc_M2m, hF⟩ := clS hF
  refine w_callS hB (As := [vl (x1.toInt64), vl 0, vl 2]) (st := []) cw_X11_156 q_1320 (c_X11_within hp hc_M2m) ⟨rfl, rfl⟩ (by decide) (by decide) rfl (Nat.le_of_ble_eq_true rfl) dX11_sheet_11 rfl ?_
  refine w_if_eq hB 32 dX11_sheet_14 (by decide) (fun hc => ?_) (fun hc => ?_)
  · replace hF := ifT hc hF
    refine w_iconst hB (-1) (by decide) dX11_sheet_32 ?_
    obtain ⟨e1, e2⟩ := retS hF
    subst e2
    exact w_iret hB dX11_sheet_33 e1
  · replace hF := ifF hc hF
    refine w_iload_n hB 2 dX11_sheet_17 rfl rfl ?_
    refine w_if_lt hB 32 dX11_sheet_18 (by decide) (fun hc => ?_) (fun hc => ?_)
    · replace hF := ifT hc hF
      refine w_iconst hB (-1) (by decide) dX11_sheet_32 ?_
      obtain ⟨e1, e2⟩ := retS hF
      subst e2
      exact w_iret hB dX11_sheet_33 e1
    · replace hF := ifF hc hF
      refine w_iload_n hB 3 dX11_sheet_21 rfl rfl ?_
      refine w_aload_n hB 0 dX11_sheet_22 rfl rfl ?_
      refine w_getC hB (v := 340) ff_X11_38 sh_311 hp.1 cr_311_38 (by decide) q_1198 dX11_sheet_23 ?_
      refine w_bipush hB 49 (by decide) dX11_sheet_26 ?_
      refine w_iald hB sh_340 (Or.inl hp.1) sl_340 (by decide) dX11_sheet_28 ?_
      rw [show (49 : Int32).toNatClampNeg = 49 by decide]
      refine w_icmp_le hB 34 dX11_sheet_29 (by decide) (fun hc => ?_) (fun hc => ?_)
      · replace hF := ifT hc hF
        refine w_iload_n hB 3 dX11_sheet_34 rfl rfl ?_
        refine w_iload_n hB 2 dX11_sheet_35 rfl rfl ?_
        refine w_icmp_ge hB 42 dX11_sheet_36 (by decide) (fun hc => ?_) (fun hc => ?_)
        · replace hF := ifT hc hF
          refine w_aload_n hB 0 dX11_sheet_42 rfl rfl ?_
          refine w_iload_n hB 3 dX11_sheet_43 rfl rfl ?_
          refine w_iload_n hB 2 dX11_sheet_44 rfl rfl ?_
          refine w_isub hB dX11_sheet_45 ?_
          obtain ⟨M3m, e_M3m, hF⟩ := bndS hF
          refine w_putI hB ff_X11_46 sh_311 (Or.inl hp.1) q_1206 e_M3m dX11_sheet_46 ?_
          refine w_iconst hB 0 (by decide) dX11_sheet_49 ?_
          refine w_istore hB (L' := [(4, vi 0), (0, vr 311), (1, vi x1), (2, vi x2), (3, vi x3)]) dX11_sheet_50 (by decide) rfl rfl ?_
          exact Wt.sub (L' := [(0, vr 311), (1, vi x1), (2, vi x2), (4, vi 0)]) [1, 2, 3, 0] rfl (b_X11_sheet_b52 hp hB fuel _ _ _ M3m hF)
        · replace hF := ifF hc hF
          refine w_bipush hB (-2) (by decide) dX11_sheet_39 ?_
          obtain ⟨e1, e2⟩ := retS hF
          subst e2
          exact w_iret hB dX11_sheet_41 e1
      · replace hF := ifF hc hF
        refine w_iconst hB (-1) (by decide) dX11_sheet_32 ?_
        obtain ⟨e1, e2⟩ := retS hF
        subst e2
        exact w_iret hB dX11_sheet_33 e1
theorem c_X11_sheet {K : Kt} {l : Launch} (hp : St K) {r : Int32} {M1 : Mem} {x1 : Int32} {x2 : Int32} {x3 : Int32} {M : Mem} (hF : f_X11_sheet x1 x2 x3 M = some (r, M1)) : MT K l yX11_sheet cX11_sheet 6 (some .int) { frames := 1, cells := 0, slots := 0, locals := 25 } [vr 311, vi x1, vi x2, vi x3] M (some (vi r)) M1 0 0 :=
  MT_of (by decide) rfl (Nat.le_of_ble_eq_true rfl) (fun X _ hB _ => b_X11_sheet hp hB hF)
def f_X11_row_b22 (x1 : Int32) (xs1 : Int32) (M : Mem) : Option (Int32 × Mem) :=
  bnd (setI M 311 0 xs1) fun M1m =>
  if (M1m.1 311 0) = 1 then
    some (0, M1m)
  else
    gd (inb x1 16) <|
    some (M1m.1 345 x1.toNatClampNeg, M1m)
set_option maxRecDepth 100000 in
set_option maxHeartbeats 4000000 in
theorem b_X11_row_b22 {K : Kt} {X : Xt} (hp : St K) (hB : Bx K X { frames := 1, cells := 0, slots := 0, locals := 25 } cX11_row 2 RX11 (some .int)) {r : Int32} {M1 : Mem} {x1 : Int32} {xs1 : Int32} {M : Mem} (hF : f_X11_row_b22 x1 xs1 M = some (r, M1)) : Wt K X (QM K X (some (vi r)) M1 0 0) 0 0 M 22 [(0, vr 311), (1, vi x1)] [vi xs1, vr 311] := by
  unfold f_X11_row_b22 at hF
  obtain ⟨M1m, e_M1m, hF⟩ := bndS hF
  refine w_putI hB ff_X11_0 sh_311 (Or.inl hp.1) q_1160 e_M1m dX11_row_22 ?_
  refine w_aload_n hB 0 dX11_row_25 rfl rfl ?_
  refine w_getI hB ff_X11_0 sh_311 (Or.inl hp.1) q_1160 dX11_row_26 ?_
  refine w_iconst hB 1 (by decide) dX11_row_29 ?_
  refine w_icmp_ne hB 37 dX11_row_30 (by decide) (fun hc => ?_) (fun hc => ?_)
  · replace hF := ifF hc hF
    refine w_aload_n hB 0 dX11_row_37 rfl rfl ?_
    refine w_getC hB (v := 345) ff_X11_45 sh_311 hp.1 cr_311_45 (by decide) q_1205 dX11_row_38 ?_
    refine w_iload_n hB 1 dX11_row_41 rfl rfl ?_
    obtain ⟨g1, hF⟩ := gdS hF
    refine w_iald hB sh_345 (Or.inl hp.1) sl_345 g1 dX11_row_42 ?_
    obtain ⟨e1, e2⟩ := retS hF
    subst e2
    exact w_iret hB dX11_row_43 e1
  · replace hF := ifT hc hF
    refine w_iconst hB 0 (by decide) dX11_row_33 ?_
    refine w_goto hB 43 dX11_row_34 (by decide) ?_
    obtain ⟨e1, e2⟩ := retS hF
    subst e2
    exact w_iret hB dX11_row_43 e1
def f_X11_row (x1 : Int32) (M : Mem) : Option (Int32 × Mem) :=
  cl (f_X11_within (x1.toInt64) 0 (((M.1 311 46) - 1).toInt64) M) fun r1 M1m =>
  if r1 = 0 then
    f_X11_row_b22 x1 1 M1m
  else
    f_X11_row_b22 x1 0 M1m
set_option maxRecDepth 100000 in
set_option maxHeartbeats 4000000 in
theorem b_X11_row {K : Kt} {X : Xt} (hp : St K) (hB : Bx K X { frames := 1, cells := 0, slots := 0, locals := 25 } cX11_row 2 RX11 (some .int)) {r : Int32} {M1 : Mem} {x1 : Int32} {M : Mem} (hF : f_X11_row x1 M = some (r, M1)) : Wt K X (QM K X (some (vi r)) M1 0 0) 0 0 M 0 [(0, vr 311), (1, vi x1)] [] := by
  unfold f_X11_row at hF
  refine w_aload_n hB 0 dX11_row_0 rfl rfl ?_
  refine w_iload_n hB 1 dX11_row_1 rfl rfl ?_
  refine w_i2l hB dX11_row_2 ?_
  refine w_lconst hB 0 (by decide) dX11_row_3 ?_
  refine w_aload_n hB 0 dX11_row_4 rfl rfl ?_
  refine w_getI hB ff_X11_46 sh_311 (Or.inl hp.1) q_1206 dX11_row_5 ?_
  refine w_iconst hB 1 (by decide) dX11_row_8 ?_
  refine w_isub hB dX11_row_9 ?_
  refine w_i2l hB dX11_row_10 ?_
  obtain ⟨r1, M1m, hc_M1m, hF⟩ := clS hF
  refine w_callS hB (As := [vl (x1.toInt64), vl 0, vl (((M.1 311 46) - 1).toInt64)]) (st := [vr 311]) cw_X11_156 q_1320 (c_X11_within hp hc_M1m) ⟨rfl, rfl⟩ (by decide) (by decide) rfl (Nat.le_of_ble_eq_true rfl) dX11_row_11 rfl ?_
  refine w_if_eq hB 21 dX11_row_14 (by decide) (fun hc => ?_) (fun hc => ?_)
  · replace hF := ifT hc hF
    refine w_iconst hB 1 (by decide) dX11_row_21 ?_
    exact Wt.sub (L' := [(0, vr 311), (1, vi x1)]) [0, 1] rfl (b_X11_row_b22 hp hB hF)
  · replace hF := ifF hc hF
    refine w_iconst hB 0 (by decide) dX11_row_17 ?_
    refine w_goto hB 22 dX11_row_18 (by decide) ?_
    exact Wt.sub (L' := [(0, vr 311), (1, vi x1)]) [0, 1] rfl (b_X11_row_b22 hp hB hF)
theorem c_X11_row {K : Kt} {l : Launch} (hp : St K) {r : Int32} {M1 : Mem} {x1 : Int32} {M : Mem} (hF : f_X11_row x1 M = some (r, M1)) : MT K l yX11_row cX11_row 2 (some .int) { frames := 1, cells := 0, slots := 0, locals := 25 } [vr 311, vi x1] M (some (vi r)) M1 0 0 :=
  MT_of (by decide) rfl (Nat.le_of_ble_eq_true rfl) (fun X _ hB _ => b_X11_row hp hB hF)
