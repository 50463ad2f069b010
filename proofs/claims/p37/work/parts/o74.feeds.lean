/-! feeds -/
def f_L_feeds_b64 (N : Nat) (xs : Nat → Int32) (rec7 : Nat → Int32 → Int32 → Mem → Option (Int32 × Mem)) (rec20 : Nat → Int32 → Int32 → Nat → Int32 → Mem → Option (Int32 × Mem)) (n1 : Nat) (x2 : Int32) (x3 : Int32) (n4 : Nat) (x5 : Int32) (ns0 : Nat) (xs1 : Int32) (xs2 : Int32) (xs3 : Int32) (M : Mem) : Option (Int32 × Mem) :=
  gd (1000 ≤ ns0 ∧ dsc M ns0 = 20 ∧ ns0 - 753 < M.2.2.2) <|
  gd (inb xs1 (dln M ns0)) <|
  bnd (setI M ns0 (xs1.toNatClampNeg) (xs2 ||| xs3)) fun M1m =>
  bnd (x5 + 1) fun a1 =>
  rec20 n1 x2 x3 n4 a1 M1m
set_option maxRecDepth 100000 in
set_option maxHeartbeats 4000000 in
theorem m_L_feeds_b64 {N : Nat} {xs : Nat → Int32} {rec7 : Nat → Int32 → Int32 → Mem → Option (Int32 × Mem)} {rec20 : Nat → Int32 → Int32 → Nat → Int32 → Mem → Option (Int32 × Mem)} (G7 : (∀ (n1 : Nat) (x2 : Int32) (x3 : Int32) (M Z : Mem) (r : Int32), rec7 n1 x2 x3 M = some (r, Z) → GX M Z)) (G20 : (∀ (n1 : Nat) (x2 : Int32) (x3 : Int32) (n4 : Nat) (x5 : Int32) (M Z : Mem) (r : Int32), rec20 n1 x2 x3 n4 x5 M = some (r, Z) → GX M Z)) {n1 : Nat} {x2 : Int32} {x3 : Int32} {n4 : Nat} {x5 : Int32} {ns0 : Nat} {xs1 : Int32} {xs2 : Int32} {xs3 : Int32} {M Z : Mem} {r : Int32} (h : f_L_feeds_b64 N xs rec7 rec20 n1 x2 x3 n4 x5 ns0 xs1 xs2 xs3 M = some (r, Z)) : GX M Z := by
  unfold f_L_feeds_b64 at h
  obtain ⟨gq0, h⟩ := gdS h
  obtain ⟨gq1, h⟩ := gdS h
  obtain ⟨M1m, e_M1m, h⟩ := bndS h
  have q_M1m : GX M M1m := GX.tr (GX.refl M) (by rw [e_M1m]; exact (EQ_I _ _ _ _).gx)
  obtain ⟨a1, e_a1, h⟩ := bndS h
  exact GX.tr q_M1m (G20 _ _ _ _ _ _ _ _ h)
set_option maxRecDepth 100000 in
set_option maxHeartbeats 4000000 in
theorem b_L_feeds_b64 {K : Kt} {X : Xt} (hp : St K) (hk : KC K) {N : Nat} {xs : Nat → Int32} (hq : KScr K N xs) {mc ms : Nat} (hB : Bx K X { frames := 8, cells := mc, slots := ms, locals := 175 } cL_feeds 6 RL (some .int)) {r : Int32} {M1 : Mem} {rec7 : Nat → Int32 → Int32 → Mem → Option (Int32 × Mem)} {rec20 : Nat → Int32 → Int32 → Nat → Int32 → Mem → Option (Int32 × Mem)}
    (G7 : (∀ (n1 : Nat) (x2 : Int32) (x3 : Int32) (M Z : Mem) (r : Int32), rec7 n1 x2 x3 M = some (r, Z) → GX M Z)) (h7 : (∀ (n1 : Nat) (x2 : Int32) (x3 : Int32) (ce sl : Nat) (M : Mem), rec7 n1 x2 x3 M = some (r, M1) → mc + M.2.2.2 = ce + M1.2.2.2 → ms + szM M = sl + szM M1 → Wt K X (QM K X (some (vi r)) M1 mc ms) ce sl M 7 [(0, vr 64), (1, vr n1), (2, vi x2), (3, vi x3)] []))
    (G20 : (∀ (n1 : Nat) (x2 : Int32) (x3 : Int32) (n4 : Nat) (x5 : Int32) (M Z : Mem) (r : Int32), rec20 n1 x2 x3 n4 x5 M = some (r, Z) → GX M Z)) (h20 : (∀ (n1 : Nat) (x2 : Int32) (x3 : Int32) (n4 : Nat) (x5 : Int32) (ce sl : Nat) (M : Mem), rec20 n1 x2 x3 n4 x5 M = some (r, M1) → mc + M.2.2.2 = ce + M1.2.2.2 → ms + szM M = sl + szM M1 → Wt K X (QM K X (some (vi r)) M1 mc ms) ce sl M 20 [(0, vr 64), (1, vr n1), (2, vi x2), (3, vi x3), (4, vr n4), (5, vi x5)] [])) {n1 : Nat} {x2 : Int32} {x3 : Int32} {n4 : Nat} {x5 : Int32} {ns0 : Nat} {xs1 : Int32} {xs2 : Int32} {xs3 : Int32} {ce sl : Nat} {M : Mem} (hF : f_L_feeds_b64 N xs rec7 rec20 n1 x2 x3 n4 x5 ns0 xs1 xs2 xs3 M = some (r, M1)) (hn : mc + M.2.2.2 = ce + M1.2.2.2) (hz : ms + szM M = sl + szM M1) : Wt K X (QM K X (some (vi r)) M1 mc ms) ce sl M 64 [(0, vr 64), (1, vr n1), (2, vi x2), (3, vi x3), (4, vr n4), (5, vi x5)] [vi xs3, vi xs2, vi xs1, vr ns0] := by
  have hg := m_L_feeds_b64 G7 G20 hF
  have hg1 := hg.1
  have hg2 := hg.2.1
  unfold f_L_feeds_b64 at hF
  refine w_ior hB dL_feeds_64 ?_
  obtain ⟨g1, hF⟩ := gdS hF
  obtain ⟨g2, hF⟩ := gdS hF
  obtain ⟨M1m, e_M1m, hF⟩ := bndS hF
  have q_M1m : EQ M M1m := by rw [e_M1m]; exact EQ_I _ _ _ _
  have x_M1m := q_M1m.gx
  have n_M1m := q_M1m.1
  have z_M1m := q_M1m.sz
  refine w_iast hB (dqM g1) (sl_d g1.1 rfl) g2 e_M1m dL_feeds_65 ?_
  obtain ⟨a1, e_a1, hF⟩ := bndS hF
  refine w_iinc hB 5 (v := 1) (L' := [(5, vi a1), (0, vr 64), (1, vr n1), (2, vi x2), (3, vi x3), (4, vr n4)]) dL_feeds_66 rfl (by decide) (by decide) e_a1 rfl ?_
  refine w_goto hB 20 dL_feeds_69 (by decide) ?_
  exact Wt.sub (L' := [(0, vr 64), (1, vr n1), (2, vi x2), (3, vi x3), (4, vr n4), (5, vi a1)]) [1, 2, 3, 4, 5, 0] rfl (h20 _ _ _ _ _ _ _ M1m hF (by omega) (by omega))
def f_L_feeds_b20_s (N : Nat) (xs : Nat → Int32) (rec7 : Nat → Int32 → Int32 → Mem → Option (Int32 × Mem)) (rec20 : Nat → Int32 → Int32 → Nat → Int32 → Mem → Option (Int32 × Mem)) (n1 : Nat) (x2 : Int32) (x3 : Int32) (n4 : Nat) (x5 : Int32) (M : Mem) : Option (Int32 × Mem) :=
  if 20 ≤ x5 then
    gd (1000 ≤ n4 ∧ dsc M n4 = 20 ∧ n4 - 753 < M.2.2.2) <|
    gd (inb 0 (dln M n4)) <|
    gd (inb 1 (dln M n4)) <|
    gd (inb 2 (dln M n4)) <|
    gd (inb 3 (dln M n4)) <|
    gd (inb 4 (dln M n4)) <|
    cl (f_X10_feedG (M.1 n4 0) (M.1 n4 1) (M.1 n4 2) (M.1 n4 3) (M.1 n4 4) M) fun r1 M1m =>
    bnd (x3 + 20) fun a1 =>
    rec7 n1 x2 a1 M1m
  else
    gd (1000 ≤ n4 ∧ dsc M n4 = 20 ∧ n4 - 753 < M.2.2.2) <|
    gd (inb (x5 / 4) (dln M n4)) <|
    if x2 ≤ (x3 + x5) then
      f_L_feeds_b64 N xs rec7 rec20 n1 x2 x3 n4 x5 n4 (x5 / 4) ((M.1 n4 (x5 / 4).toNatClampNeg) <<< ((8 : Int32) &&& 31)) 32 M
    else
      gd (1000 ≤ n1 ∧ dsc M n1 = 10 ∧ n1 - 753 < M.2.2.2) <|
      cl (f_J0_charAt_5068eD n1 (x3 + x5) M) fun r2 M2m =>
      f_L_feeds_b64 N xs rec7 rec20 n1 x2 x3 n4 x5 n4 (x5 / 4) ((M.1 n4 (x5 / 4).toNatClampNeg) <<< ((8 : Int32) &&& 31)) r2 M2m
set_option maxRecDepth 100000 in
set_option maxHeartbeats 4000000 in
theorem m_L_feeds_b20_s {N : Nat} {xs : Nat → Int32} {rec7 : Nat → Int32 → Int32 → Mem → Option (Int32 × Mem)} {rec20 : Nat → Int32 → Int32 → Nat → Int32 → Mem → Option (Int32 × Mem)} (G7 : (∀ (n1 : Nat) (x2 : Int32) (x3 : Int32) (M Z : Mem) (r : Int32), rec7 n1 x2 x3 M = some (r, Z) → GX M Z)) (G20 : (∀ (n1 : Nat) (x2 : Int32) (x3 : Int32) (n4 : Nat) (x5 : Int32) (M Z : Mem) (r : Int32), rec20 n1 x2 x3 n4 x5 M = some (r, Z) → GX M Z)) {n1 : Nat} {x2 : Int32} {x3 : Int32} {n4 : Nat} {x5 : Int32} {M Z : Mem} {r : Int32} (h : f_L_feeds_b20_s N xs rec7 rec20 n1 x2 x3 n4 x5 M = some (r, Z)) : GX M Z := by
  unfold f_L_feeds_b20_s at h
  rcases ifS h with ⟨-, h⟩ | ⟨-, h⟩
  · obtain ⟨gq1, h⟩ := gdS h
    obtain ⟨gq2, h⟩ := gdS h
    obtain ⟨gq3, h⟩ := gdS h
    obtain ⟨gq4, h⟩ := gdS h
    obtain ⟨gq5, h⟩ := gdS h
    obtain ⟨gq6, h⟩ := gdS h
    obtain ⟨r1, M1m, c_M1m, h⟩ := clS h
    have q_M1m : GX M M1m := GX.tr (GX.refl M) ((k_X10_feedG c_M1m).gx)
    obtain ⟨a1, e_a1, h⟩ := bndS h
    exact GX.tr q_M1m (G7 _ _ _ _ _ _ h)
  · obtain ⟨gq11, h⟩ := gdS h
    obtain ⟨gq12, h⟩ := gdS h
    rcases ifS h with ⟨-, h⟩ | ⟨-, h⟩
    · exact GX.tr (GX.refl M) (m_L_feeds_b64 G7 G20 h)
    · obtain ⟨gq16, h⟩ := gdS h
      obtain ⟨r2, M2m, c_M2m, h⟩ := clS h
      have q_M2m : GX M M2m := GX.tr (GX.refl M) ((k_J0_charAt_5068eD c_M2m).gx)
      exact GX.tr q_M2m (m_L_feeds_b64 G7 G20 h)
set_option maxRecDepth 100000 in
set_option maxHeartbeats 4000000 in
theorem b_L_feeds_b20_s {K : Kt} {X : Xt} (hp : St K) (hk : KC K) {N : Nat} {xs : Nat → Int32} (hq : KScr K N xs) {mc ms : Nat} (hB : Bx K X { frames := 8, cells := mc, slots := ms, locals := 175 } cL_feeds 6 RL (some .int)) {r : Int32} {M1 : Mem} {rec7 : Nat → Int32 → Int32 → Mem → Option (Int32 × Mem)} {rec20 : Nat → Int32 → Int32 → Nat → Int32 → Mem → Option (Int32 × Mem)}
    (G7 : (∀ (n1 : Nat) (x2 : Int32) (x3 : Int32) (M Z : Mem) (r : Int32), rec7 n1 x2 x3 M = some (r, Z) → GX M Z)) (h7 : (∀ (n1 : Nat) (x2 : Int32) (x3 : Int32) (ce sl : Nat) (M : Mem), rec7 n1 x2 x3 M = some (r, M1) → mc + M.2.2.2 = ce + M1.2.2.2 → ms + szM M = sl + szM M1 → Wt K X (QM K X (some (vi r)) M1 mc ms) ce sl M 7 [(0, vr 64), (1, vr n1), (2, vi x2), (3, vi x3)] []))
    (G20 : (∀ (n1 : Nat) (x2 : Int32) (x3 : Int32) (n4 : Nat) (x5 : Int32) (M Z : Mem) (r : Int32), rec20 n1 x2 x3 n4 x5 M = some (r, Z) → GX M Z)) (h20 : (∀ (n1 : Nat) (x2 : Int32) (x3 : Int32) (n4 : Nat) (x5 : Int32) (ce sl : Nat) (M : Mem), rec20 n1 x2 x3 n4 x5 M = some (r, M1) → mc + M.2.2.2 = ce + M1.2.2.2 → ms + szM M = sl + szM M1 → Wt K X (QM K X (some (vi r)) M1 mc ms) ce sl M 20 [(0, vr 64), (1, vr n1), (2, vi x2), (3, vi x3), (4, vr n4), (5, vi x5)] [])) {n1 : Nat} {x2 : Int32} {x3 : Int32} {n4 : Nat} {x5 : Int32} {ce sl : Nat} {M : Mem} (hF : f_L_feeds_b20_s N xs rec7 rec20 n1 x2 x3 n4 x5 M = some (r, M1)) (hn : mc + M.2.2.2 = ce + M1.2.2.2) (hz : ms + szM M = sl + szM M1) : Wt K X (QM K X (some (vi r)) M1 mc ms) ce sl M 20 [(0, vr 64), (1, vr n1), (2, vi x2), (3, vi x3), (4, vr n4), (5, vi x5)] [] := by
  have hg := m_L_feeds_b20_s G7 G20 hF
  have hg1 := hg.1
  have hg2 := hg.2.1
  unfold f_L_feeds_b20_s at hF
  refine w_iload hB 5 dL_feeds_20 rfl ?_
  refine w_bipush hB 20 (by decide) dL_feeds_22 ?_
  refine w_icmp_ge hB 72 dL_feeds_24 (by decide) (fun hc => ?_) (fun hc => ?_)
  · replace hF := ifT hc hF
    refine w_aload_n hB 0 dL_feeds_72 rfl rfl ?_
    refine w_aload hB 4 dL_feeds_73 rfl ?_
    refine w_iconst hB 0 (by decide) dL_feeds_75 ?_
    obtain ⟨g1, hF⟩ := gdS hF
    obtain ⟨g2, hF⟩ := gdS hF
    refine w_iald hB (dqM g1) (sl_d g1.1 rfl) g2 dL_feeds_76 ?_
    rw [show (0 : Int32).toNatClampNeg = 0 by decide]
    refine w_aload hB 4 dL_feeds_77 rfl ?_
    refine w_iconst hB 1 (by decide) dL_feeds_79 ?_
    obtain ⟨g3, hF⟩ := gdS hF
    refine w_iald hB (dqM g1) (sl_d g1.1 rfl) g3 dL_feeds_80 ?_
    rw [show (1 : Int32).toNatClampNeg = 1 by decide]
    refine w_aload hB 4 dL_feeds_81 rfl ?_
    refine w_iconst hB 2 (by decide) dL_feeds_83 ?_
    obtain ⟨g4, hF⟩ := gdS hF
    refine w_iald hB (dqM g1) (sl_d g1.1 rfl) g4 dL_feeds_84 ?_
    rw [show (2 : Int32).toNatClampNeg = 2 by decide]
    refine w_aload hB 4 dL_feeds_85 rfl ?_
    refine w_iconst hB 3 (by decide) dL_feeds_87 ?_
    obtain ⟨g5, hF⟩ := gdS hF
    refine w_iald hB (dqM g1) (sl_d g1.1 rfl) g5 dL_feeds_88 ?_
    rw [show (3 : Int32).toNatClampNeg = 3 by decide]
    refine w_aload hB 4 dL_feeds_89 rfl ?_
    refine w_iconst hB 4 (by decide) dL_feeds_91 ?_
    obtain ⟨g6, hF⟩ := gdS hF
    refine w_iald hB (dqM g1) (sl_d g1.1 rfl) g6 dL_feeds_92 ?_
    rw [show (4 : Int32).toNatClampNeg = 4 by decide]
    obtain ⟨r1, M1m, hc_M1m, hF⟩ := clS hF
    have q_M1m : EQ M M1m := k_X10_feedG hc_M1m
    have x_M1m := q_M1m.gx
    have n_M1m := q_M1m.1
    have z_M1m := q_M1m.sz
    obtain ⟨Mx_M1m, hx_M1m, gx_M1m⟩ := gho_s hc_M1m
    refine w_callV (M1 := Mx_M1m) hB (ci := 8) (As := [vi (M.1 n4 0), vi (M.1 n4 1), vi (M.1 n4 2), vi (M.1 n4 3), vi (M.1 n4 4)]) (st := []) cw_L_25 q_889 q_890 rfl (soM hp.1 sh_64 (by decide)) (c_X10_feed hp hx_M1m) ⟨rfl, rfl⟩ ⟨Nat.le_of_ble_eq_true rfl, Nat.le_of_ble_eq_true rfl⟩ ⟨show ce ≤ mc by omega, show sl ≤ ms by omega⟩ rfl (Nat.le_of_ble_eq_true rfl) dL_feeds_93 rfl ?_ (Or.inl rfl)
    refine Wt.gho gx_M1m ?_
    refine w_pop hB rfl dL_feeds_96 ?_
    obtain ⟨a1, e_a1, hF⟩ := bndS hF
    refine w_iinc hB 3 (v := 20) (L' := [(3, vi a1), (0, vr 64), (1, vr n1), (2, vi x2), (4, vr n4), (5, vi x5)]) dL_feeds_97 rfl (by decide) (by decide) e_a1 rfl ?_
    refine w_goto hB 7 dL_feeds_100 (by decide) ?_
    exact Wt.sub (L' := [(0, vr 64), (1, vr n1), (2, vi x2), (3, vi a1)]) [1, 2, 3, 0] rfl (h7 _ _ _ _ _ M1m hF (by omega) (by omega))
  · replace hF := ifF hc hF
    refine w_aload hB 4 dL_feeds_27 rfl ?_
    refine w_iload hB 5 dL_feeds_29 rfl ?_
    refine w_iconst hB 4 (by decide) dL_feeds_31 ?_
    refine w_idiv hB (by decide) dL_feeds_32 ?_
    refine w_aload hB 4 dL_feeds_33 rfl ?_
    refine w_iload hB 5 dL_feeds_35 rfl ?_
    refine w_iconst hB 4 (by decide) dL_feeds_37 ?_
    refine w_idiv hB (by decide) dL_feeds_38 ?_
    obtain ⟨g7, hF⟩ := gdS hF
    obtain ⟨g8, hF⟩ := gdS hF
    refine w_iald hB (dqM g7) (sl_d g7.1 rfl) g8 dL_feeds_39 ?_
    refine w_bipush hB 8 (by decide) dL_feeds_40 ?_
    refine w_ishl hB dL_feeds_42 ?_
    refine w_iload_n hB 3 dL_feeds_43 rfl rfl ?_
    refine w_iload hB 5 dL_feeds_44 rfl ?_
    refine w_iadd hB dL_feeds_46 ?_
    refine w_iload_n hB 2 dL_feeds_47 rfl rfl ?_
    refine w_icmp_ge hB 62 dL_feeds_48 (by decide) (fun hc => ?_) (fun hc => ?_)
    · replace hF := ifT hc hF
      refine w_bipush hB 32 (by decide) dL_feeds_62 ?_
      exact Wt.sub (L' := [(0, vr 64), (1, vr n1), (2, vi x2), (3, vi x3), (4, vr n4), (5, vi x5)]) [0, 1, 2, 3, 4, 5] rfl (b_L_feeds_b64 hp hk hq hB G7 h7 G20 h20 hF (by omega) (by omega))
    · replace hF := ifF hc hF
      refine w_aload_n hB 1 dL_feeds_51 rfl rfl ?_
      refine w_iload_n hB 3 dL_feeds_52 rfl rfl ?_
      refine w_iload hB 5 dL_feeds_53 rfl ?_
      refine w_iadd hB dL_feeds_55 ?_
      obtain ⟨g9, hF⟩ := gdS hF
      obtain ⟨r2, M2m, hc_M2m, hF⟩ := clS hF
      have q_M2m : EQ M M2m := k_J0_charAt_5068eD hc_M2m
      have x_M2m := q_M2m.gx
      have n_M2m := q_M2m.1
      have z_M2m := q_M2m.sz
      refine w_callV (M1 := M2m) hB (ci := 9) (As := [vi (x3 + x5)]) (st := [vi ((M.1 n4 (x5 / 4).toNatClampNeg) <<< ((8 : Int32) &&& 31)), vi (x5 / 4), vr n4]) cw_L_21 q_874 q_875 rfl (dqM g9) (c_J0_charAt_5068eD hp hc_M2m) ⟨rfl, rfl⟩ ⟨Nat.le_of_ble_eq_true rfl, Nat.le_of_ble_eq_true rfl⟩ ⟨show ce ≤ mc by omega, show sl ≤ ms by omega⟩ rfl (Nat.le_of_ble_eq_true rfl) dL_feeds_56 rfl ?_ (Or.inl rfl)
      refine w_goto hB 64 dL_feeds_59 (by decide) ?_
      exact Wt.sub (L' := [(0, vr 64), (1, vr n1), (2, vi x2), (3, vi x3), (4, vr n4), (5, vi x5)]) [0, 1, 2, 3, 4, 5] rfl (b_L_feeds_b64 hp hk hq hB G7 h7 G20 h20 hF (by omega) (by omega))
def f_L_feeds_b20 (N : Nat) (xs : Nat → Int32) (rec7 : Nat → Int32 → Int32 → Mem → Option (Int32 × Mem)) (k : Nat) : Nat → Int32 → Int32 → Nat → Int32 → Mem → Option (Int32 × Mem) := lpN (fun _ _ _ _ _ _ => none) (f_L_feeds_b20_s N xs rec7) k
theorem m_L_feeds_b20 {N : Nat} {xs : Nat → Int32} {rec7 : Nat → Int32 → Int32 → Mem → Option (Int32 × Mem)} (G7 : (∀ (n1 : Nat) (x2 : Int32) (x3 : Int32) (M Z : Mem) (r : Int32), rec7 n1 x2 x3 M = some (r, Z) → GX M Z)) (k : Nat) : (∀ (n1 : Nat) (x2 : Int32) (x3 : Int32) (n4 : Nat) (x5 : Int32) (M Z : Mem) (r : Int32), f_L_feeds_b20 N xs rec7 k n1 x2 x3 n4 x5 M = some (r, Z) → GX M Z) :=
  lpN_ind (P := fun (f : Nat → Int32 → Int32 → Nat → Int32 → Mem → Option (Int32 × Mem)) => (∀ (n1 : Nat) (x2 : Int32) (x3 : Int32) (n4 : Nat) (x5 : Int32) (M Z : Mem) (r : Int32), f n1 x2 x3 n4 x5 M = some (r, Z) → GX M Z)) (fun _ _ _ _ _ _ _ _ h => by cases h) (fun f hf _ _ _ _ _ _ _ _ h => m_L_feeds_b20_s G7 hf h) k
theorem b_L_feeds_b20 {K : Kt} {X : Xt} (hp : St K) (hk : KC K) {N : Nat} {xs : Nat → Int32} (hq : KScr K N xs) {mc ms : Nat} (hB : Bx K X { frames := 8, cells := mc, slots := ms, locals := 175 } cL_feeds 6 RL (some .int)) {r : Int32} {M1 : Mem} {rec7 : Nat → Int32 → Int32 → Mem → Option (Int32 × Mem)}
    (G7 : (∀ (n1 : Nat) (x2 : Int32) (x3 : Int32) (M Z : Mem) (r : Int32), rec7 n1 x2 x3 M = some (r, Z) → GX M Z)) (h7 : (∀ (n1 : Nat) (x2 : Int32) (x3 : Int32) (ce sl : Nat) (M : Mem), rec7 n1 x2 x3 M = some (r, M1) → mc + M.2.2.2 = ce + M1.2.2.2 → ms + szM M = sl + szM M1 → Wt K X (QM K X (some (vi r)) M1 mc ms) ce sl M 7 [(0, vr 64), (1, vr n1), (2, vi x2), (3, vi x3)] [])) (k : Nat) : (∀ (n1 : Nat) (x2 : Int32) (x3 : Int32) (n4 : Nat) (x5 : Int32) (ce sl : Nat) (M : Mem), f_L_feeds_b20 N xs rec7 k n1 x2 x3 n4 x5 M = some (r, M1) → mc + M.2.2.2 = ce + M1.2.2.2 → ms + szM M = sl + szM M1 → Wt K X (QM K X (some (vi r)) M1 mc ms) ce sl M 20 [(0, vr 64), (1, vr n1), (2, vi x2), (3, vi x3), (4, vr n4), (5, vi x5)] []) :=
  (lpN_ind (P := fun (f : Nat → Int32 → Int32 → Nat → Int32 → Mem → Option (Int32 × Mem)) => (∀ (n1 : Nat) (x2 : Int32) (x3 : Int32) (n4 : Nat) (x5 : Int32) (M Z : Mem) (r : Int32), f n1 x2 x3 n4 x5 M = some (r, Z) → GX M Z) ∧ (∀ (n1 : Nat) (x2 : Int32) (x3 : Int32) (n4 : Nat) (x5 : Int32) (ce sl : Nat) (M : Mem), f n1 x2 x3 n4 x5 M = some (r, M1) → mc + M.2.2.2 = ce + M1.2.2.2 → ms + szM M = sl + szM M1 → Wt K X (QM K X (some (vi r)) M1 mc ms) ce sl M 20 [(0, vr 64), (1, vr n1), (2, vi x2), (3, vi x3), (4, vr n4), (5, vi x5)] [])) ⟨fun _ _ _ _ _ _ _ _ h => (by cases h), fun _ _ _ _ _ _ _ _ h _ _ => (by cases h)⟩ (fun f hf => ⟨fun _ _ _ _ _ _ _ _ h => m_L_feeds_b20_s G7 hf.1 h, fun _ _ _ _ _ _ _ _ hF hn hz => b_L_feeds_b20_s hp hk hq hB G7 h7 hf.1 hf.2 hF hn hz⟩) k).2
def f_L_feeds_b15 (N : Nat) (xs : Nat → Int32) (rec7 : Nat → Int32 → Int32 → Mem → Option (Int32 × Mem)) (n1 : Nat) (x2 : Int32) (x3 : Int32) (ns0 : Nat) (M : Mem) : Option (Int32 × Mem) :=
  f_L_feeds_b20 N xs rec7 fuel n1 x2 x3 ns0 0 M
set_option maxRecDepth 100000 in
set_option maxHeartbeats 4000000 in
theorem m_L_feeds_b15 {N : Nat} {xs : Nat → Int32} {rec7 : Nat → Int32 → Int32 → Mem → Option (Int32 × Mem)} (G7 : (∀ (n1 : Nat) (x2 : Int32) (x3 : Int32) (M Z : Mem) (r : Int32), rec7 n1 x2 x3 M = some (r, Z) → GX M Z)) {n1 : Nat} {x2 : Int32} {x3 : Int32} {ns0 : Nat} {M Z : Mem} {r : Int32} (h : f_L_feeds_b15 N xs rec7 n1 x2 x3 ns0 M = some (r, Z)) : GX M Z := by
  unfold f_L_feeds_b15 at h
  exact GX.tr (GX.refl M) (m_L_feeds_b20 G7 _ _ _ _ _ _ _ _ _ h)
set_option maxRecDepth 100000 in
set_option maxHeartbeats 4000000 in
theorem b_L_feeds_b15 {K : Kt} {X : Xt} (hp : St K) (hk : KC K) {N : Nat} {xs : Nat → Int32} (hq : KScr K N xs) {mc ms : Nat} (hB : Bx K X { frames := 8, cells := mc, slots := ms, locals := 175 } cL_feeds 6 RL (some .int)) {r : Int32} {M1 : Mem} {rec7 : Nat → Int32 → Int32 → Mem → Option (Int32 × Mem)}
    (G7 : (∀ (n1 : Nat) (x2 : Int32) (x3 : Int32) (M Z : Mem) (r : Int32), rec7 n1 x2 x3 M = some (r, Z) → GX M Z)) (h7 : (∀ (n1 : Nat) (x2 : Int32) (x3 : Int32) (ce sl : Nat) (M : Mem), rec7 n1 x2 x3 M = some (r, M1) → mc + M.2.2.2 = ce + M1.2.2.2 → ms + szM M = sl + szM M1 → Wt K X (QM K X (some (vi r)) M1 mc ms) ce sl M 7 [(0, vr 64), (1, vr n1), (2, vi x2), (3, vi x3)] [])) {n1 : Nat} {x2 : Int32} {x3 : Int32} {ns0 : Nat} {ce sl : Nat} {M : Mem} (hF : f_L_feeds_b15 N xs rec7 n1 x2 x3 ns0 M = some (r, M1)) (hn : mc + M.2.2.2 = ce + M1.2.2.2) (hz : ms + szM M = sl + szM M1) : Wt K X (QM K X (some (vi r)) M1 mc ms) ce sl M 15 [(0, vr 64), (1, vr n1), (2, vi x2), (3, vi x3)] [vr ns0] := by
  have hg := m_L_feeds_b15 G7 hF
  have hg1 := hg.1
  have hg2 := hg.2.1
  unfold f_L_feeds_b15 at hF
  refine w_astore hB (L' := [(4, vr ns0), (0, vr 64), (1, vr n1), (2, vi x2), (3, vi x3)]) dL_feeds_15 (by decide) rfl ?_
  refine w_iconst hB 0 (by decide) dL_feeds_17 ?_
  refine w_istore hB (L' := [(5, vi 0), (4, vr ns0), (0, vr 64), (1, vr n1), (2, vi x2), (3, vi x3)]) dL_feeds_18 (by decide) rfl rfl ?_
  exact Wt.sub (L' := [(0, vr 64), (1, vr n1), (2, vi x2), (3, vi x3), (4, vr ns0), (5, vi 0)]) [2, 3, 4, 5, 1, 0] rfl (b_L_feeds_b20 hp hk hq hB G7 h7 fuel _ _ _ _ _ _ _ M hF (by omega) (by omega))
def f_L_feeds_b7_s (N : Nat) (xs : Nat → Int32) (rec7 : Nat → Int32 → Int32 → Mem → Option (Int32 × Mem)) (n1 : Nat) (x2 : Int32) (x3 : Int32) (M : Mem) : Option (Int32 × Mem) :=
  if x2 ≤ x3 then
    cl (f_X10_textG x2 M) fun r1 M1m =>
    some (r1, M1m)
  else
    bnd (nwA 20 5 5 M) fun M2m =>
    f_L_feeds_b15 N xs rec7 n1 x2 x3 (nn M) M2m
set_option maxRecDepth 100000 in
set_option maxHeartbeats 4000000 in
theorem m_L_feeds_b7_s {N : Nat} {xs : Nat → Int32} {rec7 : Nat → Int32 → Int32 → Mem → Option (Int32 × Mem)} (G7 : (∀ (n1 : Nat) (x2 : Int32) (x3 : Int32) (M Z : Mem) (r : Int32), rec7 n1 x2 x3 M = some (r, Z) → GX M Z)) {n1 : Nat} {x2 : Int32} {x3 : Int32} {M Z : Mem} {r : Int32} (h : f_L_feeds_b7_s N xs rec7 n1 x2 x3 M = some (r, Z)) : GX M Z := by
  unfold f_L_feeds_b7_s at h
  rcases ifS h with ⟨-, h⟩ | ⟨-, h⟩
  · obtain ⟨r1, M1m, c_M1m, h⟩ := clS h
    have q_M1m : GX M M1m := GX.tr (GX.refl M) ((k_X10_textG c_M1m).gx)
    obtain ⟨-, e⟩ := retS h
    rw [← e]
    exact q_M1m
  · obtain ⟨M2m, e_M2m, h⟩ := bndS h
    have q_M2m : GX M M2m := GX.tr (GX.refl M) (by rw [e_M2m]; exact GX_nw _ _ _ _)
    exact GX.tr q_M2m (m_L_feeds_b15 G7 h)
set_option maxRecDepth 100000 in
set_option maxHeartbeats 4000000 in
theorem b_L_feeds_b7_s {K : Kt} {X : Xt} (hp : St K) (hk : KC K) {N : Nat} {xs : Nat → Int32} (hq : KScr K N xs) {mc ms : Nat} (hB : Bx K X { frames := 8, cells := mc, slots := ms, locals := 175 } cL_feeds 6 RL (some .int)) {r : Int32} {M1 : Mem} {rec7 : Nat → Int32 → Int32 → Mem → Option (Int32 × Mem)}
    (G7 : (∀ (n1 : Nat) (x2 : Int32) (x3 : Int32) (M Z : Mem) (r : Int32), rec7 n1 x2 x3 M = some (r, Z) → GX M Z)) (h7 : (∀ (n1 : Nat) (x2 : Int32) (x3 : Int32) (ce sl : Nat) (M : Mem), rec7 n1 x2 x3 M = some (r, M1) → mc + M.2.2.2 = ce + M1.2.2.2 → ms + szM M = sl + szM M1 → Wt K X (QM K X (some (vi r)) M1 mc ms) ce sl M 7 [(0, vr 64), (1, vr n1), (2, vi x2), (3, vi x3)] [])) {n1 : Nat} {x2 : Int32} {x3 : Int32} {ce sl : Nat} {M : Mem} (hF : f_L_feeds_b7_s N xs rec7 n1 x2 x3 M = some (r, M1)) (hn : mc + M.2.2.2 = ce + M1.2.2.2) (hz : ms + szM M = sl + szM M1) : Wt K X (QM K X (some (vi r)) M1 mc ms) ce sl M 7 [(0, vr 64), (1, vr n1), (2, vi x2), (3, vi x3)] [] := by
  have hg := m_L_feeds_b7_s G7 hF
  have hg1 := hg.1
  have hg2 := hg.2.1
  unfold f_L_feeds_b7_s at hF
  refine w_iload_n hB 3 dL_feeds_7 rfl rfl ?_
  refine w_iload_n hB 2 dL_feeds_8 rfl rfl ?_
  refine w_icmp_ge hB 103 dL_feeds_9 (by decide) (fun hc => ?_) (fun hc => ?_)
  · replace hF := ifT hc hF
    refine w_aload_n hB 0 dL_feeds_103 rfl rfl ?_
    refine w_iload_n hB 2 dL_feeds_104 rfl rfl ?_
    obtain ⟨r1, M1m, hc_M1m, hF⟩ := clS hF
    have q_M1m : EQ M M1m := k_X10_textG hc_M1m
    have x_M1m := q_M1m.gx
    have n_M1m := q_M1m.1
    have z_M1m := q_M1m.sz
    obtain ⟨Mx_M1m, hx_M1m, gx_M1m⟩ := gho_s hc_M1m
    refine w_callV (M1 := Mx_M1m) hB (ci := 8) (As := [vi x2]) (st := []) cw_L_31 q_897 q_898 rfl (soM hp.1 sh_64 (by decide)) (c_X10_text hp hx_M1m) ⟨rfl, rfl⟩ ⟨Nat.le_of_ble_eq_true rfl, Nat.le_of_ble_eq_true rfl⟩ ⟨show ce ≤ mc by omega, show sl ≤ ms by omega⟩ rfl (Nat.le_of_ble_eq_true rfl) dL_feeds_105 rfl ?_ (Or.inl rfl)
    refine Wt.gho gx_M1m ?_
    obtain ⟨e1, e2⟩ := retS hF
    subst e2
    have hmc : mc = ce := by omega
    have hms : ms = sl := by omega
    subst hmc
    subst hms
    exact w_iret hB dL_feeds_108 e1
  · replace hF := ifF hc hF
    refine w_iconst hB 5 (by decide) dL_feeds_12 ?_
    obtain ⟨M2m, e_M2m, hF⟩ := bndS hF
    have x_M2m : GX M M2m := by rw [e_M2m]; exact GX_nw _ _ _ _
    have n_M2m : M2m.2.2.2 = M.2.2.2 + 1 := by rw [e_M2m]; exact nwA_cn
    have z_M2m : szM M2m = szM M + 5 := by rw [e_M2m]; exact nwA_sz
    have hg3 := m_L_feeds_b15 G7 hF
    have hg4 := hg3.1
    have hg5 := hg3.2.1
    refine w_nwI hB hp.1 (N := 5) e_M2m (by decide) (by decide) ⟨show ce + 1 ≤ mc by omega, show sl + 5 ≤ ms by omega⟩ dL_feeds_13 ?_
    exact Wt.sub (L' := [(0, vr 64), (1, vr n1), (2, vi x2), (3, vi x3)]) [0, 1, 2, 3] rfl (b_L_feeds_b15 hp hk hq hB G7 h7 hF (by omega) (by omega))
def f_L_feeds_b7 (N : Nat) (xs : Nat → Int32) (k : Nat) : Nat → Int32 → Int32 → Mem → Option (Int32 × Mem) := lpN (fun _ _ _ _ => none) (f_L_feeds_b7_s N xs) k
theorem m_L_feeds_b7 {N : Nat} {xs : Nat → Int32} (k : Nat) : (∀ (n1 : Nat) (x2 : Int32) (x3 : Int32) (M Z : Mem) (r : Int32), f_L_feeds_b7 N xs k n1 x2 x3 M = some (r, Z) → GX M Z) :=
  lpN_ind (P := fun (f : Nat → Int32 → Int32 → Mem → Option (Int32 × Mem)) => (∀ (n1 : Nat) (x2 : Int32) (x3 : Int32) (M Z : Mem) (r : Int32), f n1 x2 x3 M = some (r, Z) → GX M Z)) (fun _ _ _ _ _ _ h => by cases h) (fun f hf _ _ _ _ _ _ h => m_L_feeds_b7_s hf h) k
theorem b_L_feeds_b7 {K : Kt} {X : Xt} (hp : St K) (hk : KC K) {N : Nat} {xs : Nat → Int32} (hq : KScr K N xs) {mc ms : Nat} (hB : Bx K X { frames := 8, cells := mc, slots := ms, locals := 175 } cL_feeds 6 RL (some .int)) {r : Int32} {M1 : Mem} (k : Nat) : (∀ (n1 : Nat) (x2 : Int32) (x3 : Int32) (ce sl : Nat) (M : Mem), f_L_feeds_b7 N xs k n1 x2 x3 M = some (r, M1) → mc + M.2.2.2 = ce + M1.2.2.2 → ms + szM M = sl + szM M1 → Wt K X (QM K X (some (vi r)) M1 mc ms) ce sl M 7 [(0, vr 64), (1, vr n1), (2, vi x2), (3, vi x3)] []) :=
  (lpN_ind (P := fun (f : Nat → Int32 → Int32 → Mem → Option (Int32 × Mem)) => (∀ (n1 : Nat) (x2 : Int32) (x3 : Int32) (M Z : Mem) (r : Int32), f n1 x2 x3 M = some (r, Z) → GX M Z) ∧ (∀ (n1 : Nat) (x2 : Int32) (x3 : Int32) (ce sl : Nat) (M : Mem), f n1 x2 x3 M = some (r, M1) → mc + M.2.2.2 = ce + M1.2.2.2 → ms + szM M = sl + szM M1 → Wt K X (QM K X (some (vi r)) M1 mc ms) ce sl M 7 [(0, vr 64), (1, vr n1), (2, vi x2), (3, vi x3)] [])) ⟨fun _ _ _ _ _ _ h => (by cases h), fun _ _ _ _ _ _ h _ _ => (by cases h)⟩ (fun f hf => ⟨fun _ _ _ _ _ _ h => m_L_feeds_b7_s hf.1 h, fun _ _ _ _ _ _ hF hn hz => b_L_feeds_b7_s hp hk hq hB hf.1 hf.2 hF hn hz⟩) k).2
def f_L_feeds (N : Nat) (xs : Nat → Int32) (n1 : Nat) (M : Mem) : Option (Int32 × Mem) :=
  gd (1000 ≤ n1 ∧ dsc M n1 = 10 ∧ n1 - 753 < M.2.2.2) <|
  cl (f_J0_length_8abf5D n1 M) fun r1 M1m =>
  f_L_feeds_b7 N xs fuel n1 r1 0 M1m
set_option maxRecDepth 100000 in
set_option maxHeartbeats 4000000 in
theorem m_L_feeds {N : Nat} {xs : Nat → Int32} {n1 : Nat} {M Z : Mem} {r : Int32} (h : f_L_feeds N xs n1 M = some (r, Z)) : GX M Z := by
  unfold f_L_feeds at h
  obtain ⟨gq0, h⟩ := gdS h
  obtain ⟨r1, M1m, c_M1m, h⟩ := clS h
  have q_M1m : GX M M1m := GX.tr (GX.refl M) ((k_J0_length_8abf5D c_M1m).gx)
  exact GX.tr q_M1m (m_L_feeds_b7 _ _ _ _ _ _ _ h)
set_option maxRecDepth 100000 in
set_option maxHeartbeats 4000000 in
theorem b_L_feeds {K : Kt} {X : Xt} (hp : St K) (hk : KC K) {N : Nat} {xs : Nat → Int32} (hq : KScr K N xs) {mc ms : Nat} (hB : Bx K X { frames := 8, cells := mc, slots := ms, locals := 175 } cL_feeds 6 RL (some .int)) {r : Int32} {M1 : Mem} {n1 : Nat} {ce sl : Nat} {M : Mem} (hF : f_L_feeds N xs n1 M = some (r, M1)) (hn : mc + M.2.2.2 = ce + M1.2.2.2) (hz : ms + szM M = sl + szM M1) : Wt K X (QM K X (some (vi r)) M1 mc ms) ce sl M 0 [(0, vr 64), (1, vr n1)] [] := by
  have hg := m_L_feeds hF
  have hg1 := hg.1
  have hg2 := hg.2.1
  unfold f_L_feeds at hF
  refine w_aload_n hB 1 dL_feeds_0 rfl rfl ?_
  obtain ⟨g1, hF⟩ := gdS hF
  obtain ⟨r1, M1m, hc_M1m, hF⟩ := clS hF
  have q_M1m : EQ M M1m := k_J0_length_8abf5D hc_M1m
  have x_M1m := q_M1m.gx
  have n_M1m := q_M1m.1
  have z_M1m := q_M1m.sz
  refine w_callV (M1 := M1m) hB (ci := 9) (As := []) (st := []) cw_L_15 q_687 q_688 rfl (dqM g1) (c_J0_length_8abf5D hp hc_M1m) ⟨rfl, rfl⟩ ⟨Nat.le_of_ble_eq_true rfl, Nat.le_of_ble_eq_true rfl⟩ ⟨show ce ≤ mc by omega, show sl ≤ ms by omega⟩ rfl (Nat.le_of_ble_eq_true rfl) dL_feeds_1 rfl ?_ (Or.inl rfl)
  refine w_istore_n hB (L' := [(2, vi r1), (0, vr 64), (1, vr n1)]) dL_feeds_4 rfl (by decide) rfl rfl ?_
  refine w_iconst hB 0 (by decide) dL_feeds_5 ?_
  refine w_istore_n hB (L' := [(3, vi 0), (2, vi r1), (0, vr 64), (1, vr n1)]) dL_feeds_6 rfl (by decide) rfl rfl ?_
  exact Wt.sub (L' := [(0, vr 64), (1, vr n1), (2, vi r1), (3, vi 0)]) [2, 3, 1, 0] rfl (b_L_feeds_b7 hp hk hq hB fuel _ _ _ _ _ M1m hF (by omega) (by omega))
theorem c_L_feeds {K : Kt} {l : Launch} (hp : St K) (hk : KC K) {N : Nat} {xs : Nat → Int32} (hq : KScr K N xs) {r : Int32} {M1 : Mem} {n1 : Nat} {M : Mem} (hF : f_L_feeds N xs n1 M = some (r, M1)) : MT K l yL_feeds cL_feeds 6 (some .int) { frames := 8, cells := M1.2.2.2 - M.2.2.2, slots := szM M1 - szM M, locals := 175 } [vr 64, vr n1] M (some (vi r)) M1 (M1.2.2.2 - M.2.2.2) (szM M1 - szM M) := by
  have hg := m_L_feeds hF
  have hg1 := hg.1
  have hg2 := hg.2.1
  exact MT_of (by decide) rfl (Nat.le_of_ble_eq_true rfl) (fun X _ hB _ => b_L_feeds hp hk hq hB hF (by omega) (by omega))
