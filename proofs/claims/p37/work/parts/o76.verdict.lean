/-! verdict -/
def f_L_verdict_b345 (N : Nat) (xs : Nat → Int32) (rec41 : Int32 → Int32 → Nat → Int32 → Int32 → Int32 → Mem → Option (Int32 × Mem)) (x2 : Int32) (x3 : Int32) (n4 : Nat) (x5 : Int32) (x6 : Int32) (x7 : Int32) (M : Mem) : Option (Int32 × Mem) :=
  cl (f_L_goesOn N xs n4 M) fun r1 M1m =>
  if r1 = 0 then
    if x5 = 0 then
      some (3, M1m)
    else
      if x6 = 0 then
        if x7 = 0 then
          some (2, M1m)
        else
          some (0, M1m)
      else
        some (1, M1m)
  else
    rec41 x2 x3 n4 x5 x6 x7 M1m
set_option maxRecDepth 100000 in
set_option maxHeartbeats 4000000 in
theorem m_L_verdict_b345 {N : Nat} {xs : Nat → Int32} {rec41 : Int32 → Int32 → Nat → Int32 → Int32 → Int32 → Mem → Option (Int32 × Mem)} (G41 : (∀ (x2 : Int32) (x3 : Int32) (n4 : Nat) (x5 : Int32) (x6 : Int32) (x7 : Int32) (M Z : Mem) (r : Int32), rec41 x2 x3 n4 x5 x6 x7 M = some (r, Z) → GX M Z)) {x2 : Int32} {x3 : Int32} {n4 : Nat} {x5 : Int32} {x6 : Int32} {x7 : Int32} {M Z : Mem} {r : Int32} (h : f_L_verdict_b345 N xs rec41 x2 x3 n4 x5 x6 x7 M = some (r, Z)) : GX M Z := by
  unfold f_L_verdict_b345 at h
  obtain ⟨r1, M1m, c_M1m, h⟩ := clS h
  have q_M1m : GX M M1m := GX.tr (GX.refl M) ((k_L_goesOn c_M1m).gx)
  rcases ifS h with ⟨-, h⟩ | ⟨-, h⟩
  · rcases ifS h with ⟨-, h⟩ | ⟨-, h⟩
    · obtain ⟨-, e⟩ := retS h
      rw [← e]
      exact q_M1m
    · rcases ifS h with ⟨-, h⟩ | ⟨-, h⟩
      · rcases ifS h with ⟨-, h⟩ | ⟨-, h⟩
        · obtain ⟨-, e⟩ := retS h
          rw [← e]
          exact q_M1m
        · obtain ⟨-, e⟩ := retS h
          rw [← e]
          exact q_M1m
      · obtain ⟨-, e⟩ := retS h
        rw [← e]
        exact q_M1m
  · exact GX.tr q_M1m (G41 _ _ _ _ _ _ _ _ _ h)
set_option maxRecDepth 100000 in
set_option maxHeartbeats 4000000 in
theorem b_L_verdict_b345 {K : Kt} {X : Xt} (hp : St K) (hk : KC K) {N : Nat} {xs : Nat → Int32} (hq : KScr K N xs) {mc ms : Nat} (hB : Bx K X { frames := 7, cells := mc, slots := ms, locals := 224 } cL_verdict 14 RL (some .int)) {r : Int32} {M1 : Mem} {rec41 : Int32 → Int32 → Nat → Int32 → Int32 → Int32 → Mem → Option (Int32 × Mem)}
    (G41 : (∀ (x2 : Int32) (x3 : Int32) (n4 : Nat) (x5 : Int32) (x6 : Int32) (x7 : Int32) (M Z : Mem) (r : Int32), rec41 x2 x3 n4 x5 x6 x7 M = some (r, Z) → GX M Z)) (h41 : (∀ (x2 : Int32) (x3 : Int32) (n4 : Nat) (x5 : Int32) (x6 : Int32) (x7 : Int32) (ce sl : Nat) (M : Mem), rec41 x2 x3 n4 x5 x6 x7 M = some (r, M1) → mc + M.2.2.2 = ce + M1.2.2.2 → ms + szM M = sl + szM M1 → Wt K X (QM K X (some (vi r)) M1 mc ms) ce sl M 41 [(0, vr 64), (1, vr 61), (2, vi x2), (3, vi x3), (4, vr n4), (5, vi x5), (6, vi x6), (7, vi x7)] [])) {x2 : Int32} {x3 : Int32} {n4 : Nat} {x5 : Int32} {x6 : Int32} {x7 : Int32} {ce sl : Nat} {M : Mem} (hF : f_L_verdict_b345 N xs rec41 x2 x3 n4 x5 x6 x7 M = some (r, M1)) (hn : mc + M.2.2.2 = ce + M1.2.2.2) (hz : ms + szM M = sl + szM M1) : Wt K X (QM K X (some (vi r)) M1 mc ms) ce sl M 345 [(0, vr 64), (1, vr 61), (2, vi x2), (3, vi x3), (4, vr n4), (5, vi x5), (6, vi x6), (7, vi x7)] [] := by
  have hg := m_L_verdict_b345 G41 hF
  have hg1 := hg.1
  have hg2 := hg.2.1
  unfold f_L_verdict_b345 at hF
  refine w_aload_n hB 0 dL_verdict_345 rfl rfl ?_
  refine w_aload hB 4 dL_verdict_346 rfl ?_
  obtain ⟨r1, M1m, hc_M1m, hF⟩ := clS hF
  have q_M1m : EQ M M1m := k_L_goesOn hc_M1m
  have x_M1m := q_M1m.gx
  have n_M1m := q_M1m.1
  have z_M1m := q_M1m.sz
  refine w_callS (M1 := M1m) hB (As := [vr 64, vr n4]) (st := []) cw_L_191 q_1210 (c_L_goesOn hp hq hc_M1m) ⟨rfl, rfl⟩ ⟨Nat.le_of_ble_eq_true rfl, Nat.le_of_ble_eq_true rfl⟩ ⟨show ce ≤ mc by omega, show sl ≤ ms by omega⟩ rfl (Nat.le_of_ble_eq_true rfl) dL_verdict_348 rfl ?_ (Or.inl rfl)
  refine w_if_ne hB 41 dL_verdict_351 (by decide) (fun hc => ?_) (fun hc => ?_)
  · replace hF := ifF hc hF
    exact Wt.sub (L' := [(0, vr 64), (1, vr 61), (2, vi x2), (3, vi x3), (4, vr n4), (5, vi x5), (6, vi x6), (7, vi x7)]) [0, 1, 2, 3, 4, 5, 6, 7] rfl (h41 _ _ _ _ _ _ _ _ M1m hF (by omega) (by omega))
  · replace hF := ifT hc hF
    refine w_iload hB 5 dL_verdict_354 rfl ?_
    refine w_if_ne hB 363 dL_verdict_356 (by decide) (fun hc => ?_) (fun hc => ?_)
    · replace hF := ifF hc hF
      refine w_iload hB 6 dL_verdict_363 rfl ?_
      refine w_if_eq hB 372 dL_verdict_365 (by decide) (fun hc => ?_) (fun hc => ?_)
      · replace hF := ifT hc hF
        refine w_iload hB 7 dL_verdict_372 rfl ?_
        refine w_if_eq hB 381 dL_verdict_374 (by decide) (fun hc => ?_) (fun hc => ?_)
        · replace hF := ifT hc hF
          refine w_iconst hB 2 (by decide) dL_verdict_381 ?_
          obtain ⟨e1, e2⟩ := retS hF
          subst e2
          have hmc : mc = ce := by omega
          have hms : ms = sl := by omega
          subst hmc
          subst hms
          exact w_iret hB dL_verdict_382 e1
        · replace hF := ifF hc hF
          refine w_iconst hB 0 (by decide) dL_verdict_377 ?_
          refine w_goto hB 382 dL_verdict_378 (by decide) ?_
          obtain ⟨e1, e2⟩ := retS hF
          subst e2
          have hmc : mc = ce := by omega
          have hms : ms = sl := by omega
          subst hmc
          subst hms
          exact w_iret hB dL_verdict_382 e1
      · replace hF := ifF hc hF
        refine w_iconst hB 1 (by decide) dL_verdict_368 ?_
        refine w_goto hB 382 dL_verdict_369 (by decide) ?_
        obtain ⟨e1, e2⟩ := retS hF
        subst e2
        have hmc : mc = ce := by omega
        have hms : ms = sl := by omega
        subst hmc
        subst hms
        exact w_iret hB dL_verdict_382 e1
    · replace hF := ifT hc hF
      refine w_iconst hB 3 (by decide) dL_verdict_359 ?_
      refine w_goto hB 382 dL_verdict_360 (by decide) ?_
      obtain ⟨e1, e2⟩ := retS hF
      subst e2
      have hmc : mc = ce := by omega
      have hms : ms = sl := by omega
      subst hmc
      subst hms
      exact w_iret hB dL_verdict_382 e1
def f_L_verdict_b342 (N : Nat) (xs : Nat → Int32) (rec41 : Int32 → Int32 → Nat → Int32 → Int32 → Int32 → Mem → Option (Int32 × Mem)) (x2 : Int32) (x3 : Int32) (n4 : Nat) (x5 : Int32) (x6 : Int32) (xs0 : Int32) (xs1 : Int32) (M : Mem) : Option (Int32 × Mem) :=
  bnd (xs0 &&& xs1) fun a1 =>
  f_L_verdict_b345 N xs rec41 x2 x3 n4 x5 x6 a1 M
set_option maxRecDepth 100000 in
set_option maxHeartbeats 4000000 in
theorem m_L_verdict_b342 {N : Nat} {xs : Nat → Int32} {rec41 : Int32 → Int32 → Nat → Int32 → Int32 → Int32 → Mem → Option (Int32 × Mem)} (G41 : (∀ (x2 : Int32) (x3 : Int32) (n4 : Nat) (x5 : Int32) (x6 : Int32) (x7 : Int32) (M Z : Mem) (r : Int32), rec41 x2 x3 n4 x5 x6 x7 M = some (r, Z) → GX M Z)) {x2 : Int32} {x3 : Int32} {n4 : Nat} {x5 : Int32} {x6 : Int32} {xs0 : Int32} {xs1 : Int32} {M Z : Mem} {r : Int32} (h : f_L_verdict_b342 N xs rec41 x2 x3 n4 x5 x6 xs0 xs1 M = some (r, Z)) : GX M Z := by
  unfold f_L_verdict_b342 at h
  obtain ⟨a1, e_a1, h⟩ := bndS h
  exact GX.tr (GX.refl M) (m_L_verdict_b345 G41 h)
set_option maxRecDepth 100000 in
set_option maxHeartbeats 4000000 in
theorem b_L_verdict_b342 {K : Kt} {X : Xt} (hp : St K) (hk : KC K) {N : Nat} {xs : Nat → Int32} (hq : KScr K N xs) {mc ms : Nat} (hB : Bx K X { frames := 7, cells := mc, slots := ms, locals := 224 } cL_verdict 14 RL (some .int)) {r : Int32} {M1 : Mem} {rec41 : Int32 → Int32 → Nat → Int32 → Int32 → Int32 → Mem → Option (Int32 × Mem)}
    (G41 : (∀ (x2 : Int32) (x3 : Int32) (n4 : Nat) (x5 : Int32) (x6 : Int32) (x7 : Int32) (M Z : Mem) (r : Int32), rec41 x2 x3 n4 x5 x6 x7 M = some (r, Z) → GX M Z)) (h41 : (∀ (x2 : Int32) (x3 : Int32) (n4 : Nat) (x5 : Int32) (x6 : Int32) (x7 : Int32) (ce sl : Nat) (M : Mem), rec41 x2 x3 n4 x5 x6 x7 M = some (r, M1) → mc + M.2.2.2 = ce + M1.2.2.2 → ms + szM M = sl + szM M1 → Wt K X (QM K X (some (vi r)) M1 mc ms) ce sl M 41 [(0, vr 64), (1, vr 61), (2, vi x2), (3, vi x3), (4, vr n4), (5, vi x5), (6, vi x6), (7, vi x7)] [])) {x2 : Int32} {x3 : Int32} {n4 : Nat} {x5 : Int32} {x6 : Int32} {xs0 : Int32} {xs1 : Int32} {ce sl : Nat} {M : Mem} (hF : f_L_verdict_b342 N xs rec41 x2 x3 n4 x5 x6 xs0 xs1 M = some (r, M1)) (hn : mc + M.2.2.2 = ce + M1.2.2.2) (hz : ms + szM M = sl + szM M1) : Wt K X (QM K X (some (vi r)) M1 mc ms) ce sl M 342 [(0, vr 64), (1, vr 61), (2, vi x2), (3, vi x3), (4, vr n4), (5, vi x5), (6, vi x6)] [vi xs1, vi xs0] := by
  have hg := m_L_verdict_b342 G41 hF
  have hg1 := hg.1
  have hg2 := hg.2.1
  unfold f_L_verdict_b342 at hF
  refine w_iand hB dL_verdict_342 ?_
  obtain ⟨a1, e_a1, hF⟩ := bndS hF
  refine w_istore hB (L' := [(7, vi a1), (0, vr 64), (1, vr 61), (2, vi x2), (3, vi x3), (4, vr n4), (5, vi x5), (6, vi x6)]) dL_verdict_343 (by decide) e_a1 rfl ?_
  exact Wt.sub (L' := [(0, vr 64), (1, vr 61), (2, vi x2), (3, vi x3), (4, vr n4), (5, vi x5), (6, vi x6), (7, vi a1)]) [1, 2, 3, 4, 5, 6, 7, 0] rfl (b_L_verdict_b345 hp hk hq hB G41 h41 hF (by omega) (by omega))
def f_L_verdict_b334 (N : Nat) (xs : Nat → Int32) (rec41 : Int32 → Int32 → Nat → Int32 → Int32 → Int32 → Mem → Option (Int32 × Mem)) (x2 : Int32) (x3 : Int32) (n4 : Nat) (x5 : Int32) (x6 : Int32) (xs0 : Int32) (xs1 : Int32) (M : Mem) : Option (Int32 × Mem) :=
  if xs1 = 0 then
    f_L_verdict_b342 N xs rec41 x2 x3 n4 x5 x6 xs0 1 M
  else
    f_L_verdict_b342 N xs rec41 x2 x3 n4 x5 x6 xs0 0 M
set_option maxRecDepth 100000 in
set_option maxHeartbeats 4000000 in
theorem m_L_verdict_b334 {N : Nat} {xs : Nat → Int32} {rec41 : Int32 → Int32 → Nat → Int32 → Int32 → Int32 → Mem → Option (Int32 × Mem)} (G41 : (∀ (x2 : Int32) (x3 : Int32) (n4 : Nat) (x5 : Int32) (x6 : Int32) (x7 : Int32) (M Z : Mem) (r : Int32), rec41 x2 x3 n4 x5 x6 x7 M = some (r, Z) → GX M Z)) {x2 : Int32} {x3 : Int32} {n4 : Nat} {x5 : Int32} {x6 : Int32} {xs0 : Int32} {xs1 : Int32} {M Z : Mem} {r : Int32} (h : f_L_verdict_b334 N xs rec41 x2 x3 n4 x5 x6 xs0 xs1 M = some (r, Z)) : GX M Z := by
  unfold f_L_verdict_b334 at h
  rcases ifS h with ⟨-, h⟩ | ⟨-, h⟩
  · exact GX.tr (GX.refl M) (m_L_verdict_b342 G41 h)
  · exact GX.tr (GX.refl M) (m_L_verdict_b342 G41 h)
set_option maxRecDepth 100000 in
set_option maxHeartbeats 4000000 in
theorem b_L_verdict_b334 {K : Kt} {X : Xt} (hp : St K) (hk : KC K) {N : Nat} {xs : Nat → Int32} (hq : KScr K N xs) {mc ms : Nat} (hB : Bx K X { frames := 7, cells := mc, slots := ms, locals := 224 } cL_verdict 14 RL (some .int)) {r : Int32} {M1 : Mem} {rec41 : Int32 → Int32 → Nat → Int32 → Int32 → Int32 → Mem → Option (Int32 × Mem)}
    (G41 : (∀ (x2 : Int32) (x3 : Int32) (n4 : Nat) (x5 : Int32) (x6 : Int32) (x7 : Int32) (M Z : Mem) (r : Int32), rec41 x2 x3 n4 x5 x6 x7 M = some (r, Z) → GX M Z)) (h41 : (∀ (x2 : Int32) (x3 : Int32) (n4 : Nat) (x5 : Int32) (x6 : Int32) (x7 : Int32) (ce sl : Nat) (M : Mem), rec41 x2 x3 n4 x5 x6 x7 M = some (r, M1) → mc + M.2.2.2 = ce + M1.2.2.2 → ms + szM M = sl + szM M1 → Wt K X (QM K X (some (vi r)) M1 mc ms) ce sl M 41 [(0, vr 64), (1, vr 61), (2, vi x2), (3, vi x3), (4, vr n4), (5, vi x5), (6, vi x6), (7, vi x7)] [])) {x2 : Int32} {x3 : Int32} {n4 : Nat} {x5 : Int32} {x6 : Int32} {xs0 : Int32} {xs1 : Int32} {ce sl : Nat} {M : Mem} (hF : f_L_verdict_b334 N xs rec41 x2 x3 n4 x5 x6 xs0 xs1 M = some (r, M1)) (hn : mc + M.2.2.2 = ce + M1.2.2.2) (hz : ms + szM M = sl + szM M1) : Wt K X (QM K X (some (vi r)) M1 mc ms) ce sl M 334 [(0, vr 64), (1, vr 61), (2, vi x2), (3, vi x3), (4, vr n4), (5, vi x5), (6, vi x6)] [vi xs1, vi xs0] := by
  have hg := m_L_verdict_b334 G41 hF
  have hg1 := hg.1
  have hg2 := hg.2.1
  unfold f_L_verdict_b334 at hF
  refine w_if_ne hB 341 dL_verdict_334 (by decide) (fun hc => ?_) (fun hc => ?_)
  · replace hF := ifF hc hF
    refine w_iconst hB 0 (by decide) dL_verdict_341 ?_
    exact Wt.sub (L' := [(0, vr 64), (1, vr 61), (2, vi x2), (3, vi x3), (4, vr n4), (5, vi x5), (6, vi x6)]) [0, 1, 2, 3, 4, 5, 6] rfl (b_L_verdict_b342 hp hk hq hB G41 h41 hF (by omega) (by omega))
  · replace hF := ifT hc hF
    refine w_iconst hB 1 (by decide) dL_verdict_337 ?_
    refine w_goto hB 342 dL_verdict_338 (by decide) ?_
    exact Wt.sub (L' := [(0, vr 64), (1, vr 61), (2, vi x2), (3, vi x3), (4, vr n4), (5, vi x5), (6, vi x6)]) [0, 1, 2, 3, 4, 5, 6] rfl (b_L_verdict_b342 hp hk hq hB G41 h41 hF (by omega) (by omega))
def f_L_verdict_b253_s (N : Nat) (xs : Nat → Int32) (rec41 : Int32 → Int32 → Nat → Int32 → Int32 → Int32 → Mem → Option (Int32 × Mem)) (rec253 : Int32 → Int32 → Nat → Int32 → Int32 → Int32 → Nat → Nat → Int32 → Int32 → Mem → Option (Int32 × Mem)) (x2 : Int32) (x3 : Int32) (n4 : Nat) (x5 : Int32) (x6 : Int32) (x7 : Int32) (n8 : Nat) (n9 : Nat) (x10 : Int32) (x11 : Int32) (M : Mem) : Option (Int32 × Mem) :=
  if 4 ≤ x11 then
    if x10 = 0 then
      f_L_verdict_b345 N xs rec41 x2 x3 n4 x5 x6 x7 M
    else
      cl (f_X10_play x2 1 M) fun r1 M1m =>
      cl (f_L_doAll N xs r1 n8 n9 M1m) fun r2 M2m =>
      bnd (x6 &&& r2) fun a1 =>
      cl (f_X10_play x2 1 M2m) fun r3 M3m =>
      cl (f_L_canAll N xs r3 n8 n9 M3m) fun r4 M4m =>
      f_L_verdict_b334 N xs rec41 x2 x3 n4 1 a1 x7 r4 M4m
  else
    gd (1000 ≤ n8 ∧ dsc M n8 = 20 ∧ n8 - 753 < M.2.2.2) <|
    gd (inb x11 (dln M n8)) <|
    gd (1000 ≤ n9 ∧ dsc M n9 = 20 ∧ n9 - 753 < M.2.2.2) <|
    gd (inb x11 (dln M n9)) <|
    if (M.1 n9 x11.toNatClampNeg) < (M.1 n8 x11.toNatClampNeg) then
      bnd (x10 &&& 0) fun a2 =>
      bnd (x11 + 1) fun a3 =>
      rec253 x2 x3 n4 x5 x6 x7 n8 n9 a2 a3 M
    else
      bnd (x10 &&& 1) fun a4 =>
      bnd (x11 + 1) fun a5 =>
      rec253 x2 x3 n4 x5 x6 x7 n8 n9 a4 a5 M
set_option maxRecDepth 100000 in
set_option maxHeartbeats 4000000 in
theorem m_L_verdict_b253_s {N : Nat} {xs : Nat → Int32} {rec41 : Int32 → Int32 → Nat → Int32 → Int32 → Int32 → Mem → Option (Int32 × Mem)} {rec253 : Int32 → Int32 → Nat → Int32 → Int32 → Int32 → Nat → Nat → Int32 → Int32 → Mem → Option (Int32 × Mem)} (G41 : (∀ (x2 : Int32) (x3 : Int32) (n4 : Nat) (x5 : Int32) (x6 : Int32) (x7 : Int32) (M Z : Mem) (r : Int32), rec41 x2 x3 n4 x5 x6 x7 M = some (r, Z) → GX M Z)) (G253 : (∀ (x2 : Int32) (x3 : Int32) (n4 : Nat) (x5 : Int32) (x6 : Int32) (x7 : Int32) (n8 : Nat) (n9 : Nat) (x10 : Int32) (x11 : Int32) (M Z : Mem) (r : Int32), rec253 x2 x3 n4 x5 x6 x7 n8 n9 x10 x11 M = some (r, Z) → GX M Z)) {x2 : Int32} {x3 : Int32} {n4 : Nat} {x5 : Int32} {x6 : Int32} {x7 : Int32} {n8 : Nat} {n9 : Nat} {x10 : Int32} {x11 : Int32} {M Z : Mem} {r : Int32} (h : f_L_verdict_b253_s N xs rec41 rec253 x2 x3 n4 x5 x6 x7 n8 n9 x10 x11 M = some (r, Z)) : GX M Z := by
  unfold f_L_verdict_b253_s at h
  rcases ifS h with ⟨-, h⟩ | ⟨-, h⟩
  · rcases ifS h with ⟨-, h⟩ | ⟨-, h⟩
    · exact GX.tr (GX.refl M) (m_L_verdict_b345 G41 h)
    · obtain ⟨r1, M1m, c_M1m, h⟩ := clS h
      have q_M1m : GX M M1m := GX.tr (GX.refl M) ((k_X10_play c_M1m).gx)
      obtain ⟨r2, M2m, c_M2m, h⟩ := clS h
      have q_M2m : GX M M2m := GX.tr q_M1m ((k_L_doAll c_M2m).gx)
      obtain ⟨a1, e_a1, h⟩ := bndS h
      obtain ⟨r3, M3m, c_M3m, h⟩ := clS h
      have q_M3m : GX M M3m := GX.tr q_M2m ((k_X10_play c_M3m).gx)
      obtain ⟨r4, M4m, c_M4m, h⟩ := clS h
      have q_M4m : GX M M4m := GX.tr q_M3m (m_L_canAll c_M4m)
      exact GX.tr q_M4m (m_L_verdict_b334 G41 h)
  · obtain ⟨gq11, h⟩ := gdS h
    obtain ⟨gq12, h⟩ := gdS h
    obtain ⟨gq13, h⟩ := gdS h
    obtain ⟨gq14, h⟩ := gdS h
    rcases ifS h with ⟨-, h⟩ | ⟨-, h⟩
    · obtain ⟨a2, e_a2, h⟩ := bndS h
      obtain ⟨a3, e_a3, h⟩ := bndS h
      exact GX.tr (GX.refl M) (G253 _ _ _ _ _ _ _ _ _ _ _ _ _ h)
    · obtain ⟨a4, e_a4, h⟩ := bndS h
      obtain ⟨a5, e_a5, h⟩ := bndS h
      exact GX.tr (GX.refl M) (G253 _ _ _ _ _ _ _ _ _ _ _ _ _ h)
set_option maxRecDepth 100000 in
set_option maxHeartbeats 4000000 in
theorem b_L_verdict_b253_s {K : Kt} {X : Xt} (hp : St K) (hk : KC K) {N : Nat} {xs : Nat → Int32} (hq : KScr K N xs) {mc ms : Nat} (hB : Bx K X { frames := 7, cells := mc, slots := ms, locals := 224 } cL_verdict 14 RL (some .int)) {r : Int32} {M1 : Mem} {rec41 : Int32 → Int32 → Nat → Int32 → Int32 → Int32 → Mem → Option (Int32 × Mem)} {rec253 : Int32 → Int32 → Nat → Int32 → Int32 → Int32 → Nat → Nat → Int32 → Int32 → Mem → Option (Int32 × Mem)}
    (G41 : (∀ (x2 : Int32) (x3 : Int32) (n4 : Nat) (x5 : Int32) (x6 : Int32) (x7 : Int32) (M Z : Mem) (r : Int32), rec41 x2 x3 n4 x5 x6 x7 M = some (r, Z) → GX M Z)) (h41 : (∀ (x2 : Int32) (x3 : Int32) (n4 : Nat) (x5 : Int32) (x6 : Int32) (x7 : Int32) (ce sl : Nat) (M : Mem), rec41 x2 x3 n4 x5 x6 x7 M = some (r, M1) → mc + M.2.2.2 = ce + M1.2.2.2 → ms + szM M = sl + szM M1 → Wt K X (QM K X (some (vi r)) M1 mc ms) ce sl M 41 [(0, vr 64), (1, vr 61), (2, vi x2), (3, vi x3), (4, vr n4), (5, vi x5), (6, vi x6), (7, vi x7)] []))
    (G253 : (∀ (x2 : Int32) (x3 : Int32) (n4 : Nat) (x5 : Int32) (x6 : Int32) (x7 : Int32) (n8 : Nat) (n9 : Nat) (x10 : Int32) (x11 : Int32) (M Z : Mem) (r : Int32), rec253 x2 x3 n4 x5 x6 x7 n8 n9 x10 x11 M = some (r, Z) → GX M Z)) (h253 : (∀ (x2 : Int32) (x3 : Int32) (n4 : Nat) (x5 : Int32) (x6 : Int32) (x7 : Int32) (n8 : Nat) (n9 : Nat) (x10 : Int32) (x11 : Int32) (ce sl : Nat) (M : Mem), rec253 x2 x3 n4 x5 x6 x7 n8 n9 x10 x11 M = some (r, M1) → mc + M.2.2.2 = ce + M1.2.2.2 → ms + szM M = sl + szM M1 → Wt K X (QM K X (some (vi r)) M1 mc ms) ce sl M 253 [(0, vr 64), (1, vr 61), (2, vi x2), (3, vi x3), (4, vr n4), (5, vi x5), (6, vi x6), (7, vi x7), (8, vr n8), (9, vr n9), (10, vi x10), (11, vi x11)] [])) {x2 : Int32} {x3 : Int32} {n4 : Nat} {x5 : Int32} {x6 : Int32} {x7 : Int32} {n8 : Nat} {n9 : Nat} {x10 : Int32} {x11 : Int32} {ce sl : Nat} {M : Mem} (hF : f_L_verdict_b253_s N xs rec41 rec253 x2 x3 n4 x5 x6 x7 n8 n9 x10 x11 M = some (r, M1)) (hn : mc + M.2.2.2 = ce + M1.2.2.2) (hz : ms + szM M = sl + szM M1) : Wt K X (QM K X (some (vi r)) M1 mc ms) ce sl M 253 [(0, vr 64), (1, vr 61), (2, vi x2), (3, vi x3), (4, vr n4), (5, vi x5), (6, vi x6), (7, vi x7), (8, vr n8), (9, vr n9), (10, vi x10), (11, vi x11)] [] := by
  have hg := m_L_verdict_b253_s G41 G253 hF
  have hg1 := hg.1
  have hg2 := hg.2.1
  unfold f_L_verdict_b253_s at hF
  refine w_iload hB 11 dL_verdict_253 rfl ?_
  refine w_iconst hB 4 (by decide) dL_verdict_255 ?_
  refine w_icmp_ge hB 288 dL_verdict_256 (by decide) (fun hc => ?_) (fun hc => ?_)
  · replace hF := ifT hc hF
    refine w_iload hB 10 dL_verdict_288 rfl ?_
    refine w_if_ne hB 296 dL_verdict_290 (by decide) (fun hc => ?_) (fun hc => ?_)
    · replace hF := ifF hc hF
      refine w_iconst hB 1 (by decide) dL_verdict_296 ?_
      refine w_istore hB (L' := [(5, vi 1), (0, vr 64), (1, vr 61), (2, vi x2), (3, vi x3), (4, vr n4), (6, vi x6), (7, vi x7), (8, vr n8), (9, vr n9), (10, vi x10), (11, vi x11)]) dL_verdict_297 (by decide) rfl rfl ?_
      refine w_iload hB 6 dL_verdict_299 rfl ?_
      refine w_aload_n hB 2 dL_verdict_301 rfl rfl ?_
      refine w_aload_n hB 1 dL_verdict_302 rfl rfl ?_
      refine w_iload_n hB 3 dL_verdict_303 rfl rfl ?_
      refine w_iconst hB 1 (by decide) dL_verdict_304 ?_
      obtain ⟨r1, M1m, hc_M1m, hF⟩ := clS hF
      have q_M1m : EQ M M1m := k_X10_play hc_M1m
      have x_M1m := q_M1m.gx
      have n_M1m := q_M1m.1
      have z_M1m := q_M1m.sz
      refine w_callV (M1 := M1m) hB (ci := 8) (As := [vi x2, vi 1]) (st := [vr 61, vi x6]) cw_L_135 q_427 q_428 rfl (soM hp.1 sh_64 (by decide)) (c_X10_play hp hc_M1m) ⟨rfl, rfl⟩ ⟨Nat.le_of_ble_eq_true rfl, Nat.le_of_ble_eq_true rfl⟩ ⟨show ce ≤ mc by omega, show sl ≤ ms by omega⟩ rfl (Nat.le_of_ble_eq_true rfl) dL_verdict_305 rfl ?_ (Or.inl rfl)
      refine w_aload hB 8 dL_verdict_308 rfl ?_
      refine w_aload hB 9 dL_verdict_310 rfl ?_
      obtain ⟨r2, M2m, hc_M2m, hF⟩ := clS hF
      have q_M2m : EQ M1m M2m := k_L_doAll hc_M2m
      have x_M2m := q_M2m.gx
      have n_M2m := q_M2m.1
      have z_M2m := q_M2m.sz
      refine w_callS (M1 := M2m) hB (As := [vr 61, vi r1, vr n8, vr n9]) (st := [vi x6]) cw_L_184 q_1190 (c_L_doAll hp hq hc_M2m) ⟨rfl, rfl⟩ ⟨Nat.le_of_ble_eq_true rfl, Nat.le_of_ble_eq_true rfl⟩ ⟨show ce ≤ mc by omega, show sl ≤ ms by omega⟩ rfl (Nat.le_of_ble_eq_true rfl) dL_verdict_312 rfl ?_ (Or.inl rfl)
      refine w_iand hB dL_verdict_315 ?_
      obtain ⟨a1, e_a1, hF⟩ := bndS hF
      refine w_istore hB (L' := [(6, vi a1), (5, vi 1), (0, vr 64), (1, vr 61), (2, vi x2), (3, vi x3), (4, vr n4), (7, vi x7), (8, vr n8), (9, vr n9), (10, vi x10), (11, vi x11)]) dL_verdict_316 (by decide) e_a1 rfl ?_
      refine w_iload hB 7 dL_verdict_318 rfl ?_
      refine w_aload_n hB 3 dL_verdict_320 rfl rfl ?_
      refine w_aload_n hB 2 dL_verdict_321 rfl rfl ?_
      refine w_iload_n hB 4 dL_verdict_322 rfl rfl ?_
      refine w_iconst hB 1 (by decide) dL_verdict_323 ?_
      obtain ⟨r3, M3m, hc_M3m, hF⟩ := clS hF
      have q_M3m : EQ M2m M3m := k_X10_play hc_M3m
      have x_M3m := q_M3m.gx
      have n_M3m := q_M3m.1
      have z_M3m := q_M3m.sz
      refine w_callV (M1 := M3m) hB (ci := 8) (As := [vi x2, vi 1]) (st := [vr 61, vi x7]) cw_L_135 q_427 q_428 rfl (soM hp.1 sh_64 (by decide)) (c_X10_play hp hc_M3m) ⟨rfl, rfl⟩ ⟨Nat.le_of_ble_eq_true rfl, Nat.le_of_ble_eq_true rfl⟩ ⟨show ce ≤ mc by omega, show sl ≤ ms by omega⟩ rfl (Nat.le_of_ble_eq_true rfl) dL_verdict_324 rfl ?_ (Or.inl rfl)
      refine w_aload hB 8 dL_verdict_327 rfl ?_
      refine w_aload hB 9 dL_verdict_329 rfl ?_
      obtain ⟨r4, M4m, hc_M4m, hF⟩ := clS hF
      have x_M4m := m_L_canAll hc_M4m
      have xa_M4m := x_M4m.1
      have xb_M4m := x_M4m.2.1
      have hg3 := m_L_verdict_b334 G41 hF
      have hg4 := hg3.1
      have hg5 := hg3.2.1
      refine w_callS (M1 := M4m) hB (As := [vr 61, vi r3, vr n8, vr n9]) (st := [vi x7]) cw_L_188 q_1202 (c_L_canAll hp hk hq hc_M4m) ⟨rfl, rfl⟩ ⟨Nat.le_of_ble_eq_true rfl, Nat.le_of_ble_eq_true rfl⟩ ⟨show ce + (M4m.2.2.2 - M3m.2.2.2) ≤ mc by omega, show sl + (szM M4m - szM M3m) ≤ ms by omega⟩ rfl (Nat.le_of_ble_eq_true rfl) dL_verdict_331 rfl ?_ (Or.inr (by omega))
      exact Wt.sub (L' := [(0, vr 64), (1, vr 61), (2, vi x2), (3, vi x3), (4, vr n4), (5, vi 1), (6, vi a1)]) [2, 3, 4, 5, 6, 1, 0] rfl (b_L_verdict_b334 hp hk hq hB G41 h41 hF (by omega) (by omega))
    · replace hF := ifT hc hF
      refine w_goto hB 345 dL_verdict_293 (by decide) ?_
      exact Wt.sub (L' := [(0, vr 64), (1, vr 61), (2, vi x2), (3, vi x3), (4, vr n4), (5, vi x5), (6, vi x6), (7, vi x7)]) [0, 1, 2, 3, 4, 5, 6, 7] rfl (b_L_verdict_b345 hp hk hq hB G41 h41 hF (by omega) (by omega))
  · replace hF := ifF hc hF
    refine w_iload hB 10 dL_verdict_259 rfl ?_
    refine w_aload hB 8 dL_verdict_261 rfl ?_
    refine w_iload hB 11 dL_verdict_263 rfl ?_
    obtain ⟨g1, hF⟩ := gdS hF
    obtain ⟨g2, hF⟩ := gdS hF
    refine w_iald hB (dqM g1) (sl_d g1.1 rfl) g2 dL_verdict_265 ?_
    refine w_aload hB 9 dL_verdict_266 rfl ?_
    refine w_iload hB 11 dL_verdict_268 rfl ?_
    obtain ⟨g3, hF⟩ := gdS hF
    obtain ⟨g4, hF⟩ := gdS hF
    refine w_iald hB (dqM g3) (sl_d g3.1 rfl) g4 dL_verdict_270 ?_
    refine w_icmp_gt hB 278 dL_verdict_271 (by decide) (fun hc => ?_) (fun hc => ?_)
    · replace hF := ifT hc hF
      refine w_iconst hB 0 (by decide) dL_verdict_278 ?_
      refine w_iand hB dL_verdict_279 ?_
      obtain ⟨a2, e_a2, hF⟩ := bndS hF
      refine w_istore hB (L' := [(10, vi a2), (0, vr 64), (1, vr 61), (2, vi x2), (3, vi x3), (4, vr n4), (5, vi x5), (6, vi x6), (7, vi x7), (8, vr n8), (9, vr n9), (11, vi x11)]) dL_verdict_280 (by decide) e_a2 rfl ?_
      obtain ⟨a3, e_a3, hF⟩ := bndS hF
      refine w_iinc hB 11 (v := 1) (L' := [(11, vi a3), (10, vi a2), (0, vr 64), (1, vr 61), (2, vi x2), (3, vi x3), (4, vr n4), (5, vi x5), (6, vi x6), (7, vi x7), (8, vr n8), (9, vr n9)]) dL_verdict_282 rfl (by decide) (by decide) e_a3 rfl ?_
      refine w_goto hB 253 dL_verdict_285 (by decide) ?_
      exact Wt.sub (L' := [(0, vr 64), (1, vr 61), (2, vi x2), (3, vi x3), (4, vr n4), (5, vi x5), (6, vi x6), (7, vi x7), (8, vr n8), (9, vr n9), (10, vi a2), (11, vi a3)]) [2, 3, 4, 5, 6, 7, 8, 9, 10, 11, 1, 0] rfl (h253 _ _ _ _ _ _ _ _ _ _ _ _ M hF (by omega) (by omega))
    · replace hF := ifF hc hF
      refine w_iconst hB 1 (by decide) dL_verdict_274 ?_
      refine w_goto hB 279 dL_verdict_275 (by decide) ?_
      refine w_iand hB dL_verdict_279 ?_
      obtain ⟨a4, e_a4, hF⟩ := bndS hF
      refine w_istore hB (L' := [(10, vi a4), (0, vr 64), (1, vr 61), (2, vi x2), (3, vi x3), (4, vr n4), (5, vi x5), (6, vi x6), (7, vi x7), (8, vr n8), (9, vr n9), (11, vi x11)]) dL_verdict_280 (by decide) e_a4 rfl ?_
      obtain ⟨a5, e_a5, hF⟩ := bndS hF
      refine w_iinc hB 11 (v := 1) (L' := [(11, vi a5), (10, vi a4), (0, vr 64), (1, vr 61), (2, vi x2), (3, vi x3), (4, vr n4), (5, vi x5), (6, vi x6), (7, vi x7), (8, vr n8), (9, vr n9)]) dL_verdict_282 rfl (by decide) (by decide) e_a5 rfl ?_
      refine w_goto hB 253 dL_verdict_285 (by decide) ?_
      exact Wt.sub (L' := [(0, vr 64), (1, vr 61), (2, vi x2), (3, vi x3), (4, vr n4), (5, vi x5), (6, vi x6), (7, vi x7), (8, vr n8), (9, vr n9), (10, vi a4), (11, vi a5)]) [2, 3, 4, 5, 6, 7, 8, 9, 10, 11, 1, 0] rfl (h253 _ _ _ _ _ _ _ _ _ _ _ _ M hF (by omega) (by omega))
def f_L_verdict_b253 (N : Nat) (xs : Nat → Int32) (rec41 : Int32 → Int32 → Nat → Int32 → Int32 → Int32 → Mem → Option (Int32 × Mem)) (k : Nat) : Int32 → Int32 → Nat → Int32 → Int32 → Int32 → Nat → Nat → Int32 → Int32 → Mem → Option (Int32 × Mem) := lpN (fun _ _ _ _ _ _ _ _ _ _ _ => none) (f_L_verdict_b253_s N xs rec41) k
theorem m_L_verdict_b253 {N : Nat} {xs : Nat → Int32} {rec41 : Int32 → Int32 → Nat → Int32 → Int32 → Int32 → Mem → Option (Int32 × Mem)} (G41 : (∀ (x2 : Int32) (x3 : Int32) (n4 : Nat) (x5 : Int32) (x6 : Int32) (x7 : Int32) (M Z : Mem) (r : Int32), rec41 x2 x3 n4 x5 x6 x7 M = some (r, Z) → GX M Z)) (k : Nat) : (∀ (x2 : Int32) (x3 : Int32) (n4 : Nat) (x5 : Int32) (x6 : Int32) (x7 : Int32) (n8 : Nat) (n9 : Nat) (x10 : Int32) (x11 : Int32) (M Z : Mem) (r : Int32), f_L_verdict_b253 N xs rec41 k x2 x3 n4 x5 x6 x7 n8 n9 x10 x11 M = some (r, Z) → GX M Z) :=
  lpN_ind (P := fun (f : Int32 → Int32 → Nat → Int32 → Int32 → Int32 → Nat → Nat → Int32 → Int32 → Mem → Option (Int32 × Mem)) => (∀ (x2 : Int32) (x3 : Int32) (n4 : Nat) (x5 : Int32) (x6 : Int32) (x7 : Int32) (n8 : Nat) (n9 : Nat) (x10 : Int32) (x11 : Int32) (M Z : Mem) (r : Int32), f x2 x3 n4 x5 x6 x7 n8 n9 x10 x11 M = some (r, Z) → GX M Z)) (fun _ _ _ _ _ _ _ _ _ _ _ _ _ h => by cases h) (fun f hf _ _ _ _ _ _ _ _ _ _ _ _ _ h => m_L_verdict_b253_s G41 hf h) k
theorem b_L_verdict_b253 {K : Kt} {X : Xt} (hp : St K) (hk : KC K) {N : Nat} {xs : Nat → Int32} (hq : KScr K N xs) {mc ms : Nat} (hB : Bx K X { frames := 7, cells := mc, slots := ms, locals := 224 } cL_verdict 14 RL (some .int)) {r : Int32} {M1 : Mem} {rec41 : Int32 → Int32 → Nat → Int32 → Int32 → Int32 → Mem → Option (Int32 × Mem)}
    (G41 : (∀ (x2 : Int32) (x3 : Int32) (n4 : Nat) (x5 : Int32) (x6 : Int32) (x7 : Int32) (M Z : Mem) (r : Int32), rec41 x2 x3 n4 x5 x6 x7 M = some (r, Z) → GX M Z)) (h41 : (∀ (x2 : Int32) (x3 : Int32) (n4 : Nat) (x5 : Int32) (x6 : Int32) (x7 : Int32) (ce sl : Nat) (M : Mem), rec41 x2 x3 n4 x5 x6 x7 M = some (r, M1) → mc + M.2.2.2 = ce + M1.2.2.2 → ms + szM M = sl + szM M1 → Wt K X (QM K X (some (vi r)) M1 mc ms) ce sl M 41 [(0, vr 64), (1, vr 61), (2, vi x2), (3, vi x3), (4, vr n4), (5, vi x5), (6, vi x6), (7, vi x7)] [])) (k : Nat) : (∀ (x2 : Int32) (x3 : Int32) (n4 : Nat) (x5 : Int32) (x6 : Int32) (x7 : Int32) (n8 : Nat) (n9 : Nat) (x10 : Int32) (x11 : Int32) (ce sl : Nat) (M : Mem), f_L_verdict_b253 N xs rec41 k x2 x3 n4 x5 x6 x7 n8 n9 x10 x11 M = some (r, M1) → mc + M.2.2.2 = ce + M1.2.2.2 → ms + szM M = sl + szM M1 → Wt K X (QM K X (some (vi r)) M1 mc ms) ce sl M 253 [(0, vr 64), (1, vr 61), (2, vi x2), (3, vi x3), (4, vr n4), (5, vi x5), (6, vi x6), (7, vi x7), (8, vr n8), (9, vr n9), (10, vi x10), (11, vi x11)] []) :=
  (lpN_ind (P := fun (f : Int32 → Int32 → Nat → Int32 → Int32 → Int32 → Nat → Nat → Int32 → Int32 → Mem → Option (Int32 × Mem)) => (∀ (x2 : Int32) (x3 : Int32) (n4 : Nat) (x5 : Int32) (x6 : Int32) (x7 : Int32) (n8 : Nat) (n9 : Nat) (x10 : Int32) (x11 : Int32) (M Z : Mem) (r : Int32), f x2 x3 n4 x5 x6 x7 n8 n9 x10 x11 M = some (r, Z) → GX M Z) ∧ (∀ (x2 : Int32) (x3 : Int32) (n4 : Nat) (x5 : Int32) (x6 : Int32) (x7 : Int32) (n8 : Nat) (n9 : Nat) (x10 : Int32) (x11 : Int32) (ce sl : Nat) (M : Mem), f x2 x3 n4 x5 x6 x7 n8 n9 x10 x11 M = some (r, M1) → mc + M.2.2.2 = ce + M1.2.2.2 → ms + szM M = sl + szM M1 → Wt K X (QM K X (some (vi r)) M1 mc ms) ce sl M 253 [(0, vr 64), (1, vr 61), (2, vi x2), (3, vi x3), (4, vr n4), (5, vi x5), (6, vi x6), (7, vi x7), (8, vr n8), (9, vr n9), (10, vi x10), (11, vi x11)] [])) ⟨fun _ _ _ _ _ _ _ _ _ _ _ _ _ h => (by cases h), fun _ _ _ _ _ _ _ _ _ _ _ _ _ h _ _ => (by cases h)⟩ (fun f hf => ⟨fun _ _ _ _ _ _ _ _ _ _ _ _ _ h => m_L_verdict_b253_s G41 hf.1 h, fun _ _ _ _ _ _ _ _ _ _ _ _ _ hF hn hz => b_L_verdict_b253_s hp hk hq hB G41 h41 hf.1 hf.2 hF hn hz⟩) k).2
def f_L_verdict_b204 (N : Nat) (xs : Nat → Int32) (rec41 : Int32 → Int32 → Nat → Int32 → Int32 → Int32 → Mem → Option (Int32 × Mem)) (rec118 : Int32 → Int32 → Nat → Int32 → Int32 → Int32 → Nat → Nat → Int32 → Int32 → Mem → Option (Int32 × Mem)) (rec166 : Int32 → Int32 → Nat → Int32 → Int32 → Int32 → Nat → Nat → Int32 → Int32 → Int32 → Int32 → Mem → Option (Int32 × Mem)) (x2 : Int32) (x3 : Int32) (n4 : Nat) (x5 : Int32) (x6 : Int32) (x7 : Int32) (n8 : Nat) (n9 : Nat) (x10 : Int32) (x11 : Int32) (x12 : Int32) (x13 : Int32) (M : Mem) : Option (Int32 × Mem) :=
  cl (f_X10_frame x2 x11 3 M) fun r1 M1m =>
  if ((r1 >>> (x13 &&& 31)) &&& 1) = 1 then
    gd (1000 ≤ n8 ∧ dsc M1m n8 = 20 ∧ n8 - 753 < M1m.2.2.2) <|
    gd (inb x13 (dln M1m n8)) <|
    bnd (setI M1m n8 (x13.toNatClampNeg) (max32 (M1m.1 n8 x13.toNatClampNeg) (x12 + 1))) fun M2m =>
    bnd (x13 + 1) fun a1 =>
    rec166 x2 x3 n4 x5 x6 x7 n8 n9 x10 x11 x12 a1 M2m
  else
    bnd (x13 + 1) fun a2 =>
    rec166 x2 x3 n4 x5 x6 x7 n8 n9 x10 x11 x12 a2 M1m
set_option maxRecDepth 100000 in
set_option maxHeartbeats 4000000 in
theorem m_L_verdict_b204 {N : Nat} {xs : Nat → Int32} {rec41 : Int32 → Int32 → Nat → Int32 → Int32 → Int32 → Mem → Option (Int32 × Mem)} {rec118 : Int32 → Int32 → Nat → Int32 → Int32 → Int32 → Nat → Nat → Int32 → Int32 → Mem → Option (Int32 × Mem)} {rec166 : Int32 → Int32 → Nat → Int32 → Int32 → Int32 → Nat → Nat → Int32 → Int32 → Int32 → Int32 → Mem → Option (Int32 × Mem)} (G41 : (∀ (x2 : Int32) (x3 : Int32) (n4 : Nat) (x5 : Int32) (x6 : Int32) (x7 : Int32) (M Z : Mem) (r : Int32), rec41 x2 x3 n4 x5 x6 x7 M = some (r, Z) → GX M Z)) (G118 : (∀ (x2 : Int32) (x3 : Int32) (n4 : Nat) (x5 : Int32) (x6 : Int32) (x7 : Int32) (n8 : Nat) (n9 : Nat) (x10 : Int32) (x11 : Int32) (M Z : Mem) (r : Int32), rec118 x2 x3 n4 x5 x6 x7 n8 n9 x10 x11 M = some (r, Z) → GX M Z)) (G166 : (∀ (x2 : Int32) (x3 : Int32) (n4 : Nat) (x5 : Int32) (x6 : Int32) (x7 : Int32) (n8 : Nat) (n9 : Nat) (x10 : Int32) (x11 : Int32) (x12 : Int32) (x13 : Int32) (M Z : Mem) (r : Int32), rec166 x2 x3 n4 x5 x6 x7 n8 n9 x10 x11 x12 x13 M = some (r, Z) → GX M Z)) {x2 : Int32} {x3 : Int32} {n4 : Nat} {x5 : Int32} {x6 : Int32} {x7 : Int32} {n8 : Nat} {n9 : Nat} {x10 : Int32} {x11 : Int32} {x12 : Int32} {x13 : Int32} {M Z : Mem} {r : Int32} (h : f_L_verdict_b204 N xs rec41 rec118 rec166 x2 x3 n4 x5 x6 x7 n8 n9 x10 x11 x12 x13 M = some (r, Z)) : GX M Z := by
  unfold f_L_verdict_b204 at h
  obtain ⟨r1, M1m, c_M1m, h⟩ := clS h
  have q_M1m : GX M M1m := GX.tr (GX.refl M) ((k_X10_frame c_M1m).gx)
  rcases ifS h with ⟨-, h⟩ | ⟨-, h⟩
  · obtain ⟨gq2, h⟩ := gdS h
    obtain ⟨gq3, h⟩ := gdS h
    obtain ⟨M2m, e_M2m, h⟩ := bndS h
    have q_M2m : GX M M2m := GX.tr q_M1m (by rw [e_M2m]; exact (EQ_I _ _ _ _).gx)
    obtain ⟨a1, e_a1, h⟩ := bndS h
    exact GX.tr q_M2m (G166 _ _ _ _ _ _ _ _ _ _ _ _ _ _ _ h)
  · obtain ⟨a2, e_a2, h⟩ := bndS h
    exact GX.tr q_M1m (G166 _ _ _ _ _ _ _ _ _ _ _ _ _ _ _ h)
set_option maxRecDepth 100000 in
set_option maxHeartbeats 4000000 in
theorem b_L_verdict_b204 {K : Kt} {X : Xt} (hp : St K) (hk : KC K) {N : Nat} {xs : Nat → Int32} (hq : KScr K N xs) {mc ms : Nat} (hB : Bx K X { frames := 7, cells := mc, slots := ms, locals := 224 } cL_verdict 14 RL (some .int)) {r : Int32} {M1 : Mem} {rec41 : Int32 → Int32 → Nat → Int32 → Int32 → Int32 → Mem → Option (Int32 × Mem)} {rec118 : Int32 → Int32 → Nat → Int32 → Int32 → Int32 → Nat → Nat → Int32 → Int32 → Mem → Option (Int32 × Mem)} {rec166 : Int32 → Int32 → Nat → Int32 → Int32 → Int32 → Nat → Nat → Int32 → Int32 → Int32 → Int32 → Mem → Option (Int32 × Mem)}
    (G41 : (∀ (x2 : Int32) (x3 : Int32) (n4 : Nat) (x5 : Int32) (x6 : Int32) (x7 : Int32) (M Z : Mem) (r : Int32), rec41 x2 x3 n4 x5 x6 x7 M = some (r, Z) → GX M Z)) (h41 : (∀ (x2 : Int32) (x3 : Int32) (n4 : Nat) (x5 : Int32) (x6 : Int32) (x7 : Int32) (ce sl : Nat) (M : Mem), rec41 x2 x3 n4 x5 x6 x7 M = some (r, M1) → mc + M.2.2.2 = ce + M1.2.2.2 → ms + szM M = sl + szM M1 → Wt K X (QM K X (some (vi r)) M1 mc ms) ce sl M 41 [(0, vr 64), (1, vr 61), (2, vi x2), (3, vi x3), (4, vr n4), (5, vi x5), (6, vi x6), (7, vi x7)] []))
    (G118 : (∀ (x2 : Int32) (x3 : Int32) (n4 : Nat) (x5 : Int32) (x6 : Int32) (x7 : Int32) (n8 : Nat) (n9 : Nat) (x10 : Int32) (x11 : Int32) (M Z : Mem) (r : Int32), rec118 x2 x3 n4 x5 x6 x7 n8 n9 x10 x11 M = some (r, Z) → GX M Z)) (h118 : (∀ (x2 : Int32) (x3 : Int32) (n4 : Nat) (x5 : Int32) (x6 : Int32) (x7 : Int32) (n8 : Nat) (n9 : Nat) (x10 : Int32) (x11 : Int32) (ce sl : Nat) (M : Mem), rec118 x2 x3 n4 x5 x6 x7 n8 n9 x10 x11 M = some (r, M1) → mc + M.2.2.2 = ce + M1.2.2.2 → ms + szM M = sl + szM M1 → Wt K X (QM K X (some (vi r)) M1 mc ms) ce sl M 118 [(0, vr 64), (1, vr 61), (2, vi x2), (3, vi x3), (4, vr n4), (5, vi x5), (6, vi x6), (7, vi x7), (8, vr n8), (9, vr n9), (10, vi x10), (11, vi x11)] []))
    (G166 : (∀ (x2 : Int32) (x3 : Int32) (n4 : Nat) (x5 : Int32) (x6 : Int32) (x7 : Int32) (n8 : Nat) (n9 : Nat) (x10 : Int32) (x11 : Int32) (x12 : Int32) (x13 : Int32) (M Z : Mem) (r : Int32), rec166 x2 x3 n4 x5 x6 x7 n8 n9 x10 x11 x12 x13 M = some (r, Z) → GX M Z)) (h166 : (∀ (x2 : Int32) (x3 : Int32) (n4 : Nat) (x5 : Int32) (x6 : Int32) (x7 : Int32) (n8 : Nat) (n9 : Nat) (x10 : Int32) (x11 : Int32) (x12 : Int32) (x13 : Int32) (ce sl : Nat) (M : Mem), rec166 x2 x3 n4 x5 x6 x7 n8 n9 x10 x11 x12 x13 M = some (r, M1) → mc + M.2.2.2 = ce + M1.2.2.2 → ms + szM M = sl + szM M1 → Wt K X (QM K X (some (vi r)) M1 mc ms) ce sl M 166 [(0, vr 64), (1, vr 61), (2, vi x2), (3, vi x3), (4, vr n4), (5, vi x5), (6, vi x6), (7, vi x7), (8, vr n8), (9, vr n9), (10, vi x10), (11, vi x11), (12, vi x12), (13, vi x13)] [])) {x2 : Int32} {x3 : Int32} {n4 : Nat} {x5 : Int32} {x6 : Int32} {x7 : Int32} {n8 : Nat} {n9 : Nat} {x10 : Int32} {x11 : Int32} {x12 : Int32} {x13 : Int32} {ce sl : Nat} {M : Mem} (hF : f_L_verdict_b204 N xs rec41 rec118 rec166 x2 x3 n4 x5 x6 x7 n8 n9 x10 x11 x12 x13 M = some (r, M1)) (hn : mc + M.2.2.2 = ce + M1.2.2.2) (hz : ms + szM M = sl + szM M1) : Wt K X (QM K X (some (vi r)) M1 mc ms) ce sl M 204 [(0, vr 64), (1, vr 61), (2, vi x2), (3, vi x3), (4, vr n4), (5, vi x5), (6, vi x6), (7, vi x7), (8, vr n8), (9, vr n9), (10, vi x10), (11, vi x11), (12, vi x12), (13, vi x13)] [] := by
  have hg := m_L_verdict_b204 G41 G118 G166 hF
  have hg1 := hg.1
  have hg2 := hg.2.1
  unfold f_L_verdict_b204 at hF
  refine w_aload_n hB 0 dL_verdict_204 rfl rfl ?_
  refine w_iload_n hB 2 dL_verdict_205 rfl rfl ?_
  refine w_iload hB 11 dL_verdict_206 rfl ?_
  refine w_iconst hB 3 (by decide) dL_verdict_208 ?_
  obtain ⟨r1, M1m, hc_M1m, hF⟩ := clS hF
  have q_M1m : EQ M M1m := k_X10_frame hc_M1m
  have x_M1m := q_M1m.gx
  have n_M1m := q_M1m.1
  have z_M1m := q_M1m.sz
  refine w_callV (M1 := M1m) hB (ci := 8) (As := [vi x2, vi x11, vi 3]) (st := []) cw_L_165 q_1101 q_1102 rfl (soM hp.1 sh_64 (by decide)) (c_X10_frame hp hc_M1m) ⟨rfl, rfl⟩ ⟨Nat.le_of_ble_eq_true rfl, Nat.le_of_ble_eq_true rfl⟩ ⟨show ce ≤ mc by omega, show sl ≤ ms by omega⟩ rfl (Nat.le_of_ble_eq_true rfl) dL_verdict_209 rfl ?_ (Or.inl rfl)
  refine w_iload hB 13 dL_verdict_212 rfl ?_
  refine w_ishr hB dL_verdict_214 ?_
  refine w_iconst hB 1 (by decide) dL_verdict_215 ?_
  refine w_iand hB dL_verdict_216 ?_
  refine w_iconst hB 1 (by decide) dL_verdict_217 ?_
  refine w_icmp_ne hB 238 dL_verdict_218 (by decide) (fun hc => ?_) (fun hc => ?_)
  · replace hF := ifF hc hF
    obtain ⟨a2, e_a2, hF⟩ := bndS hF
    refine w_iinc hB 13 (v := 1) (L' := [(13, vi a2), (0, vr 64), (1, vr 61), (2, vi x2), (3, vi x3), (4, vr n4), (5, vi x5), (6, vi x6), (7, vi x7), (8, vr n8), (9, vr n9), (10, vi x10), (11, vi x11), (12, vi x12)]) dL_verdict_238 rfl (by decide) (by decide) e_a2 rfl ?_
    refine w_goto hB 166 dL_verdict_241 (by decide) ?_
    exact Wt.sub (L' := [(0, vr 64), (1, vr 61), (2, vi x2), (3, vi x3), (4, vr n4), (5, vi x5), (6, vi x6), (7, vi x7), (8, vr n8), (9, vr n9), (10, vi x10), (11, vi x11), (12, vi x12), (13, vi a2)]) [1, 2, 3, 4, 5, 6, 7, 8, 9, 10, 11, 12, 13, 0] rfl (h166 _ _ _ _ _ _ _ _ _ _ _ _ _ _ M1m hF (by omega) (by omega))
  · replace hF := ifT hc hF
    refine w_aload hB 8 dL_verdict_221 rfl ?_
    refine w_iload hB 13 dL_verdict_223 rfl ?_
    refine w_aload hB 8 dL_verdict_225 rfl ?_
    refine w_iload hB 13 dL_verdict_227 rfl ?_
    obtain ⟨g1, hF⟩ := gdS hF
    obtain ⟨g2, hF⟩ := gdS hF
    refine w_iald hB (dqM g1) (sl_d g1.1 rfl) g2 dL_verdict_229 ?_
    refine w_iload hB 12 dL_verdict_230 rfl ?_
    refine w_iconst hB 1 (by decide) dL_verdict_232 ?_
    refine w_iadd hB dL_verdict_233 ?_
    refine w_max hB q_1188 (Nat.le_of_ble_eq_true rfl) (Nat.le_of_ble_eq_true rfl) ⟨show ce ≤ mc by omega, show sl ≤ ms by omega⟩ dL_verdict_234 ?_
    obtain ⟨M2m, e_M2m, hF⟩ := bndS hF
    have q_M2m : EQ M1m M2m := by rw [e_M2m]; exact EQ_I _ _ _ _
    have x_M2m := q_M2m.gx
    have n_M2m := q_M2m.1
    have z_M2m := q_M2m.sz
    refine w_iast hB (dqM g1) (sl_d g1.1 rfl) g2 e_M2m dL_verdict_237 ?_
    obtain ⟨a1, e_a1, hF⟩ := bndS hF
    refine w_iinc hB 13 (v := 1) (L' := [(13, vi a1), (0, vr 64), (1, vr 61), (2, vi x2), (3, vi x3), (4, vr n4), (5, vi x5), (6, vi x6), (7, vi x7), (8, vr n8), (9, vr n9), (10, vi x10), (11, vi x11), (12, vi x12)]) dL_verdict_238 rfl (by decide) (by decide) e_a1 rfl ?_
    refine w_goto hB 166 dL_verdict_241 (by decide) ?_
    exact Wt.sub (L' := [(0, vr 64), (1, vr 61), (2, vi x2), (3, vi x3), (4, vr n4), (5, vi x5), (6, vi x6), (7, vi x7), (8, vr n8), (9, vr n9), (10, vi x10), (11, vi x11), (12, vi x12), (13, vi a1)]) [1, 2, 3, 4, 5, 6, 7, 8, 9, 10, 11, 12, 13, 0] rfl (h166 _ _ _ _ _ _ _ _ _ _ _ _ _ _ M2m hF (by omega) (by omega))
def f_L_verdict_b166_s (N : Nat) (xs : Nat → Int32) (rec41 : Int32 → Int32 → Nat → Int32 → Int32 → Int32 → Mem → Option (Int32 × Mem)) (rec118 : Int32 → Int32 → Nat → Int32 → Int32 → Int32 → Nat → Nat → Int32 → Int32 → Mem → Option (Int32 × Mem)) (rec166 : Int32 → Int32 → Nat → Int32 → Int32 → Int32 → Nat → Nat → Int32 → Int32 → Int32 → Int32 → Mem → Option (Int32 × Mem)) (x2 : Int32) (x3 : Int32) (n4 : Nat) (x5 : Int32) (x6 : Int32) (x7 : Int32) (n8 : Nat) (n9 : Nat) (x10 : Int32) (x11 : Int32) (x12 : Int32) (x13 : Int32) (M : Mem) : Option (Int32 × Mem) :=
  if 4 ≤ x13 then
    bnd (x11 + 1) fun a1 =>
    rec118 x2 x3 n4 x5 x6 x7 n8 n9 x10 a1 M
  else
    cl (f_X10_frame x2 x11 2 M) fun r1 M1m =>
    if ((r1 >>> (x13 &&& 31)) &&& 1) = 1 then
      gd (1000 ≤ n9 ∧ dsc M1m n9 = 20 ∧ n9 - 753 < M1m.2.2.2) <|
      gd (inb x13 (dln M1m n9)) <|
      bnd (setI M1m n9 (x13.toNatClampNeg) (min32 (M1m.1 n9 x13.toNatClampNeg) x12)) fun M2m =>
      f_L_verdict_b204 N xs rec41 rec118 rec166 x2 x3 n4 x5 x6 x7 n8 n9 x10 x11 x12 x13 M2m
    else
      f_L_verdict_b204 N xs rec41 rec118 rec166 x2 x3 n4 x5 x6 x7 n8 n9 x10 x11 x12 x13 M1m
set_option maxRecDepth 100000 in
set_option maxHeartbeats 4000000 in
theorem m_L_verdict_b166_s {N : Nat} {xs : Nat → Int32} {rec41 : Int32 → Int32 → Nat → Int32 → Int32 → Int32 → Mem → Option (Int32 × Mem)} {rec118 : Int32 → Int32 → Nat → Int32 → Int32 → Int32 → Nat → Nat → Int32 → Int32 → Mem → Option (Int32 × Mem)} {rec166 : Int32 → Int32 → Nat → Int32 → Int32 → Int32 → Nat → Nat → Int32 → Int32 → Int32 → Int32 → Mem → Option (Int32 × Mem)} (G41 : (∀ (x2 : Int32) (x3 : Int32) (n4 : Nat) (x5 : Int32) (x6 : Int32) (x7 : Int32) (M Z : Mem) (r : Int32), rec41 x2 x3 n4 x5 x6 x7 M = some (r, Z) → GX M Z)) (G118 : (∀ (x2 : Int32) (x3 : Int32) (n4 : Nat) (x5 : Int32) (x6 : Int32) (x7 : Int32) (n8 : Nat) (n9 : Nat) (x10 : Int32) (x11 : Int32) (M Z : Mem) (r : Int32), rec118 x2 x3 n4 x5 x6 x7 n8 n9 x10 x11 M = some (r, Z) → GX M Z)) (G166 : (∀ (x2 : Int32) (x3 : Int32) (n4 : Nat) (x5 : Int32) (x6 : Int32) (x7 : Int32) (n8 : Nat) (n9 : Nat) (x10 : Int32) (x11 : Int32) (x12 : Int32) (x13 : Int32) (M Z : Mem) (r : Int32), rec166 x2 x3 n4 x5 x6 x7 n8 n9 x10 x11 x12 x13 M = some (r, Z) → GX M Z)) {x2 : Int32} {x3 : Int32} {n4 : Nat} {x5 : Int32} {x6 : Int32} {x7 : Int32} {n8 : Nat} {n9 : Nat} {x10 : Int32} {x11 : Int32} {x12 : Int32} {x13 : Int32} {M Z : Mem} {r : Int32} (h : f_L_verdict_b166_s N xs rec41 rec118 rec166 x2 x3 n4 x5 x6 x7 n8 n9 x10 x11 x12 x13 M = some (r, Z)) : GX M Z := by
  unfold f_L_verdict_b166_s at h
  rcases ifS h with ⟨-, h⟩ | ⟨-, h⟩
  · obtain ⟨a1, e_a1, h⟩ := bndS h
    exact GX.tr (GX.refl M) (G118 _ _ _ _ _ _ _ _ _ _ _ _ _ h)
  · obtain ⟨r1, M1m, c_M1m, h⟩ := clS h
    have q_M1m : GX M M1m := GX.tr (GX.refl M) ((k_X10_frame c_M1m).gx)
    rcases ifS h with ⟨-, h⟩ | ⟨-, h⟩
    · obtain ⟨gq6, h⟩ := gdS h
      obtain ⟨gq7, h⟩ := gdS h
      obtain ⟨M2m, e_M2m, h⟩ := bndS h
      have q_M2m : GX M M2m := GX.tr q_M1m (by rw [e_M2m]; exact (EQ_I _ _ _ _).gx)
      exact GX.tr q_M2m (m_L_verdict_b204 G41 G118 G166 h)
    · exact GX.tr q_M1m (m_L_verdict_b204 G41 G118 G166 h)
set_option maxRecDepth 100000 in
set_option maxHeartbeats 4000000 in
theorem b_L_verdict_b166_s {K : Kt} {X : Xt} (hp : St K) (hk : KC K) {N : Nat} {xs : Nat → Int32} (hq : KScr K N xs) {mc ms : Nat} (hB : Bx K X { frames := 7, cells := mc, slots := ms, locals := 224 } cL_verdict 14 RL (some .int)) {r : Int32} {M1 : Mem} {rec41 : Int32 → Int32 → Nat → Int32 → Int32 → Int32 → Mem → Option (Int32 × Mem)} {rec118 : Int32 → Int32 → Nat → Int32 → Int32 → Int32 → Nat → Nat → Int32 → Int32 → Mem → Option (Int32 × Mem)} {rec166 : Int32 → Int32 → Nat → Int32 → Int32 → Int32 → Nat → Nat → Int32 → Int32 → Int32 → Int32 → Mem → Option (Int32 × Mem)}
    (G41 : (∀ (x2 : Int32) (x3 : Int32) (n4 : Nat) (x5 : Int32) (x6 : Int32) (x7 : Int32) (M Z : Mem) (r : Int32), rec41 x2 x3 n4 x5 x6 x7 M = some (r, Z) → GX M Z)) (h41 : (∀ (x2 : Int32) (x3 : Int32) (n4 : Nat) (x5 : Int32) (x6 : Int32) (x7 : Int32) (ce sl : Nat) (M : Mem), rec41 x2 x3 n4 x5 x6 x7 M = some (r, M1) → mc + M.2.2.2 = ce + M1.2.2.2 → ms + szM M = sl + szM M1 → Wt K X (QM K X (some (vi r)) M1 mc ms) ce sl M 41 [(0, vr 64), (1, vr 61), (2, vi x2), (3, vi x3), (4, vr n4), (5, vi x5), (6, vi x6), (7, vi x7)] []))
    (G118 : (∀ (x2 : Int32) (x3 : Int32) (n4 : Nat) (x5 : Int32) (x6 : Int32) (x7 : Int32) (n8 : Nat) (n9 : Nat) (x10 : Int32) (x11 : Int32) (M Z : Mem) (r : Int32), rec118 x2 x3 n4 x5 x6 x7 n8 n9 x10 x11 M = some (r, Z) → GX M Z)) (h118 : (∀ (x2 : Int32) (x3 : Int32) (n4 : Nat) (x5 : Int32) (x6 : Int32) (x7 : Int32) (n8 : Nat) (n9 : Nat) (x10 : Int32) (x11 : Int32) (ce sl : Nat) (M : Mem), rec118 x2 x3 n4 x5 x6 x7 n8 n9 x10 x11 M = some (r, M1) → mc + M.2.2.2 = ce + M1.2.2.2 → ms + szM M = sl + szM M1 → Wt K X (QM K X (some (vi r)) M1 mc ms) ce sl M 118 [(0, vr 64), (1, vr 61), (2, vi x2), (3, vi x3), (4, vr n4), (5, vi x5), (6, vi x6), (7, vi x7), (8, vr n8), (9, vr n9), (10, vi x10), (11, vi x11)] []))
    (G166 : (∀ (x2 : Int32) (x3 : Int32) (n4 : Nat) (x5 : Int32) (x6 : Int32) (x7 : Int32) (n8 : Nat) (n9 : Nat) (x10 : Int32) (x11 : Int32) (x12 : Int32) (x13 : Int32) (M Z : Mem) (r : Int32), rec166 x2 x3 n4 x5 x6 x7 n8 n9 x10 x11 x12 x13 M = some (r, Z) → GX M Z)) (h166 : (∀ (x2 : Int32) (x3 : Int32) (n4 : Nat) (x5 : Int32) (x6 : Int32) (x7 : Int32) (n8 : Nat) (n9 : Nat) (x10 : Int32) (x11 : Int32) (x12 : Int32) (x13 : Int32) (ce sl : Nat) (M : Mem), rec166 x2 x3 n4 x5 x6 x7 n8 n9 x10 x11 x12 x13 M = some (r, M1) → mc + M.2.2.2 = ce + M1.2.2.2 → ms + szM M = sl + szM M1 → Wt K X (QM K X (some (vi r)) M1 mc ms) ce sl M 166 [(0, vr 64), (1, vr 61), (2, vi x2), (3, vi x3), (4, vr n4), (5, vi x5), (6, vi x6), (7, vi x7), (8, vr n8), (9, vr n9), (10, vi x10), (11, vi x11), (12, vi x12), (13, vi x13)] [])) {x2 : Int32} {x3 : Int32} {n4 : Nat} {x5 : Int32} {x6 : Int32} {x7 : Int32} {n8 : Nat} {n9 : Nat} {x10 : Int32} {x11 : Int32} {x12 : Int32} {x13 : Int32} {ce sl : Nat} {M : Mem} (hF : f_L_verdict_b166_s N xs rec41 rec118 rec166 x2 x3 n4 x5 x6 x7 n8 n9 x10 x11 x12 x13 M = some (r, M1)) (hn : mc + M.2.2.2 = ce + M1.2.2.2) (hz : ms + szM M = sl + szM M1) : Wt K X (QM K X (some (vi r)) M1 mc ms) ce sl M 166 [(0, vr 64), (1, vr 61), (2, vi x2), (3, vi x3), (4, vr n4), (5, vi x5), (6, vi x6), (7, vi x7), (8, vr n8), (9, vr n9), (10, vi x10), (11, vi x11), (12, vi x12), (13, vi x13)] [] := by
  have hg := m_L_verdict_b166_s G41 G118 G166 hF
  have hg1 := hg.1
  have hg2 := hg.2.1
  unfold f_L_verdict_b166_s at hF
  refine w_iload hB 13 dL_verdict_166 rfl ?_
  refine w_iconst hB 4 (by decide) dL_verdict_168 ?_
  refine w_icmp_ge hB 244 dL_verdict_169 (by decide) (fun hc => ?_) (fun hc => ?_)
  · replace hF := ifT hc hF
    obtain ⟨a1, e_a1, hF⟩ := bndS hF
    refine w_iinc hB 11 (v := 1) (L' := [(11, vi a1), (0, vr 64), (1, vr 61), (2, vi x2), (3, vi x3), (4, vr n4), (5, vi x5), (6, vi x6), (7, vi x7), (8, vr n8), (9, vr n9), (10, vi x10), (12, vi x12), (13, vi x13)]) dL_verdict_244 rfl (by decide) (by decide) e_a1 rfl ?_
    refine w_goto hB 118 dL_verdict_247 (by decide) ?_
    exact Wt.sub (L' := [(0, vr 64), (1, vr 61), (2, vi x2), (3, vi x3), (4, vr n4), (5, vi x5), (6, vi x6), (7, vi x7), (8, vr n8), (9, vr n9), (10, vi x10), (11, vi a1)]) [1, 2, 3, 4, 5, 6, 7, 8, 9, 10, 11, 0] rfl (h118 _ _ _ _ _ _ _ _ _ _ _ _ M hF (by omega) (by omega))
  · replace hF := ifF hc hF
    refine w_aload_n hB 0 dL_verdict_172 rfl rfl ?_
    refine w_iload_n hB 2 dL_verdict_173 rfl rfl ?_
    refine w_iload hB 11 dL_verdict_174 rfl ?_
    refine w_iconst hB 2 (by decide) dL_verdict_176 ?_
    obtain ⟨r1, M1m, hc_M1m, hF⟩ := clS hF
    have q_M1m : EQ M M1m := k_X10_frame hc_M1m
    have x_M1m := q_M1m.gx
    have n_M1m := q_M1m.1
    have z_M1m := q_M1m.sz
    refine w_callV (M1 := M1m) hB (ci := 8) (As := [vi x2, vi x11, vi 2]) (st := []) cw_L_165 q_1101 q_1102 rfl (soM hp.1 sh_64 (by decide)) (c_X10_frame hp hc_M1m) ⟨rfl, rfl⟩ ⟨Nat.le_of_ble_eq_true rfl, Nat.le_of_ble_eq_true rfl⟩ ⟨show ce ≤ mc by omega, show sl ≤ ms by omega⟩ rfl (Nat.le_of_ble_eq_true rfl) dL_verdict_177 rfl ?_ (Or.inl rfl)
    refine w_iload hB 13 dL_verdict_180 rfl ?_
    refine w_ishr hB dL_verdict_182 ?_
    refine w_iconst hB 1 (by decide) dL_verdict_183 ?_
    refine w_iand hB dL_verdict_184 ?_
    refine w_iconst hB 1 (by decide) dL_verdict_185 ?_
    refine w_icmp_ne hB 204 dL_verdict_186 (by decide) (fun hc => ?_) (fun hc => ?_)
    · replace hF := ifF hc hF
      exact Wt.sub (L' := [(0, vr 64), (1, vr 61), (2, vi x2), (3, vi x3), (4, vr n4), (5, vi x5), (6, vi x6), (7, vi x7), (8, vr n8), (9, vr n9), (10, vi x10), (11, vi x11), (12, vi x12), (13, vi x13)]) [0, 1, 2, 3, 4, 5, 6, 7, 8, 9, 10, 11, 12, 13] rfl (b_L_verdict_b204 hp hk hq hB G41 h41 G118 h118 G166 h166 hF (by omega) (by omega))
    · replace hF := ifT hc hF
      refine w_aload hB 9 dL_verdict_189 rfl ?_
      refine w_iload hB 13 dL_verdict_191 rfl ?_
      refine w_aload hB 9 dL_verdict_193 rfl ?_
      refine w_iload hB 13 dL_verdict_195 rfl ?_
      obtain ⟨g1, hF⟩ := gdS hF
      obtain ⟨g2, hF⟩ := gdS hF
      refine w_iald hB (dqM g1) (sl_d g1.1 rfl) g2 dL_verdict_197 ?_
      refine w_iload hB 12 dL_verdict_198 rfl ?_
      refine w_min hB q_1187 (Nat.le_of_ble_eq_true rfl) (Nat.le_of_ble_eq_true rfl) ⟨show ce ≤ mc by omega, show sl ≤ ms by omega⟩ dL_verdict_200 ?_
      obtain ⟨M2m, e_M2m, hF⟩ := bndS hF
      have q_M2m : EQ M1m M2m := by rw [e_M2m]; exact EQ_I _ _ _ _
      have x_M2m := q_M2m.gx
      have n_M2m := q_M2m.1
      have z_M2m := q_M2m.sz
      refine w_iast hB (dqM g1) (sl_d g1.1 rfl) g2 e_M2m dL_verdict_203 ?_
      exact Wt.sub (L' := [(0, vr 64), (1, vr 61), (2, vi x2), (3, vi x3), (4, vr n4), (5, vi x5), (6, vi x6), (7, vi x7), (8, vr n8), (9, vr n9), (10, vi x10), (11, vi x11), (12, vi x12), (13, vi x13)]) [0, 1, 2, 3, 4, 5, 6, 7, 8, 9, 10, 11, 12, 13] rfl (b_L_verdict_b204 hp hk hq hB G41 h41 G118 h118 G166 h166 hF (by omega) (by omega))
def f_L_verdict_b166 (N : Nat) (xs : Nat → Int32) (rec41 : Int32 → Int32 → Nat → Int32 → Int32 → Int32 → Mem → Option (Int32 × Mem)) (rec118 : Int32 → Int32 → Nat → Int32 → Int32 → Int32 → Nat → Nat → Int32 → Int32 → Mem → Option (Int32 × Mem)) (k : Nat) : Int32 → Int32 → Nat → Int32 → Int32 → Int32 → Nat → Nat → Int32 → Int32 → Int32 → Int32 → Mem → Option (Int32 × Mem) := lpN (fun _ _ _ _ _ _ _ _ _ _ _ _ _ => none) (f_L_verdict_b166_s N xs rec41 rec118) k
theorem m_L_verdict_b166 {N : Nat} {xs : Nat → Int32} {rec41 : Int32 → Int32 → Nat → Int32 → Int32 → Int32 → Mem → Option (Int32 × Mem)} {rec118 : Int32 → Int32 → Nat → Int32 → Int32 → Int32 → Nat → Nat → Int32 → Int32 → Mem → Option (Int32 × Mem)} (G41 : (∀ (x2 : Int32) (x3 : Int32) (n4 : Nat) (x5 : Int32) (x6 : Int32) (x7 : Int32) (M Z : Mem) (r : Int32), rec41 x2 x3 n4 x5 x6 x7 M = some (r, Z) → GX M Z)) (G118 : (∀ (x2 : Int32) (x3 : Int32) (n4 : Nat) (x5 : Int32) (x6 : Int32) (x7 : Int32) (n8 : Nat) (n9 : Nat) (x10 : Int32) (x11 : Int32) (M Z : Mem) (r : Int32), rec118 x2 x3 n4 x5 x6 x7 n8 n9 x10 x11 M = some (r, Z) → GX M Z)) (k : Nat) : (∀ (x2 : Int32) (x3 : Int32) (n4 : Nat) (x5 : Int32) (x6 : Int32) (x7 : Int32) (n8 : Nat) (n9 : Nat) (x10 : Int32) (x11 : Int32) (x12 : Int32) (x13 : Int32) (M Z : Mem) (r : Int32), f_L_verdict_b166 N xs rec41 rec118 k x2 x3 n4 x5 x6 x7 n8 n9 x10 x11 x12 x13 M = some (r, Z) → GX M Z) :=
  lpN_ind (P := fun (f : Int32 → Int32 → Nat → Int32 → Int32 → Int32 → Nat → Nat → Int32 → Int32 → Int32 → Int32 → Mem → Option (Int32 × Mem)) => (∀ (x2 : Int32) (x3 : Int32) (n4 : Nat) (x5 : Int32) (x6 : Int32) (x7 : Int32) (n8 : Nat) (n9 : Nat) (x10 : Int32) (x11 : Int32) (x12 : Int32) (x13 : Int32) (M Z : Mem) (r : Int32), f x2 x3 n4 x5 x6 x7 n8 n9 x10 x11 x12 x13 M = some (r, Z) → GX M Z)) (fun _ _ _ _ _ _ _ _ _ _ _ _ _ _ _ h => by cases h) (fun f hf _ _ _ _ _ _ _ _ _ _ _ _ _ _ _ h => m_L_verdict_b166_s G41 G118 hf h) k
theorem b_L_verdict_b166 {K : Kt} {X : Xt} (hp : St K) (hk : KC K) {N : Nat} {xs : Nat → Int32} (hq : KScr K N xs) {mc ms : Nat} (hB : Bx K X { frames := 7, cells := mc, slots := ms, locals := 224 } cL_verdict 14 RL (some .int)) {r : Int32} {M1 : Mem} {rec41 : Int32 → Int32 → Nat → Int32 → Int32 → Int32 → Mem → Option (Int32 × Mem)} {rec118 : Int32 → Int32 → Nat → Int32 → Int32 → Int32 → Nat → Nat → Int32 → Int32 → Mem → Option (Int32 × Mem)}
    (G41 : (∀ (x2 : Int32) (x3 : Int32) (n4 : Nat) (x5 : Int32) (x6 : Int32) (x7 : Int32) (M Z : Mem) (r : Int32), rec41 x2 x3 n4 x5 x6 x7 M = some (r, Z) → GX M Z)) (h41 : (∀ (x2 : Int32) (x3 : Int32) (n4 : Nat) (x5 : Int32) (x6 : Int32) (x7 : Int32) (ce sl : Nat) (M : Mem), rec41 x2 x3 n4 x5 x6 x7 M = some (r, M1) → mc + M.2.2.2 = ce + M1.2.2.2 → ms + szM M = sl + szM M1 → Wt K X (QM K X (some (vi r)) M1 mc ms) ce sl M 41 [(0, vr 64), (1, vr 61), (2, vi x2), (3, vi x3), (4, vr n4), (5, vi x5), (6, vi x6), (7, vi x7)] []))
    (G118 : (∀ (x2 : Int32) (x3 : Int32) (n4 : Nat) (x5 : Int32) (x6 : Int32) (x7 : Int32) (n8 : Nat) (n9 : Nat) (x10 : Int32) (x11 : Int32) (M Z : Mem) (r : Int32), rec118 x2 x3 n4 x5 x6 x7 n8 n9 x10 x11 M = some (r, Z) → GX M Z)) (h118 : (∀ (x2 : Int32) (x3 : Int32) (n4 : Nat) (x5 : Int32) (x6 : Int32) (x7 : Int32) (n8 : Nat) (n9 : Nat) (x10 : Int32) (x11 : Int32) (ce sl : Nat) (M : Mem), rec118 x2 x3 n4 x5 x6 x7 n8 n9 x10 x11 M = some (r, M1) → mc + M.2.2.2 = ce + M1.2.2.2 → ms + szM M = sl + szM M1 → Wt K X (QM K X (some (vi r)) M1 mc ms) ce sl M 118 [(0, vr 64), (1, vr 61), (2, vi x2), (3, vi x3), (4, vr n4), (5, vi x5), (6, vi x6), (7, vi x7), (8, vr n8), (9, vr n9), (10, vi x10), (11, vi x11)] [])) (k : Nat) : (∀ (x2 : Int32) (x3 : Int32) (n4 : Nat) (x5 : Int32) (x6 : Int32) (x7 : Int32) (n8 : Nat) (n9 : Nat) (x10 : Int32) (x11 : Int32) (x12 : Int32) (x13 : Int32) (ce sl : Nat) (M : Mem), f_L_verdict_b166 N xs rec41 rec118 k x2 x3 n4 x5 x6 x7 n8 n9 x10 x11 x12 x13 M = some (r, M1) → mc + M.2.2.2 = ce + M1.2.2.2 → ms + szM M = sl + szM M1 → Wt K X (QM K X (some (vi r)) M1 mc ms) ce sl M 166 [(0, vr 64), (1, vr 61), (2, vi x2), (3, vi x3), (4, vr n4), (5, vi x5), (6, vi x6), (7, vi x7), (8, vr n8), (9, vr n9), (10, vi x10), (11, vi x11), (12, vi x12), (13, vi x13)] []) :=
  (lpN_ind (P := fun (f : Int32 → Int32 → Nat → Int32 → Int32 → Int32 → Nat → Nat → Int32 → Int32 → Int32 → Int32 → Mem → Option (Int32 × Mem)) => (∀ (x2 : Int32) (x3 : Int32) (n4 : Nat) (x5 : Int32) (x6 : Int32) (x7 : Int32) (n8 : Nat) (n9 : Nat) (x10 : Int32) (x11 : Int32) (x12 : Int32) (x13 : Int32) (M Z : Mem) (r : Int32), f x2 x3 n4 x5 x6 x7 n8 n9 x10 x11 x12 x13 M = some (r, Z) → GX M Z) ∧ (∀ (x2 : Int32) (x3 : Int32) (n4 : Nat) (x5 : Int32) (x6 : Int32) (x7 : Int32) (n8 : Nat) (n9 : Nat) (x10 : Int32) (x11 : Int32) (x12 : Int32) (x13 : Int32) (ce sl : Nat) (M : Mem), f x2 x3 n4 x5 x6 x7 n8 n9 x10 x11 x12 x13 M = some (r, M1) → mc + M.2.2.2 = ce + M1.2.2.2 → ms + szM M = sl + szM M1 → Wt K X (QM K X (some (vi r)) M1 mc ms) ce sl M 166 [(0, vr 64), (1, vr 61), (2, vi x2), (3, vi x3), (4, vr n4), (5, vi x5), (6, vi x6), (7, vi x7), (8, vr n8), (9, vr n9), (10, vi x10), (11, vi x11), (12, vi x12), (13, vi x13)] [])) ⟨fun _ _ _ _ _ _ _ _ _ _ _ _ _ _ _ h => (by cases h), fun _ _ _ _ _ _ _ _ _ _ _ _ _ _ _ h _ _ => (by cases h)⟩ (fun f hf => ⟨fun _ _ _ _ _ _ _ _ _ _ _ _ _ _ _ h => m_L_verdict_b166_s G41 G118 hf.1 h, fun _ _ _ _ _ _ _ _ _ _ _ _ _ _ _ hF hn hz => b_L_verdict_b166_s hp hk hq hB G41 h41 G118 h118 hf.1 hf.2 hF hn hz⟩) k).2
def f_L_verdict_b118_s (N : Nat) (xs : Nat → Int32) (rec41 : Int32 → Int32 → Nat → Int32 → Int32 → Int32 → Mem → Option (Int32 × Mem)) (rec118 : Int32 → Int32 → Nat → Int32 → Int32 → Int32 → Nat → Nat → Int32 → Int32 → Mem → Option (Int32 × Mem)) (x2 : Int32) (x3 : Int32) (n4 : Nat) (x5 : Int32) (x6 : Int32) (x7 : Int32) (n8 : Nat) (n9 : Nat) (x10 : Int32) (x11 : Int32) (M : Mem) : Option (Int32 × Mem) :=
  cl (f_X10_play x2 5 M) fun r1 M1m =>
  if r1 ≤ x11 then
    f_L_verdict_b253 N xs rec41 fuel x2 x3 n4 x5 x6 x7 n8 n9 x10 0 M1m
  else
    if ((x3 >>> (x11 &&& 31)) &&& 1) = 0 then
      bnd (x11 + 1) fun a1 =>
      rec118 x2 x3 n4 x5 x6 x7 n8 n9 x10 a1 M1m
    else
      cl (f_X10_frame x2 x11 1 M1m) fun r2 M2m =>
      cl (f_X10_frame x2 x11 0 M2m) fun r3 M3m =>
      gd (1000 ≤ n4 ∧ dsc M3m n4 = 20 ∧ n4 - 753 < M3m.2.2.2) <|
      gd (inb r3 (dln M3m n4)) <|
      bnd (r2 - (M3m.1 n4 r3.toNatClampNeg)) fun a2 =>
      f_L_verdict_b166 N xs rec41 rec118 fuel x2 x3 n4 x5 x6 x7 n8 n9 x10 x11 a2 0 M3m
set_option maxRecDepth 100000 in
set_option maxHeartbeats 4000000 in
theorem m_L_verdict_b118_s {N : Nat} {xs : Nat → Int32} {rec41 : Int32 → Int32 → Nat → Int32 → Int32 → Int32 → Mem → Option (Int32 × Mem)} {rec118 : Int32 → Int32 → Nat → Int32 → Int32 → Int32 → Nat → Nat → Int32 → Int32 → Mem → Option (Int32 × Mem)} (G41 : (∀ (x2 : Int32) (x3 : Int32) (n4 : Nat) (x5 : Int32) (x6 : Int32) (x7 : Int32) (M Z : Mem) (r : Int32), rec41 x2 x3 n4 x5 x6 x7 M = some (r, Z) → GX M Z)) (G118 : (∀ (x2 : Int32) (x3 : Int32) (n4 : Nat) (x5 : Int32) (x6 : Int32) (x7 : Int32) (n8 : Nat) (n9 : Nat) (x10 : Int32) (x11 : Int32) (M Z : Mem) (r : Int32), rec118 x2 x3 n4 x5 x6 x7 n8 n9 x10 x11 M = some (r, Z) → GX M Z)) {x2 : Int32} {x3 : Int32} {n4 : Nat} {x5 : Int32} {x6 : Int32} {x7 : Int32} {n8 : Nat} {n9 : Nat} {x10 : Int32} {x11 : Int32} {M Z : Mem} {r : Int32} (h : f_L_verdict_b118_s N xs rec41 rec118 x2 x3 n4 x5 x6 x7 n8 n9 x10 x11 M = some (r, Z)) : GX M Z := by
  unfold f_L_verdict_b118_s at h
  obtain ⟨r1, M1m, c_M1m, h⟩ := clS h
  have q_M1m : GX M M1m := GX.tr (GX.refl M) ((k_X10_play c_M1m).gx)
  rcases ifS h with ⟨-, h⟩ | ⟨-, h⟩
  · exact GX.tr q_M1m (m_L_verdict_b253 G41 _ _ _ _ _ _ _ _ _ _ _ _ _ _ h)
  · rcases ifS h with ⟨-, h⟩ | ⟨-, h⟩
    · obtain ⟨a1, e_a1, h⟩ := bndS h
      exact GX.tr q_M1m (G118 _ _ _ _ _ _ _ _ _ _ _ _ _ h)
    · obtain ⟨r2, M2m, c_M2m, h⟩ := clS h
      have q_M2m : GX M M2m := GX.tr q_M1m ((k_X10_frame c_M2m).gx)
      obtain ⟨r3, M3m, c_M3m, h⟩ := clS h
      have q_M3m : GX M M3m := GX.tr q_M2m ((k_X10_frame c_M3m).gx)
      obtain ⟨gq10, h⟩ := gdS h
      obtain ⟨gq11, h⟩ := gdS h
      obtain ⟨a2, e_a2, h⟩ := bndS h
      exact GX.tr q_M3m (m_L_verdict_b166 G41 G118 _ _ _ _ _ _ _ _ _ _ _ _ _ _ _ _ h)
set_option maxRecDepth 100000 in
set_option maxHeartbeats 4000000 in
theorem b_L_verdict_b118_s {K : Kt} {X : Xt} (hp : St K) (hk : KC K) {N : Nat} {xs : Nat → Int32} (hq : KScr K N xs) {mc ms : Nat} (hB : Bx K X { frames := 7, cells := mc, slots := ms, locals := 224 } cL_verdict 14 RL (some .int)) {r : Int32} {M1 : Mem} {rec41 : Int32 → Int32 → Nat → Int32 → Int32 → Int32 → Mem → Option (Int32 × Mem)} {rec118 : Int32 → Int32 → Nat → Int32 → Int32 → Int32 → Nat → Nat → Int32 → Int32 → Mem → Option (Int32 × Mem)}
    (G41 : (∀ (x2 : Int32) (x3 : Int32) (n4 : Nat) (x5 : Int32) (x6 : Int32) (x7 : Int32) (M Z : Mem) (r : Int32), rec41 x2 x3 n4 x5 x6 x7 M = some (r, Z) → GX M Z)) (h41 : (∀ (x2 : Int32) (x3 : Int32) (n4 : Nat) (x5 : Int32) (x6 : Int32) (x7 : Int32) (ce sl : Nat) (M : Mem), rec41 x2 x3 n4 x5 x6 x7 M = some (r, M1) → mc + M.2.2.2 = ce + M1.2.2.2 → ms + szM M = sl + szM M1 → Wt K X (QM K X (some (vi r)) M1 mc ms) ce sl M 41 [(0, vr 64), (1, vr 61), (2, vi x2), (3, vi x3), (4, vr n4), (5, vi x5), (6, vi x6), (7, vi x7)] []))
    (G118 : (∀ (x2 : Int32) (x3 : Int32) (n4 : Nat) (x5 : Int32) (x6 : Int32) (x7 : Int32) (n8 : Nat) (n9 : Nat) (x10 : Int32) (x11 : Int32) (M Z : Mem) (r : Int32), rec118 x2 x3 n4 x5 x6 x7 n8 n9 x10 x11 M = some (r, Z) → GX M Z)) (h118 : (∀ (x2 : Int32) (x3 : Int32) (n4 : Nat) (x5 : Int32) (x6 : Int32) (x7 : Int32) (n8 : Nat) (n9 : Nat) (x10 : Int32) (x11 : Int32) (ce sl : Nat) (M : Mem), rec118 x2 x3 n4 x5 x6 x7 n8 n9 x10 x11 M = some (r, M1) → mc + M.2.2.2 = ce + M1.2.2.2 → ms + szM M = sl + szM M1 → Wt K X (QM K X (some (vi r)) M1 mc ms) ce sl M 118 [(0, vr 64), (1, vr 61), (2, vi x2), (3, vi x3), (4, vr n4), (5, vi x5), (6, vi x6), (7, vi x7), (8, vr n8), (9, vr n9), (10, vi x10), (11, vi x11)] [])) {x2 : Int32} {x3 : Int32} {n4 : Nat} {x5 : Int32} {x6 : Int32} {x7 : Int32} {n8 : Nat} {n9 : Nat} {x10 : Int32} {x11 : Int32} {ce sl : Nat} {M : Mem} (hF : f_L_verdict_b118_s N xs rec41 rec118 x2 x3 n4 x5 x6 x7 n8 n9 x10 x11 M = some (r, M1)) (hn : mc + M.2.2.2 = ce + M1.2.2.2) (hz : ms + szM M = sl + szM M1) : Wt K X (QM K X (some (vi r)) M1 mc ms) ce sl M 118 [(0, vr 64), (1, vr 61), (2, vi x2), (3, vi x3), (4, vr n4), (5, vi x5), (6, vi x6), (7, vi x7), (8, vr n8), (9, vr n9), (10, vi x10), (11, vi x11)] [] := by
  have hg := m_L_verdict_b118_s G41 G118 hF
  have hg1 := hg.1
  have hg2 := hg.2.1
  unfold f_L_verdict_b118_s at hF
  refine w_iload hB 11 dL_verdict_118 rfl ?_
  refine w_aload_n hB 0 dL_verdict_120 rfl rfl ?_
  refine w_iload_n hB 2 dL_verdict_121 rfl rfl ?_
  refine w_iconst hB 5 (by decide) dL_verdict_122 ?_
  obtain ⟨r1, M1m, hc_M1m, hF⟩ := clS hF
  have q_M1m : EQ M M1m := k_X10_play hc_M1m
  have x_M1m := q_M1m.gx
  have n_M1m := q_M1m.1
  have z_M1m := q_M1m.sz
  refine w_callV (M1 := M1m) hB (ci := 8) (As := [vi x2, vi 5]) (st := [vi x11]) cw_L_135 q_427 q_428 rfl (soM hp.1 sh_64 (by decide)) (c_X10_play hp hc_M1m) ⟨rfl, rfl⟩ ⟨Nat.le_of_ble_eq_true rfl, Nat.le_of_ble_eq_true rfl⟩ ⟨show ce ≤ mc by omega, show sl ≤ ms by omega⟩ rfl (Nat.le_of_ble_eq_true rfl) dL_verdict_123 rfl ?_ (Or.inl rfl)
  refine w_icmp_ge hB 250 dL_verdict_126 (by decide) (fun hc => ?_) (fun hc => ?_)
  · replace hF := ifT hc hF
    refine w_iconst hB 0 (by decide) dL_verdict_250 ?_
    refine w_istore hB (L' := [(11, vi 0), (0, vr 64), (1, vr 61), (2, vi x2), (3, vi x3), (4, vr n4), (5, vi x5), (6, vi x6), (7, vi x7), (8, vr n8), (9, vr n9), (10, vi x10)]) dL_verdict_251 (by decide) rfl rfl ?_
    exact Wt.sub (L' := [(0, vr 64), (1, vr 61), (2, vi x2), (3, vi x3), (4, vr n4), (5, vi x5), (6, vi x6), (7, vi x7), (8, vr n8), (9, vr n9), (10, vi x10), (11, vi 0)]) [1, 2, 3, 4, 5, 6, 7, 8, 9, 10, 11, 0] rfl (b_L_verdict_b253 hp hk hq hB G41 h41 fuel _ _ _ _ _ _ _ _ _ _ _ _ M1m hF (by omega) (by omega))
  · replace hF := ifF hc hF
    refine w_iload_n hB 3 dL_verdict_129 rfl rfl ?_
    refine w_iload hB 11 dL_verdict_130 rfl ?_
    refine w_ishr hB dL_verdict_132 ?_
    refine w_iconst hB 1 (by decide) dL_verdict_133 ?_
    refine w_iand hB dL_verdict_134 ?_
    refine w_if_ne hB 141 dL_verdict_135 (by decide) (fun hc => ?_) (fun hc => ?_)
    · replace hF := ifF hc hF
      refine w_aload_n hB 0 dL_verdict_141 rfl rfl ?_
      refine w_iload_n hB 2 dL_verdict_142 rfl rfl ?_
      refine w_iload hB 11 dL_verdict_143 rfl ?_
      refine w_iconst hB 1 (by decide) dL_verdict_145 ?_
      obtain ⟨r2, M2m, hc_M2m, hF⟩ := clS hF
      have q_M2m : EQ M1m M2m := k_X10_frame hc_M2m
      have x_M2m := q_M2m.gx
      have n_M2m := q_M2m.1
      have z_M2m := q_M2m.sz
      refine w_callV (M1 := M2m) hB (ci := 8) (As := [vi x2, vi x11, vi 1]) (st := []) cw_L_165 q_1101 q_1102 rfl (soM hp.1 sh_64 (by decide)) (c_X10_frame hp hc_M2m) ⟨rfl, rfl⟩ ⟨Nat.le_of_ble_eq_true rfl, Nat.le_of_ble_eq_true rfl⟩ ⟨show ce ≤ mc by omega, show sl ≤ ms by omega⟩ rfl (Nat.le_of_ble_eq_true rfl) dL_verdict_146 rfl ?_ (Or.inl rfl)
      refine w_aload hB 4 dL_verdict_149 rfl ?_
      refine w_aload_n hB 0 dL_verdict_151 rfl rfl ?_
      refine w_iload_n hB 2 dL_verdict_152 rfl rfl ?_
      refine w_iload hB 11 dL_verdict_153 rfl ?_
      refine w_iconst hB 0 (by decide) dL_verdict_155 ?_
      obtain ⟨r3, M3m, hc_M3m, hF⟩ := clS hF
      have q_M3m : EQ M2m M3m := k_X10_frame hc_M3m
      have x_M3m := q_M3m.gx
      have n_M3m := q_M3m.1
      have z_M3m := q_M3m.sz
      refine w_callV (M1 := M3m) hB (ci := 8) (As := [vi x2, vi x11, vi 0]) (st := [vr n4, vi r2]) cw_L_165 q_1101 q_1102 rfl (soM hp.1 sh_64 (by decide)) (c_X10_frame hp hc_M3m) ⟨rfl, rfl⟩ ⟨Nat.le_of_ble_eq_true rfl, Nat.le_of_ble_eq_true rfl⟩ ⟨show ce ≤ mc by omega, show sl ≤ ms by omega⟩ rfl (Nat.le_of_ble_eq_true rfl) dL_verdict_156 rfl ?_ (Or.inl rfl)
      obtain ⟨g1, hF⟩ := gdS hF
      obtain ⟨g2, hF⟩ := gdS hF
      refine w_iald hB (dqM g1) (sl_d g1.1 rfl) g2 dL_verdict_159 ?_
      refine w_isub hB dL_verdict_160 ?_
      obtain ⟨a2, e_a2, hF⟩ := bndS hF
      refine w_istore hB (L' := [(12, vi a2), (0, vr 64), (1, vr 61), (2, vi x2), (3, vi x3), (4, vr n4), (5, vi x5), (6, vi x6), (7, vi x7), (8, vr n8), (9, vr n9), (10, vi x10), (11, vi x11)]) dL_verdict_161 (by decide) e_a2 rfl ?_
      refine w_iconst hB 0 (by decide) dL_verdict_163 ?_
      refine w_istore hB (L' := [(13, vi 0), (12, vi a2), (0, vr 64), (1, vr 61), (2, vi x2), (3, vi x3), (4, vr n4), (5, vi x5), (6, vi x6), (7, vi x7), (8, vr n8), (9, vr n9), (10, vi x10), (11, vi x11)]) dL_verdict_164 (by decide) rfl rfl ?_
      exact Wt.sub (L' := [(0, vr 64), (1, vr 61), (2, vi x2), (3, vi x3), (4, vr n4), (5, vi x5), (6, vi x6), (7, vi x7), (8, vr n8), (9, vr n9), (10, vi x10), (11, vi x11), (12, vi a2), (13, vi 0)]) [2, 3, 4, 5, 6, 7, 8, 9, 10, 11, 12, 13, 1, 0] rfl (b_L_verdict_b166 hp hk hq hB G41 h41 G118 h118 fuel _ _ _ _ _ _ _ _ _ _ _ _ _ _ M3m hF (by omega) (by omega))
    · replace hF := ifT hc hF
      refine w_goto hB 244 dL_verdict_138 (by decide) ?_
      obtain ⟨a1, e_a1, hF⟩ := bndS hF
      refine w_iinc hB 11 (v := 1) (L' := [(11, vi a1), (0, vr 64), (1, vr 61), (2, vi x2), (3, vi x3), (4, vr n4), (5, vi x5), (6, vi x6), (7, vi x7), (8, vr n8), (9, vr n9), (10, vi x10)]) dL_verdict_244 rfl (by decide) (by decide) e_a1 rfl ?_
      refine w_goto hB 118 dL_verdict_247 (by decide) ?_
      exact Wt.sub (L' := [(0, vr 64), (1, vr 61), (2, vi x2), (3, vi x3), (4, vr n4), (5, vi x5), (6, vi x6), (7, vi x7), (8, vr n8), (9, vr n9), (10, vi x10), (11, vi a1)]) [1, 2, 3, 4, 5, 6, 7, 8, 9, 10, 11, 0] rfl (h118 _ _ _ _ _ _ _ _ _ _ _ _ M1m hF (by omega) (by omega))
def f_L_verdict_b118 (N : Nat) (xs : Nat → Int32) (rec41 : Int32 → Int32 → Nat → Int32 → Int32 → Int32 → Mem → Option (Int32 × Mem)) (k : Nat) : Int32 → Int32 → Nat → Int32 → Int32 → Int32 → Nat → Nat → Int32 → Int32 → Mem → Option (Int32 × Mem) := lpN (fun _ _ _ _ _ _ _ _ _ _ _ => none) (f_L_verdict_b118_s N xs rec41) k
theorem m_L_verdict_b118 {N : Nat} {xs : Nat → Int32} {rec41 : Int32 → Int32 → Nat → Int32 → Int32 → Int32 → Mem → Option (Int32 × Mem)} (G41 : (∀ (x2 : Int32) (x3 : Int32) (n4 : Nat) (x5 : Int32) (x6 : Int32) (x7 : Int32) (M Z : Mem) (r : Int32), rec41 x2 x3 n4 x5 x6 x7 M = some (r, Z) → GX M Z)) (k : Nat) : (∀ (x2 : Int32) (x3 : Int32) (n4 : Nat) (x5 : Int32) (x6 : Int32) (x7 : Int32) (n8 : Nat) (n9 : Nat) (x10 : Int32) (x11 : Int32) (M Z : Mem) (r : Int32), f_L_verdict_b118 N xs rec41 k x2 x3 n4 x5 x6 x7 n8 n9 x10 x11 M = some (r, Z) → GX M Z) :=
  lpN_ind (P := fun (f : Int32 → Int32 → Nat → Int32 → Int32 → Int32 → Nat → Nat → Int32 → Int32 → Mem → Option (Int32 × Mem)) => (∀ (x2 : Int32) (x3 : Int32) (n4 : Nat) (x5 : Int32) (x6 : Int32) (x7 : Int32) (n8 : Nat) (n9 : Nat) (x10 : Int32) (x11 : Int32) (M Z : Mem) (r : Int32), f x2 x3 n4 x5 x6 x7 n8 n9 x10 x11 M = some (r, Z) → GX M Z)) (fun _ _ _ _ _ _ _ _ _ _ _ _ _ h => by cases h) (fun f hf _ _ _ _ _ _ _ _ _ _ _ _ _ h => m_L_verdict_b118_s G41 hf h) k
theorem b_L_verdict_b118 {K : Kt} {X : Xt} (hp : St K) (hk : KC K) {N : Nat} {xs : Nat → Int32} (hq : KScr K N xs) {mc ms : Nat} (hB : Bx K X { frames := 7, cells := mc, slots := ms, locals := 224 } cL_verdict 14 RL (some .int)) {r : Int32} {M1 : Mem} {rec41 : Int32 → Int32 → Nat → Int32 → Int32 → Int32 → Mem → Option (Int32 × Mem)}
    (G41 : (∀ (x2 : Int32) (x3 : Int32) (n4 : Nat) (x5 : Int32) (x6 : Int32) (x7 : Int32) (M Z : Mem) (r : Int32), rec41 x2 x3 n4 x5 x6 x7 M = some (r, Z) → GX M Z)) (h41 : (∀ (x2 : Int32) (x3 : Int32) (n4 : Nat) (x5 : Int32) (x6 : Int32) (x7 : Int32) (ce sl : Nat) (M : Mem), rec41 x2 x3 n4 x5 x6 x7 M = some (r, M1) → mc + M.2.2.2 = ce + M1.2.2.2 → ms + szM M = sl + szM M1 → Wt K X (QM K X (some (vi r)) M1 mc ms) ce sl M 41 [(0, vr 64), (1, vr 61), (2, vi x2), (3, vi x3), (4, vr n4), (5, vi x5), (6, vi x6), (7, vi x7)] [])) (k : Nat) : (∀ (x2 : Int32) (x3 : Int32) (n4 : Nat) (x5 : Int32) (x6 : Int32) (x7 : Int32) (n8 : Nat) (n9 : Nat) (x10 : Int32) (x11 : Int32) (ce sl : Nat) (M : Mem), f_L_verdict_b118 N xs rec41 k x2 x3 n4 x5 x6 x7 n8 n9 x10 x11 M = some (r, M1) → mc + M.2.2.2 = ce + M1.2.2.2 → ms + szM M = sl + szM M1 → Wt K X (QM K X (some (vi r)) M1 mc ms) ce sl M 118 [(0, vr 64), (1, vr 61), (2, vi x2), (3, vi x3), (4, vr n4), (5, vi x5), (6, vi x6), (7, vi x7), (8, vr n8), (9, vr n9), (10, vi x10), (11, vi x11)] []) :=
  (lpN_ind (P := fun (f : Int32 → Int32 → Nat → Int32 → Int32 → Int32 → Nat → Nat → Int32 → Int32 → Mem → Option (Int32 × Mem)) => (∀ (x2 : Int32) (x3 : Int32) (n4 : Nat) (x5 : Int32) (x6 : Int32) (x7 : Int32) (n8 : Nat) (n9 : Nat) (x10 : Int32) (x11 : Int32) (M Z : Mem) (r : Int32), f x2 x3 n4 x5 x6 x7 n8 n9 x10 x11 M = some (r, Z) → GX M Z) ∧ (∀ (x2 : Int32) (x3 : Int32) (n4 : Nat) (x5 : Int32) (x6 : Int32) (x7 : Int32) (n8 : Nat) (n9 : Nat) (x10 : Int32) (x11 : Int32) (ce sl : Nat) (M : Mem), f x2 x3 n4 x5 x6 x7 n8 n9 x10 x11 M = some (r, M1) → mc + M.2.2.2 = ce + M1.2.2.2 → ms + szM M = sl + szM M1 → Wt K X (QM K X (some (vi r)) M1 mc ms) ce sl M 118 [(0, vr 64), (1, vr 61), (2, vi x2), (3, vi x3), (4, vr n4), (5, vi x5), (6, vi x6), (7, vi x7), (8, vr n8), (9, vr n9), (10, vi x10), (11, vi x11)] [])) ⟨fun _ _ _ _ _ _ _ _ _ _ _ _ _ h => (by cases h), fun _ _ _ _ _ _ _ _ _ _ _ _ _ h _ _ => (by cases h)⟩ (fun f hf => ⟨fun _ _ _ _ _ _ _ _ _ _ _ _ _ h => m_L_verdict_b118_s G41 hf.1 h, fun _ _ _ _ _ _ _ _ _ _ _ _ _ hF hn hz => b_L_verdict_b118_s hp hk hq hB G41 h41 hf.1 hf.2 hF hn hz⟩) k).2
def f_L_verdict_b86 (N : Nat) (xs : Nat → Int32) (rec41 : Int32 → Int32 → Nat → Int32 → Int32 → Int32 → Mem → Option (Int32 × Mem)) (x2 : Int32) (x3 : Int32) (n4 : Nat) (x5 : Int32) (x6 : Int32) (x7 : Int32) (n8 : Nat) (ns0 : Nat) (M : Mem) : Option (Int32 × Mem) :=
  gd (1000 ≤ ns0 ∧ dsc M ns0 = 20 ∧ ns0 - 753 < M.2.2.2) <|
  gd (inb 0 (dln M ns0)) <|
  bnd (setI M ns0 0 1000) fun M1m =>
  gd (inb 1 (dln M ns0)) <|
  bnd (setI M1m ns0 1 1000) fun M2m =>
  gd (inb 2 (dln M ns0)) <|
  bnd (setI M2m ns0 2 1000) fun M3m =>
  gd (inb 3 (dln M ns0)) <|
  bnd (setI M3m ns0 3 1000) fun M4m =>
  f_L_verdict_b118 N xs rec41 fuel x2 x3 n4 x5 x6 x7 n8 ns0 1 0 M4m
set_option maxRecDepth 100000 in
set_option maxHeartbeats 4000000 in
theorem m_L_verdict_b86 {N : Nat} {xs : Nat → Int32} {rec41 : Int32 → Int32 → Nat → Int32 → Int32 → Int32 → Mem → Option (Int32 × Mem)} (G41 : (∀ (x2 : Int32) (x3 : Int32) (n4 : Nat) (x5 : Int32) (x6 : Int32) (x7 : Int32) (M Z : Mem) (r : Int32), rec41 x2 x3 n4 x5 x6 x7 M = some (r, Z) → GX M Z)) {x2 : Int32} {x3 : Int32} {n4 : Nat} {x5 : Int32} {x6 : Int32} {x7 : Int32} {n8 : Nat} {ns0 : Nat} {M Z : Mem} {r : Int32} (h : f_L_verdict_b86 N xs rec41 x2 x3 n4 x5 x6 x7 n8 ns0 M = some (r, Z)) : GX M Z := by
  unfold f_L_verdict_b86 at h
  obtain ⟨gq0, h⟩ := gdS h
  obtain ⟨gq1, h⟩ := gdS h
  obtain ⟨M1m, e_M1m, h⟩ := bndS h
  have q_M1m : GX M M1m := GX.tr (GX.refl M) (by rw [e_M1m]; exact (EQ_I _ _ _ _).gx)
  obtain ⟨gq3, h⟩ := gdS h
  obtain ⟨M2m, e_M2m, h⟩ := bndS h
  have q_M2m : GX M M2m := GX.tr q_M1m (by rw [e_M2m]; exact (EQ_I _ _ _ _).gx)
  obtain ⟨gq5, h⟩ := gdS h
  obtain ⟨M3m, e_M3m, h⟩ := bndS h
  have q_M3m : GX M M3m := GX.tr q_M2m (by rw [e_M3m]; exact (EQ_I _ _ _ _).gx)
  obtain ⟨gq7, h⟩ := gdS h
  obtain ⟨M4m, e_M4m, h⟩ := bndS h
  have q_M4m : GX M M4m := GX.tr q_M3m (by rw [e_M4m]; exact (EQ_I _ _ _ _).gx)
  exact GX.tr q_M4m (m_L_verdict_b118 G41 _ _ _ _ _ _ _ _ _ _ _ _ _ _ h)
set_option maxRecDepth 100000 in
set_option maxHeartbeats 4000000 in
theorem b_L_verdict_b86 {K : Kt} {X : Xt} (hp : St K) (hk : KC K) {N : Nat} {xs : Nat → Int32} (hq : KScr K N xs) {mc ms : Nat} (hB : Bx K X { frames := 7, cells := mc, slots := ms, locals := 224 } cL_verdict 14 RL (some .int)) {r : Int32} {M1 : Mem} {rec41 : Int32 → Int32 → Nat → Int32 → Int32 → Int32 → Mem → Option (Int32 × Mem)}
    (G41 : (∀ (x2 : Int32) (x3 : Int32) (n4 : Nat) (x5 : Int32) (x6 : Int32) (x7 : Int32) (M Z : Mem) (r : Int32), rec41 x2 x3 n4 x5 x6 x7 M = some (r, Z) → GX M Z)) (h41 : (∀ (x2 : Int32) (x3 : Int32) (n4 : Nat) (x5 : Int32) (x6 : Int32) (x7 : Int32) (ce sl : Nat) (M : Mem), rec41 x2 x3 n4 x5 x6 x7 M = some (r, M1) → mc + M.2.2.2 = ce + M1.2.2.2 → ms + szM M = sl + szM M1 → Wt K X (QM K X (some (vi r)) M1 mc ms) ce sl M 41 [(0, vr 64), (1, vr 61), (2, vi x2), (3, vi x3), (4, vr n4), (5, vi x5), (6, vi x6), (7, vi x7)] [])) {x2 : Int32} {x3 : Int32} {n4 : Nat} {x5 : Int32} {x6 : Int32} {x7 : Int32} {n8 : Nat} {ns0 : Nat} {ce sl : Nat} {M : Mem} (hF : f_L_verdict_b86 N xs rec41 x2 x3 n4 x5 x6 x7 n8 ns0 M = some (r, M1)) (hn : mc + M.2.2.2 = ce + M1.2.2.2) (hz : ms + szM M = sl + szM M1) : Wt K X (QM K X (some (vi r)) M1 mc ms) ce sl M 86 [(0, vr 64), (1, vr 61), (2, vi x2), (3, vi x3), (4, vr n4), (5, vi x5), (6, vi x6), (7, vi x7), (8, vr n8)] [vr ns0] := by
  have hg := m_L_verdict_b86 G41 hF
  have hg1 := hg.1
  have hg2 := hg.2.1
  unfold f_L_verdict_b86 at hF
  refine w_dup hB rfl dL_verdict_86 ?_
  refine w_iconst hB 0 (by decide) dL_verdict_87 ?_
  refine w_sipush hB 1000 (by decide) dL_verdict_88 ?_
  obtain ⟨g1, hF⟩ := gdS hF
  obtain ⟨g2, hF⟩ := gdS hF
  obtain ⟨M1m, e_M1m, hF⟩ := bndS hF
  have q_M1m : EQ M M1m := by rw [e_M1m]; exact EQ_I _ _ _ _
  have x_M1m := q_M1m.gx
  have n_M1m := q_M1m.1
  have z_M1m := q_M1m.sz
  refine w_iast hB (dqM g1) (sl_d g1.1 rfl) g2 e_M1m dL_verdict_91 ?_
  refine w_dup hB rfl dL_verdict_92 ?_
  refine w_iconst hB 1 (by decide) dL_verdict_93 ?_
  refine w_sipush hB 1000 (by decide) dL_verdict_94 ?_
  obtain ⟨g3, hF⟩ := gdS hF
  obtain ⟨M2m, e_M2m, hF⟩ := bndS hF
  have q_M2m : EQ M1m M2m := by rw [e_M2m]; exact EQ_I _ _ _ _
  have x_M2m := q_M2m.gx
  have n_M2m := q_M2m.1
  have z_M2m := q_M2m.sz
  refine w_iast hB (dqM (GX.dyo x_M1m g1)) (sl_d (GX.dyo x_M1m g1).1 (GX.dl x_M1m g1 rfl)) g3 e_M2m dL_verdict_97 ?_
  refine w_dup hB rfl dL_verdict_98 ?_
  refine w_iconst hB 2 (by decide) dL_verdict_99 ?_
  refine w_sipush hB 1000 (by decide) dL_verdict_100 ?_
  obtain ⟨g4, hF⟩ := gdS hF
  obtain ⟨M3m, e_M3m, hF⟩ := bndS hF
  have q_M3m : EQ M2m M3m := by rw [e_M3m]; exact EQ_I _ _ _ _
  have x_M3m := q_M3m.gx
  have n_M3m := q_M3m.1
  have z_M3m := q_M3m.sz
  refine w_iast hB (dqM (GX.dyo x_M2m (GX.dyo x_M1m g1))) (sl_d (GX.dyo x_M2m (GX.dyo x_M1m g1)).1 (GX.dl x_M2m (GX.dyo x_M1m g1) (GX.dl x_M1m g1 rfl))) g4 e_M3m dL_verdict_103 ?_
  refine w_dup hB rfl dL_verdict_104 ?_
  refine w_iconst hB 3 (by decide) dL_verdict_105 ?_
  refine w_sipush hB 1000 (by decide) dL_verdict_106 ?_
  obtain ⟨g5, hF⟩ := gdS hF
  obtain ⟨M4m, e_M4m, hF⟩ := bndS hF
  have q_M4m : EQ M3m M4m := by rw [e_M4m]; exact EQ_I _ _ _ _
  have x_M4m := q_M4m.gx
  have n_M4m := q_M4m.1
  have z_M4m := q_M4m.sz
  refine w_iast hB (dqM (GX.dyo x_M3m (GX.dyo x_M2m (GX.dyo x_M1m g1)))) (sl_d (GX.dyo x_M3m (GX.dyo x_M2m (GX.dyo x_M1m g1))).1 (GX.dl x_M3m (GX.dyo x_M2m (GX.dyo x_M1m g1)) (GX.dl x_M2m (GX.dyo x_M1m g1) (GX.dl x_M1m g1 rfl)))) g5 e_M4m dL_verdict_109 ?_
  refine w_astore hB (L' := [(9, vr ns0), (0, vr 64), (1, vr 61), (2, vi x2), (3, vi x3), (4, vr n4), (5, vi x5), (6, vi x6), (7, vi x7), (8, vr n8)]) dL_verdict_110 (by decide) rfl ?_
  refine w_iconst hB 1 (by decide) dL_verdict_112 ?_
  refine w_istore hB (L' := [(10, vi 1), (9, vr ns0), (0, vr 64), (1, vr 61), (2, vi x2), (3, vi x3), (4, vr n4), (5, vi x5), (6, vi x6), (7, vi x7), (8, vr n8)]) dL_verdict_113 (by decide) rfl rfl ?_
  refine w_iconst hB 0 (by decide) dL_verdict_115 ?_
  refine w_istore hB (L' := [(11, vi 0), (10, vi 1), (9, vr ns0), (0, vr 64), (1, vr 61), (2, vi x2), (3, vi x3), (4, vr n4), (5, vi x5), (6, vi x6), (7, vi x7), (8, vr n8)]) dL_verdict_116 (by decide) rfl rfl ?_
  exact Wt.sub (L' := [(0, vr 64), (1, vr 61), (2, vi x2), (3, vi x3), (4, vr n4), (5, vi x5), (6, vi x6), (7, vi x7), (8, vr n8), (9, vr ns0), (10, vi 1), (11, vi 0)]) [3, 4, 5, 6, 7, 8, 9, 10, 11, 2, 1, 0] rfl (b_L_verdict_b118 hp hk hq hB G41 h41 fuel _ _ _ _ _ _ _ _ _ _ _ _ M4m hF (by omega) (by omega))
def f_L_verdict_b57 (N : Nat) (xs : Nat → Int32) (rec41 : Int32 → Int32 → Nat → Int32 → Int32 → Int32 → Mem → Option (Int32 × Mem)) (x2 : Int32) (x3 : Int32) (n4 : Nat) (x5 : Int32) (x6 : Int32) (x7 : Int32) (ns0 : Nat) (M : Mem) : Option (Int32 × Mem) :=
  gd (1000 ≤ ns0 ∧ dsc M ns0 = 20 ∧ ns0 - 753 < M.2.2.2) <|
  gd (inb 0 (dln M ns0)) <|
  bnd (setI M ns0 0 (-1000)) fun M1m =>
  gd (inb 1 (dln M ns0)) <|
  bnd (setI M1m ns0 1 (-1000)) fun M2m =>
  gd (inb 2 (dln M ns0)) <|
  bnd (setI M2m ns0 2 (-1000)) fun M3m =>
  gd (inb 3 (dln M ns0)) <|
  bnd (setI M3m ns0 3 (-1000)) fun M4m =>
  bnd (nwA 20 4 4 M4m) fun M5m =>
  f_L_verdict_b86 N xs rec41 x2 x3 n4 x5 x6 x7 ns0 (nn M4m) M5m
set_option maxRecDepth 100000 in
set_option maxHeartbeats 4000000 in
theorem m_L_verdict_b57 {N : Nat} {xs : Nat → Int32} {rec41 : Int32 → Int32 → Nat → Int32 → Int32 → Int32 → Mem → Option (Int32 × Mem)} (G41 : (∀ (x2 : Int32) (x3 : Int32) (n4 : Nat) (x5 : Int32) (x6 : Int32) (x7 : Int32) (M Z : Mem) (r : Int32), rec41 x2 x3 n4 x5 x6 x7 M = some (r, Z) → GX M Z)) {x2 : Int32} {x3 : Int32} {n4 : Nat} {x5 : Int32} {x6 : Int32} {x7 : Int32} {ns0 : Nat} {M Z : Mem} {r : Int32} (h : f_L_verdict_b57 N xs rec41 x2 x3 n4 x5 x6 x7 ns0 M = some (r, Z)) : GX M Z := by
  unfold f_L_verdict_b57 at h
  obtain ⟨gq0, h⟩ := gdS h
  obtain ⟨gq1, h⟩ := gdS h
  obtain ⟨M1m, e_M1m, h⟩ := bndS h
  have q_M1m : GX M M1m := GX.tr (GX.refl M) (by rw [e_M1m]; exact (EQ_I _ _ _ _).gx)
  obtain ⟨gq3, h⟩ := gdS h
  obtain ⟨M2m, e_M2m, h⟩ := bndS h
  have q_M2m : GX M M2m := GX.tr q_M1m (by rw [e_M2m]; exact (EQ_I _ _ _ _).gx)
  obtain ⟨gq5, h⟩ := gdS h
  obtain ⟨M3m, e_M3m, h⟩ := bndS h
  have q_M3m : GX M M3m := GX.tr q_M2m (by rw [e_M3m]; exact (EQ_I _ _ _ _).gx)
  obtain ⟨gq7, h⟩ := gdS h
  obtain ⟨M4m, e_M4m, h⟩ := bndS h
  have q_M4m : GX M M4m := GX.tr q_M3m (by rw [e_M4m]; exact (EQ_I _ _ _ _).gx)
  obtain ⟨M5m, e_M5m, h⟩ := bndS h
  have q_M5m : GX M M5m := GX.tr q_M4m (by rw [e_M5m]; exact GX_nw _ _ _ _)
  exact GX.tr q_M5m (m_L_verdict_b86 G41 h)
set_option maxRecDepth 100000 in
set_option maxHeartbeats 4000000 in
theorem b_L_verdict_b57 {K : Kt} {X : Xt} (hp : St K) (hk : KC K) {N : Nat} {xs : Nat → Int32} (hq : KScr K N xs) {mc ms : Nat} (hB : Bx K X { frames := 7, cells := mc, slots := ms, locals := 224 } cL_verdict 14 RL (some .int)) {r : Int32} {M1 : Mem} {rec41 : Int32 → Int32 → Nat → Int32 → Int32 → Int32 → Mem → Option (Int32 × Mem)}
    (G41 : (∀ (x2 : Int32) (x3 : Int32) (n4 : Nat) (x5 : Int32) (x6 : Int32) (x7 : Int32) (M Z : Mem) (r : Int32), rec41 x2 x3 n4 x5 x6 x7 M = some (r, Z) → GX M Z)) (h41 : (∀ (x2 : Int32) (x3 : Int32) (n4 : Nat) (x5 : Int32) (x6 : Int32) (x7 : Int32) (ce sl : Nat) (M : Mem), rec41 x2 x3 n4 x5 x6 x7 M = some (r, M1) → mc + M.2.2.2 = ce + M1.2.2.2 → ms + szM M = sl + szM M1 → Wt K X (QM K X (some (vi r)) M1 mc ms) ce sl M 41 [(0, vr 64), (1, vr 61), (2, vi x2), (3, vi x3), (4, vr n4), (5, vi x5), (6, vi x6), (7, vi x7)] [])) {x2 : Int32} {x3 : Int32} {n4 : Nat} {x5 : Int32} {x6 : Int32} {x7 : Int32} {ns0 : Nat} {ce sl : Nat} {M : Mem} (hF : f_L_verdict_b57 N xs rec41 x2 x3 n4 x5 x6 x7 ns0 M = some (r, M1)) (hn : mc + M.2.2.2 = ce + M1.2.2.2) (hz : ms + szM M = sl + szM M1) : Wt K X (QM K X (some (vi r)) M1 mc ms) ce sl M 57 [(0, vr 64), (1, vr 61), (2, vi x2), (3, vi x3), (4, vr n4), (5, vi x5), (6, vi x6), (7, vi x7)] [vr ns0] := by
  have hg := m_L_verdict_b57 G41 hF
  have hg1 := hg.1
  have hg2 := hg.2.1
  unfold f_L_verdict_b57 at hF
  refine w_dup hB rfl dL_verdict_57 ?_
  refine w_iconst hB 0 (by decide) dL_verdict_58 ?_
  refine w_sipush hB (-1000) (by decide) dL_verdict_59 ?_
  obtain ⟨g1, hF⟩ := gdS hF
  obtain ⟨g2, hF⟩ := gdS hF
  obtain ⟨M1m, e_M1m, hF⟩ := bndS hF
  have q_M1m : EQ M M1m := by rw [e_M1m]; exact EQ_I _ _ _ _
  have x_M1m := q_M1m.gx
  have n_M1m := q_M1m.1
  have z_M1m := q_M1m.sz
  refine w_iast hB (dqM g1) (sl_d g1.1 rfl) g2 e_M1m dL_verdict_62 ?_
  refine w_dup hB rfl dL_verdict_63 ?_
  refine w_iconst hB 1 (by decide) dL_verdict_64 ?_
  refine w_sipush hB (-1000) (by decide) dL_verdict_65 ?_
  obtain ⟨g3, hF⟩ := gdS hF
  obtain ⟨M2m, e_M2m, hF⟩ := bndS hF
  have q_M2m : EQ M1m M2m := by rw [e_M2m]; exact EQ_I _ _ _ _
  have x_M2m := q_M2m.gx
  have n_M2m := q_M2m.1
  have z_M2m := q_M2m.sz
  refine w_iast hB (dqM (GX.dyo x_M1m g1)) (sl_d (GX.dyo x_M1m g1).1 (GX.dl x_M1m g1 rfl)) g3 e_M2m dL_verdict_68 ?_
  refine w_dup hB rfl dL_verdict_69 ?_
  refine w_iconst hB 2 (by decide) dL_verdict_70 ?_
  refine w_sipush hB (-1000) (by decide) dL_verdict_71 ?_
  obtain ⟨g4, hF⟩ := gdS hF
  obtain ⟨M3m, e_M3m, hF⟩ := bndS hF
  have q_M3m : EQ M2m M3m := by rw [e_M3m]; exact EQ_I _ _ _ _
  have x_M3m := q_M3m.gx
  have n_M3m := q_M3m.1
  have z_M3m := q_M3m.sz
  refine w_iast hB (dqM (GX.dyo x_M2m (GX.dyo x_M1m g1))) (sl_d (GX.dyo x_M2m (GX.dyo x_M1m g1)).1 (GX.dl x_M2m (GX.dyo x_M1m g1) (GX.dl x_M1m g1 rfl))) g4 e_M3m dL_verdict_74 ?_
  refine w_dup hB rfl dL_verdict_75 ?_
  refine w_iconst hB 3 (by decide) dL_verdict_76 ?_
  refine w_sipush hB (-1000) (by decide) dL_verdict_77 ?_
  obtain ⟨g5, hF⟩ := gdS hF
  obtain ⟨M4m, e_M4m, hF⟩ := bndS hF
  have q_M4m : EQ M3m M4m := by rw [e_M4m]; exact EQ_I _ _ _ _
  have x_M4m := q_M4m.gx
  have n_M4m := q_M4m.1
  have z_M4m := q_M4m.sz
  refine w_iast hB (dqM (GX.dyo x_M3m (GX.dyo x_M2m (GX.dyo x_M1m g1)))) (sl_d (GX.dyo x_M3m (GX.dyo x_M2m (GX.dyo x_M1m g1))).1 (GX.dl x_M3m (GX.dyo x_M2m (GX.dyo x_M1m g1)) (GX.dl x_M2m (GX.dyo x_M1m g1) (GX.dl x_M1m g1 rfl)))) g5 e_M4m dL_verdict_80 ?_
  refine w_astore hB (L' := [(8, vr ns0), (0, vr 64), (1, vr 61), (2, vi x2), (3, vi x3), (4, vr n4), (5, vi x5), (6, vi x6), (7, vi x7)]) dL_verdict_81 (by decide) rfl ?_
  refine w_iconst hB 4 (by decide) dL_verdict_83 ?_
  obtain ⟨M5m, e_M5m, hF⟩ := bndS hF
  have x_M5m : GX M4m M5m := by rw [e_M5m]; exact GX_nw _ _ _ _
  have n_M5m : M5m.2.2.2 = M4m.2.2.2 + 1 := by rw [e_M5m]; exact nwA_cn
  have z_M5m : szM M5m = szM M4m + 4 := by rw [e_M5m]; exact nwA_sz
  have hg3 := m_L_verdict_b86 G41 hF
  have hg4 := hg3.1
  have hg5 := hg3.2.1
  refine w_nwI hB hp.1 (N := 4) e_M5m (by decide) (by decide) ⟨show ce + 1 ≤ mc by omega, show sl + 4 ≤ ms by omega⟩ dL_verdict_84 ?_
  exact Wt.sub (L' := [(0, vr 64), (1, vr 61), (2, vi x2), (3, vi x3), (4, vr n4), (5, vi x5), (6, vi x6), (7, vi x7), (8, vr ns0)]) [1, 2, 3, 4, 5, 6, 7, 8, 0] rfl (b_L_verdict_b86 hp hk hq hB G41 h41 hF (by omega) (by omega))
def f_L_verdict_b41_s (N : Nat) (xs : Nat → Int32) (rec41 : Int32 → Int32 → Nat → Int32 → Int32 → Int32 → Mem → Option (Int32 × Mem)) (x2 : Int32) (x3 : Int32) (n4 : Nat) (x5 : Int32) (x6 : Int32) (x7 : Int32) (M : Mem) : Option (Int32 × Mem) :=
  cl (f_L_canBe N xs n4 M) fun r1 M1m =>
  if r1 = 0 then
    f_L_verdict_b345 N xs rec41 x2 x3 n4 x5 x6 x7 M1m
  else
    bnd (nwA 20 4 4 M1m) fun M2m =>
    f_L_verdict_b57 N xs rec41 x2 x3 n4 x5 x6 x7 (nn M1m) M2m
set_option maxRecDepth 100000 in
set_option maxHeartbeats 4000000 in
theorem m_L_verdict_b41_s {N : Nat} {xs : Nat → Int32} {rec41 : Int32 → Int32 → Nat → Int32 → Int32 → Int32 → Mem → Option (Int32 × Mem)} (G41 : (∀ (x2 : Int32) (x3 : Int32) (n4 : Nat) (x5 : Int32) (x6 : Int32) (x7 : Int32) (M Z : Mem) (r : Int32), rec41 x2 x3 n4 x5 x6 x7 M = some (r, Z) → GX M Z)) {x2 : Int32} {x3 : Int32} {n4 : Nat} {x5 : Int32} {x6 : Int32} {x7 : Int32} {M Z : Mem} {r : Int32} (h : f_L_verdict_b41_s N xs rec41 x2 x3 n4 x5 x6 x7 M = some (r, Z)) : GX M Z := by
  unfold f_L_verdict_b41_s at h
  obtain ⟨r1, M1m, c_M1m, h⟩ := clS h
  have q_M1m : GX M M1m := GX.tr (GX.refl M) ((k_L_canBe c_M1m).gx)
  rcases ifS h with ⟨-, h⟩ | ⟨-, h⟩
  · exact GX.tr q_M1m (m_L_verdict_b345 G41 h)
  · obtain ⟨M2m, e_M2m, h⟩ := bndS h
    have q_M2m : GX M M2m := GX.tr q_M1m (by rw [e_M2m]; exact GX_nw _ _ _ _)
    exact GX.tr q_M2m (m_L_verdict_b57 G41 h)
set_option maxRecDepth 100000 in
set_option maxHeartbeats 4000000 in
theorem b_L_verdict_b41_s {K : Kt} {X : Xt} (hp : St K) (hk : KC K) {N : Nat} {xs : Nat → Int32} (hq : KScr K N xs) {mc ms : Nat} (hB : Bx K X { frames := 7, cells := mc, slots := ms, locals := 224 } cL_verdict 14 RL (some .int)) {r : Int32} {M1 : Mem} {rec41 : Int32 → Int32 → Nat → Int32 → Int32 → Int32 → Mem → Option (Int32 × Mem)}
    (G41 : (∀ (x2 : Int32) (x3 : Int32) (n4 : Nat) (x5 : Int32) (x6 : Int32) (x7 : Int32) (M Z : Mem) (r : Int32), rec41 x2 x3 n4 x5 x6 x7 M = some (r, Z) → GX M Z)) (h41 : (∀ (x2 : Int32) (x3 : Int32) (n4 : Nat) (x5 : Int32) (x6 : Int32) (x7 : Int32) (ce sl : Nat) (M : Mem), rec41 x2 x3 n4 x5 x6 x7 M = some (r, M1) → mc + M.2.2.2 = ce + M1.2.2.2 → ms + szM M = sl + szM M1 → Wt K X (QM K X (some (vi r)) M1 mc ms) ce sl M 41 [(0, vr 64), (1, vr 61), (2, vi x2), (3, vi x3), (4, vr n4), (5, vi x5), (6, vi x6), (7, vi x7)] [])) {x2 : Int32} {x3 : Int32} {n4 : Nat} {x5 : Int32} {x6 : Int32} {x7 : Int32} {ce sl : Nat} {M : Mem} (hF : f_L_verdict_b41_s N xs rec41 x2 x3 n4 x5 x6 x7 M = some (r, M1)) (hn : mc + M.2.2.2 = ce + M1.2.2.2) (hz : ms + szM M = sl + szM M1) : Wt K X (QM K X (some (vi r)) M1 mc ms) ce sl M 41 [(0, vr 64), (1, vr 61), (2, vi x2), (3, vi x3), (4, vr n4), (5, vi x5), (6, vi x6), (7, vi x7)] [] := by
  have hg := m_L_verdict_b41_s G41 hF
  have hg1 := hg.1
  have hg2 := hg.2.1
  unfold f_L_verdict_b41_s at hF
  refine w_aload_n hB 0 dL_verdict_41 rfl rfl ?_
  refine w_aload_n hB 1 dL_verdict_42 rfl rfl ?_
  refine w_aload hB 4 dL_verdict_43 rfl ?_
  obtain ⟨r1, M1m, hc_M1m, hF⟩ := clS hF
  have q_M1m : EQ M M1m := k_L_canBe hc_M1m
  have x_M1m := q_M1m.gx
  have n_M1m := q_M1m.1
  have z_M1m := q_M1m.sz
  refine w_callS (M1 := M1m) hB (As := [vr 64, vr 61, vr n4]) (st := []) cw_L_172 q_1185 (c_L_canBe hp hq hc_M1m) ⟨rfl, rfl⟩ ⟨Nat.le_of_ble_eq_true rfl, Nat.le_of_ble_eq_true rfl⟩ ⟨show ce ≤ mc by omega, show sl ≤ ms by omega⟩ rfl (Nat.le_of_ble_eq_true rfl) dL_verdict_45 rfl ?_ (Or.inl rfl)
  refine w_if_ne hB 54 dL_verdict_48 (by decide) (fun hc => ?_) (fun hc => ?_)
  · replace hF := ifF hc hF
    refine w_iconst hB 4 (by decide) dL_verdict_54 ?_
    obtain ⟨M2m, e_M2m, hF⟩ := bndS hF
    have x_M2m : GX M1m M2m := by rw [e_M2m]; exact GX_nw _ _ _ _
    have n_M2m : M2m.2.2.2 = M1m.2.2.2 + 1 := by rw [e_M2m]; exact nwA_cn
    have z_M2m : szM M2m = szM M1m + 4 := by rw [e_M2m]; exact nwA_sz
    have hg3 := m_L_verdict_b57 G41 hF
    have hg4 := hg3.1
    have hg5 := hg3.2.1
    refine w_nwI hB hp.1 (N := 4) e_M2m (by decide) (by decide) ⟨show ce + 1 ≤ mc by omega, show sl + 4 ≤ ms by omega⟩ dL_verdict_55 ?_
    exact Wt.sub (L' := [(0, vr 64), (1, vr 61), (2, vi x2), (3, vi x3), (4, vr n4), (5, vi x5), (6, vi x6), (7, vi x7)]) [0, 1, 2, 3, 4, 5, 6, 7] rfl (b_L_verdict_b57 hp hk hq hB G41 h41 hF (by omega) (by omega))
  · replace hF := ifT hc hF
    refine w_goto hB 345 dL_verdict_51 (by decide) ?_
    exact Wt.sub (L' := [(0, vr 64), (1, vr 61), (2, vi x2), (3, vi x3), (4, vr n4), (5, vi x5), (6, vi x6), (7, vi x7)]) [0, 1, 2, 3, 4, 5, 6, 7] rfl (b_L_verdict_b345 hp hk hq hB G41 h41 hF (by omega) (by omega))
def f_L_verdict_b41 (N : Nat) (xs : Nat → Int32) (k : Nat) : Int32 → Int32 → Nat → Int32 → Int32 → Int32 → Mem → Option (Int32 × Mem) := lpN (fun _ _ _ _ _ _ _ => none) (f_L_verdict_b41_s N xs) k
theorem m_L_verdict_b41 {N : Nat} {xs : Nat → Int32} (k : Nat) : (∀ (x2 : Int32) (x3 : Int32) (n4 : Nat) (x5 : Int32) (x6 : Int32) (x7 : Int32) (M Z : Mem) (r : Int32), f_L_verdict_b41 N xs k x2 x3 n4 x5 x6 x7 M = some (r, Z) → GX M Z) :=
  lpN_ind (P := fun (f : Int32 → Int32 → Nat → Int32 → Int32 → Int32 → Mem → Option (Int32 × Mem)) => (∀ (x2 : Int32) (x3 : Int32) (n4 : Nat) (x5 : Int32) (x6 : Int32) (x7 : Int32) (M Z : Mem) (r : Int32), f x2 x3 n4 x5 x6 x7 M = some (r, Z) → GX M Z)) (fun _ _ _ _ _ _ _ _ _ h => by cases h) (fun f hf _ _ _ _ _ _ _ _ _ h => m_L_verdict_b41_s hf h) k
theorem b_L_verdict_b41 {K : Kt} {X : Xt} (hp : St K) (hk : KC K) {N : Nat} {xs : Nat → Int32} (hq : KScr K N xs) {mc ms : Nat} (hB : Bx K X { frames := 7, cells := mc, slots := ms, locals := 224 } cL_verdict 14 RL (some .int)) {r : Int32} {M1 : Mem} (k : Nat) : (∀ (x2 : Int32) (x3 : Int32) (n4 : Nat) (x5 : Int32) (x6 : Int32) (x7 : Int32) (ce sl : Nat) (M : Mem), f_L_verdict_b41 N xs k x2 x3 n4 x5 x6 x7 M = some (r, M1) → mc + M.2.2.2 = ce + M1.2.2.2 → ms + szM M = sl + szM M1 → Wt K X (QM K X (some (vi r)) M1 mc ms) ce sl M 41 [(0, vr 64), (1, vr 61), (2, vi x2), (3, vi x3), (4, vr n4), (5, vi x5), (6, vi x6), (7, vi x7)] []) :=
  (lpN_ind (P := fun (f : Int32 → Int32 → Nat → Int32 → Int32 → Int32 → Mem → Option (Int32 × Mem)) => (∀ (x2 : Int32) (x3 : Int32) (n4 : Nat) (x5 : Int32) (x6 : Int32) (x7 : Int32) (M Z : Mem) (r : Int32), f x2 x3 n4 x5 x6 x7 M = some (r, Z) → GX M Z) ∧ (∀ (x2 : Int32) (x3 : Int32) (n4 : Nat) (x5 : Int32) (x6 : Int32) (x7 : Int32) (ce sl : Nat) (M : Mem), f x2 x3 n4 x5 x6 x7 M = some (r, M1) → mc + M.2.2.2 = ce + M1.2.2.2 → ms + szM M = sl + szM M1 → Wt K X (QM K X (some (vi r)) M1 mc ms) ce sl M 41 [(0, vr 64), (1, vr 61), (2, vi x2), (3, vi x3), (4, vr n4), (5, vi x5), (6, vi x6), (7, vi x7)] [])) ⟨fun _ _ _ _ _ _ _ _ _ h => (by cases h), fun _ _ _ _ _ _ _ _ _ h _ _ => (by cases h)⟩ (fun f hf => ⟨fun _ _ _ _ _ _ _ _ _ h => m_L_verdict_b41_s hf.1 h, fun _ _ _ _ _ _ _ _ _ hF hn hz => b_L_verdict_b41_s hp hk hq hB hf.1 hf.2 hF hn hz⟩) k).2
def f_L_verdict_b3 (N : Nat) (xs : Nat → Int32) (x2 : Int32) (x3 : Int32) (ns0 : Nat) (M : Mem) : Option (Int32 × Mem) :=
  cl (f_X10_camera 0 0 M) fun r1 M1m =>
  gd (1000 ≤ ns0 ∧ dsc M1m ns0 = 20 ∧ ns0 - 753 < M1m.2.2.2) <|
  gd (inb 0 (dln M1m ns0)) <|
  bnd (setI M1m ns0 0 r1) fun M2m =>
  cl (f_X10_camera 1 0 M2m) fun r2 M3m =>
  gd (inb 1 (dln M1m ns0)) <|
  bnd (setI M3m ns0 1 r2) fun M4m =>
  cl (f_X10_camera 2 0 M4m) fun r3 M5m =>
  gd (inb 2 (dln M1m ns0)) <|
  bnd (setI M5m ns0 2 r3) fun M6m =>
  f_L_verdict_b41 N xs fuel x2 x3 ns0 0 1 1 M6m
set_option maxRecDepth 100000 in
set_option maxHeartbeats 4000000 in
theorem m_L_verdict_b3 {N : Nat} {xs : Nat → Int32} {x2 : Int32} {x3 : Int32} {ns0 : Nat} {M Z : Mem} {r : Int32} (h : f_L_verdict_b3 N xs x2 x3 ns0 M = some (r, Z)) : GX M Z := by
  unfold f_L_verdict_b3 at h
  obtain ⟨r1, M1m, c_M1m, h⟩ := clS h
  have q_M1m : GX M M1m := GX.tr (GX.refl M) ((k_X10_camera c_M1m).gx)
  obtain ⟨gq1, h⟩ := gdS h
  obtain ⟨gq2, h⟩ := gdS h
  obtain ⟨M2m, e_M2m, h⟩ := bndS h
  have q_M2m : GX M M2m := GX.tr q_M1m (by rw [e_M2m]; exact (EQ_I _ _ _ _).gx)
  obtain ⟨r2, M3m, c_M3m, h⟩ := clS h
  have q_M3m : GX M M3m := GX.tr q_M2m ((k_X10_camera c_M3m).gx)
  obtain ⟨gq5, h⟩ := gdS h
  obtain ⟨M4m, e_M4m, h⟩ := bndS h
  have q_M4m : GX M M4m := GX.tr q_M3m (by rw [e_M4m]; exact (EQ_I _ _ _ _).gx)
  obtain ⟨r3, M5m, c_M5m, h⟩ := clS h
  have q_M5m : GX M M5m := GX.tr q_M4m ((k_X10_camera c_M5m).gx)
  obtain ⟨gq8, h⟩ := gdS h
  obtain ⟨M6m, e_M6m, h⟩ := bndS h
  have q_M6m : GX M M6m := GX.tr q_M5m (by rw [e_M6m]; exact (EQ_I _ _ _ _).gx)
  exact GX.tr q_M6m (m_L_verdict_b41 _ _ _ _ _ _ _ _ _ _ h)
set_option maxRecDepth 100000 in
set_option maxHeartbeats 4000000 in
theorem b_L_verdict_b3 {K : Kt} {X : Xt} (hp : St K) (hk : KC K) {N : Nat} {xs : Nat → Int32} (hq : KScr K N xs) {mc ms : Nat} (hB : Bx K X { frames := 7, cells := mc, slots := ms, locals := 224 } cL_verdict 14 RL (some .int)) {r : Int32} {M1 : Mem} {x2 : Int32} {x3 : Int32} {ns0 : Nat} {ce sl : Nat} {M : Mem} (hF : f_L_verdict_b3 N xs x2 x3 ns0 M = some (r, M1)) (hn : mc + M.2.2.2 = ce + M1.2.2.2) (hz : ms + szM M = sl + szM M1) : Wt K X (QM K X (some (vi r)) M1 mc ms) ce sl M 3 [(0, vr 64), (1, vr 61), (2, vi x2), (3, vi x3)] [vr ns0] := by
  have hg := m_L_verdict_b3 hF
  have hg1 := hg.1
  have hg2 := hg.2.1
  unfold f_L_verdict_b3 at hF
  refine w_dup hB rfl dL_verdict_3 ?_
  refine w_iconst hB 0 (by decide) dL_verdict_4 ?_
  refine w_aload_n hB 0 dL_verdict_5 rfl rfl ?_
  refine w_iconst hB 0 (by decide) dL_verdict_6 ?_
  refine w_iconst hB 0 (by decide) dL_verdict_7 ?_
  obtain ⟨r1, M1m, hc_M1m, hF⟩ := clS hF
  have q_M1m : EQ M M1m := k_X10_camera hc_M1m
  have x_M1m := q_M1m.gx
  have n_M1m := q_M1m.1
  have z_M1m := q_M1m.sz
  refine w_callV (M1 := M1m) hB (ci := 8) (As := [vi 0, vi 0]) (st := [vi 0, vr ns0, vr ns0]) cw_L_169 q_1173 q_1174 rfl (soM hp.1 sh_64 (by decide)) (c_X10_camera hp hc_M1m) ⟨rfl, rfl⟩ ⟨Nat.le_of_ble_eq_true rfl, Nat.le_of_ble_eq_true rfl⟩ ⟨show ce ≤ mc by omega, show sl ≤ ms by omega⟩ rfl (Nat.le_of_ble_eq_true rfl) dL_verdict_8 rfl ?_ (Or.inl rfl)
  obtain ⟨g1, hF⟩ := gdS hF
  obtain ⟨g2, hF⟩ := gdS hF
  obtain ⟨M2m, e_M2m, hF⟩ := bndS hF
  have q_M2m : EQ M1m M2m := by rw [e_M2m]; exact EQ_I _ _ _ _
  have x_M2m := q_M2m.gx
  have n_M2m := q_M2m.1
  have z_M2m := q_M2m.sz
  refine w_iast hB (dqM g1) (sl_d g1.1 rfl) g2 e_M2m dL_verdict_11 ?_
  refine w_dup hB rfl dL_verdict_12 ?_
  refine w_iconst hB 1 (by decide) dL_verdict_13 ?_
  refine w_aload_n hB 0 dL_verdict_14 rfl rfl ?_
  refine w_iconst hB 1 (by decide) dL_verdict_15 ?_
  refine w_iconst hB 0 (by decide) dL_verdict_16 ?_
  obtain ⟨r2, M3m, hc_M3m, hF⟩ := clS hF
  have q_M3m : EQ M2m M3m := k_X10_camera hc_M3m
  have x_M3m := q_M3m.gx
  have n_M3m := q_M3m.1
  have z_M3m := q_M3m.sz
  refine w_callV (M1 := M3m) hB (ci := 8) (As := [vi 1, vi 0]) (st := [vi 1, vr ns0, vr ns0]) cw_L_169 q_1173 q_1174 rfl (soM hp.1 sh_64 (by decide)) (c_X10_camera hp hc_M3m) ⟨rfl, rfl⟩ ⟨Nat.le_of_ble_eq_true rfl, Nat.le_of_ble_eq_true rfl⟩ ⟨show ce ≤ mc by omega, show sl ≤ ms by omega⟩ rfl (Nat.le_of_ble_eq_true rfl) dL_verdict_17 rfl ?_ (Or.inl rfl)
  obtain ⟨g3, hF⟩ := gdS hF
  obtain ⟨M4m, e_M4m, hF⟩ := bndS hF
  have q_M4m : EQ M3m M4m := by rw [e_M4m]; exact EQ_I _ _ _ _
  have x_M4m := q_M4m.gx
  have n_M4m := q_M4m.1
  have z_M4m := q_M4m.sz
  refine w_iast hB (dqM (GX.dyo x_M3m (GX.dyo x_M2m g1))) (sl_d (GX.dyo x_M3m (GX.dyo x_M2m g1)).1 (GX.dl x_M3m (GX.dyo x_M2m g1) (GX.dl x_M2m g1 rfl))) g3 e_M4m dL_verdict_20 ?_
  refine w_dup hB rfl dL_verdict_21 ?_
  refine w_iconst hB 2 (by decide) dL_verdict_22 ?_
  refine w_aload_n hB 0 dL_verdict_23 rfl rfl ?_
  refine w_iconst hB 2 (by decide) dL_verdict_24 ?_
  refine w_iconst hB 0 (by decide) dL_verdict_25 ?_
  obtain ⟨r3, M5m, hc_M5m, hF⟩ := clS hF
  have q_M5m : EQ M4m M5m := k_X10_camera hc_M5m
  have x_M5m := q_M5m.gx
  have n_M5m := q_M5m.1
  have z_M5m := q_M5m.sz
  refine w_callV (M1 := M5m) hB (ci := 8) (As := [vi 2, vi 0]) (st := [vi 2, vr ns0, vr ns0]) cw_L_169 q_1173 q_1174 rfl (soM hp.1 sh_64 (by decide)) (c_X10_camera hp hc_M5m) ⟨rfl, rfl⟩ ⟨Nat.le_of_ble_eq_true rfl, Nat.le_of_ble_eq_true rfl⟩ ⟨show ce ≤ mc by omega, show sl ≤ ms by omega⟩ rfl (Nat.le_of_ble_eq_true rfl) dL_verdict_26 rfl ?_ (Or.inl rfl)
  obtain ⟨g4, hF⟩ := gdS hF
  obtain ⟨M6m, e_M6m, hF⟩ := bndS hF
  have q_M6m : EQ M5m M6m := by rw [e_M6m]; exact EQ_I _ _ _ _
  have x_M6m := q_M6m.gx
  have n_M6m := q_M6m.1
  have z_M6m := q_M6m.sz
  refine w_iast hB (dqM (GX.dyo x_M5m (GX.dyo x_M4m (GX.dyo x_M3m (GX.dyo x_M2m g1))))) (sl_d (GX.dyo x_M5m (GX.dyo x_M4m (GX.dyo x_M3m (GX.dyo x_M2m g1)))).1 (GX.dl x_M5m (GX.dyo x_M4m (GX.dyo x_M3m (GX.dyo x_M2m g1))) (GX.dl x_M4m (GX.dyo x_M3m (GX.dyo x_M2m g1)) (GX.dl x_M3m (GX.dyo x_M2m g1) (GX.dl x_M2m g1 rfl))))) g4 e_M6m dL_verdict_29 ?_
  refine w_astore hB (L' := [(4, vr ns0), (0, vr 64), (1, vr 61), (2, vi x2), (3, vi x3)]) dL_verdict_30 (by decide) rfl ?_
  refine w_iconst hB 0 (by decide) dL_verdict_32 ?_
  refine w_istore hB (L' := [(5, vi 0), (4, vr ns0), (0, vr 64), (1, vr 61), (2, vi x2), (3, vi x3)]) dL_verdict_33 (by decide) rfl rfl ?_
  refine w_iconst hB 1 (by decide) dL_verdict_35 ?_
  refine w_istore hB (L' := [(6, vi 1), (5, vi 0), (4, vr ns0), (0, vr 64), (1, vr 61), (2, vi x2), (3, vi x3)]) dL_verdict_36 (by decide) rfl rfl ?_
  refine w_iconst hB 1 (by decide) dL_verdict_38 ?_
  refine w_istore hB (L' := [(7, vi 1), (6, vi 1), (5, vi 0), (4, vr ns0), (0, vr 64), (1, vr 61), (2, vi x2), (3, vi x3)]) dL_verdict_39 (by decide) rfl rfl ?_
  exact Wt.sub (L' := [(0, vr 64), (1, vr 61), (2, vi x2), (3, vi x3), (4, vr ns0), (5, vi 0), (6, vi 1), (7, vi 1)]) [4, 5, 6, 7, 3, 2, 1, 0] rfl (b_L_verdict_b41 hp hk hq hB fuel _ _ _ _ _ _ _ _ M6m hF (by omega) (by omega))
def f_L_verdict (N : Nat) (xs : Nat → Int32) (x2 : Int32) (x3 : Int32) (M : Mem) : Option (Int32 × Mem) :=
  bnd (nwA 20 3 3 M) fun M1m =>
  f_L_verdict_b3 N xs x2 x3 (nn M) M1m
set_option maxRecDepth 100000 in
set_option maxHeartbeats 4000000 in
theorem m_L_verdict {N : Nat} {xs : Nat → Int32} {x2 : Int32} {x3 : Int32} {M Z : Mem} {r : Int32} (h : f_L_verdict N xs x2 x3 M = some (r, Z)) : GX M Z := by
  unfold f_L_verdict at h
  obtain ⟨M1m, e_M1m, h⟩ := bndS h
  have q_M1m : GX M M1m := GX.tr (GX.refl M) (by rw [e_M1m]; exact GX_nw _ _ _ _)
  exact GX.tr q_M1m (m_L_verdict_b3 h)
set_option maxRecDepth 100000 in
set_option maxHeartbeats 4000000 in
theorem b_L_verdict {K : Kt} {X : Xt} (hp : St K) (hk : KC K) {N : Nat} {xs : Nat → Int32} (hq : KScr K N xs) {mc ms : Nat} (hB : Bx K X { frames := 7, cells := mc, slots := ms, locals := 224 } cL_verdict 14 RL (some .int)) {r : Int32} {M1 : Mem} {x2 : Int32} {x3 : Int32} {ce sl : Nat} {M : Mem} (hF : f_L_verdict N xs x2 x3 M = some (r, M1)) (hn : mc + M.2.2.2 = ce + M1.2.2.2) (hz : ms + szM M = sl + szM M1) : Wt K X (QM K X (some (vi r)) M1 mc ms) ce sl M 0 [(0, vr 64), (1, vr 61), (2, vi x2), (3, vi x3)] [] := by
  have hg := m_L_verdict hF
  have hg1 := hg.1
  have hg2 := hg.2.1
  unfold f_L_verdict at hF
  refine w_iconst hB 3 (by decide) dL_verdict_0 ?_
  obtain ⟨M1m, e_M1m, hF⟩ := bndS hF
  have x_M1m : GX M M1m := by rw [e_M1m]; exact GX_nw _ _ _ _
  have n_M1m : M1m.2.2.2 = M.2.2.2 + 1 := by rw [e_M1m]; exact nwA_cn
  have z_M1m : szM M1m = szM M + 3 := by rw [e_M1m]; exact nwA_sz
  have hg3 := m_L_verdict_b3 hF
  have hg4 := hg3.1
  have hg5 := hg3.2.1
  refine w_nwI hB hp.1 (N := 3) e_M1m (by decide) (by decide) ⟨show ce + 1 ≤ mc by omega, show sl + 3 ≤ ms by omega⟩ dL_verdict_1 ?_
  exact Wt.sub (L' := [(0, vr 64), (1, vr 61), (2, vi x2), (3, vi x3)]) [0, 1, 2, 3] rfl (b_L_verdict_b3 hp hk hq hB hF (by omega) (by omega))
theorem c_L_verdict {K : Kt} {l : Launch} (hp : St K) (hk : KC K) {N : Nat} {xs : Nat → Int32} (hq : KScr K N xs) {r : Int32} {M1 : Mem} {x2 : Int32} {x3 : Int32} {M : Mem} (hF : f_L_verdict N xs x2 x3 M = some (r, M1)) : MT K l yL_verdict cL_verdict 14 (some .int) { frames := 7, cells := M1.2.2.2 - M.2.2.2, slots := szM M1 - szM M, locals := 224 } [vr 64, vr 61, vi x2, vi x3] M (some (vi r)) M1 (M1.2.2.2 - M.2.2.2) (szM M1 - szM M) := by
  have hg := m_L_verdict hF
  have hg1 := hg.1
  have hg2 := hg.2.1
  exact MT_of (by decide) rfl (Nat.le_of_ble_eq_true rfl) (fun X _ hB _ => b_L_verdict hp hk hq hB hF (by omega) (by omega))
