/-! law -/
def f_L_law_b450 (N : Nat) (xs : Nat → Int32) (rec58 : Int32 → Mem → Option (Int32 × Mem)) (x2 : Int32) (xs0 : Int32) (xs1 : Int32) (M : Mem) : Option (Int32 × Mem) :=
  if xs0 = xs1 then
    bnd (x2 + 1) fun a1 =>
    rec58 a1 M
  else
    some (0, M)
set_option maxRecDepth 100000 in
set_option maxHeartbeats 4000000 in
theorem m_L_law_b450 {N : Nat} {xs : Nat → Int32} {rec58 : Int32 → Mem → Option (Int32 × Mem)} (G58 : (∀ (x2 : Int32) (M Z : Mem) (r : Int32), rec58 x2 M = some (r, Z) → GX M Z)) {x2 : Int32} {xs0 : Int32} {xs1 : Int32} {M Z : Mem} {r : Int32} (h : f_L_law_b450 N xs rec58 x2 xs0 xs1 M = some (r, Z)) : GX M Z := by
  unfold f_L_law_b450 at h
  rcases ifS h with ⟨-, h⟩ | ⟨-, h⟩
  · obtain ⟨a1, e_a1, h⟩ := bndS h
    exact GX.tr (GX.refl M) (G58 _ _ _ _ h)
  · obtain ⟨-, e⟩ := retS h
    rw [← e]
    exact (GX.refl M)
set_option maxRecDepth 100000 in
set_option maxHeartbeats 4000000 in
theorem b_L_law_b450 {K : Kt} {X : Xt} (hp : St K) (hk : KC K) {N : Nat} {xs : Nat → Int32} (hq : KScr K N xs) {mc ms : Nat} (hB : Bx K X { frames := 10, cells := mc, slots := ms, locals := 257 } cL_law 11 RL (some .boolean)) {r : Int32} {M1 : Mem} {rec58 : Int32 → Mem → Option (Int32 × Mem)}
    (G58 : (∀ (x2 : Int32) (M Z : Mem) (r : Int32), rec58 x2 M = some (r, Z) → GX M Z)) (h58 : (∀ (x2 : Int32) (ce sl : Nat) (M : Mem), rec58 x2 M = some (r, M1) → mc + M.2.2.2 = ce + M1.2.2.2 → ms + szM M = sl + szM M1 → Wt K X (QM K X (some (vi r)) M1 mc ms) ce sl M 58 [(0, vr 61), (1, vr 64), (2, vi x2)] [])) {x2 : Int32} {xs0 : Int32} {xs1 : Int32} {ce sl : Nat} {M : Mem} (hF : f_L_law_b450 N xs rec58 x2 xs0 xs1 M = some (r, M1)) (hn : mc + M.2.2.2 = ce + M1.2.2.2) (hz : ms + szM M = sl + szM M1) : Wt K X (QM K X (some (vi r)) M1 mc ms) ce sl M 450 [(0, vr 61), (1, vr 64), (2, vi x2)] [vi xs1, vi xs0] := by
  have hg := m_L_law_b450 G58 hF
  have hg1 := hg.1
  have hg2 := hg.2.1
  unfold f_L_law_b450 at hF
  refine w_icmp_eq hB 455 dL_law_450 (by decide) (fun hc => ?_) (fun hc => ?_)
  · replace hF := ifT hc hF
    obtain ⟨a1, e_a1, hF⟩ := bndS hF
    refine w_iinc hB 2 (v := 1) (L' := [(2, vi a1), (0, vr 61), (1, vr 64)]) dL_law_455 rfl (by decide) (by decide) e_a1 rfl ?_
    refine w_goto hB 58 dL_law_458 (by decide) ?_
    exact Wt.sub (L' := [(0, vr 61), (1, vr 64), (2, vi a1)]) [1, 2, 0] rfl (h58 _ _ _ M hF (by omega) (by omega))
  · replace hF := ifF hc hF
    refine w_iconst hB 0 (by decide) dL_law_453 ?_
    obtain ⟨e1, e2⟩ := retS hF
    subst e2
    have hmc : mc = ce := by omega
    have hms : ms = sl := by omega
    subst hmc
    subst hms
    exact w_zret hB (by decide) dL_law_454 e1
def f_L_law_b430 (N : Nat) (xs : Nat → Int32) (rec58 : Int32 → Mem → Option (Int32 × Mem)) (x2 : Int32) (x9 : Int32) (xs0 : Int32) (xs1 : Int32) (M : Mem) : Option (Int32 × Mem) :=
  if xs0 = xs1 then
    cl (f_X10_mend x2 M) fun r1 M1m =>
    if 0 ≤ x9 then
      f_L_law_b450 N xs rec58 x2 r1 x9 M1m
    else
      f_L_law_b450 N xs rec58 x2 r1 (-2) M1m
  else
    some (0, M)
set_option maxRecDepth 100000 in
set_option maxHeartbeats 4000000 in
theorem m_L_law_b430 {N : Nat} {xs : Nat → Int32} {rec58 : Int32 → Mem → Option (Int32 × Mem)} (G58 : (∀ (x2 : Int32) (M Z : Mem) (r : Int32), rec58 x2 M = some (r, Z) → GX M Z)) {x2 : Int32} {x9 : Int32} {xs0 : Int32} {xs1 : Int32} {M Z : Mem} {r : Int32} (h : f_L_law_b430 N xs rec58 x2 x9 xs0 xs1 M = some (r, Z)) : GX M Z := by
  unfold f_L_law_b430 at h
  rcases ifS h with ⟨-, h⟩ | ⟨-, h⟩
  · obtain ⟨r1, M1m, c_M1m, h⟩ := clS h
    have q_M1m : GX M M1m := GX.tr (GX.refl M) ((k_X10_mend c_M1m).gx)
    rcases ifS h with ⟨-, h⟩ | ⟨-, h⟩
    · exact GX.tr q_M1m (m_L_law_b450 G58 h)
    · exact GX.tr q_M1m (m_L_law_b450 G58 h)
  · obtain ⟨-, e⟩ := retS h
    rw [← e]
    exact (GX.refl M)
set_option maxRecDepth 100000 in
set_option maxHeartbeats 4000000 in
theorem b_L_law_b430 {K : Kt} {X : Xt} (hp : St K) (hk : KC K) {N : Nat} {xs : Nat → Int32} (hq : KScr K N xs) {mc ms : Nat} (hB : Bx K X { frames := 10, cells := mc, slots := ms, locals := 257 } cL_law 11 RL (some .boolean)) {r : Int32} {M1 : Mem} {rec58 : Int32 → Mem → Option (Int32 × Mem)}
    (G58 : (∀ (x2 : Int32) (M Z : Mem) (r : Int32), rec58 x2 M = some (r, Z) → GX M Z)) (h58 : (∀ (x2 : Int32) (ce sl : Nat) (M : Mem), rec58 x2 M = some (r, M1) → mc + M.2.2.2 = ce + M1.2.2.2 → ms + szM M = sl + szM M1 → Wt K X (QM K X (some (vi r)) M1 mc ms) ce sl M 58 [(0, vr 61), (1, vr 64), (2, vi x2)] [])) {x2 : Int32} {x9 : Int32} {xs0 : Int32} {xs1 : Int32} {ce sl : Nat} {M : Mem} (hF : f_L_law_b430 N xs rec58 x2 x9 xs0 xs1 M = some (r, M1)) (hn : mc + M.2.2.2 = ce + M1.2.2.2) (hz : ms + szM M = sl + szM M1) : Wt K X (QM K X (some (vi r)) M1 mc ms) ce sl M 430 [(0, vr 61), (1, vr 64), (2, vi x2), (9, vi x9)] [vi xs1, vi xs0] := by
  have hg := m_L_law_b430 G58 hF
  have hg1 := hg.1
  have hg2 := hg.2.1
  unfold f_L_law_b430 at hF
  refine w_icmp_ne hB 453 dL_law_430 (by decide) (fun hc => ?_) (fun hc => ?_)
  · replace hF := ifF hc hF
    refine w_iconst hB 0 (by decide) dL_law_453 ?_
    obtain ⟨e1, e2⟩ := retS hF
    subst e2
    have hmc : mc = ce := by omega
    have hms : ms = sl := by omega
    subst hmc
    subst hms
    exact w_zret hB (by decide) dL_law_454 e1
  · replace hF := ifT hc hF
    refine w_aload_n hB 1 dL_law_433 rfl rfl ?_
    refine w_iload_n hB 2 dL_law_434 rfl rfl ?_
    obtain ⟨r1, M1m, hc_M1m, hF⟩ := clS hF
    have q_M1m : EQ M M1m := k_X10_mend hc_M1m
    have x_M1m := q_M1m.gx
    have n_M1m := q_M1m.1
    have z_M1m := q_M1m.sz
    refine w_callV (M1 := M1m) hB (ci := 8) (As := [vi x2]) (st := []) cw_L_162 q_553 q_554 rfl (soM hp.1 sh_64 (by decide)) (c_X10_mend hp hc_M1m) ⟨rfl, rfl⟩ ⟨Nat.le_of_ble_eq_true rfl, Nat.le_of_ble_eq_true rfl⟩ ⟨show ce ≤ mc by omega, show sl ≤ ms by omega⟩ rfl (Nat.le_of_ble_eq_true rfl) dL_law_435 rfl ?_ (Or.inl rfl)
    refine w_iload hB 3 dL_law_438 rfl ?_
    refine w_if_ge hB 448 dL_law_440 (by decide) (fun hc => ?_) (fun hc => ?_)
    · replace hF := ifT hc hF
      refine w_iload hB 3 dL_law_448 rfl ?_
      exact Wt.sub (L' := [(0, vr 61), (1, vr 64), (2, vi x2)]) [0, 1, 2] rfl (b_L_law_b450 hp hk hq hB G58 h58 hF (by omega) (by omega))
    · replace hF := ifF hc hF
      refine w_bipush hB (-2) (by decide) dL_law_443 ?_
      refine w_goto hB 450 dL_law_445 (by decide) ?_
      exact Wt.sub (L' := [(0, vr 61), (1, vr 64), (2, vi x2)]) [0, 1, 2] rfl (b_L_law_b450 hp hk hq hB G58 h58 hF (by omega) (by omega))
def f_L_law_b410 (N : Nat) (xs : Nat → Int32) (rec58 : Int32 → Mem → Option (Int32 × Mem)) (x2 : Int32) (x6 : Int32) (x9 : Int32) (x10 : Int32) (xs0 : Int32) (xs1 : Int32) (M : Mem) : Option (Int32 × Mem) :=
  if xs0 = xs1 then
    cl (f_X10_enough x2 M) fun r1 M1m =>
    if x10 = 0 then
      f_L_law_b430 N xs rec58 x2 x9 r1 (-2) M1m
    else
      f_L_law_b430 N xs rec58 x2 x9 r1 x6 M1m
  else
    some (0, M)
set_option maxRecDepth 100000 in
set_option maxHeartbeats 4000000 in
theorem m_L_law_b410 {N : Nat} {xs : Nat → Int32} {rec58 : Int32 → Mem → Option (Int32 × Mem)} (G58 : (∀ (x2 : Int32) (M Z : Mem) (r : Int32), rec58 x2 M = some (r, Z) → GX M Z)) {x2 : Int32} {x6 : Int32} {x9 : Int32} {x10 : Int32} {xs0 : Int32} {xs1 : Int32} {M Z : Mem} {r : Int32} (h : f_L_law_b410 N xs rec58 x2 x6 x9 x10 xs0 xs1 M = some (r, Z)) : GX M Z := by
  unfold f_L_law_b410 at h
  rcases ifS h with ⟨-, h⟩ | ⟨-, h⟩
  · obtain ⟨r1, M1m, c_M1m, h⟩ := clS h
    have q_M1m : GX M M1m := GX.tr (GX.refl M) ((k_X10_enough c_M1m).gx)
    rcases ifS h with ⟨-, h⟩ | ⟨-, h⟩
    · exact GX.tr q_M1m (m_L_law_b430 G58 h)
    · exact GX.tr q_M1m (m_L_law_b430 G58 h)
  · obtain ⟨-, e⟩ := retS h
    rw [← e]
    exact (GX.refl M)
set_option maxRecDepth 100000 in
set_option maxHeartbeats 4000000 in
theorem b_L_law_b410 {K : Kt} {X : Xt} (hp : St K) (hk : KC K) {N : Nat} {xs : Nat → Int32} (hq : KScr K N xs) {mc ms : Nat} (hB : Bx K X { frames := 10, cells := mc, slots := ms, locals := 257 } cL_law 11 RL (some .boolean)) {r : Int32} {M1 : Mem} {rec58 : Int32 → Mem → Option (Int32 × Mem)}
    (G58 : (∀ (x2 : Int32) (M Z : Mem) (r : Int32), rec58 x2 M = some (r, Z) → GX M Z)) (h58 : (∀ (x2 : Int32) (ce sl : Nat) (M : Mem), rec58 x2 M = some (r, M1) → mc + M.2.2.2 = ce + M1.2.2.2 → ms + szM M = sl + szM M1 → Wt K X (QM K X (some (vi r)) M1 mc ms) ce sl M 58 [(0, vr 61), (1, vr 64), (2, vi x2)] [])) {x2 : Int32} {x6 : Int32} {x9 : Int32} {x10 : Int32} {xs0 : Int32} {xs1 : Int32} {ce sl : Nat} {M : Mem} (hF : f_L_law_b410 N xs rec58 x2 x6 x9 x10 xs0 xs1 M = some (r, M1)) (hn : mc + M.2.2.2 = ce + M1.2.2.2) (hz : ms + szM M = sl + szM M1) : Wt K X (QM K X (some (vi r)) M1 mc ms) ce sl M 410 [(0, vr 61), (1, vr 64), (2, vi x2), (6, vi x6), (9, vi x9), (10, vi x10)] [vi xs1, vi xs0] := by
  have hg := m_L_law_b410 G58 hF
  have hg1 := hg.1
  have hg2 := hg.2.1
  unfold f_L_law_b410 at hF
  refine w_icmp_ne hB 453 dL_law_410 (by decide) (fun hc => ?_) (fun hc => ?_)
  · replace hF := ifF hc hF
    refine w_iconst hB 0 (by decide) dL_law_453 ?_
    obtain ⟨e1, e2⟩ := retS hF
    subst e2
    have hmc : mc = ce := by omega
    have hms : ms = sl := by omega
    subst hmc
    subst hms
    exact w_zret hB (by decide) dL_law_454 e1
  · replace hF := ifT hc hF
    refine w_aload_n hB 1 dL_law_413 rfl rfl ?_
    refine w_iload_n hB 2 dL_law_414 rfl rfl ?_
    obtain ⟨r1, M1m, hc_M1m, hF⟩ := clS hF
    have q_M1m : EQ M M1m := k_X10_enough hc_M1m
    have x_M1m := q_M1m.gx
    have n_M1m := q_M1m.1
    have z_M1m := q_M1m.sz
    refine w_callV (M1 := M1m) hB (ci := 8) (As := [vi x2]) (st := []) cw_L_159 q_543 q_544 rfl (soM hp.1 sh_64 (by decide)) (c_X10_enough hp hc_M1m) ⟨rfl, rfl⟩ ⟨Nat.le_of_ble_eq_true rfl, Nat.le_of_ble_eq_true rfl⟩ ⟨show ce ≤ mc by omega, show sl ≤ ms by omega⟩ rfl (Nat.le_of_ble_eq_true rfl) dL_law_415 rfl ?_ (Or.inl rfl)
    refine w_iload hB 5 dL_law_418 rfl ?_
    refine w_if_eq hB 428 dL_law_420 (by decide) (fun hc => ?_) (fun hc => ?_)
    · replace hF := ifT hc hF
      refine w_bipush hB (-2) (by decide) dL_law_428 ?_
      exact Wt.sub (L' := [(0, vr 61), (1, vr 64), (2, vi x2), (9, vi x9)]) [0, 1, 2, 4] rfl (b_L_law_b430 hp hk hq hB G58 h58 hF (by omega) (by omega))
    · replace hF := ifF hc hF
      refine w_iload hB 3 dL_law_423 rfl ?_
      refine w_goto hB 430 dL_law_425 (by decide) ?_
      exact Wt.sub (L' := [(0, vr 61), (1, vr 64), (2, vi x2), (9, vi x9)]) [0, 1, 2, 4] rfl (b_L_law_b430 hp hk hq hB G58 h58 hF (by omega) (by omega))
def f_L_law_b390 (N : Nat) (xs : Nat → Int32) (rec58 : Int32 → Mem → Option (Int32 × Mem)) (x2 : Int32) (x6 : Int32) (x8 : Int32) (x9 : Int32) (x10 : Int32) (xs0 : Int32) (xs1 : Int32) (M : Mem) : Option (Int32 × Mem) :=
  if xs0 = xs1 then
    cl (f_X10_key x2 M) fun r1 M1m =>
    if x10 = 0 then
      f_L_law_b410 N xs rec58 x2 x6 x9 x10 r1 (-2) M1m
    else
      f_L_law_b410 N xs rec58 x2 x6 x9 x10 r1 x8 M1m
  else
    some (0, M)
set_option maxRecDepth 100000 in
set_option maxHeartbeats 4000000 in
theorem m_L_law_b390 {N : Nat} {xs : Nat → Int32} {rec58 : Int32 → Mem → Option (Int32 × Mem)} (G58 : (∀ (x2 : Int32) (M Z : Mem) (r : Int32), rec58 x2 M = some (r, Z) → GX M Z)) {x2 : Int32} {x6 : Int32} {x8 : Int32} {x9 : Int32} {x10 : Int32} {xs0 : Int32} {xs1 : Int32} {M Z : Mem} {r : Int32} (h : f_L_law_b390 N xs rec58 x2 x6 x8 x9 x10 xs0 xs1 M = some (r, Z)) : GX M Z := by
  unfold f_L_law_b390 at h
  rcases ifS h with ⟨-, h⟩ | ⟨-, h⟩
  · obtain ⟨r1, M1m, c_M1m, h⟩ := clS h
    have q_M1m : GX M M1m := GX.tr (GX.refl M) ((k_X10_key c_M1m).gx)
    rcases ifS h with ⟨-, h⟩ | ⟨-, h⟩
    · exact GX.tr q_M1m (m_L_law_b410 G58 h)
    · exact GX.tr q_M1m (m_L_law_b410 G58 h)
  · obtain ⟨-, e⟩ := retS h
    rw [← e]
    exact (GX.refl M)
set_option maxRecDepth 100000 in
set_option maxHeartbeats 4000000 in
theorem b_L_law_b390 {K : Kt} {X : Xt} (hp : St K) (hk : KC K) {N : Nat} {xs : Nat → Int32} (hq : KScr K N xs) {mc ms : Nat} (hB : Bx K X { frames := 10, cells := mc, slots := ms, locals := 257 } cL_law 11 RL (some .boolean)) {r : Int32} {M1 : Mem} {rec58 : Int32 → Mem → Option (Int32 × Mem)}
    (G58 : (∀ (x2 : Int32) (M Z : Mem) (r : Int32), rec58 x2 M = some (r, Z) → GX M Z)) (h58 : (∀ (x2 : Int32) (ce sl : Nat) (M : Mem), rec58 x2 M = some (r, M1) → mc + M.2.2.2 = ce + M1.2.2.2 → ms + szM M = sl + szM M1 → Wt K X (QM K X (some (vi r)) M1 mc ms) ce sl M 58 [(0, vr 61), (1, vr 64), (2, vi x2)] [])) {x2 : Int32} {x6 : Int32} {x8 : Int32} {x9 : Int32} {x10 : Int32} {xs0 : Int32} {xs1 : Int32} {ce sl : Nat} {M : Mem} (hF : f_L_law_b390 N xs rec58 x2 x6 x8 x9 x10 xs0 xs1 M = some (r, M1)) (hn : mc + M.2.2.2 = ce + M1.2.2.2) (hz : ms + szM M = sl + szM M1) : Wt K X (QM K X (some (vi r)) M1 mc ms) ce sl M 390 [(0, vr 61), (1, vr 64), (2, vi x2), (6, vi x6), (8, vi x8), (9, vi x9), (10, vi x10)] [vi xs1, vi xs0] := by
  have hg := m_L_law_b390 G58 hF
  have hg1 := hg.1
  have hg2 := hg.2.1
  unfold f_L_law_b390 at hF
  refine w_icmp_ne hB 453 dL_law_390 (by decide) (fun hc => ?_) (fun hc => ?_)
  · replace hF := ifF hc hF
    refine w_iconst hB 0 (by decide) dL_law_453 ?_
    obtain ⟨e1, e2⟩ := retS hF
    subst e2
    have hmc : mc = ce := by omega
    have hms : ms = sl := by omega
    subst hmc
    subst hms
    exact w_zret hB (by decide) dL_law_454 e1
  · replace hF := ifT hc hF
    refine w_aload_n hB 1 dL_law_393 rfl rfl ?_
    refine w_iload_n hB 2 dL_law_394 rfl rfl ?_
    obtain ⟨r1, M1m, hc_M1m, hF⟩ := clS hF
    have q_M1m : EQ M M1m := k_X10_key hc_M1m
    have x_M1m := q_M1m.gx
    have n_M1m := q_M1m.1
    have z_M1m := q_M1m.sz
    refine w_callV (M1 := M1m) hB (ci := 8) (As := [vi x2]) (st := []) cw_L_156 q_535 q_536 rfl (soM hp.1 sh_64 (by decide)) (c_X10_key hp hc_M1m) ⟨rfl, rfl⟩ ⟨Nat.le_of_ble_eq_true rfl, Nat.le_of_ble_eq_true rfl⟩ ⟨show ce ≤ mc by omega, show sl ≤ ms by omega⟩ rfl (Nat.le_of_ble_eq_true rfl) dL_law_395 rfl ?_ (Or.inl rfl)
    refine w_iload hB 6 dL_law_398 rfl ?_
    refine w_if_eq hB 408 dL_law_400 (by decide) (fun hc => ?_) (fun hc => ?_)
    · replace hF := ifT hc hF
      refine w_bipush hB (-2) (by decide) dL_law_408 ?_
      exact Wt.sub (L' := [(0, vr 61), (1, vr 64), (2, vi x2), (6, vi x6), (9, vi x9), (10, vi x10)]) [0, 1, 2, 3, 5, 6] rfl (b_L_law_b410 hp hk hq hB G58 h58 hF (by omega) (by omega))
    · replace hF := ifF hc hF
      refine w_iload hB 4 dL_law_403 rfl ?_
      refine w_goto hB 410 dL_law_405 (by decide) ?_
      exact Wt.sub (L' := [(0, vr 61), (1, vr 64), (2, vi x2), (6, vi x6), (9, vi x9), (10, vi x10)]) [0, 1, 2, 3, 5, 6] rfl (b_L_law_b410 hp hk hq hB G58 h58 hF (by omega) (by omega))
def f_L_law_b371 (N : Nat) (xs : Nat → Int32) (rec58 : Int32 → Mem → Option (Int32 × Mem)) (x2 : Int32) (x6 : Int32) (x7 : Int32) (x8 : Int32) (x9 : Int32) (xs0 : Int32) (M : Mem) : Option (Int32 × Mem) :=
  cl (f_X10_fewest x2 M) fun r1 M1m =>
  if xs0 = 0 then
    f_L_law_b390 N xs rec58 x2 x6 x8 x9 xs0 r1 (-2) M1m
  else
    f_L_law_b390 N xs rec58 x2 x6 x8 x9 xs0 r1 x7 M1m
set_option maxRecDepth 100000 in
set_option maxHeartbeats 4000000 in
theorem m_L_law_b371 {N : Nat} {xs : Nat → Int32} {rec58 : Int32 → Mem → Option (Int32 × Mem)} (G58 : (∀ (x2 : Int32) (M Z : Mem) (r : Int32), rec58 x2 M = some (r, Z) → GX M Z)) {x2 : Int32} {x6 : Int32} {x7 : Int32} {x8 : Int32} {x9 : Int32} {xs0 : Int32} {M Z : Mem} {r : Int32} (h : f_L_law_b371 N xs rec58 x2 x6 x7 x8 x9 xs0 M = some (r, Z)) : GX M Z := by
  unfold f_L_law_b371 at h
  obtain ⟨r1, M1m, c_M1m, h⟩ := clS h
  have q_M1m : GX M M1m := GX.tr (GX.refl M) ((k_X10_fewest c_M1m).gx)
  rcases ifS h with ⟨-, h⟩ | ⟨-, h⟩
  · exact GX.tr q_M1m (m_L_law_b390 G58 h)
  · exact GX.tr q_M1m (m_L_law_b390 G58 h)
set_option maxRecDepth 100000 in
set_option maxHeartbeats 4000000 in
theorem b_L_law_b371 {K : Kt} {X : Xt} (hp : St K) (hk : KC K) {N : Nat} {xs : Nat → Int32} (hq : KScr K N xs) {mc ms : Nat} (hB : Bx K X { frames := 10, cells := mc, slots := ms, locals := 257 } cL_law 11 RL (some .boolean)) {r : Int32} {M1 : Mem} {rec58 : Int32 → Mem → Option (Int32 × Mem)}
    (G58 : (∀ (x2 : Int32) (M Z : Mem) (r : Int32), rec58 x2 M = some (r, Z) → GX M Z)) (h58 : (∀ (x2 : Int32) (ce sl : Nat) (M : Mem), rec58 x2 M = some (r, M1) → mc + M.2.2.2 = ce + M1.2.2.2 → ms + szM M = sl + szM M1 → Wt K X (QM K X (some (vi r)) M1 mc ms) ce sl M 58 [(0, vr 61), (1, vr 64), (2, vi x2)] [])) {x2 : Int32} {x6 : Int32} {x7 : Int32} {x8 : Int32} {x9 : Int32} {xs0 : Int32} {ce sl : Nat} {M : Mem} (hF : f_L_law_b371 N xs rec58 x2 x6 x7 x8 x9 xs0 M = some (r, M1)) (hn : mc + M.2.2.2 = ce + M1.2.2.2) (hz : ms + szM M = sl + szM M1) : Wt K X (QM K X (some (vi r)) M1 mc ms) ce sl M 371 [(0, vr 61), (1, vr 64), (2, vi x2), (6, vi x6), (7, vi x7), (8, vi x8), (9, vi x9)] [vi xs0] := by
  have hg := m_L_law_b371 G58 hF
  have hg1 := hg.1
  have hg2 := hg.2.1
  unfold f_L_law_b371 at hF
  refine w_istore hB (L' := [(10, vi xs0), (0, vr 61), (1, vr 64), (2, vi x2), (6, vi x6), (7, vi x7), (8, vi x8), (9, vi x9)]) dL_law_371 (by decide) rfl rfl ?_
  refine w_aload_n hB 2 dL_law_373 rfl rfl ?_
  refine w_iload_n hB 3 dL_law_374 rfl rfl ?_
  obtain ⟨r1, M1m, hc_M1m, hF⟩ := clS hF
  have q_M1m : EQ M M1m := k_X10_fewest hc_M1m
  have x_M1m := q_M1m.gx
  have n_M1m := q_M1m.1
  have z_M1m := q_M1m.sz
  refine w_callV (M1 := M1m) hB (ci := 8) (As := [vi x2]) (st := []) cw_L_153 q_512 q_513 rfl (soM hp.1 sh_64 (by decide)) (c_X10_fewest hp hc_M1m) ⟨rfl, rfl⟩ ⟨Nat.le_of_ble_eq_true rfl, Nat.le_of_ble_eq_true rfl⟩ ⟨show ce ≤ mc by omega, show sl ≤ ms by omega⟩ rfl (Nat.le_of_ble_eq_true rfl) dL_law_375 rfl ?_ (Or.inl rfl)
  refine w_iload hB 0 dL_law_378 rfl ?_
  refine w_if_eq hB 388 dL_law_380 (by decide) (fun hc => ?_) (fun hc => ?_)
  · replace hF := ifT hc hF
    refine w_bipush hB (-2) (by decide) dL_law_388 ?_
    exact Wt.sub (L' := [(0, vr 61), (1, vr 64), (2, vi x2), (6, vi x6), (8, vi x8), (9, vi x9), (10, vi xs0)]) [1, 2, 3, 4, 6, 7, 0] rfl (b_L_law_b390 hp hk hq hB G58 h58 hF (by omega) (by omega))
  · replace hF := ifF hc hF
    refine w_iload hB 5 dL_law_383 rfl ?_
    refine w_goto hB 390 dL_law_385 (by decide) ?_
    exact Wt.sub (L' := [(0, vr 61), (1, vr 64), (2, vi x2), (6, vi x6), (8, vi x8), (9, vi x9), (10, vi xs0)]) [1, 2, 3, 4, 6, 7, 0] rfl (b_L_law_b390 hp hk hq hB G58 h58 hF (by omega) (by omega))
def f_L_law_b321 (N : Nat) (xs : Nat → Int32) (rec58 : Int32 → Mem → Option (Int32 × Mem)) (rec243 : Int32 → Nat → Int32 → Int32 → Int32 → Int32 → Int32 → Int32 → Mem → Option (Int32 × Mem)) (x2 : Int32) (n4 : Nat) (x5 : Int32) (x6 : Int32) (x7 : Int32) (x8 : Int32) (x9 : Int32) (x10 : Int32) (M : Mem) : Option (Int32 × Mem) :=
  cl (f_J6_bitCount_0f7a4 x10 M) fun r1 M1m =>
  if r1 = 1 then
    gd (1000 ≤ n4 ∧ dsc M1m n4 = 20 ∧ n4 - 753 < M1m.2.2.2) <|
    gd (inb (x5 &&& (x10 ^^^ (-1))) (dln M1m n4)) <|
    if (M1m.1 n4 (x5 &&& (x10 ^^^ (-1))).toNatClampNeg) = 2 then
      bnd (x8 ||| x10) fun a1 =>
      bnd (x10 + 1) fun a2 =>
      rec243 x2 n4 x5 x6 x7 a1 x9 a2 M1m
    else
      bnd (x10 + 1) fun a3 =>
      rec243 x2 n4 x5 x6 x7 x8 x9 a3 M1m
  else
    bnd (x10 + 1) fun a4 =>
    rec243 x2 n4 x5 x6 x7 x8 x9 a4 M1m
set_option maxRecDepth 100000 in
set_option maxHeartbeats 4000000 in
theorem m_L_law_b321 {N : Nat} {xs : Nat → Int32} {rec58 : Int32 → Mem → Option (Int32 × Mem)} {rec243 : Int32 → Nat → Int32 → Int32 → Int32 → Int32 → Int32 → Int32 → Mem → Option (Int32 × Mem)} (G58 : (∀ (x2 : Int32) (M Z : Mem) (r : Int32), rec58 x2 M = some (r, Z) → GX M Z)) (G243 : (∀ (x2 : Int32) (n4 : Nat) (x5 : Int32) (x6 : Int32) (x7 : Int32) (x8 : Int32) (x9 : Int32) (x10 : Int32) (M Z : Mem) (r : Int32), rec243 x2 n4 x5 x6 x7 x8 x9 x10 M = some (r, Z) → GX M Z)) {x2 : Int32} {n4 : Nat} {x5 : Int32} {x6 : Int32} {x7 : Int32} {x8 : Int32} {x9 : Int32} {x10 : Int32} {M Z : Mem} {r : Int32} (h : f_L_law_b321 N xs rec58 rec243 x2 n4 x5 x6 x7 x8 x9 x10 M = some (r, Z)) : GX M Z := by
  unfold f_L_law_b321 at h
  obtain ⟨r1, M1m, c_M1m, h⟩ := clS h
  have q_M1m : GX M M1m := GX.tr (GX.refl M) ((k_J6_bitCount_0f7a4 c_M1m).gx)
  rcases ifS h with ⟨-, h⟩ | ⟨-, h⟩
  · obtain ⟨gq2, h⟩ := gdS h
    obtain ⟨gq3, h⟩ := gdS h
    rcases ifS h with ⟨-, h⟩ | ⟨-, h⟩
    · obtain ⟨a1, e_a1, h⟩ := bndS h
      obtain ⟨a2, e_a2, h⟩ := bndS h
      exact GX.tr q_M1m (G243 _ _ _ _ _ _ _ _ _ _ _ h)
    · obtain ⟨a3, e_a3, h⟩ := bndS h
      exact GX.tr q_M1m (G243 _ _ _ _ _ _ _ _ _ _ _ h)
  · obtain ⟨a4, e_a4, h⟩ := bndS h
    exact GX.tr q_M1m (G243 _ _ _ _ _ _ _ _ _ _ _ h)
set_option maxRecDepth 100000 in
set_option maxHeartbeats 4000000 in
theorem b_L_law_b321 {K : Kt} {X : Xt} (hp : St K) (hk : KC K) {N : Nat} {xs : Nat → Int32} (hq : KScr K N xs) {mc ms : Nat} (hB : Bx K X { frames := 10, cells := mc, slots := ms, locals := 257 } cL_law 11 RL (some .boolean)) {r : Int32} {M1 : Mem} {rec58 : Int32 → Mem → Option (Int32 × Mem)} {rec243 : Int32 → Nat → Int32 → Int32 → Int32 → Int32 → Int32 → Int32 → Mem → Option (Int32 × Mem)}
    (G58 : (∀ (x2 : Int32) (M Z : Mem) (r : Int32), rec58 x2 M = some (r, Z) → GX M Z)) (h58 : (∀ (x2 : Int32) (ce sl : Nat) (M : Mem), rec58 x2 M = some (r, M1) → mc + M.2.2.2 = ce + M1.2.2.2 → ms + szM M = sl + szM M1 → Wt K X (QM K X (some (vi r)) M1 mc ms) ce sl M 58 [(0, vr 61), (1, vr 64), (2, vi x2)] []))
    (G243 : (∀ (x2 : Int32) (n4 : Nat) (x5 : Int32) (x6 : Int32) (x7 : Int32) (x8 : Int32) (x9 : Int32) (x10 : Int32) (M Z : Mem) (r : Int32), rec243 x2 n4 x5 x6 x7 x8 x9 x10 M = some (r, Z) → GX M Z)) (h243 : (∀ (x2 : Int32) (n4 : Nat) (x5 : Int32) (x6 : Int32) (x7 : Int32) (x8 : Int32) (x9 : Int32) (x10 : Int32) (ce sl : Nat) (M : Mem), rec243 x2 n4 x5 x6 x7 x8 x9 x10 M = some (r, M1) → mc + M.2.2.2 = ce + M1.2.2.2 → ms + szM M = sl + szM M1 → Wt K X (QM K X (some (vi r)) M1 mc ms) ce sl M 243 [(0, vr 61), (1, vr 64), (2, vi x2), (4, vr n4), (5, vi x5), (6, vi x6), (7, vi x7), (8, vi x8), (9, vi x9), (10, vi x10)] [])) {x2 : Int32} {n4 : Nat} {x5 : Int32} {x6 : Int32} {x7 : Int32} {x8 : Int32} {x9 : Int32} {x10 : Int32} {ce sl : Nat} {M : Mem} (hF : f_L_law_b321 N xs rec58 rec243 x2 n4 x5 x6 x7 x8 x9 x10 M = some (r, M1)) (hn : mc + M.2.2.2 = ce + M1.2.2.2) (hz : ms + szM M = sl + szM M1) : Wt K X (QM K X (some (vi r)) M1 mc ms) ce sl M 321 [(0, vr 61), (1, vr 64), (2, vi x2), (4, vr n4), (5, vi x5), (6, vi x6), (7, vi x7), (8, vi x8), (9, vi x9), (10, vi x10)] [] := by
  have hg := m_L_law_b321 G58 G243 hF
  have hg1 := hg.1
  have hg2 := hg.2.1
  unfold f_L_law_b321 at hF
  refine w_iload hB 9 dL_law_321 rfl ?_
  obtain ⟨r1, M1m, hc_M1m, hF⟩ := clS hF
  have q_M1m : EQ M M1m := k_J6_bitCount_0f7a4 hc_M1m
  have x_M1m := q_M1m.gx
  have n_M1m := q_M1m.1
  have z_M1m := q_M1m.sz
  refine w_callS (M1 := M1m) hB (As := [vi x10]) (st := []) cw_L_148 q_529 (c_J6_bitCount_0f7a4 hp hc_M1m) ⟨rfl, rfl⟩ ⟨Nat.le_of_ble_eq_true rfl, Nat.le_of_ble_eq_true rfl⟩ ⟨show ce ≤ mc by omega, show sl ≤ ms by omega⟩ rfl (Nat.le_of_ble_eq_true rfl) dL_law_323 rfl ?_ (Or.inl rfl)
  refine w_iconst hB 1 (by decide) dL_law_326 ?_
  refine w_icmp_ne hB 351 dL_law_327 (by decide) (fun hc => ?_) (fun hc => ?_)
  · replace hF := ifF hc hF
    obtain ⟨a4, e_a4, hF⟩ := bndS hF
    refine w_iinc hB 9 (v := 1) (L' := [(10, vi a4), (0, vr 61), (1, vr 64), (2, vi x2), (4, vr n4), (5, vi x5), (6, vi x6), (7, vi x7), (8, vi x8), (9, vi x9)]) dL_law_351 rfl (by decide) (by decide) e_a4 rfl ?_
    refine w_goto hB 243 dL_law_354 (by decide) ?_
    exact Wt.sub (L' := [(0, vr 61), (1, vr 64), (2, vi x2), (4, vr n4), (5, vi x5), (6, vi x6), (7, vi x7), (8, vi x8), (9, vi x9), (10, vi a4)]) [1, 2, 3, 4, 5, 6, 7, 8, 9, 0] rfl (h243 _ _ _ _ _ _ _ _ _ _ M1m hF (by omega) (by omega))
  · replace hF := ifT hc hF
    refine w_aload hB 3 dL_law_330 rfl ?_
    refine w_iload hB 4 dL_law_332 rfl ?_
    refine w_iload hB 9 dL_law_334 rfl ?_
    refine w_iconst hB (-1) (by decide) dL_law_336 ?_
    refine w_ixor hB dL_law_337 ?_
    refine w_iand hB dL_law_338 ?_
    obtain ⟨g1, hF⟩ := gdS hF
    obtain ⟨g2, hF⟩ := gdS hF
    refine w_iald hB (dqM g1) (sl_d g1.1 rfl) g2 dL_law_339 ?_
    refine w_iconst hB 2 (by decide) dL_law_340 ?_
    refine w_icmp_ne hB 351 dL_law_341 (by decide) (fun hc => ?_) (fun hc => ?_)
    · replace hF := ifF hc hF
      obtain ⟨a3, e_a3, hF⟩ := bndS hF
      refine w_iinc hB 9 (v := 1) (L' := [(10, vi a3), (0, vr 61), (1, vr 64), (2, vi x2), (4, vr n4), (5, vi x5), (6, vi x6), (7, vi x7), (8, vi x8), (9, vi x9)]) dL_law_351 rfl (by decide) (by decide) e_a3 rfl ?_
      refine w_goto hB 243 dL_law_354 (by decide) ?_
      exact Wt.sub (L' := [(0, vr 61), (1, vr 64), (2, vi x2), (4, vr n4), (5, vi x5), (6, vi x6), (7, vi x7), (8, vi x8), (9, vi x9), (10, vi a3)]) [1, 2, 3, 4, 5, 6, 7, 8, 9, 0] rfl (h243 _ _ _ _ _ _ _ _ _ _ M1m hF (by omega) (by omega))
    · replace hF := ifT hc hF
      refine w_iload hB 7 dL_law_344 rfl ?_
      refine w_iload hB 9 dL_law_346 rfl ?_
      refine w_ior hB dL_law_348 ?_
      obtain ⟨a1, e_a1, hF⟩ := bndS hF
      refine w_istore hB (L' := [(8, vi a1), (0, vr 61), (1, vr 64), (2, vi x2), (4, vr n4), (5, vi x5), (6, vi x6), (7, vi x7), (9, vi x9), (10, vi x10)]) dL_law_349 (by decide) e_a1 rfl ?_
      obtain ⟨a2, e_a2, hF⟩ := bndS hF
      refine w_iinc hB 9 (v := 1) (L' := [(10, vi a2), (8, vi a1), (0, vr 61), (1, vr 64), (2, vi x2), (4, vr n4), (5, vi x5), (6, vi x6), (7, vi x7), (9, vi x9)]) dL_law_351 rfl (by decide) (by decide) e_a2 rfl ?_
      refine w_goto hB 243 dL_law_354 (by decide) ?_
      exact Wt.sub (L' := [(0, vr 61), (1, vr 64), (2, vi x2), (4, vr n4), (5, vi x5), (6, vi x6), (7, vi x7), (8, vi a1), (9, vi x9), (10, vi a2)]) [2, 3, 4, 5, 6, 7, 8, 1, 9, 0] rfl (h243 _ _ _ _ _ _ _ _ _ _ M1m hF (by omega) (by omega))
def f_L_law_b317 (N : Nat) (xs : Nat → Int32) (rec58 : Int32 → Mem → Option (Int32 × Mem)) (rec243 : Int32 → Nat → Int32 → Int32 → Int32 → Int32 → Int32 → Int32 → Mem → Option (Int32 × Mem)) (x2 : Int32) (n4 : Nat) (x5 : Int32) (x6 : Int32) (x7 : Int32) (x8 : Int32) (x10 : Int32) (M : Mem) : Option (Int32 × Mem) :=
  f_L_law_b321 N xs rec58 rec243 x2 n4 x5 x6 x7 x8 x10 x10 M
set_option maxRecDepth 100000 in
set_option maxHeartbeats 4000000 in
theorem m_L_law_b317 {N : Nat} {xs : Nat → Int32} {rec58 : Int32 → Mem → Option (Int32 × Mem)} {rec243 : Int32 → Nat → Int32 → Int32 → Int32 → Int32 → Int32 → Int32 → Mem → Option (Int32 × Mem)} (G58 : (∀ (x2 : Int32) (M Z : Mem) (r : Int32), rec58 x2 M = some (r, Z) → GX M Z)) (G243 : (∀ (x2 : Int32) (n4 : Nat) (x5 : Int32) (x6 : Int32) (x7 : Int32) (x8 : Int32) (x9 : Int32) (x10 : Int32) (M Z : Mem) (r : Int32), rec243 x2 n4 x5 x6 x7 x8 x9 x10 M = some (r, Z) → GX M Z)) {x2 : Int32} {n4 : Nat} {x5 : Int32} {x6 : Int32} {x7 : Int32} {x8 : Int32} {x10 : Int32} {M Z : Mem} {r : Int32} (h : f_L_law_b317 N xs rec58 rec243 x2 n4 x5 x6 x7 x8 x10 M = some (r, Z)) : GX M Z := by
  unfold f_L_law_b317 at h
  exact GX.tr (GX.refl M) (m_L_law_b321 G58 G243 h)
set_option maxRecDepth 100000 in
set_option maxHeartbeats 4000000 in
theorem b_L_law_b317 {K : Kt} {X : Xt} (hp : St K) (hk : KC K) {N : Nat} {xs : Nat → Int32} (hq : KScr K N xs) {mc ms : Nat} (hB : Bx K X { frames := 10, cells := mc, slots := ms, locals := 257 } cL_law 11 RL (some .boolean)) {r : Int32} {M1 : Mem} {rec58 : Int32 → Mem → Option (Int32 × Mem)} {rec243 : Int32 → Nat → Int32 → Int32 → Int32 → Int32 → Int32 → Int32 → Mem → Option (Int32 × Mem)}
    (G58 : (∀ (x2 : Int32) (M Z : Mem) (r : Int32), rec58 x2 M = some (r, Z) → GX M Z)) (h58 : (∀ (x2 : Int32) (ce sl : Nat) (M : Mem), rec58 x2 M = some (r, M1) → mc + M.2.2.2 = ce + M1.2.2.2 → ms + szM M = sl + szM M1 → Wt K X (QM K X (some (vi r)) M1 mc ms) ce sl M 58 [(0, vr 61), (1, vr 64), (2, vi x2)] []))
    (G243 : (∀ (x2 : Int32) (n4 : Nat) (x5 : Int32) (x6 : Int32) (x7 : Int32) (x8 : Int32) (x9 : Int32) (x10 : Int32) (M Z : Mem) (r : Int32), rec243 x2 n4 x5 x6 x7 x8 x9 x10 M = some (r, Z) → GX M Z)) (h243 : (∀ (x2 : Int32) (n4 : Nat) (x5 : Int32) (x6 : Int32) (x7 : Int32) (x8 : Int32) (x9 : Int32) (x10 : Int32) (ce sl : Nat) (M : Mem), rec243 x2 n4 x5 x6 x7 x8 x9 x10 M = some (r, M1) → mc + M.2.2.2 = ce + M1.2.2.2 → ms + szM M = sl + szM M1 → Wt K X (QM K X (some (vi r)) M1 mc ms) ce sl M 243 [(0, vr 61), (1, vr 64), (2, vi x2), (4, vr n4), (5, vi x5), (6, vi x6), (7, vi x7), (8, vi x8), (9, vi x9), (10, vi x10)] [])) {x2 : Int32} {n4 : Nat} {x5 : Int32} {x6 : Int32} {x7 : Int32} {x8 : Int32} {x10 : Int32} {ce sl : Nat} {M : Mem} (hF : f_L_law_b317 N xs rec58 rec243 x2 n4 x5 x6 x7 x8 x10 M = some (r, M1)) (hn : mc + M.2.2.2 = ce + M1.2.2.2) (hz : ms + szM M = sl + szM M1) : Wt K X (QM K X (some (vi r)) M1 mc ms) ce sl M 317 [(0, vr 61), (1, vr 64), (2, vi x2), (4, vr n4), (5, vi x5), (6, vi x6), (7, vi x7), (8, vi x8), (10, vi x10)] [] := by
  have hg := m_L_law_b317 G58 G243 hF
  have hg1 := hg.1
  have hg2 := hg.2.1
  unfold f_L_law_b317 at hF
  refine w_iload hB 8 dL_law_317 rfl ?_
  refine w_istore hB (L' := [(9, vi x10), (0, vr 61), (1, vr 64), (2, vi x2), (4, vr n4), (5, vi x5), (6, vi x6), (7, vi x7), (8, vi x8), (10, vi x10)]) dL_law_319 (by decide) rfl rfl ?_
  exact Wt.sub (L' := [(0, vr 61), (1, vr 64), (2, vi x2), (4, vr n4), (5, vi x5), (6, vi x6), (7, vi x7), (8, vi x8), (9, vi x10), (10, vi x10)]) [1, 2, 3, 4, 5, 6, 7, 8, 0, 9] rfl (b_L_law_b321 hp hk hq hB G58 h58 G243 h243 hF (by omega) (by omega))
def f_L_law_b285 (N : Nat) (xs : Nat → Int32) (rec58 : Int32 → Mem → Option (Int32 × Mem)) (rec243 : Int32 → Nat → Int32 → Int32 → Int32 → Int32 → Int32 → Int32 → Mem → Option (Int32 × Mem)) (x2 : Int32) (n4 : Nat) (x5 : Int32) (x6 : Int32) (x7 : Int32) (x8 : Int32) (x9 : Int32) (x10 : Int32) (M : Mem) : Option (Int32 × Mem) :=
  gd (1000 ≤ n4 ∧ dsc M n4 = 20 ∧ n4 - 753 < M.2.2.2) <|
  gd (inb (x5 &&& (x10 ^^^ (-1))) (dln M n4)) <|
  if (M.1 n4 (x5 &&& (x10 ^^^ (-1))).toNatClampNeg) = 3 then
    f_L_law_b321 N xs rec58 rec243 x2 n4 x5 x6 x7 x8 x9 x10 M
  else
    if x9 < 0 then
      f_L_law_b317 N xs rec58 rec243 x2 n4 x5 x6 x7 x8 x10 M
    else
      cl (f_J6_bitCount_0f7a4 x10 M) fun r1 M1m =>
      cl (f_J6_bitCount_0f7a4 x9 M1m) fun r2 M2m =>
      if r2 ≤ r1 then
        f_L_law_b321 N xs rec58 rec243 x2 n4 x5 x6 x7 x8 x9 x10 M2m
      else
        f_L_law_b317 N xs rec58 rec243 x2 n4 x5 x6 x7 x8 x10 M2m
set_option maxRecDepth 100000 in
set_option maxHeartbeats 4000000 in
theorem m_L_law_b285 {N : Nat} {xs : Nat → Int32} {rec58 : Int32 → Mem → Option (Int32 × Mem)} {rec243 : Int32 → Nat → Int32 → Int32 → Int32 → Int32 → Int32 → Int32 → Mem → Option (Int32 × Mem)} (G58 : (∀ (x2 : Int32) (M Z : Mem) (r : Int32), rec58 x2 M = some (r, Z) → GX M Z)) (G243 : (∀ (x2 : Int32) (n4 : Nat) (x5 : Int32) (x6 : Int32) (x7 : Int32) (x8 : Int32) (x9 : Int32) (x10 : Int32) (M Z : Mem) (r : Int32), rec243 x2 n4 x5 x6 x7 x8 x9 x10 M = some (r, Z) → GX M Z)) {x2 : Int32} {n4 : Nat} {x5 : Int32} {x6 : Int32} {x7 : Int32} {x8 : Int32} {x9 : Int32} {x10 : Int32} {M Z : Mem} {r : Int32} (h : f_L_law_b285 N xs rec58 rec243 x2 n4 x5 x6 x7 x8 x9 x10 M = some (r, Z)) : GX M Z := by
  unfold f_L_law_b285 at h
  obtain ⟨gq0, h⟩ := gdS h
  obtain ⟨gq1, h⟩ := gdS h
  rcases ifS h with ⟨-, h⟩ | ⟨-, h⟩
  · exact GX.tr (GX.refl M) (m_L_law_b321 G58 G243 h)
  · rcases ifS h with ⟨-, h⟩ | ⟨-, h⟩
    · exact GX.tr (GX.refl M) (m_L_law_b317 G58 G243 h)
    · obtain ⟨r1, M1m, c_M1m, h⟩ := clS h
      have q_M1m : GX M M1m := GX.tr (GX.refl M) ((k_J6_bitCount_0f7a4 c_M1m).gx)
      obtain ⟨r2, M2m, c_M2m, h⟩ := clS h
      have q_M2m : GX M M2m := GX.tr q_M1m ((k_J6_bitCount_0f7a4 c_M2m).gx)
      rcases ifS h with ⟨-, h⟩ | ⟨-, h⟩
      · exact GX.tr q_M2m (m_L_law_b321 G58 G243 h)
      · exact GX.tr q_M2m (m_L_law_b317 G58 G243 h)
set_option maxRecDepth 100000 in
set_option maxHeartbeats 4000000 in
theorem b_L_law_b285 {K : Kt} {X : Xt} (hp : St K) (hk : KC K) {N : Nat} {xs : Nat → Int32} (hq : KScr K N xs) {mc ms : Nat} (hB : Bx K X { frames := 10, cells := mc, slots := ms, locals := 257 } cL_law 11 RL (some .boolean)) {r : Int32} {M1 : Mem} {rec58 : Int32 → Mem → Option (Int32 × Mem)} {rec243 : Int32 → Nat → Int32 → Int32 → Int32 → Int32 → Int32 → Int32 → Mem → Option (Int32 × Mem)}
    (G58 : (∀ (x2 : Int32) (M Z : Mem) (r : Int32), rec58 x2 M = some (r, Z) → GX M Z)) (h58 : (∀ (x2 : Int32) (ce sl : Nat) (M : Mem), rec58 x2 M = some (r, M1) → mc + M.2.2.2 = ce + M1.2.2.2 → ms + szM M = sl + szM M1 → Wt K X (QM K X (some (vi r)) M1 mc ms) ce sl M 58 [(0, vr 61), (1, vr 64), (2, vi x2)] []))
    (G243 : (∀ (x2 : Int32) (n4 : Nat) (x5 : Int32) (x6 : Int32) (x7 : Int32) (x8 : Int32) (x9 : Int32) (x10 : Int32) (M Z : Mem) (r : Int32), rec243 x2 n4 x5 x6 x7 x8 x9 x10 M = some (r, Z) → GX M Z)) (h243 : (∀ (x2 : Int32) (n4 : Nat) (x5 : Int32) (x6 : Int32) (x7 : Int32) (x8 : Int32) (x9 : Int32) (x10 : Int32) (ce sl : Nat) (M : Mem), rec243 x2 n4 x5 x6 x7 x8 x9 x10 M = some (r, M1) → mc + M.2.2.2 = ce + M1.2.2.2 → ms + szM M = sl + szM M1 → Wt K X (QM K X (some (vi r)) M1 mc ms) ce sl M 243 [(0, vr 61), (1, vr 64), (2, vi x2), (4, vr n4), (5, vi x5), (6, vi x6), (7, vi x7), (8, vi x8), (9, vi x9), (10, vi x10)] [])) {x2 : Int32} {n4 : Nat} {x5 : Int32} {x6 : Int32} {x7 : Int32} {x8 : Int32} {x9 : Int32} {x10 : Int32} {ce sl : Nat} {M : Mem} (hF : f_L_law_b285 N xs rec58 rec243 x2 n4 x5 x6 x7 x8 x9 x10 M = some (r, M1)) (hn : mc + M.2.2.2 = ce + M1.2.2.2) (hz : ms + szM M = sl + szM M1) : Wt K X (QM K X (some (vi r)) M1 mc ms) ce sl M 285 [(0, vr 61), (1, vr 64), (2, vi x2), (4, vr n4), (5, vi x5), (6, vi x6), (7, vi x7), (8, vi x8), (9, vi x9), (10, vi x10)] [] := by
  have hg := m_L_law_b285 G58 G243 hF
  have hg1 := hg.1
  have hg2 := hg.2.1
  unfold f_L_law_b285 at hF
  refine w_aload hB 3 dL_law_285 rfl ?_
  refine w_iload hB 4 dL_law_287 rfl ?_
  refine w_iload hB 9 dL_law_289 rfl ?_
  refine w_iconst hB (-1) (by decide) dL_law_291 ?_
  refine w_ixor hB dL_law_292 ?_
  refine w_iand hB dL_law_293 ?_
  obtain ⟨g1, hF⟩ := gdS hF
  obtain ⟨g2, hF⟩ := gdS hF
  refine w_iald hB (dqM g1) (sl_d g1.1 rfl) g2 dL_law_294 ?_
  refine w_iconst hB 3 (by decide) dL_law_295 ?_
  refine w_icmp_eq hB 321 dL_law_296 (by decide) (fun hc => ?_) (fun hc => ?_)
  · replace hF := ifT hc hF
    exact Wt.sub (L' := [(0, vr 61), (1, vr 64), (2, vi x2), (4, vr n4), (5, vi x5), (6, vi x6), (7, vi x7), (8, vi x8), (9, vi x9), (10, vi x10)]) [0, 1, 2, 3, 4, 5, 6, 7, 8, 9] rfl (b_L_law_b321 hp hk hq hB G58 h58 G243 h243 hF (by omega) (by omega))
  · replace hF := ifF hc hF
    refine w_iload hB 8 dL_law_299 rfl ?_
    refine w_if_lt hB 317 dL_law_301 (by decide) (fun hc => ?_) (fun hc => ?_)
    · replace hF := ifT hc hF
      exact Wt.sub (L' := [(0, vr 61), (1, vr 64), (2, vi x2), (4, vr n4), (5, vi x5), (6, vi x6), (7, vi x7), (8, vi x8), (10, vi x10)]) [0, 1, 2, 3, 4, 5, 6, 7, 9] rfl (b_L_law_b317 hp hk hq hB G58 h58 G243 h243 hF (by omega) (by omega))
    · replace hF := ifF hc hF
      refine w_iload hB 9 dL_law_304 rfl ?_
      obtain ⟨r1, M1m, hc_M1m, hF⟩ := clS hF
      have q_M1m : EQ M M1m := k_J6_bitCount_0f7a4 hc_M1m
      have x_M1m := q_M1m.gx
      have n_M1m := q_M1m.1
      have z_M1m := q_M1m.sz
      refine w_callS (M1 := M1m) hB (As := [vi x10]) (st := []) cw_L_148 q_529 (c_J6_bitCount_0f7a4 hp hc_M1m) ⟨rfl, rfl⟩ ⟨Nat.le_of_ble_eq_true rfl, Nat.le_of_ble_eq_true rfl⟩ ⟨show ce ≤ mc by omega, show sl ≤ ms by omega⟩ rfl (Nat.le_of_ble_eq_true rfl) dL_law_306 rfl ?_ (Or.inl rfl)
      refine w_iload hB 8 dL_law_309 rfl ?_
      obtain ⟨r2, M2m, hc_M2m, hF⟩ := clS hF
      have q_M2m : EQ M1m M2m := k_J6_bitCount_0f7a4 hc_M2m
      have x_M2m := q_M2m.gx
      have n_M2m := q_M2m.1
      have z_M2m := q_M2m.sz
      refine w_callS (M1 := M2m) hB (As := [vi x9]) (st := [vi r1]) cw_L_148 q_529 (c_J6_bitCount_0f7a4 hp hc_M2m) ⟨rfl, rfl⟩ ⟨Nat.le_of_ble_eq_true rfl, Nat.le_of_ble_eq_true rfl⟩ ⟨show ce ≤ mc by omega, show sl ≤ ms by omega⟩ rfl (Nat.le_of_ble_eq_true rfl) dL_law_311 rfl ?_ (Or.inl rfl)
      refine w_icmp_ge hB 321 dL_law_314 (by decide) (fun hc => ?_) (fun hc => ?_)
      · replace hF := ifT hc hF
        exact Wt.sub (L' := [(0, vr 61), (1, vr 64), (2, vi x2), (4, vr n4), (5, vi x5), (6, vi x6), (7, vi x7), (8, vi x8), (9, vi x9), (10, vi x10)]) [0, 1, 2, 3, 4, 5, 6, 7, 8, 9] rfl (b_L_law_b321 hp hk hq hB G58 h58 G243 h243 hF (by omega) (by omega))
      · replace hF := ifF hc hF
        exact Wt.sub (L' := [(0, vr 61), (1, vr 64), (2, vi x2), (4, vr n4), (5, vi x5), (6, vi x6), (7, vi x7), (8, vi x8), (10, vi x10)]) [0, 1, 2, 3, 4, 5, 6, 7, 9] rfl (b_L_law_b317 hp hk hq hB G58 h58 G243 h243 hF (by omega) (by omega))
def f_L_law_b281 (N : Nat) (xs : Nat → Int32) (rec58 : Int32 → Mem → Option (Int32 × Mem)) (rec243 : Int32 → Nat → Int32 → Int32 → Int32 → Int32 → Int32 → Int32 → Mem → Option (Int32 × Mem)) (x2 : Int32) (n4 : Nat) (x5 : Int32) (x6 : Int32) (x8 : Int32) (x9 : Int32) (x10 : Int32) (M : Mem) : Option (Int32 × Mem) :=
  f_L_law_b285 N xs rec58 rec243 x2 n4 x5 x6 x10 x8 x9 x10 M
set_option maxRecDepth 100000 in
set_option maxHeartbeats 4000000 in
theorem m_L_law_b281 {N : Nat} {xs : Nat → Int32} {rec58 : Int32 → Mem → Option (Int32 × Mem)} {rec243 : Int32 → Nat → Int32 → Int32 → Int32 → Int32 → Int32 → Int32 → Mem → Option (Int32 × Mem)} (G58 : (∀ (x2 : Int32) (M Z : Mem) (r : Int32), rec58 x2 M = some (r, Z) → GX M Z)) (G243 : (∀ (x2 : Int32) (n4 : Nat) (x5 : Int32) (x6 : Int32) (x7 : Int32) (x8 : Int32) (x9 : Int32) (x10 : Int32) (M Z : Mem) (r : Int32), rec243 x2 n4 x5 x6 x7 x8 x9 x10 M = some (r, Z) → GX M Z)) {x2 : Int32} {n4 : Nat} {x5 : Int32} {x6 : Int32} {x8 : Int32} {x9 : Int32} {x10 : Int32} {M Z : Mem} {r : Int32} (h : f_L_law_b281 N xs rec58 rec243 x2 n4 x5 x6 x8 x9 x10 M = some (r, Z)) : GX M Z := by
  unfold f_L_law_b281 at h
  exact GX.tr (GX.refl M) (m_L_law_b285 G58 G243 h)
set_option maxRecDepth 100000 in
set_option maxHeartbeats 4000000 in
theorem b_L_law_b281 {K : Kt} {X : Xt} (hp : St K) (hk : KC K) {N : Nat} {xs : Nat → Int32} (hq : KScr K N xs) {mc ms : Nat} (hB : Bx K X { frames := 10, cells := mc, slots := ms, locals := 257 } cL_law 11 RL (some .boolean)) {r : Int32} {M1 : Mem} {rec58 : Int32 → Mem → Option (Int32 × Mem)} {rec243 : Int32 → Nat → Int32 → Int32 → Int32 → Int32 → Int32 → Int32 → Mem → Option (Int32 × Mem)}
    (G58 : (∀ (x2 : Int32) (M Z : Mem) (r : Int32), rec58 x2 M = some (r, Z) → GX M Z)) (h58 : (∀ (x2 : Int32) (ce sl : Nat) (M : Mem), rec58 x2 M = some (r, M1) → mc + M.2.2.2 = ce + M1.2.2.2 → ms + szM M = sl + szM M1 → Wt K X (QM K X (some (vi r)) M1 mc ms) ce sl M 58 [(0, vr 61), (1, vr 64), (2, vi x2)] []))
    (G243 : (∀ (x2 : Int32) (n4 : Nat) (x5 : Int32) (x6 : Int32) (x7 : Int32) (x8 : Int32) (x9 : Int32) (x10 : Int32) (M Z : Mem) (r : Int32), rec243 x2 n4 x5 x6 x7 x8 x9 x10 M = some (r, Z) → GX M Z)) (h243 : (∀ (x2 : Int32) (n4 : Nat) (x5 : Int32) (x6 : Int32) (x7 : Int32) (x8 : Int32) (x9 : Int32) (x10 : Int32) (ce sl : Nat) (M : Mem), rec243 x2 n4 x5 x6 x7 x8 x9 x10 M = some (r, M1) → mc + M.2.2.2 = ce + M1.2.2.2 → ms + szM M = sl + szM M1 → Wt K X (QM K X (some (vi r)) M1 mc ms) ce sl M 243 [(0, vr 61), (1, vr 64), (2, vi x2), (4, vr n4), (5, vi x5), (6, vi x6), (7, vi x7), (8, vi x8), (9, vi x9), (10, vi x10)] [])) {x2 : Int32} {n4 : Nat} {x5 : Int32} {x6 : Int32} {x8 : Int32} {x9 : Int32} {x10 : Int32} {ce sl : Nat} {M : Mem} (hF : f_L_law_b281 N xs rec58 rec243 x2 n4 x5 x6 x8 x9 x10 M = some (r, M1)) (hn : mc + M.2.2.2 = ce + M1.2.2.2) (hz : ms + szM M = sl + szM M1) : Wt K X (QM K X (some (vi r)) M1 mc ms) ce sl M 281 [(0, vr 61), (1, vr 64), (2, vi x2), (4, vr n4), (5, vi x5), (6, vi x6), (8, vi x8), (9, vi x9), (10, vi x10)] [] := by
  have hg := m_L_law_b281 G58 G243 hF
  have hg1 := hg.1
  have hg2 := hg.2.1
  unfold f_L_law_b281 at hF
  refine w_iload hB 8 dL_law_281 rfl ?_
  refine w_istore hB (L' := [(7, vi x10), (0, vr 61), (1, vr 64), (2, vi x2), (4, vr n4), (5, vi x5), (6, vi x6), (8, vi x8), (9, vi x9), (10, vi x10)]) dL_law_283 (by decide) rfl rfl ?_
  exact Wt.sub (L' := [(0, vr 61), (1, vr 64), (2, vi x2), (4, vr n4), (5, vi x5), (6, vi x6), (7, vi x10), (8, vi x8), (9, vi x9), (10, vi x10)]) [1, 2, 3, 4, 5, 6, 0, 7, 8, 9] rfl (b_L_law_b285 hp hk hq hB G58 h58 G243 h243 hF (by omega) (by omega))
def f_L_law_b243_s (N : Nat) (xs : Nat → Int32) (rec58 : Int32 → Mem → Option (Int32 × Mem)) (rec243 : Int32 → Nat → Int32 → Int32 → Int32 → Int32 → Int32 → Int32 → Mem → Option (Int32 × Mem)) (x2 : Int32) (n4 : Nat) (x5 : Int32) (x6 : Int32) (x7 : Int32) (x8 : Int32) (x9 : Int32) (x10 : Int32) (M : Mem) : Option (Int32 × Mem) :=
  if x5 < x10 then
    gd (1000 ≤ n4 ∧ dsc M n4 = 20 ∧ n4 - 753 < M.2.2.2) <|
    gd (inb x5 (dln M n4)) <|
    if 2 ≤ (M.1 n4 x5.toNatClampNeg) then
      f_L_law_b371 N xs rec58 x2 x6 x7 x8 x9 0 M
    else
      f_L_law_b371 N xs rec58 x2 x6 x7 x8 x9 1 M
  else
    gd (1000 ≤ n4 ∧ dsc M n4 = 20 ∧ n4 - 753 < M.2.2.2) <|
    gd (inb x10 (dln M n4)) <|
    gd (inb x5 (dln M n4)) <|
    if (M.1 n4 x10.toNatClampNeg) = (M.1 n4 x5.toNatClampNeg) then
      if x7 < 0 then
        f_L_law_b281 N xs rec58 rec243 x2 n4 x5 x6 x8 x9 x10 M
      else
        cl (f_J6_bitCount_0f7a4 x10 M) fun r1 M1m =>
        cl (f_J6_bitCount_0f7a4 x7 M1m) fun r2 M2m =>
        if r2 ≤ r1 then
          f_L_law_b285 N xs rec58 rec243 x2 n4 x5 x6 x7 x8 x9 x10 M2m
        else
          f_L_law_b281 N xs rec58 rec243 x2 n4 x5 x6 x8 x9 x10 M2m
    else
      f_L_law_b285 N xs rec58 rec243 x2 n4 x5 x6 x7 x8 x9 x10 M
set_option maxRecDepth 100000 in
set_option maxHeartbeats 4000000 in
theorem m_L_law_b243_s {N : Nat} {xs : Nat → Int32} {rec58 : Int32 → Mem → Option (Int32 × Mem)} {rec243 : Int32 → Nat → Int32 → Int32 → Int32 → Int32 → Int32 → Int32 → Mem → Option (Int32 × Mem)} (G58 : (∀ (x2 : Int32) (M Z : Mem) (r : Int32), rec58 x2 M = some (r, Z) → GX M Z)) (G243 : (∀ (x2 : Int32) (n4 : Nat) (x5 : Int32) (x6 : Int32) (x7 : Int32) (x8 : Int32) (x9 : Int32) (x10 : Int32) (M Z : Mem) (r : Int32), rec243 x2 n4 x5 x6 x7 x8 x9 x10 M = some (r, Z) → GX M Z)) {x2 : Int32} {n4 : Nat} {x5 : Int32} {x6 : Int32} {x7 : Int32} {x8 : Int32} {x9 : Int32} {x10 : Int32} {M Z : Mem} {r : Int32} (h : f_L_law_b243_s N xs rec58 rec243 x2 n4 x5 x6 x7 x8 x9 x10 M = some (r, Z)) : GX M Z := by
  unfold f_L_law_b243_s at h
  rcases ifS h with ⟨-, h⟩ | ⟨-, h⟩
  · obtain ⟨gq1, h⟩ := gdS h
    obtain ⟨gq2, h⟩ := gdS h
    rcases ifS h with ⟨-, h⟩ | ⟨-, h⟩
    · exact GX.tr (GX.refl M) (m_L_law_b371 G58 h)
    · exact GX.tr (GX.refl M) (m_L_law_b371 G58 h)
  · obtain ⟨gq8, h⟩ := gdS h
    obtain ⟨gq9, h⟩ := gdS h
    obtain ⟨gq10, h⟩ := gdS h
    rcases ifS h with ⟨-, h⟩ | ⟨-, h⟩
    · rcases ifS h with ⟨-, h⟩ | ⟨-, h⟩
      · exact GX.tr (GX.refl M) (m_L_law_b281 G58 G243 h)
      · obtain ⟨r1, M1m, c_M1m, h⟩ := clS h
        have q_M1m : GX M M1m := GX.tr (GX.refl M) ((k_J6_bitCount_0f7a4 c_M1m).gx)
        obtain ⟨r2, M2m, c_M2m, h⟩ := clS h
        have q_M2m : GX M M2m := GX.tr q_M1m ((k_J6_bitCount_0f7a4 c_M2m).gx)
        rcases ifS h with ⟨-, h⟩ | ⟨-, h⟩
        · exact GX.tr q_M2m (m_L_law_b285 G58 G243 h)
        · exact GX.tr q_M2m (m_L_law_b281 G58 G243 h)
    · exact GX.tr (GX.refl M) (m_L_law_b285 G58 G243 h)
set_option maxRecDepth 100000 in
set_option maxHeartbeats 4000000 in
theorem b_L_law_b243_s {K : Kt} {X : Xt} (hp : St K) (hk : KC K) {N : Nat} {xs : Nat → Int32} (hq : KScr K N xs) {mc ms : Nat} (hB : Bx K X { frames := 10, cells := mc, slots := ms, locals := 257 } cL_law 11 RL (some .boolean)) {r : Int32} {M1 : Mem} {rec58 : Int32 → Mem → Option (Int32 × Mem)} {rec243 : Int32 → Nat → Int32 → Int32 → Int32 → Int32 → Int32 → Int32 → Mem → Option (Int32 × Mem)}
    (G58 : (∀ (x2 : Int32) (M Z : Mem) (r : Int32), rec58 x2 M = some (r, Z) → GX M Z)) (h58 : (∀ (x2 : Int32) (ce sl : Nat) (M : Mem), rec58 x2 M = some (r, M1) → mc + M.2.2.2 = ce + M1.2.2.2 → ms + szM M = sl + szM M1 → Wt K X (QM K X (some (vi r)) M1 mc ms) ce sl M 58 [(0, vr 61), (1, vr 64), (2, vi x2)] []))
    (G243 : (∀ (x2 : Int32) (n4 : Nat) (x5 : Int32) (x6 : Int32) (x7 : Int32) (x8 : Int32) (x9 : Int32) (x10 : Int32) (M Z : Mem) (r : Int32), rec243 x2 n4 x5 x6 x7 x8 x9 x10 M = some (r, Z) → GX M Z)) (h243 : (∀ (x2 : Int32) (n4 : Nat) (x5 : Int32) (x6 : Int32) (x7 : Int32) (x8 : Int32) (x9 : Int32) (x10 : Int32) (ce sl : Nat) (M : Mem), rec243 x2 n4 x5 x6 x7 x8 x9 x10 M = some (r, M1) → mc + M.2.2.2 = ce + M1.2.2.2 → ms + szM M = sl + szM M1 → Wt K X (QM K X (some (vi r)) M1 mc ms) ce sl M 243 [(0, vr 61), (1, vr 64), (2, vi x2), (4, vr n4), (5, vi x5), (6, vi x6), (7, vi x7), (8, vi x8), (9, vi x9), (10, vi x10)] [])) {x2 : Int32} {n4 : Nat} {x5 : Int32} {x6 : Int32} {x7 : Int32} {x8 : Int32} {x9 : Int32} {x10 : Int32} {ce sl : Nat} {M : Mem} (hF : f_L_law_b243_s N xs rec58 rec243 x2 n4 x5 x6 x7 x8 x9 x10 M = some (r, M1)) (hn : mc + M.2.2.2 = ce + M1.2.2.2) (hz : ms + szM M = sl + szM M1) : Wt K X (QM K X (some (vi r)) M1 mc ms) ce sl M 243 [(0, vr 61), (1, vr 64), (2, vi x2), (4, vr n4), (5, vi x5), (6, vi x6), (7, vi x7), (8, vi x8), (9, vi x9), (10, vi x10)] [] := by
  have hg := m_L_law_b243_s G58 G243 hF
  have hg1 := hg.1
  have hg2 := hg.2.1
  unfold f_L_law_b243_s at hF
  refine w_iload hB 9 dL_law_243 rfl ?_
  refine w_iload hB 4 dL_law_245 rfl ?_
  refine w_icmp_gt hB 357 dL_law_247 (by decide) (fun hc => ?_) (fun hc => ?_)
  · replace hF := ifT hc hF
    refine w_aload hB 3 dL_law_357 rfl ?_
    refine w_iload hB 4 dL_law_359 rfl ?_
    obtain ⟨g1, hF⟩ := gdS hF
    obtain ⟨g2, hF⟩ := gdS hF
    refine w_iald hB (dqM g1) (sl_d g1.1 rfl) g2 dL_law_361 ?_
    refine w_iconst hB 2 (by decide) dL_law_362 ?_
    refine w_icmp_ge hB 370 dL_law_363 (by decide) (fun hc => ?_) (fun hc => ?_)
    · replace hF := ifT hc hF
      refine w_iconst hB 0 (by decide) dL_law_370 ?_
      exact Wt.sub (L' := [(0, vr 61), (1, vr 64), (2, vi x2), (6, vi x6), (7, vi x7), (8, vi x8), (9, vi x9)]) [0, 1, 2, 5, 6, 7, 8] rfl (b_L_law_b371 hp hk hq hB G58 h58 hF (by omega) (by omega))
    · replace hF := ifF hc hF
      refine w_iconst hB 1 (by decide) dL_law_366 ?_
      refine w_goto hB 371 dL_law_367 (by decide) ?_
      exact Wt.sub (L' := [(0, vr 61), (1, vr 64), (2, vi x2), (6, vi x6), (7, vi x7), (8, vi x8), (9, vi x9)]) [0, 1, 2, 5, 6, 7, 8] rfl (b_L_law_b371 hp hk hq hB G58 h58 hF (by omega) (by omega))
  · replace hF := ifF hc hF
    refine w_aload hB 3 dL_law_250 rfl ?_
    refine w_iload hB 9 dL_law_252 rfl ?_
    obtain ⟨g3, hF⟩ := gdS hF
    obtain ⟨g4, hF⟩ := gdS hF
    refine w_iald hB (dqM g3) (sl_d g3.1 rfl) g4 dL_law_254 ?_
    refine w_aload hB 3 dL_law_255 rfl ?_
    refine w_iload hB 4 dL_law_257 rfl ?_
    obtain ⟨g5, hF⟩ := gdS hF
    refine w_iald hB (dqM g3) (sl_d g3.1 rfl) g5 dL_law_259 ?_
    refine w_icmp_ne hB 285 dL_law_260 (by decide) (fun hc => ?_) (fun hc => ?_)
    · replace hF := ifF hc hF
      exact Wt.sub (L' := [(0, vr 61), (1, vr 64), (2, vi x2), (4, vr n4), (5, vi x5), (6, vi x6), (7, vi x7), (8, vi x8), (9, vi x9), (10, vi x10)]) [0, 1, 2, 3, 4, 5, 6, 7, 8, 9] rfl (b_L_law_b285 hp hk hq hB G58 h58 G243 h243 hF (by omega) (by omega))
    · replace hF := ifT hc hF
      refine w_iload hB 6 dL_law_263 rfl ?_
      refine w_if_lt hB 281 dL_law_265 (by decide) (fun hc => ?_) (fun hc => ?_)
      · replace hF := ifT hc hF
        exact Wt.sub (L' := [(0, vr 61), (1, vr 64), (2, vi x2), (4, vr n4), (5, vi x5), (6, vi x6), (8, vi x8), (9, vi x9), (10, vi x10)]) [0, 1, 2, 3, 4, 5, 7, 8, 9] rfl (b_L_law_b281 hp hk hq hB G58 h58 G243 h243 hF (by omega) (by omega))
      · replace hF := ifF hc hF
        refine w_iload hB 9 dL_law_268 rfl ?_
        obtain ⟨r1, M1m, hc_M1m, hF⟩ := clS hF
        have q_M1m : EQ M M1m := k_J6_bitCount_0f7a4 hc_M1m
        have x_M1m := q_M1m.gx
        have n_M1m := q_M1m.1
        have z_M1m := q_M1m.sz
        refine w_callS (M1 := M1m) hB (As := [vi x10]) (st := []) cw_L_148 q_529 (c_J6_bitCount_0f7a4 hp hc_M1m) ⟨rfl, rfl⟩ ⟨Nat.le_of_ble_eq_true rfl, Nat.le_of_ble_eq_true rfl⟩ ⟨show ce ≤ mc by omega, show sl ≤ ms by omega⟩ rfl (Nat.le_of_ble_eq_true rfl) dL_law_270 rfl ?_ (Or.inl rfl)
        refine w_iload hB 6 dL_law_273 rfl ?_
        obtain ⟨r2, M2m, hc_M2m, hF⟩ := clS hF
        have q_M2m : EQ M1m M2m := k_J6_bitCount_0f7a4 hc_M2m
        have x_M2m := q_M2m.gx
        have n_M2m := q_M2m.1
        have z_M2m := q_M2m.sz
        refine w_callS (M1 := M2m) hB (As := [vi x7]) (st := [vi r1]) cw_L_148 q_529 (c_J6_bitCount_0f7a4 hp hc_M2m) ⟨rfl, rfl⟩ ⟨Nat.le_of_ble_eq_true rfl, Nat.le_of_ble_eq_true rfl⟩ ⟨show ce ≤ mc by omega, show sl ≤ ms by omega⟩ rfl (Nat.le_of_ble_eq_true rfl) dL_law_275 rfl ?_ (Or.inl rfl)
        refine w_icmp_ge hB 285 dL_law_278 (by decide) (fun hc => ?_) (fun hc => ?_)
        · replace hF := ifT hc hF
          exact Wt.sub (L' := [(0, vr 61), (1, vr 64), (2, vi x2), (4, vr n4), (5, vi x5), (6, vi x6), (7, vi x7), (8, vi x8), (9, vi x9), (10, vi x10)]) [0, 1, 2, 3, 4, 5, 6, 7, 8, 9] rfl (b_L_law_b285 hp hk hq hB G58 h58 G243 h243 hF (by omega) (by omega))
        · replace hF := ifF hc hF
          exact Wt.sub (L' := [(0, vr 61), (1, vr 64), (2, vi x2), (4, vr n4), (5, vi x5), (6, vi x6), (8, vi x8), (9, vi x9), (10, vi x10)]) [0, 1, 2, 3, 4, 5, 7, 8, 9] rfl (b_L_law_b281 hp hk hq hB G58 h58 G243 h243 hF (by omega) (by omega))
def f_L_law_b243 (N : Nat) (xs : Nat → Int32) (rec58 : Int32 → Mem → Option (Int32 × Mem)) (k : Nat) : Int32 → Nat → Int32 → Int32 → Int32 → Int32 → Int32 → Int32 → Mem → Option (Int32 × Mem) := lpN (fun _ _ _ _ _ _ _ _ _ => none) (f_L_law_b243_s N xs rec58) k
theorem m_L_law_b243 {N : Nat} {xs : Nat → Int32} {rec58 : Int32 → Mem → Option (Int32 × Mem)} (G58 : (∀ (x2 : Int32) (M Z : Mem) (r : Int32), rec58 x2 M = some (r, Z) → GX M Z)) (k : Nat) : (∀ (x2 : Int32) (n4 : Nat) (x5 : Int32) (x6 : Int32) (x7 : Int32) (x8 : Int32) (x9 : Int32) (x10 : Int32) (M Z : Mem) (r : Int32), f_L_law_b243 N xs rec58 k x2 n4 x5 x6 x7 x8 x9 x10 M = some (r, Z) → GX M Z) :=
  lpN_ind (P := fun (f : Int32 → Nat → Int32 → Int32 → Int32 → Int32 → Int32 → Int32 → Mem → Option (Int32 × Mem)) => (∀ (x2 : Int32) (n4 : Nat) (x5 : Int32) (x6 : Int32) (x7 : Int32) (x8 : Int32) (x9 : Int32) (x10 : Int32) (M Z : Mem) (r : Int32), f x2 n4 x5 x6 x7 x8 x9 x10 M = some (r, Z) → GX M Z)) (fun _ _ _ _ _ _ _ _ _ _ _ h => by cases h) (fun f hf _ _ _ _ _ _ _ _ _ _ _ h => m_L_law_b243_s G58 hf h) k
theorem b_L_law_b243 {K : Kt} {X : Xt} (hp : St K) (hk : KC K) {N : Nat} {xs : Nat → Int32} (hq : KScr K N xs) {mc ms : Nat} (hB : Bx K X { frames := 10, cells := mc, slots := ms, locals := 257 } cL_law 11 RL (some .boolean)) {r : Int32} {M1 : Mem} {rec58 : Int32 → Mem → Option (Int32 × Mem)}
    (G58 : (∀ (x2 : Int32) (M Z : Mem) (r : Int32), rec58 x2 M = some (r, Z) → GX M Z)) (h58 : (∀ (x2 : Int32) (ce sl : Nat) (M : Mem), rec58 x2 M = some (r, M1) → mc + M.2.2.2 = ce + M1.2.2.2 → ms + szM M = sl + szM M1 → Wt K X (QM K X (some (vi r)) M1 mc ms) ce sl M 58 [(0, vr 61), (1, vr 64), (2, vi x2)] [])) (k : Nat) : (∀ (x2 : Int32) (n4 : Nat) (x5 : Int32) (x6 : Int32) (x7 : Int32) (x8 : Int32) (x9 : Int32) (x10 : Int32) (ce sl : Nat) (M : Mem), f_L_law_b243 N xs rec58 k x2 n4 x5 x6 x7 x8 x9 x10 M = some (r, M1) → mc + M.2.2.2 = ce + M1.2.2.2 → ms + szM M = sl + szM M1 → Wt K X (QM K X (some (vi r)) M1 mc ms) ce sl M 243 [(0, vr 61), (1, vr 64), (2, vi x2), (4, vr n4), (5, vi x5), (6, vi x6), (7, vi x7), (8, vi x8), (9, vi x9), (10, vi x10)] []) :=
  (lpN_ind (P := fun (f : Int32 → Nat → Int32 → Int32 → Int32 → Int32 → Int32 → Int32 → Mem → Option (Int32 × Mem)) => (∀ (x2 : Int32) (n4 : Nat) (x5 : Int32) (x6 : Int32) (x7 : Int32) (x8 : Int32) (x9 : Int32) (x10 : Int32) (M Z : Mem) (r : Int32), f x2 n4 x5 x6 x7 x8 x9 x10 M = some (r, Z) → GX M Z) ∧ (∀ (x2 : Int32) (n4 : Nat) (x5 : Int32) (x6 : Int32) (x7 : Int32) (x8 : Int32) (x9 : Int32) (x10 : Int32) (ce sl : Nat) (M : Mem), f x2 n4 x5 x6 x7 x8 x9 x10 M = some (r, M1) → mc + M.2.2.2 = ce + M1.2.2.2 → ms + szM M = sl + szM M1 → Wt K X (QM K X (some (vi r)) M1 mc ms) ce sl M 243 [(0, vr 61), (1, vr 64), (2, vi x2), (4, vr n4), (5, vi x5), (6, vi x6), (7, vi x7), (8, vi x8), (9, vi x9), (10, vi x10)] [])) ⟨fun _ _ _ _ _ _ _ _ _ _ _ h => (by cases h), fun _ _ _ _ _ _ _ _ _ _ _ h _ _ => (by cases h)⟩ (fun f hf => ⟨fun _ _ _ _ _ _ _ _ _ _ _ h => m_L_law_b243_s G58 hf.1 h, fun _ _ _ _ _ _ _ _ _ _ _ hF hn hz => b_L_law_b243_s hp hk hq hB G58 h58 hf.1 hf.2 hF hn hz⟩) k).2
def f_L_law_b160_s (N : Nat) (xs : Nat → Int32) (rec58 : Int32 → Mem → Option (Int32 × Mem)) (rec160 : Int32 → Nat → Int32 → Int32 → Int32 → Mem → Option (Int32 × Mem)) (x2 : Int32) (n4 : Nat) (x5 : Int32) (x6 : Int32) (x7 : Int32) (M : Mem) : Option (Int32 × Mem) :=
  if 8 ≤ x7 then
    f_L_law_b243 N xs rec58 fuel x2 n4 x5 x6 (-1) 0 (-1) 0 M
  else
    cl (f_L_framesOf N xs x2 x7 M) fun r1 M1m =>
    gd (1000 ≤ n4 ∧ dsc M1m n4 = 20 ∧ n4 - 753 < M1m.2.2.2) <|
    gd (inb r1 (dln M1m n4)) <|
    bnd (M1m.1 n4 r1.toNatClampNeg) fun a1 =>
    cl (f_X10_by x2 x7 M1m) fun r2 M2m =>
    if r2 = a1 then
      gd (inb x5 (dln M1m n4)) <|
      if a1 = (M2m.1 n4 x5.toNatClampNeg) then
        if x6 < 0 then
          bnd (x7 + 1) fun a2 =>
          rec160 x2 n4 x5 x7 a2 M2m
        else
          cl (f_J6_bitCount_0f7a4 x7 M2m) fun r3 M3m =>
          cl (f_J6_bitCount_0f7a4 x6 M3m) fun r4 M4m =>
          if r4 ≤ r3 then
            bnd (x7 + 1) fun a3 =>
            rec160 x2 n4 x5 x6 a3 M4m
          else
            bnd (x7 + 1) fun a4 =>
            rec160 x2 n4 x5 x7 a4 M4m
      else
        bnd (x7 + 1) fun a5 =>
        rec160 x2 n4 x5 x6 a5 M2m
    else
      some (0, M2m)
set_option maxRecDepth 100000 in
set_option maxHeartbeats 4000000 in
theorem m_L_law_b160_s {N : Nat} {xs : Nat → Int32} {rec58 : Int32 → Mem → Option (Int32 × Mem)} {rec160 : Int32 → Nat → Int32 → Int32 → Int32 → Mem → Option (Int32 × Mem)} (G58 : (∀ (x2 : Int32) (M Z : Mem) (r : Int32), rec58 x2 M = some (r, Z) → GX M Z)) (G160 : (∀ (x2 : Int32) (n4 : Nat) (x5 : Int32) (x6 : Int32) (x7 : Int32) (M Z : Mem) (r : Int32), rec160 x2 n4 x5 x6 x7 M = some (r, Z) → GX M Z)) {x2 : Int32} {n4 : Nat} {x5 : Int32} {x6 : Int32} {x7 : Int32} {M Z : Mem} {r : Int32} (h : f_L_law_b160_s N xs rec58 rec160 x2 n4 x5 x6 x7 M = some (r, Z)) : GX M Z := by
  unfold f_L_law_b160_s at h
  rcases ifS h with ⟨-, h⟩ | ⟨-, h⟩
  · exact GX.tr (GX.refl M) (m_L_law_b243 G58 _ _ _ _ _ _ _ _ _ _ _ _ h)
  · obtain ⟨r1, M1m, c_M1m, h⟩ := clS h
    have q_M1m : GX M M1m := GX.tr (GX.refl M) ((k_L_framesOf c_M1m).gx)
    obtain ⟨gq4, h⟩ := gdS h
    obtain ⟨gq5, h⟩ := gdS h
    obtain ⟨a1, e_a1, h⟩ := bndS h
    obtain ⟨r2, M2m, c_M2m, h⟩ := clS h
    have q_M2m : GX M M2m := GX.tr q_M1m ((k_X10_by c_M2m).gx)
    rcases ifS h with ⟨-, h⟩ | ⟨-, h⟩
    · obtain ⟨gq9, h⟩ := gdS h
      rcases ifS h with ⟨-, h⟩ | ⟨-, h⟩
      · rcases ifS h with ⟨-, h⟩ | ⟨-, h⟩
        · obtain ⟨a2, e_a2, h⟩ := bndS h
          exact GX.tr q_M2m (G160 _ _ _ _ _ _ _ _ h)
        · obtain ⟨r3, M3m, c_M3m, h⟩ := clS h
          have q_M3m : GX M M3m := GX.tr q_M2m ((k_J6_bitCount_0f7a4 c_M3m).gx)
          obtain ⟨r4, M4m, c_M4m, h⟩ := clS h
          have q_M4m : GX M M4m := GX.tr q_M3m ((k_J6_bitCount_0f7a4 c_M4m).gx)
          rcases ifS h with ⟨-, h⟩ | ⟨-, h⟩
          · obtain ⟨a3, e_a3, h⟩ := bndS h
            exact GX.tr q_M4m (G160 _ _ _ _ _ _ _ _ h)
          · obtain ⟨a4, e_a4, h⟩ := bndS h
            exact GX.tr q_M4m (G160 _ _ _ _ _ _ _ _ h)
      · obtain ⟨a5, e_a5, h⟩ := bndS h
        exact GX.tr q_M2m (G160 _ _ _ _ _ _ _ _ h)
    · obtain ⟨-, e⟩ := retS h
      rw [← e]
      exact q_M2m
set_option maxRecDepth 100000 in
set_option maxHeartbeats 4000000 in
theorem b_L_law_b160_s {K : Kt} {X : Xt} (hp : St K) (hk : KC K) {N : Nat} {xs : Nat → Int32} (hq : KScr K N xs) {mc ms : Nat} (hB : Bx K X { frames := 10, cells := mc, slots := ms, locals := 257 } cL_law 11 RL (some .boolean)) {r : Int32} {M1 : Mem} {rec58 : Int32 → Mem → Option (Int32 × Mem)} {rec160 : Int32 → Nat → Int32 → Int32 → Int32 → Mem → Option (Int32 × Mem)}
    (G58 : (∀ (x2 : Int32) (M Z : Mem) (r : Int32), rec58 x2 M = some (r, Z) → GX M Z)) (h58 : (∀ (x2 : Int32) (ce sl : Nat) (M : Mem), rec58 x2 M = some (r, M1) → mc + M.2.2.2 = ce + M1.2.2.2 → ms + szM M = sl + szM M1 → Wt K X (QM K X (some (vi r)) M1 mc ms) ce sl M 58 [(0, vr 61), (1, vr 64), (2, vi x2)] []))
    (G160 : (∀ (x2 : Int32) (n4 : Nat) (x5 : Int32) (x6 : Int32) (x7 : Int32) (M Z : Mem) (r : Int32), rec160 x2 n4 x5 x6 x7 M = some (r, Z) → GX M Z)) (h160 : (∀ (x2 : Int32) (n4 : Nat) (x5 : Int32) (x6 : Int32) (x7 : Int32) (ce sl : Nat) (M : Mem), rec160 x2 n4 x5 x6 x7 M = some (r, M1) → mc + M.2.2.2 = ce + M1.2.2.2 → ms + szM M = sl + szM M1 → Wt K X (QM K X (some (vi r)) M1 mc ms) ce sl M 160 [(0, vr 61), (1, vr 64), (2, vi x2), (4, vr n4), (5, vi x5), (6, vi x6), (7, vi x7)] [])) {x2 : Int32} {n4 : Nat} {x5 : Int32} {x6 : Int32} {x7 : Int32} {ce sl : Nat} {M : Mem} (hF : f_L_law_b160_s N xs rec58 rec160 x2 n4 x5 x6 x7 M = some (r, M1)) (hn : mc + M.2.2.2 = ce + M1.2.2.2) (hz : ms + szM M = sl + szM M1) : Wt K X (QM K X (some (vi r)) M1 mc ms) ce sl M 160 [(0, vr 61), (1, vr 64), (2, vi x2), (4, vr n4), (5, vi x5), (6, vi x6), (7, vi x7)] [] := by
  have hg := m_L_law_b160_s G58 G160 hF
  have hg1 := hg.1
  have hg2 := hg.2.1
  unfold f_L_law_b160_s at hF
  refine w_iload hB 6 dL_law_160 rfl ?_
  refine w_bipush hB 8 (by decide) dL_law_162 ?_
  refine w_icmp_ge hB 231 dL_law_164 (by decide) (fun hc => ?_) (fun hc => ?_)
  · replace hF := ifT hc hF
    refine w_iconst hB (-1) (by decide) dL_law_231 ?_
    refine w_istore hB (L' := [(7, vi (-1)), (0, vr 61), (1, vr 64), (2, vi x2), (4, vr n4), (5, vi x5), (6, vi x6)]) dL_law_232 (by decide) rfl rfl ?_
    refine w_iconst hB 0 (by decide) dL_law_234 ?_
    refine w_istore hB (L' := [(8, vi 0), (7, vi (-1)), (0, vr 61), (1, vr 64), (2, vi x2), (4, vr n4), (5, vi x5), (6, vi x6)]) dL_law_235 (by decide) rfl rfl ?_
    refine w_iconst hB (-1) (by decide) dL_law_237 ?_
    refine w_istore hB (L' := [(9, vi (-1)), (8, vi 0), (7, vi (-1)), (0, vr 61), (1, vr 64), (2, vi x2), (4, vr n4), (5, vi x5), (6, vi x6)]) dL_law_238 (by decide) rfl rfl ?_
    refine w_iconst hB 0 (by decide) dL_law_240 ?_
    refine w_istore hB (L' := [(10, vi 0), (9, vi (-1)), (8, vi 0), (7, vi (-1)), (0, vr 61), (1, vr 64), (2, vi x2), (4, vr n4), (5, vi x5), (6, vi x6)]) dL_law_241 (by decide) rfl rfl ?_
    exact Wt.sub (L' := [(0, vr 61), (1, vr 64), (2, vi x2), (4, vr n4), (5, vi x5), (6, vi x6), (7, vi (-1)), (8, vi 0), (9, vi (-1)), (10, vi 0)]) [4, 5, 6, 7, 8, 9, 3, 2, 1, 0] rfl (b_L_law_b243 hp hk hq hB G58 h58 fuel _ _ _ _ _ _ _ _ _ _ M hF (by omega) (by omega))
  · replace hF := ifF hc hF
    refine w_aload hB 3 dL_law_167 rfl ?_
    refine w_aload_n hB 1 dL_law_169 rfl rfl ?_
    refine w_iload_n hB 2 dL_law_170 rfl rfl ?_
    refine w_iload hB 6 dL_law_171 rfl ?_
    obtain ⟨r1, M1m, hc_M1m, hF⟩ := clS hF
    have q_M1m : EQ M M1m := k_L_framesOf hc_M1m
    have x_M1m := q_M1m.gx
    have n_M1m := q_M1m.1
    have z_M1m := q_M1m.sz
    refine w_callS (M1 := M1m) hB (As := [vr 64, vi x2, vi x7]) (st := [vr n4]) cw_L_141 q_1098 (c_L_framesOf hp hq hc_M1m) ⟨rfl, rfl⟩ ⟨Nat.le_of_ble_eq_true rfl, Nat.le_of_ble_eq_true rfl⟩ ⟨show ce ≤ mc by omega, show sl ≤ ms by omega⟩ rfl (Nat.le_of_ble_eq_true rfl) dL_law_173 rfl ?_ (Or.inl rfl)
    obtain ⟨g1, hF⟩ := gdS hF
    obtain ⟨g2, hF⟩ := gdS hF
    refine w_iald hB (dqM g1) (sl_d g1.1 rfl) g2 dL_law_176 ?_
    obtain ⟨a1, e_a1, hF⟩ := bndS hF
    refine w_istore hB (L' := [(8, vi a1), (0, vr 61), (1, vr 64), (2, vi x2), (4, vr n4), (5, vi x5), (6, vi x6), (7, vi x7)]) dL_law_177 (by decide) e_a1 rfl ?_
    refine w_aload_n hB 2 dL_law_179 rfl rfl ?_
    refine w_iload_n hB 3 dL_law_180 rfl rfl ?_
    refine w_iload hB 7 dL_law_181 rfl ?_
    obtain ⟨r2, M2m, hc_M2m, hF⟩ := clS hF
    have q_M2m : EQ M1m M2m := k_X10_by hc_M2m
    have x_M2m := q_M2m.gx
    have n_M2m := q_M2m.1
    have z_M2m := q_M2m.sz
    refine w_callV (M1 := M2m) hB (ci := 8) (As := [vi x2, vi x7]) (st := []) cw_L_145 q_486 q_487 rfl (soM hp.1 sh_64 (by decide)) (c_X10_by hp hc_M2m) ⟨rfl, rfl⟩ ⟨Nat.le_of_ble_eq_true rfl, Nat.le_of_ble_eq_true rfl⟩ ⟨show ce ≤ mc by omega, show sl ≤ ms by omega⟩ rfl (Nat.le_of_ble_eq_true rfl) dL_law_183 rfl ?_ (Or.inl rfl)
    refine w_iload hB 0 dL_law_186 rfl ?_
    refine w_icmp_eq hB 193 dL_law_188 (by decide) (fun hc => ?_) (fun hc => ?_)
    · replace hF := ifT hc hF
      refine w_iload hB 0 dL_law_193 rfl ?_
      refine w_aload hB 4 dL_law_195 rfl ?_
      refine w_iload hB 5 dL_law_197 rfl ?_
      obtain ⟨g3, hF⟩ := gdS hF
      refine w_iald hB (dqM (GX.dyo x_M2m g1)) (sl_d (GX.dyo x_M2m g1).1 (GX.dl x_M2m g1 rfl)) g3 dL_law_199 ?_
      refine w_icmp_ne hB 225 dL_law_200 (by decide) (fun hc => ?_) (fun hc => ?_)
      · replace hF := ifF hc hF
        obtain ⟨a5, e_a5, hF⟩ := bndS hF
        refine w_iinc hB 7 (v := 1) (L' := [(7, vi a5), (8, vi a1), (0, vr 61), (1, vr 64), (2, vi x2), (4, vr n4), (5, vi x5), (6, vi x6)]) dL_law_225 rfl (by decide) (by decide) e_a5 rfl ?_
        refine w_goto hB 160 dL_law_228 (by decide) ?_
        exact Wt.sub (L' := [(0, vr 61), (1, vr 64), (2, vi x2), (4, vr n4), (5, vi x5), (6, vi x6), (7, vi a5)]) [2, 3, 4, 5, 6, 7, 0] rfl (h160 _ _ _ _ _ _ _ M2m hF (by omega) (by omega))
      · replace hF := ifT hc hF
        refine w_iload hB 6 dL_law_203 rfl ?_
        refine w_if_lt hB 221 dL_law_205 (by decide) (fun hc => ?_) (fun hc => ?_)
        · replace hF := ifT hc hF
          refine w_iload hB 7 dL_law_221 rfl ?_
          refine w_istore hB (L' := [(6, vi x7), (8, vi a1), (0, vr 61), (1, vr 64), (2, vi x2), (4, vr n4), (5, vi x5), (7, vi x7)]) dL_law_223 (by decide) rfl rfl ?_
          obtain ⟨a2, e_a2, hF⟩ := bndS hF
          refine w_iinc hB 7 (v := 1) (L' := [(7, vi a2), (6, vi x7), (8, vi a1), (0, vr 61), (1, vr 64), (2, vi x2), (4, vr n4), (5, vi x5)]) dL_law_225 rfl (by decide) (by decide) e_a2 rfl ?_
          refine w_goto hB 160 dL_law_228 (by decide) ?_
          exact Wt.sub (L' := [(0, vr 61), (1, vr 64), (2, vi x2), (4, vr n4), (5, vi x5), (6, vi x7), (7, vi a2)]) [3, 4, 5, 6, 7, 1, 0] rfl (h160 _ _ _ _ _ _ _ M2m hF (by omega) (by omega))
        · replace hF := ifF hc hF
          refine w_iload hB 7 dL_law_208 rfl ?_
          obtain ⟨r3, M3m, hc_M3m, hF⟩ := clS hF
          have q_M3m : EQ M2m M3m := k_J6_bitCount_0f7a4 hc_M3m
          have x_M3m := q_M3m.gx
          have n_M3m := q_M3m.1
          have z_M3m := q_M3m.sz
          refine w_callS (M1 := M3m) hB (As := [vi x7]) (st := []) cw_L_148 q_529 (c_J6_bitCount_0f7a4 hp hc_M3m) ⟨rfl, rfl⟩ ⟨Nat.le_of_ble_eq_true rfl, Nat.le_of_ble_eq_true rfl⟩ ⟨show ce ≤ mc by omega, show sl ≤ ms by omega⟩ rfl (Nat.le_of_ble_eq_true rfl) dL_law_210 rfl ?_ (Or.inl rfl)
          refine w_iload hB 6 dL_law_213 rfl ?_
          obtain ⟨r4, M4m, hc_M4m, hF⟩ := clS hF
          have q_M4m : EQ M3m M4m := k_J6_bitCount_0f7a4 hc_M4m
          have x_M4m := q_M4m.gx
          have n_M4m := q_M4m.1
          have z_M4m := q_M4m.sz
          refine w_callS (M1 := M4m) hB (As := [vi x6]) (st := [vi r3]) cw_L_148 q_529 (c_J6_bitCount_0f7a4 hp hc_M4m) ⟨rfl, rfl⟩ ⟨Nat.le_of_ble_eq_true rfl, Nat.le_of_ble_eq_true rfl⟩ ⟨show ce ≤ mc by omega, show sl ≤ ms by omega⟩ rfl (Nat.le_of_ble_eq_true rfl) dL_law_215 rfl ?_ (Or.inl rfl)
          refine w_icmp_ge hB 225 dL_law_218 (by decide) (fun hc => ?_) (fun hc => ?_)
          · replace hF := ifT hc hF
            obtain ⟨a3, e_a3, hF⟩ := bndS hF
            refine w_iinc hB 7 (v := 1) (L' := [(7, vi a3), (8, vi a1), (0, vr 61), (1, vr 64), (2, vi x2), (4, vr n4), (5, vi x5), (6, vi x6)]) dL_law_225 rfl (by decide) (by decide) e_a3 rfl ?_
            refine w_goto hB 160 dL_law_228 (by decide) ?_
            exact Wt.sub (L' := [(0, vr 61), (1, vr 64), (2, vi x2), (4, vr n4), (5, vi x5), (6, vi x6), (7, vi a3)]) [2, 3, 4, 5, 6, 7, 0] rfl (h160 _ _ _ _ _ _ _ M4m hF (by omega) (by omega))
          · replace hF := ifF hc hF
            refine w_iload hB 7 dL_law_221 rfl ?_
            refine w_istore hB (L' := [(6, vi x7), (8, vi a1), (0, vr 61), (1, vr 64), (2, vi x2), (4, vr n4), (5, vi x5), (7, vi x7)]) dL_law_223 (by decide) rfl rfl ?_
            obtain ⟨a4, e_a4, hF⟩ := bndS hF
            refine w_iinc hB 7 (v := 1) (L' := [(7, vi a4), (6, vi x7), (8, vi a1), (0, vr 61), (1, vr 64), (2, vi x2), (4, vr n4), (5, vi x5)]) dL_law_225 rfl (by decide) (by decide) e_a4 rfl ?_
            refine w_goto hB 160 dL_law_228 (by decide) ?_
            exact Wt.sub (L' := [(0, vr 61), (1, vr 64), (2, vi x2), (4, vr n4), (5, vi x5), (6, vi x7), (7, vi a4)]) [3, 4, 5, 6, 7, 1, 0] rfl (h160 _ _ _ _ _ _ _ M4m hF (by omega) (by omega))
    · replace hF := ifF hc hF
      refine w_iconst hB 0 (by decide) dL_law_191 ?_
      obtain ⟨e1, e2⟩ := retS hF
      subst e2
      have hmc : mc = ce := by omega
      have hms : ms = sl := by omega
      subst hmc
      subst hms
      exact w_zret hB (by decide) dL_law_192 e1
def f_L_law_b160 (N : Nat) (xs : Nat → Int32) (rec58 : Int32 → Mem → Option (Int32 × Mem)) (k : Nat) : Int32 → Nat → Int32 → Int32 → Int32 → Mem → Option (Int32 × Mem) := lpN (fun _ _ _ _ _ _ => none) (f_L_law_b160_s N xs rec58) k
theorem m_L_law_b160 {N : Nat} {xs : Nat → Int32} {rec58 : Int32 → Mem → Option (Int32 × Mem)} (G58 : (∀ (x2 : Int32) (M Z : Mem) (r : Int32), rec58 x2 M = some (r, Z) → GX M Z)) (k : Nat) : (∀ (x2 : Int32) (n4 : Nat) (x5 : Int32) (x6 : Int32) (x7 : Int32) (M Z : Mem) (r : Int32), f_L_law_b160 N xs rec58 k x2 n4 x5 x6 x7 M = some (r, Z) → GX M Z) :=
  lpN_ind (P := fun (f : Int32 → Nat → Int32 → Int32 → Int32 → Mem → Option (Int32 × Mem)) => (∀ (x2 : Int32) (n4 : Nat) (x5 : Int32) (x6 : Int32) (x7 : Int32) (M Z : Mem) (r : Int32), f x2 n4 x5 x6 x7 M = some (r, Z) → GX M Z)) (fun _ _ _ _ _ _ _ _ h => by cases h) (fun f hf _ _ _ _ _ _ _ _ h => m_L_law_b160_s G58 hf h) k
theorem b_L_law_b160 {K : Kt} {X : Xt} (hp : St K) (hk : KC K) {N : Nat} {xs : Nat → Int32} (hq : KScr K N xs) {mc ms : Nat} (hB : Bx K X { frames := 10, cells := mc, slots := ms, locals := 257 } cL_law 11 RL (some .boolean)) {r : Int32} {M1 : Mem} {rec58 : Int32 → Mem → Option (Int32 × Mem)}
    (G58 : (∀ (x2 : Int32) (M Z : Mem) (r : Int32), rec58 x2 M = some (r, Z) → GX M Z)) (h58 : (∀ (x2 : Int32) (ce sl : Nat) (M : Mem), rec58 x2 M = some (r, M1) → mc + M.2.2.2 = ce + M1.2.2.2 → ms + szM M = sl + szM M1 → Wt K X (QM K X (some (vi r)) M1 mc ms) ce sl M 58 [(0, vr 61), (1, vr 64), (2, vi x2)] [])) (k : Nat) : (∀ (x2 : Int32) (n4 : Nat) (x5 : Int32) (x6 : Int32) (x7 : Int32) (ce sl : Nat) (M : Mem), f_L_law_b160 N xs rec58 k x2 n4 x5 x6 x7 M = some (r, M1) → mc + M.2.2.2 = ce + M1.2.2.2 → ms + szM M = sl + szM M1 → Wt K X (QM K X (some (vi r)) M1 mc ms) ce sl M 160 [(0, vr 61), (1, vr 64), (2, vi x2), (4, vr n4), (5, vi x5), (6, vi x6), (7, vi x7)] []) :=
  (lpN_ind (P := fun (f : Int32 → Nat → Int32 → Int32 → Int32 → Mem → Option (Int32 × Mem)) => (∀ (x2 : Int32) (n4 : Nat) (x5 : Int32) (x6 : Int32) (x7 : Int32) (M Z : Mem) (r : Int32), f x2 n4 x5 x6 x7 M = some (r, Z) → GX M Z) ∧ (∀ (x2 : Int32) (n4 : Nat) (x5 : Int32) (x6 : Int32) (x7 : Int32) (ce sl : Nat) (M : Mem), f x2 n4 x5 x6 x7 M = some (r, M1) → mc + M.2.2.2 = ce + M1.2.2.2 → ms + szM M = sl + szM M1 → Wt K X (QM K X (some (vi r)) M1 mc ms) ce sl M 160 [(0, vr 61), (1, vr 64), (2, vi x2), (4, vr n4), (5, vi x5), (6, vi x6), (7, vi x7)] [])) ⟨fun _ _ _ _ _ _ _ _ h => (by cases h), fun _ _ _ _ _ _ _ _ h _ _ => (by cases h)⟩ (fun f hf => ⟨fun _ _ _ _ _ _ _ _ h => m_L_law_b160_s G58 hf.1 h, fun _ _ _ _ _ _ _ _ hF hn hz => b_L_law_b160_s hp hk hq hB G58 h58 hf.1 hf.2 hF hn hz⟩) k).2
def f_L_law_b121_s (N : Nat) (xs : Nat → Int32) (rec58 : Int32 → Mem → Option (Int32 × Mem)) (rec121 : Int32 → Int32 → Nat → Int32 → Int32 → Mem → Option (Int32 × Mem)) (x2 : Int32) (x3 : Int32) (n4 : Nat) (x5 : Int32) (x6 : Int32) (M : Mem) : Option (Int32 × Mem) :=
  if x3 < x6 then
    f_L_law_b160 N xs rec58 fuel x2 n4 x5 (-1) 0 M
  else
    cl (f_X10_verdict x2 x6 M) fun r1 M1m =>
    gd (1000 ≤ n4 ∧ dsc M1m n4 = 20 ∧ n4 - 753 < M1m.2.2.2) <|
    gd (inb (((1 : Int32) <<< (x6 &&& 31)) - 1) (dln M1m n4)) <|
    if r1 = (M1m.1 n4 (((1 : Int32) <<< (x6 &&& 31)) - 1).toNatClampNeg) then
      bnd (x6 + 1) fun a1 =>
      rec121 x2 x3 n4 x5 a1 M1m
    else
      some (0, M1m)
set_option maxRecDepth 100000 in
set_option maxHeartbeats 4000000 in
theorem m_L_law_b121_s {N : Nat} {xs : Nat → Int32} {rec58 : Int32 → Mem → Option (Int32 × Mem)} {rec121 : Int32 → Int32 → Nat → Int32 → Int32 → Mem → Option (Int32 × Mem)} (G58 : (∀ (x2 : Int32) (M Z : Mem) (r : Int32), rec58 x2 M = some (r, Z) → GX M Z)) (G121 : (∀ (x2 : Int32) (x3 : Int32) (n4 : Nat) (x5 : Int32) (x6 : Int32) (M Z : Mem) (r : Int32), rec121 x2 x3 n4 x5 x6 M = some (r, Z) → GX M Z)) {x2 : Int32} {x3 : Int32} {n4 : Nat} {x5 : Int32} {x6 : Int32} {M Z : Mem} {r : Int32} (h : f_L_law_b121_s N xs rec58 rec121 x2 x3 n4 x5 x6 M = some (r, Z)) : GX M Z := by
  unfold f_L_law_b121_s at h
  rcases ifS h with ⟨-, h⟩ | ⟨-, h⟩
  · exact GX.tr (GX.refl M) (m_L_law_b160 G58 _ _ _ _ _ _ _ _ _ h)
  · obtain ⟨r1, M1m, c_M1m, h⟩ := clS h
    have q_M1m : GX M M1m := GX.tr (GX.refl M) ((k_X10_verdict c_M1m).gx)
    obtain ⟨gq4, h⟩ := gdS h
    obtain ⟨gq5, h⟩ := gdS h
    rcases ifS h with ⟨-, h⟩ | ⟨-, h⟩
    · obtain ⟨a1, e_a1, h⟩ := bndS h
      exact GX.tr q_M1m (G121 _ _ _ _ _ _ _ _ h)
    · obtain ⟨-, e⟩ := retS h
      rw [← e]
      exact q_M1m
set_option maxRecDepth 100000 in
set_option maxHeartbeats 4000000 in
theorem b_L_law_b121_s {K : Kt} {X : Xt} (hp : St K) (hk : KC K) {N : Nat} {xs : Nat → Int32} (hq : KScr K N xs) {mc ms : Nat} (hB : Bx K X { frames := 10, cells := mc, slots := ms, locals := 257 } cL_law 11 RL (some .boolean)) {r : Int32} {M1 : Mem} {rec58 : Int32 → Mem → Option (Int32 × Mem)} {rec121 : Int32 → Int32 → Nat → Int32 → Int32 → Mem → Option (Int32 × Mem)}
    (G58 : (∀ (x2 : Int32) (M Z : Mem) (r : Int32), rec58 x2 M = some (r, Z) → GX M Z)) (h58 : (∀ (x2 : Int32) (ce sl : Nat) (M : Mem), rec58 x2 M = some (r, M1) → mc + M.2.2.2 = ce + M1.2.2.2 → ms + szM M = sl + szM M1 → Wt K X (QM K X (some (vi r)) M1 mc ms) ce sl M 58 [(0, vr 61), (1, vr 64), (2, vi x2)] []))
    (G121 : (∀ (x2 : Int32) (x3 : Int32) (n4 : Nat) (x5 : Int32) (x6 : Int32) (M Z : Mem) (r : Int32), rec121 x2 x3 n4 x5 x6 M = some (r, Z) → GX M Z)) (h121 : (∀ (x2 : Int32) (x3 : Int32) (n4 : Nat) (x5 : Int32) (x6 : Int32) (ce sl : Nat) (M : Mem), rec121 x2 x3 n4 x5 x6 M = some (r, M1) → mc + M.2.2.2 = ce + M1.2.2.2 → ms + szM M = sl + szM M1 → Wt K X (QM K X (some (vi r)) M1 mc ms) ce sl M 121 [(0, vr 61), (1, vr 64), (2, vi x2), (3, vi x3), (4, vr n4), (5, vi x5), (6, vi x6)] [])) {x2 : Int32} {x3 : Int32} {n4 : Nat} {x5 : Int32} {x6 : Int32} {ce sl : Nat} {M : Mem} (hF : f_L_law_b121_s N xs rec58 rec121 x2 x3 n4 x5 x6 M = some (r, M1)) (hn : mc + M.2.2.2 = ce + M1.2.2.2) (hz : ms + szM M = sl + szM M1) : Wt K X (QM K X (some (vi r)) M1 mc ms) ce sl M 121 [(0, vr 61), (1, vr 64), (2, vi x2), (3, vi x3), (4, vr n4), (5, vi x5), (6, vi x6)] [] := by
  have hg := m_L_law_b121_s G58 G121 hF
  have hg1 := hg.1
  have hg2 := hg.2.1
  unfold f_L_law_b121_s at hF
  refine w_iload hB 6 dL_law_121 rfl ?_
  refine w_iload_n hB 3 dL_law_123 rfl rfl ?_
  refine w_icmp_gt hB 154 dL_law_124 (by decide) (fun hc => ?_) (fun hc => ?_)
  · replace hF := ifT hc hF
    refine w_iconst hB (-1) (by decide) dL_law_154 ?_
    refine w_istore hB (L' := [(6, vi (-1)), (0, vr 61), (1, vr 64), (2, vi x2), (3, vi x3), (4, vr n4), (5, vi x5)]) dL_law_155 (by decide) rfl rfl ?_
    refine w_iconst hB 0 (by decide) dL_law_157 ?_
    refine w_istore hB (L' := [(7, vi 0), (6, vi (-1)), (0, vr 61), (1, vr 64), (2, vi x2), (3, vi x3), (4, vr n4), (5, vi x5)]) dL_law_158 (by decide) rfl rfl ?_
    exact Wt.sub (L' := [(0, vr 61), (1, vr 64), (2, vi x2), (4, vr n4), (5, vi x5), (6, vi (-1)), (7, vi 0)]) [2, 3, 4, 6, 7, 1, 0] rfl (b_L_law_b160 hp hk hq hB G58 h58 fuel _ _ _ _ _ _ _ M hF (by omega) (by omega))
  · replace hF := ifF hc hF
    refine w_aload_n hB 1 dL_law_127 rfl rfl ?_
    refine w_iload_n hB 2 dL_law_128 rfl rfl ?_
    refine w_iload hB 6 dL_law_129 rfl ?_
    obtain ⟨r1, M1m, hc_M1m, hF⟩ := clS hF
    have q_M1m : EQ M M1m := k_X10_verdict hc_M1m
    have x_M1m := q_M1m.gx
    have n_M1m := q_M1m.1
    have z_M1m := q_M1m.sz
    refine w_callV (M1 := M1m) hB (ci := 8) (As := [vi x2, vi x6]) (st := []) cw_L_116 q_447 q_448 rfl (soM hp.1 sh_64 (by decide)) (c_X10_verdict hp hc_M1m) ⟨rfl, rfl⟩ ⟨Nat.le_of_ble_eq_true rfl, Nat.le_of_ble_eq_true rfl⟩ ⟨show ce ≤ mc by omega, show sl ≤ ms by omega⟩ rfl (Nat.le_of_ble_eq_true rfl) dL_law_131 rfl ?_ (Or.inl rfl)
    refine w_aload hB 4 dL_law_134 rfl ?_
    refine w_iconst hB 1 (by decide) dL_law_136 ?_
    refine w_iload hB 6 dL_law_137 rfl ?_
    refine w_ishl hB dL_law_139 ?_
    refine w_iconst hB 1 (by decide) dL_law_140 ?_
    refine w_isub hB dL_law_141 ?_
    obtain ⟨g1, hF⟩ := gdS hF
    obtain ⟨g2, hF⟩ := gdS hF
    refine w_iald hB (dqM g1) (sl_d g1.1 rfl) g2 dL_law_142 ?_
    refine w_icmp_eq hB 148 dL_law_143 (by decide) (fun hc => ?_) (fun hc => ?_)
    · replace hF := ifT hc hF
      obtain ⟨a1, e_a1, hF⟩ := bndS hF
      refine w_iinc hB 6 (v := 1) (L' := [(6, vi a1), (0, vr 61), (1, vr 64), (2, vi x2), (3, vi x3), (4, vr n4), (5, vi x5)]) dL_law_148 rfl (by decide) (by decide) e_a1 rfl ?_
      refine w_goto hB 121 dL_law_151 (by decide) ?_
      exact Wt.sub (L' := [(0, vr 61), (1, vr 64), (2, vi x2), (3, vi x3), (4, vr n4), (5, vi x5), (6, vi a1)]) [1, 2, 3, 4, 5, 6, 0] rfl (h121 _ _ _ _ _ _ _ M1m hF (by omega) (by omega))
    · replace hF := ifF hc hF
      refine w_iconst hB 0 (by decide) dL_law_146 ?_
      obtain ⟨e1, e2⟩ := retS hF
      subst e2
      have hmc : mc = ce := by omega
      have hms : ms = sl := by omega
      subst hmc
      subst hms
      exact w_zret hB (by decide) dL_law_147 e1
def f_L_law_b121 (N : Nat) (xs : Nat → Int32) (rec58 : Int32 → Mem → Option (Int32 × Mem)) (k : Nat) : Int32 → Int32 → Nat → Int32 → Int32 → Mem → Option (Int32 × Mem) := lpN (fun _ _ _ _ _ _ => none) (f_L_law_b121_s N xs rec58) k
theorem m_L_law_b121 {N : Nat} {xs : Nat → Int32} {rec58 : Int32 → Mem → Option (Int32 × Mem)} (G58 : (∀ (x2 : Int32) (M Z : Mem) (r : Int32), rec58 x2 M = some (r, Z) → GX M Z)) (k : Nat) : (∀ (x2 : Int32) (x3 : Int32) (n4 : Nat) (x5 : Int32) (x6 : Int32) (M Z : Mem) (r : Int32), f_L_law_b121 N xs rec58 k x2 x3 n4 x5 x6 M = some (r, Z) → GX M Z) :=
  lpN_ind (P := fun (f : Int32 → Int32 → Nat → Int32 → Int32 → Mem → Option (Int32 × Mem)) => (∀ (x2 : Int32) (x3 : Int32) (n4 : Nat) (x5 : Int32) (x6 : Int32) (M Z : Mem) (r : Int32), f x2 x3 n4 x5 x6 M = some (r, Z) → GX M Z)) (fun _ _ _ _ _ _ _ _ h => by cases h) (fun f hf _ _ _ _ _ _ _ _ h => m_L_law_b121_s G58 hf h) k
theorem b_L_law_b121 {K : Kt} {X : Xt} (hp : St K) (hk : KC K) {N : Nat} {xs : Nat → Int32} (hq : KScr K N xs) {mc ms : Nat} (hB : Bx K X { frames := 10, cells := mc, slots := ms, locals := 257 } cL_law 11 RL (some .boolean)) {r : Int32} {M1 : Mem} {rec58 : Int32 → Mem → Option (Int32 × Mem)}
    (G58 : (∀ (x2 : Int32) (M Z : Mem) (r : Int32), rec58 x2 M = some (r, Z) → GX M Z)) (h58 : (∀ (x2 : Int32) (ce sl : Nat) (M : Mem), rec58 x2 M = some (r, M1) → mc + M.2.2.2 = ce + M1.2.2.2 → ms + szM M = sl + szM M1 → Wt K X (QM K X (some (vi r)) M1 mc ms) ce sl M 58 [(0, vr 61), (1, vr 64), (2, vi x2)] [])) (k : Nat) : (∀ (x2 : Int32) (x3 : Int32) (n4 : Nat) (x5 : Int32) (x6 : Int32) (ce sl : Nat) (M : Mem), f_L_law_b121 N xs rec58 k x2 x3 n4 x5 x6 M = some (r, M1) → mc + M.2.2.2 = ce + M1.2.2.2 → ms + szM M = sl + szM M1 → Wt K X (QM K X (some (vi r)) M1 mc ms) ce sl M 121 [(0, vr 61), (1, vr 64), (2, vi x2), (3, vi x3), (4, vr n4), (5, vi x5), (6, vi x6)] []) :=
  (lpN_ind (P := fun (f : Int32 → Int32 → Nat → Int32 → Int32 → Mem → Option (Int32 × Mem)) => (∀ (x2 : Int32) (x3 : Int32) (n4 : Nat) (x5 : Int32) (x6 : Int32) (M Z : Mem) (r : Int32), f x2 x3 n4 x5 x6 M = some (r, Z) → GX M Z) ∧ (∀ (x2 : Int32) (x3 : Int32) (n4 : Nat) (x5 : Int32) (x6 : Int32) (ce sl : Nat) (M : Mem), f x2 x3 n4 x5 x6 M = some (r, M1) → mc + M.2.2.2 = ce + M1.2.2.2 → ms + szM M = sl + szM M1 → Wt K X (QM K X (some (vi r)) M1 mc ms) ce sl M 121 [(0, vr 61), (1, vr 64), (2, vi x2), (3, vi x3), (4, vr n4), (5, vi x5), (6, vi x6)] [])) ⟨fun _ _ _ _ _ _ _ _ h => (by cases h), fun _ _ _ _ _ _ _ _ h _ _ => (by cases h)⟩ (fun f hf => ⟨fun _ _ _ _ _ _ _ _ h => m_L_law_b121_s G58 hf.1 h, fun _ _ _ _ _ _ _ _ hF hn hz => b_L_law_b121_s hp hk hq hB G58 h58 hf.1 hf.2 hF hn hz⟩) k).2
def f_L_law_b104 (N : Nat) (xs : Nat → Int32) (rec58 : Int32 → Mem → Option (Int32 × Mem)) (rec84 : Int32 → Int32 → Nat → Int32 → Mem → Option (Int32 × Mem)) (x2 : Int32) (x3 : Int32) (n4 : Nat) (x5 : Int32) (ns0 : Nat) (xs1 : Int32) (xs2 : Int32) (M : Mem) : Option (Int32 × Mem) :=
  gd (1000 ≤ ns0 ∧ dsc M ns0 = 20 ∧ ns0 - 753 < M.2.2.2) <|
  gd (inb xs1 (dln M ns0)) <|
  bnd (setI M ns0 (xs1.toNatClampNeg) xs2) fun M1m =>
  bnd (x5 + 1) fun a1 =>
  rec84 x2 x3 n4 a1 M1m
set_option maxRecDepth 100000 in
set_option maxHeartbeats 4000000 in
theorem m_L_law_b104 {N : Nat} {xs : Nat → Int32} {rec58 : Int32 → Mem → Option (Int32 × Mem)} {rec84 : Int32 → Int32 → Nat → Int32 → Mem → Option (Int32 × Mem)} (G58 : (∀ (x2 : Int32) (M Z : Mem) (r : Int32), rec58 x2 M = some (r, Z) → GX M Z)) (G84 : (∀ (x2 : Int32) (x3 : Int32) (n4 : Nat) (x5 : Int32) (M Z : Mem) (r : Int32), rec84 x2 x3 n4 x5 M = some (r, Z) → GX M Z)) {x2 : Int32} {x3 : Int32} {n4 : Nat} {x5 : Int32} {ns0 : Nat} {xs1 : Int32} {xs2 : Int32} {M Z : Mem} {r : Int32} (h : f_L_law_b104 N xs rec58 rec84 x2 x3 n4 x5 ns0 xs1 xs2 M = some (r, Z)) : GX M Z := by
  unfold f_L_law_b104 at h
  obtain ⟨gq0, h⟩ := gdS h
  obtain ⟨gq1, h⟩ := gdS h
  obtain ⟨M1m, e_M1m, h⟩ := bndS h
  have q_M1m : GX M M1m := GX.tr (GX.refl M) (by rw [e_M1m]; exact (EQ_I _ _ _ _).gx)
  obtain ⟨a1, e_a1, h⟩ := bndS h
  exact GX.tr q_M1m (G84 _ _ _ _ _ _ _ h)
set_option maxRecDepth 100000 in
set_option maxHeartbeats 4000000 in
theorem b_L_law_b104 {K : Kt} {X : Xt} (hp : St K) (hk : KC K) {N : Nat} {xs : Nat → Int32} (hq : KScr K N xs) {mc ms : Nat} (hB : Bx K X { frames := 10, cells := mc, slots := ms, locals := 257 } cL_law 11 RL (some .boolean)) {r : Int32} {M1 : Mem} {rec58 : Int32 → Mem → Option (Int32 × Mem)} {rec84 : Int32 → Int32 → Nat → Int32 → Mem → Option (Int32 × Mem)}
    (G58 : (∀ (x2 : Int32) (M Z : Mem) (r : Int32), rec58 x2 M = some (r, Z) → GX M Z)) (h58 : (∀ (x2 : Int32) (ce sl : Nat) (M : Mem), rec58 x2 M = some (r, M1) → mc + M.2.2.2 = ce + M1.2.2.2 → ms + szM M = sl + szM M1 → Wt K X (QM K X (some (vi r)) M1 mc ms) ce sl M 58 [(0, vr 61), (1, vr 64), (2, vi x2)] []))
    (G84 : (∀ (x2 : Int32) (x3 : Int32) (n4 : Nat) (x5 : Int32) (M Z : Mem) (r : Int32), rec84 x2 x3 n4 x5 M = some (r, Z) → GX M Z)) (h84 : (∀ (x2 : Int32) (x3 : Int32) (n4 : Nat) (x5 : Int32) (ce sl : Nat) (M : Mem), rec84 x2 x3 n4 x5 M = some (r, M1) → mc + M.2.2.2 = ce + M1.2.2.2 → ms + szM M = sl + szM M1 → Wt K X (QM K X (some (vi r)) M1 mc ms) ce sl M 84 [(0, vr 61), (1, vr 64), (2, vi x2), (3, vi x3), (4, vr n4), (5, vi x5)] [])) {x2 : Int32} {x3 : Int32} {n4 : Nat} {x5 : Int32} {ns0 : Nat} {xs1 : Int32} {xs2 : Int32} {ce sl : Nat} {M : Mem} (hF : f_L_law_b104 N xs rec58 rec84 x2 x3 n4 x5 ns0 xs1 xs2 M = some (r, M1)) (hn : mc + M.2.2.2 = ce + M1.2.2.2) (hz : ms + szM M = sl + szM M1) : Wt K X (QM K X (some (vi r)) M1 mc ms) ce sl M 104 [(0, vr 61), (1, vr 64), (2, vi x2), (3, vi x3), (4, vr n4), (5, vi x5)] [vi xs2, vi xs1, vr ns0] := by
  have hg := m_L_law_b104 G58 G84 hF
  have hg1 := hg.1
  have hg2 := hg.2.1
  unfold f_L_law_b104 at hF
  obtain ⟨g1, hF⟩ := gdS hF
  obtain ⟨g2, hF⟩ := gdS hF
  obtain ⟨M1m, e_M1m, hF⟩ := bndS hF
  have q_M1m : EQ M M1m := by rw [e_M1m]; exact EQ_I _ _ _ _
  have x_M1m := q_M1m.gx
  have n_M1m := q_M1m.1
  have z_M1m := q_M1m.sz
  refine w_iast hB (dqM g1) (sl_d g1.1 rfl) g2 e_M1m dL_law_104 ?_
  obtain ⟨a1, e_a1, hF⟩ := bndS hF
  refine w_iinc hB 5 (v := 1) (L' := [(5, vi a1), (0, vr 61), (1, vr 64), (2, vi x2), (3, vi x3), (4, vr n4)]) dL_law_105 rfl (by decide) (by decide) e_a1 rfl ?_
  refine w_goto hB 84 dL_law_108 (by decide) ?_
  exact Wt.sub (L' := [(0, vr 61), (1, vr 64), (2, vi x2), (3, vi x3), (4, vr n4), (5, vi a1)]) [1, 2, 3, 4, 5, 0] rfl (h84 _ _ _ _ _ _ M1m hF (by omega) (by omega))
def f_L_law_b84_s (N : Nat) (xs : Nat → Int32) (rec58 : Int32 → Mem → Option (Int32 × Mem)) (rec84 : Int32 → Int32 → Nat → Int32 → Mem → Option (Int32 × Mem)) (x2 : Int32) (x3 : Int32) (n4 : Nat) (x5 : Int32) (M : Mem) : Option (Int32 × Mem) :=
  gd (1000 ≤ n4 ∧ dsc M n4 = 20 ∧ n4 - 753 < M.2.2.2) <|
  if (Int32.ofNat (dln M n4)) ≤ x5 then
    bnd ((Int32.ofNat (dln M n4)) - 1) fun a1 =>
    f_L_law_b121 N xs rec58 fuel x2 x3 n4 a1 0 M
  else
    cl (f_L_verdict N xs x2 x5 M) fun r1 M1m =>
    f_L_law_b104 N xs rec58 rec84 x2 x3 n4 x5 n4 x5 r1 M1m
set_option maxRecDepth 100000 in
set_option maxHeartbeats 4000000 in
theorem m_L_law_b84_s {N : Nat} {xs : Nat → Int32} {rec58 : Int32 → Mem → Option (Int32 × Mem)} {rec84 : Int32 → Int32 → Nat → Int32 → Mem → Option (Int32 × Mem)} (G58 : (∀ (x2 : Int32) (M Z : Mem) (r : Int32), rec58 x2 M = some (r, Z) → GX M Z)) (G84 : (∀ (x2 : Int32) (x3 : Int32) (n4 : Nat) (x5 : Int32) (M Z : Mem) (r : Int32), rec84 x2 x3 n4 x5 M = some (r, Z) → GX M Z)) {x2 : Int32} {x3 : Int32} {n4 : Nat} {x5 : Int32} {M Z : Mem} {r : Int32} (h : f_L_law_b84_s N xs rec58 rec84 x2 x3 n4 x5 M = some (r, Z)) : GX M Z := by
  unfold f_L_law_b84_s at h
  obtain ⟨gq0, h⟩ := gdS h
  rcases ifS h with ⟨-, h⟩ | ⟨-, h⟩
  · obtain ⟨a1, e_a1, h⟩ := bndS h
    exact GX.tr (GX.refl M) (m_L_law_b121 G58 _ _ _ _ _ _ _ _ _ h)
  · obtain ⟨r1, M1m, c_M1m, h⟩ := clS h
    have q_M1m : GX M M1m := GX.tr (GX.refl M) (m_L_verdict c_M1m)
    exact GX.tr q_M1m (m_L_law_b104 G58 G84 h)
set_option maxRecDepth 100000 in
set_option maxHeartbeats 4000000 in
theorem b_L_law_b84_s {K : Kt} {X : Xt} (hp : St K) (hk : KC K) {N : Nat} {xs : Nat → Int32} (hq : KScr K N xs) {mc ms : Nat} (hB : Bx K X { frames := 10, cells := mc, slots := ms, locals := 257 } cL_law 11 RL (some .boolean)) {r : Int32} {M1 : Mem} {rec58 : Int32 → Mem → Option (Int32 × Mem)} {rec84 : Int32 → Int32 → Nat → Int32 → Mem → Option (Int32 × Mem)}
    (G58 : (∀ (x2 : Int32) (M Z : Mem) (r : Int32), rec58 x2 M = some (r, Z) → GX M Z)) (h58 : (∀ (x2 : Int32) (ce sl : Nat) (M : Mem), rec58 x2 M = some (r, M1) → mc + M.2.2.2 = ce + M1.2.2.2 → ms + szM M = sl + szM M1 → Wt K X (QM K X (some (vi r)) M1 mc ms) ce sl M 58 [(0, vr 61), (1, vr 64), (2, vi x2)] []))
    (G84 : (∀ (x2 : Int32) (x3 : Int32) (n4 : Nat) (x5 : Int32) (M Z : Mem) (r : Int32), rec84 x2 x3 n4 x5 M = some (r, Z) → GX M Z)) (h84 : (∀ (x2 : Int32) (x3 : Int32) (n4 : Nat) (x5 : Int32) (ce sl : Nat) (M : Mem), rec84 x2 x3 n4 x5 M = some (r, M1) → mc + M.2.2.2 = ce + M1.2.2.2 → ms + szM M = sl + szM M1 → Wt K X (QM K X (some (vi r)) M1 mc ms) ce sl M 84 [(0, vr 61), (1, vr 64), (2, vi x2), (3, vi x3), (4, vr n4), (5, vi x5)] [])) {x2 : Int32} {x3 : Int32} {n4 : Nat} {x5 : Int32} {ce sl : Nat} {M : Mem} (hF : f_L_law_b84_s N xs rec58 rec84 x2 x3 n4 x5 M = some (r, M1)) (hn : mc + M.2.2.2 = ce + M1.2.2.2) (hz : ms + szM M = sl + szM M1) : Wt K X (QM K X (some (vi r)) M1 mc ms) ce sl M 84 [(0, vr 61), (1, vr 64), (2, vi x2), (3, vi x3), (4, vr n4), (5, vi x5)] [] := by
  have hg := m_L_law_b84_s G58 G84 hF
  have hg1 := hg.1
  have hg2 := hg.2.1
  unfold f_L_law_b84_s at hF
  refine w_iload hB 5 dL_law_84 rfl ?_
  refine w_aload hB 4 dL_law_86 rfl ?_
  obtain ⟨g1, hF⟩ := gdS hF
  refine w_alen hB (v := Int32.ofNat (dln M n4)) (c := 0) (dqM g1) (by decide) (sl_d g1.1 rfl) rfl dL_law_88 ?_
  refine w_icmp_ge hB 111 dL_law_89 (by decide) (fun hc => ?_) (fun hc => ?_)
  · replace hF := ifT hc hF
    refine w_aload hB 4 dL_law_111 rfl ?_
    refine w_alen hB (v := Int32.ofNat (dln M n4)) (c := 0) (dqM g1) (by decide) (sl_d g1.1 rfl) rfl dL_law_113 ?_
    refine w_iconst hB 1 (by decide) dL_law_114 ?_
    refine w_isub hB dL_law_115 ?_
    obtain ⟨a1, e_a1, hF⟩ := bndS hF
    refine w_istore hB (L' := [(5, vi a1), (0, vr 61), (1, vr 64), (2, vi x2), (3, vi x3), (4, vr n4)]) dL_law_116 (by decide) e_a1 rfl ?_
    refine w_iconst hB 0 (by decide) dL_law_118 ?_
    refine w_istore hB (L' := [(6, vi 0), (5, vi a1), (0, vr 61), (1, vr 64), (2, vi x2), (3, vi x3), (4, vr n4)]) dL_law_119 (by decide) rfl rfl ?_
    exact Wt.sub (L' := [(0, vr 61), (1, vr 64), (2, vi x2), (3, vi x3), (4, vr n4), (5, vi a1), (6, vi 0)]) [2, 3, 4, 5, 6, 1, 0] rfl (b_L_law_b121 hp hk hq hB G58 h58 fuel _ _ _ _ _ _ _ M hF (by omega) (by omega))
  · replace hF := ifF hc hF
    refine w_aload hB 4 dL_law_92 rfl ?_
    refine w_iload hB 5 dL_law_94 rfl ?_
    refine w_aload_n hB 1 dL_law_96 rfl rfl ?_
    refine w_aload_n hB 0 dL_law_97 rfl rfl ?_
    refine w_iload_n hB 2 dL_law_98 rfl rfl ?_
    refine w_iload hB 5 dL_law_99 rfl ?_
    obtain ⟨r1, M1m, hc_M1m, hF⟩ := clS hF
    have x_M1m := m_L_verdict hc_M1m
    have xa_M1m := x_M1m.1
    have xb_M1m := x_M1m.2.1
    have hg3 := m_L_law_b104 G58 G84 hF
    have hg4 := hg3.1
    have hg5 := hg3.2.1
    refine w_callS (M1 := M1m) hB (As := [vr 64, vr 61, vi x2, vi x5]) (st := [vi x5, vr n4]) cw_L_138 q_1170 (c_L_verdict hp hk hq hc_M1m) ⟨rfl, rfl⟩ ⟨Nat.le_of_ble_eq_true rfl, Nat.le_of_ble_eq_true rfl⟩ ⟨show ce + (M1m.2.2.2 - M.2.2.2) ≤ mc by omega, show sl + (szM M1m - szM M) ≤ ms by omega⟩ rfl (Nat.le_of_ble_eq_true rfl) dL_law_101 rfl ?_ (Or.inr (by omega))
    exact Wt.sub (L' := [(0, vr 61), (1, vr 64), (2, vi x2), (3, vi x3), (4, vr n4), (5, vi x5)]) [0, 1, 2, 3, 4, 5] rfl (b_L_law_b104 hp hk hq hB G58 h58 G84 h84 hF (by omega) (by omega))
def f_L_law_b84 (N : Nat) (xs : Nat → Int32) (rec58 : Int32 → Mem → Option (Int32 × Mem)) (k : Nat) : Int32 → Int32 → Nat → Int32 → Mem → Option (Int32 × Mem) := lpN (fun _ _ _ _ _ => none) (f_L_law_b84_s N xs rec58) k
theorem m_L_law_b84 {N : Nat} {xs : Nat → Int32} {rec58 : Int32 → Mem → Option (Int32 × Mem)} (G58 : (∀ (x2 : Int32) (M Z : Mem) (r : Int32), rec58 x2 M = some (r, Z) → GX M Z)) (k : Nat) : (∀ (x2 : Int32) (x3 : Int32) (n4 : Nat) (x5 : Int32) (M Z : Mem) (r : Int32), f_L_law_b84 N xs rec58 k x2 x3 n4 x5 M = some (r, Z) → GX M Z) :=
  lpN_ind (P := fun (f : Int32 → Int32 → Nat → Int32 → Mem → Option (Int32 × Mem)) => (∀ (x2 : Int32) (x3 : Int32) (n4 : Nat) (x5 : Int32) (M Z : Mem) (r : Int32), f x2 x3 n4 x5 M = some (r, Z) → GX M Z)) (fun _ _ _ _ _ _ _ h => by cases h) (fun f hf _ _ _ _ _ _ _ h => m_L_law_b84_s G58 hf h) k
theorem b_L_law_b84 {K : Kt} {X : Xt} (hp : St K) (hk : KC K) {N : Nat} {xs : Nat → Int32} (hq : KScr K N xs) {mc ms : Nat} (hB : Bx K X { frames := 10, cells := mc, slots := ms, locals := 257 } cL_law 11 RL (some .boolean)) {r : Int32} {M1 : Mem} {rec58 : Int32 → Mem → Option (Int32 × Mem)}
    (G58 : (∀ (x2 : Int32) (M Z : Mem) (r : Int32), rec58 x2 M = some (r, Z) → GX M Z)) (h58 : (∀ (x2 : Int32) (ce sl : Nat) (M : Mem), rec58 x2 M = some (r, M1) → mc + M.2.2.2 = ce + M1.2.2.2 → ms + szM M = sl + szM M1 → Wt K X (QM K X (some (vi r)) M1 mc ms) ce sl M 58 [(0, vr 61), (1, vr 64), (2, vi x2)] [])) (k : Nat) : (∀ (x2 : Int32) (x3 : Int32) (n4 : Nat) (x5 : Int32) (ce sl : Nat) (M : Mem), f_L_law_b84 N xs rec58 k x2 x3 n4 x5 M = some (r, M1) → mc + M.2.2.2 = ce + M1.2.2.2 → ms + szM M = sl + szM M1 → Wt K X (QM K X (some (vi r)) M1 mc ms) ce sl M 84 [(0, vr 61), (1, vr 64), (2, vi x2), (3, vi x3), (4, vr n4), (5, vi x5)] []) :=
  (lpN_ind (P := fun (f : Int32 → Int32 → Nat → Int32 → Mem → Option (Int32 × Mem)) => (∀ (x2 : Int32) (x3 : Int32) (n4 : Nat) (x5 : Int32) (M Z : Mem) (r : Int32), f x2 x3 n4 x5 M = some (r, Z) → GX M Z) ∧ (∀ (x2 : Int32) (x3 : Int32) (n4 : Nat) (x5 : Int32) (ce sl : Nat) (M : Mem), f x2 x3 n4 x5 M = some (r, M1) → mc + M.2.2.2 = ce + M1.2.2.2 → ms + szM M = sl + szM M1 → Wt K X (QM K X (some (vi r)) M1 mc ms) ce sl M 84 [(0, vr 61), (1, vr 64), (2, vi x2), (3, vi x3), (4, vr n4), (5, vi x5)] [])) ⟨fun _ _ _ _ _ _ _ h => (by cases h), fun _ _ _ _ _ _ _ h _ _ => (by cases h)⟩ (fun f hf => ⟨fun _ _ _ _ _ _ _ h => m_L_law_b84_s G58 hf.1 h, fun _ _ _ _ _ _ _ hF hn hz => b_L_law_b84_s hp hk hq hB G58 h58 hf.1 hf.2 hF hn hz⟩) k).2
def f_L_law_b79 (N : Nat) (xs : Nat → Int32) (rec58 : Int32 → Mem → Option (Int32 × Mem)) (x2 : Int32) (x3 : Int32) (ns0 : Nat) (M : Mem) : Option (Int32 × Mem) :=
  f_L_law_b84 N xs rec58 fuel x2 x3 ns0 0 M
set_option maxRecDepth 100000 in
set_option maxHeartbeats 4000000 in
theorem m_L_law_b79 {N : Nat} {xs : Nat → Int32} {rec58 : Int32 → Mem → Option (Int32 × Mem)} (G58 : (∀ (x2 : Int32) (M Z : Mem) (r : Int32), rec58 x2 M = some (r, Z) → GX M Z)) {x2 : Int32} {x3 : Int32} {ns0 : Nat} {M Z : Mem} {r : Int32} (h : f_L_law_b79 N xs rec58 x2 x3 ns0 M = some (r, Z)) : GX M Z := by
  unfold f_L_law_b79 at h
  exact GX.tr (GX.refl M) (m_L_law_b84 G58 _ _ _ _ _ _ _ _ h)
set_option maxRecDepth 100000 in
set_option maxHeartbeats 4000000 in
theorem b_L_law_b79 {K : Kt} {X : Xt} (hp : St K) (hk : KC K) {N : Nat} {xs : Nat → Int32} (hq : KScr K N xs) {mc ms : Nat} (hB : Bx K X { frames := 10, cells := mc, slots := ms, locals := 257 } cL_law 11 RL (some .boolean)) {r : Int32} {M1 : Mem} {rec58 : Int32 → Mem → Option (Int32 × Mem)}
    (G58 : (∀ (x2 : Int32) (M Z : Mem) (r : Int32), rec58 x2 M = some (r, Z) → GX M Z)) (h58 : (∀ (x2 : Int32) (ce sl : Nat) (M : Mem), rec58 x2 M = some (r, M1) → mc + M.2.2.2 = ce + M1.2.2.2 → ms + szM M = sl + szM M1 → Wt K X (QM K X (some (vi r)) M1 mc ms) ce sl M 58 [(0, vr 61), (1, vr 64), (2, vi x2)] [])) {x2 : Int32} {x3 : Int32} {ns0 : Nat} {ce sl : Nat} {M : Mem} (hF : f_L_law_b79 N xs rec58 x2 x3 ns0 M = some (r, M1)) (hn : mc + M.2.2.2 = ce + M1.2.2.2) (hz : ms + szM M = sl + szM M1) : Wt K X (QM K X (some (vi r)) M1 mc ms) ce sl M 79 [(0, vr 61), (1, vr 64), (2, vi x2), (3, vi x3)] [vr ns0] := by
  have hg := m_L_law_b79 G58 hF
  have hg1 := hg.1
  have hg2 := hg.2.1
  unfold f_L_law_b79 at hF
  refine w_astore hB (L' := [(4, vr ns0), (0, vr 61), (1, vr 64), (2, vi x2), (3, vi x3)]) dL_law_79 (by decide) rfl ?_
  refine w_iconst hB 0 (by decide) dL_law_81 ?_
  refine w_istore hB (L' := [(5, vi 0), (4, vr ns0), (0, vr 61), (1, vr 64), (2, vi x2), (3, vi x3)]) dL_law_82 (by decide) rfl rfl ?_
  exact Wt.sub (L' := [(0, vr 61), (1, vr 64), (2, vi x2), (3, vi x3), (4, vr ns0), (5, vi 0)]) [2, 3, 4, 5, 1, 0] rfl (b_L_law_b84 hp hk hq hB G58 h58 fuel _ _ _ _ _ _ M hF (by omega) (by omega))
def f_L_law_b58_s (N : Nat) (xs : Nat → Int32) (rec58 : Int32 → Mem → Option (Int32 × Mem)) (x2 : Int32) (M : Mem) : Option (Int32 × Mem) :=
  cl (f_X10_count 5 M) fun r1 M1m =>
  if r1 ≤ x2 then
    cl (f_X10_verdict 0 11 M1m) fun r2 M2m =>
    if r2 = (-1) then
      cl (f_X10_by 0 8 M2m) fun r3 M3m =>
      if r3 = (-1) then
        cl (f_X10_fewest 99 M3m) fun r4 M4m =>
        if r4 = (-1) then
          some (1, M4m)
        else
          some (0, M4m)
      else
        some (0, M3m)
    else
      some (0, M2m)
  else
    cl (f_X10_play x2 5 M1m) fun r5 M5m =>
    gd (¬ ((1 : Int32) <<< (r5 &&& 31)) < 0 ∧ ((1 : Int32) <<< (r5 &&& 31)).toNatClampNeg ≤ 100000) <|
    bnd (nwA 20 (((1 : Int32) <<< (r5 &&& 31)).toNatClampNeg) (((1 : Int32) <<< (r5 &&& 31)).toNatClampNeg) M5m) fun M6m =>
    f_L_law_b79 N xs rec58 x2 r5 (nn M5m) M6m
set_option maxRecDepth 100000 in
set_option maxHeartbeats 4000000 in
theorem m_L_law_b58_s {N : Nat} {xs : Nat → Int32} {rec58 : Int32 → Mem → Option (Int32 × Mem)} (G58 : (∀ (x2 : Int32) (M Z : Mem) (r : Int32), rec58 x2 M = some (r, Z) → GX M Z)) {x2 : Int32} {M Z : Mem} {r : Int32} (h : f_L_law_b58_s N xs rec58 x2 M = some (r, Z)) : GX M Z := by
  unfold f_L_law_b58_s at h
  obtain ⟨r1, M1m, c_M1m, h⟩ := clS h
  have q_M1m : GX M M1m := GX.tr (GX.refl M) ((k_X10_count c_M1m).gx)
  rcases ifS h with ⟨-, h⟩ | ⟨-, h⟩
  · obtain ⟨r2, M2m, c_M2m, h⟩ := clS h
    have q_M2m : GX M M2m := GX.tr q_M1m ((k_X10_verdict c_M2m).gx)
    rcases ifS h with ⟨-, h⟩ | ⟨-, h⟩
    · obtain ⟨r3, M3m, c_M3m, h⟩ := clS h
      have q_M3m : GX M M3m := GX.tr q_M2m ((k_X10_by c_M3m).gx)
      rcases ifS h with ⟨-, h⟩ | ⟨-, h⟩
      · obtain ⟨r4, M4m, c_M4m, h⟩ := clS h
        have q_M4m : GX M M4m := GX.tr q_M3m ((k_X10_fewest c_M4m).gx)
        rcases ifS h with ⟨-, h⟩ | ⟨-, h⟩
        · obtain ⟨-, e⟩ := retS h
          rw [← e]
          exact q_M4m
        · obtain ⟨-, e⟩ := retS h
          rw [← e]
          exact q_M4m
      · obtain ⟨-, e⟩ := retS h
        rw [← e]
        exact q_M3m
    · obtain ⟨-, e⟩ := retS h
      rw [← e]
      exact q_M2m
  · obtain ⟨r5, M5m, c_M5m, h⟩ := clS h
    have q_M5m : GX M M5m := GX.tr q_M1m ((k_X10_play c_M5m).gx)
    obtain ⟨gq17, h⟩ := gdS h
    obtain ⟨M6m, e_M6m, h⟩ := bndS h
    have q_M6m : GX M M6m := GX.tr q_M5m (by rw [e_M6m]; exact GX_nw _ _ _ _)
    exact GX.tr q_M6m (m_L_law_b79 G58 h)
set_option maxRecDepth 100000 in
set_option maxHeartbeats 4000000 in
theorem b_L_law_b58_s {K : Kt} {X : Xt} (hp : St K) (hk : KC K) {N : Nat} {xs : Nat → Int32} (hq : KScr K N xs) {mc ms : Nat} (hB : Bx K X { frames := 10, cells := mc, slots := ms, locals := 257 } cL_law 11 RL (some .boolean)) {r : Int32} {M1 : Mem} {rec58 : Int32 → Mem → Option (Int32 × Mem)}
    (G58 : (∀ (x2 : Int32) (M Z : Mem) (r : Int32), rec58 x2 M = some (r, Z) → GX M Z)) (h58 : (∀ (x2 : Int32) (ce sl : Nat) (M : Mem), rec58 x2 M = some (r, M1) → mc + M.2.2.2 = ce + M1.2.2.2 → ms + szM M = sl + szM M1 → Wt K X (QM K X (some (vi r)) M1 mc ms) ce sl M 58 [(0, vr 61), (1, vr 64), (2, vi x2)] [])) {x2 : Int32} {ce sl : Nat} {M : Mem} (hF : f_L_law_b58_s N xs rec58 x2 M = some (r, M1)) (hn : mc + M.2.2.2 = ce + M1.2.2.2) (hz : ms + szM M = sl + szM M1) : Wt K X (QM K X (some (vi r)) M1 mc ms) ce sl M 58 [(0, vr 61), (1, vr 64), (2, vi x2)] [] := by
  have hg := m_L_law_b58_s G58 hF
  have hg1 := hg.1
  have hg2 := hg.2.1
  unfold f_L_law_b58_s at hF
  refine w_iload_n hB 2 dL_law_58 rfl rfl ?_
  refine w_aload_n hB 1 dL_law_59 rfl rfl ?_
  refine w_iconst hB 5 (by decide) dL_law_60 ?_
  obtain ⟨r1, M1m, hc_M1m, hF⟩ := clS hF
  have q_M1m : EQ M M1m := k_X10_count hc_M1m
  have x_M1m := q_M1m.gx
  have n_M1m := q_M1m.1
  have z_M1m := q_M1m.sz
  refine w_callV (M1 := M1m) hB (ci := 8) (As := [vi 5]) (st := [vi x2]) cw_L_112 q_573 q_574 rfl (soM hp.1 sh_64 (by decide)) (c_X10_count hp hc_M1m) ⟨rfl, rfl⟩ ⟨Nat.le_of_ble_eq_true rfl, Nat.le_of_ble_eq_true rfl⟩ ⟨show ce ≤ mc by omega, show sl ≤ ms by omega⟩ rfl (Nat.le_of_ble_eq_true rfl) dL_law_61 rfl ?_ (Or.inl rfl)
  refine w_icmp_ge hB 461 dL_law_64 (by decide) (fun hc => ?_) (fun hc => ?_)
  · replace hF := ifT hc hF
    refine w_aload_n hB 1 dL_law_461 rfl rfl ?_
    refine w_iconst hB 0 (by decide) dL_law_462 ?_
    refine w_bipush hB 11 (by decide) dL_law_463 ?_
    obtain ⟨r2, M2m, hc_M2m, hF⟩ := clS hF
    have q_M2m : EQ M1m M2m := k_X10_verdict hc_M2m
    have x_M2m := q_M2m.gx
    have n_M2m := q_M2m.1
    have z_M2m := q_M2m.sz
    refine w_callV (M1 := M2m) hB (ci := 8) (As := [vi 0, vi 11]) (st := []) cw_L_116 q_447 q_448 rfl (soM hp.1 sh_64 (by decide)) (c_X10_verdict hp hc_M2m) ⟨rfl, rfl⟩ ⟨Nat.le_of_ble_eq_true rfl, Nat.le_of_ble_eq_true rfl⟩ ⟨show ce ≤ mc by omega, show sl ≤ ms by omega⟩ rfl (Nat.le_of_ble_eq_true rfl) dL_law_465 rfl ?_ (Or.inl rfl)
    refine w_iconst hB (-1) (by decide) dL_law_468 ?_
    refine w_icmp_ne hB 497 dL_law_469 (by decide) (fun hc => ?_) (fun hc => ?_)
    · replace hF := ifF hc hF
      refine w_iconst hB 0 (by decide) dL_law_497 ?_
      obtain ⟨e1, e2⟩ := retS hF
      subst e2
      have hmc : mc = ce := by omega
      have hms : ms = sl := by omega
      subst hmc
      subst hms
      exact w_zret hB (by decide) dL_law_498 e1
    · replace hF := ifT hc hF
      refine w_aload_n hB 1 dL_law_472 rfl rfl ?_
      refine w_iconst hB 0 (by decide) dL_law_473 ?_
      refine w_bipush hB 8 (by decide) dL_law_474 ?_
      obtain ⟨r3, M3m, hc_M3m, hF⟩ := clS hF
      have q_M3m : EQ M2m M3m := k_X10_by hc_M3m
      have x_M3m := q_M3m.gx
      have n_M3m := q_M3m.1
      have z_M3m := q_M3m.sz
      refine w_callV (M1 := M3m) hB (ci := 8) (As := [vi 0, vi 8]) (st := []) cw_L_145 q_486 q_487 rfl (soM hp.1 sh_64 (by decide)) (c_X10_by hp hc_M3m) ⟨rfl, rfl⟩ ⟨Nat.le_of_ble_eq_true rfl, Nat.le_of_ble_eq_true rfl⟩ ⟨show ce ≤ mc by omega, show sl ≤ ms by omega⟩ rfl (Nat.le_of_ble_eq_true rfl) dL_law_476 rfl ?_ (Or.inl rfl)
      refine w_iconst hB (-1) (by decide) dL_law_479 ?_
      refine w_icmp_ne hB 497 dL_law_480 (by decide) (fun hc => ?_) (fun hc => ?_)
      · replace hF := ifF hc hF
        refine w_iconst hB 0 (by decide) dL_law_497 ?_
        obtain ⟨e1, e2⟩ := retS hF
        subst e2
        have hmc : mc = ce := by omega
        have hms : ms = sl := by omega
        subst hmc
        subst hms
        exact w_zret hB (by decide) dL_law_498 e1
      · replace hF := ifT hc hF
        refine w_aload_n hB 1 dL_law_483 rfl rfl ?_
        refine w_bipush hB 99 (by decide) dL_law_484 ?_
        obtain ⟨r4, M4m, hc_M4m, hF⟩ := clS hF
        have q_M4m : EQ M3m M4m := k_X10_fewest hc_M4m
        have x_M4m := q_M4m.gx
        have n_M4m := q_M4m.1
        have z_M4m := q_M4m.sz
        refine w_callV (M1 := M4m) hB (ci := 8) (As := [vi 99]) (st := []) cw_L_153 q_512 q_513 rfl (soM hp.1 sh_64 (by decide)) (c_X10_fewest hp hc_M4m) ⟨rfl, rfl⟩ ⟨Nat.le_of_ble_eq_true rfl, Nat.le_of_ble_eq_true rfl⟩ ⟨show ce ≤ mc by omega, show sl ≤ ms by omega⟩ rfl (Nat.le_of_ble_eq_true rfl) dL_law_486 rfl ?_ (Or.inl rfl)
        refine w_iconst hB (-1) (by decide) dL_law_489 ?_
        refine w_icmp_ne hB 497 dL_law_490 (by decide) (fun hc => ?_) (fun hc => ?_)
        · replace hF := ifF hc hF
          refine w_iconst hB 0 (by decide) dL_law_497 ?_
          obtain ⟨e1, e2⟩ := retS hF
          subst e2
          have hmc : mc = ce := by omega
          have hms : ms = sl := by omega
          subst hmc
          subst hms
          exact w_zret hB (by decide) dL_law_498 e1
        · replace hF := ifT hc hF
          refine w_iconst hB 1 (by decide) dL_law_493 ?_
          refine w_goto hB 498 dL_law_494 (by decide) ?_
          obtain ⟨e1, e2⟩ := retS hF
          subst e2
          have hmc : mc = ce := by omega
          have hms : ms = sl := by omega
          subst hmc
          subst hms
          exact w_zret hB (by decide) dL_law_498 e1
  · replace hF := ifF hc hF
    refine w_aload_n hB 1 dL_law_67 rfl rfl ?_
    refine w_iload_n hB 2 dL_law_68 rfl rfl ?_
    refine w_iconst hB 5 (by decide) dL_law_69 ?_
    obtain ⟨r5, M5m, hc_M5m, hF⟩ := clS hF
    have q_M5m : EQ M1m M5m := k_X10_play hc_M5m
    have x_M5m := q_M5m.gx
    have n_M5m := q_M5m.1
    have z_M5m := q_M5m.sz
    refine w_callV (M1 := M5m) hB (ci := 8) (As := [vi x2, vi 5]) (st := []) cw_L_135 q_427 q_428 rfl (soM hp.1 sh_64 (by decide)) (c_X10_play hp hc_M5m) ⟨rfl, rfl⟩ ⟨Nat.le_of_ble_eq_true rfl, Nat.le_of_ble_eq_true rfl⟩ ⟨show ce ≤ mc by omega, show sl ≤ ms by omega⟩ rfl (Nat.le_of_ble_eq_true rfl) dL_law_70 rfl ?_ (Or.inl rfl)
    refine w_istore_n hB (L' := [(3, vi r5), (0, vr 61), (1, vr 64), (2, vi x2)]) dL_law_73 rfl (by decide) rfl rfl ?_
    refine w_iconst hB 1 (by decide) dL_law_74 ?_
    refine w_iload_n hB 0 dL_law_75 rfl rfl ?_
    refine w_ishl hB dL_law_76 ?_
    obtain ⟨g1, hF⟩ := gdS hF
    obtain ⟨M6m, e_M6m, hF⟩ := bndS hF
    have x_M6m : GX M5m M6m := by rw [e_M6m]; exact GX_nw _ _ _ _
    have n_M6m : M6m.2.2.2 = M5m.2.2.2 + 1 := by rw [e_M6m]; exact nwA_cn
    have z_M6m : szM M6m = szM M5m + (((1 : Int32) <<< (r5 &&& 31)).toNatClampNeg) := by rw [e_M6m]; exact nwA_sz
    have hg3 := m_L_law_b79 G58 hF
    have hg4 := hg3.1
    have hg5 := hg3.2.1
    refine w_nwI hB hp.1 (N := (((1 : Int32) <<< (r5 &&& 31)).toNatClampNeg)) e_M6m ⟨g1.1, rfl⟩ g1.2 ⟨show ce + 1 ≤ mc by omega, show sl + (((1 : Int32) <<< (r5 &&& 31)).toNatClampNeg) ≤ ms by omega⟩ dL_law_77 ?_
    exact Wt.sub (L' := [(0, vr 61), (1, vr 64), (2, vi x2), (3, vi r5)]) [1, 2, 3, 0] rfl (b_L_law_b79 hp hk hq hB G58 h58 hF (by omega) (by omega))
def f_L_law_b58 (N : Nat) (xs : Nat → Int32) (k : Nat) : Int32 → Mem → Option (Int32 × Mem) := lpN (fun _ _ => none) (f_L_law_b58_s N xs) k
theorem m_L_law_b58 {N : Nat} {xs : Nat → Int32} (k : Nat) : (∀ (x2 : Int32) (M Z : Mem) (r : Int32), f_L_law_b58 N xs k x2 M = some (r, Z) → GX M Z) :=
  lpN_ind (P := fun (f : Int32 → Mem → Option (Int32 × Mem)) => (∀ (x2 : Int32) (M Z : Mem) (r : Int32), f x2 M = some (r, Z) → GX M Z)) (fun _ _ _ _ h => by cases h) (fun f hf _ _ _ _ h => m_L_law_b58_s hf h) k
theorem b_L_law_b58 {K : Kt} {X : Xt} (hp : St K) (hk : KC K) {N : Nat} {xs : Nat → Int32} (hq : KScr K N xs) {mc ms : Nat} (hB : Bx K X { frames := 10, cells := mc, slots := ms, locals := 257 } cL_law 11 RL (some .boolean)) {r : Int32} {M1 : Mem} (k : Nat) : (∀ (x2 : Int32) (ce sl : Nat) (M : Mem), f_L_law_b58 N xs k x2 M = some (r, M1) → mc + M.2.2.2 = ce + M1.2.2.2 → ms + szM M = sl + szM M1 → Wt K X (QM K X (some (vi r)) M1 mc ms) ce sl M 58 [(0, vr 61), (1, vr 64), (2, vi x2)] []) :=
  (lpN_ind (P := fun (f : Int32 → Mem → Option (Int32 × Mem)) => (∀ (x2 : Int32) (M Z : Mem) (r : Int32), f x2 M = some (r, Z) → GX M Z) ∧ (∀ (x2 : Int32) (ce sl : Nat) (M : Mem), f x2 M = some (r, M1) → mc + M.2.2.2 = ce + M1.2.2.2 → ms + szM M = sl + szM M1 → Wt K X (QM K X (some (vi r)) M1 mc ms) ce sl M 58 [(0, vr 61), (1, vr 64), (2, vi x2)] [])) ⟨fun _ _ _ _ h => (by cases h), fun _ _ _ _ h _ _ => (by cases h)⟩ (fun f hf => ⟨fun _ _ _ _ h => m_L_law_b58_s hf.1 h, fun _ _ _ _ hF hn hz => b_L_law_b58_s hp hk hq hB hf.1 hf.2 hF hn hz⟩) k).2
def f_L_law_b51 (N : Nat) (xs : Nat → Int32) (xs0 : Int32) (M : Mem) : Option (Int32 × Mem) :=
  if xs0 = 0 then
    some (0, M)
  else
    f_L_law_b58 N xs fuel 0 M
set_option maxRecDepth 100000 in
set_option maxHeartbeats 4000000 in
theorem m_L_law_b51 {N : Nat} {xs : Nat → Int32} {xs0 : Int32} {M Z : Mem} {r : Int32} (h : f_L_law_b51 N xs xs0 M = some (r, Z)) : GX M Z := by
  unfold f_L_law_b51 at h
  rcases ifS h with ⟨-, h⟩ | ⟨-, h⟩
  · obtain ⟨-, e⟩ := retS h
    rw [← e]
    exact (GX.refl M)
  · exact GX.tr (GX.refl M) (m_L_law_b58 _ _ _ _ _ h)
set_option maxRecDepth 100000 in
set_option maxHeartbeats 4000000 in
theorem b_L_law_b51 {K : Kt} {X : Xt} (hp : St K) (hk : KC K) {N : Nat} {xs : Nat → Int32} (hq : KScr K N xs) {mc ms : Nat} (hB : Bx K X { frames := 10, cells := mc, slots := ms, locals := 257 } cL_law 11 RL (some .boolean)) {r : Int32} {M1 : Mem} {xs0 : Int32} {ce sl : Nat} {M : Mem} (hF : f_L_law_b51 N xs xs0 M = some (r, M1)) (hn : mc + M.2.2.2 = ce + M1.2.2.2) (hz : ms + szM M = sl + szM M1) : Wt K X (QM K X (some (vi r)) M1 mc ms) ce sl M 51 [(0, vr 61), (1, vr 64)] [vi xs0] := by
  have hg := m_L_law_b51 hF
  have hg1 := hg.1
  have hg2 := hg.2.1
  unfold f_L_law_b51 at hF
  refine w_if_ne hB 56 dL_law_51 (by decide) (fun hc => ?_) (fun hc => ?_)
  · replace hF := ifF hc hF
    refine w_iconst hB 0 (by decide) dL_law_56 ?_
    refine w_istore_n hB (L' := [(2, vi 0), (0, vr 61), (1, vr 64)]) dL_law_57 rfl (by decide) rfl rfl ?_
    exact Wt.sub (L' := [(0, vr 61), (1, vr 64), (2, vi 0)]) [1, 2, 0] rfl (b_L_law_b58 hp hk hq hB fuel _ _ _ M hF (by omega) (by omega))
  · replace hF := ifT hc hF
    refine w_iconst hB 0 (by decide) dL_law_54 ?_
    obtain ⟨e1, e2⟩ := retS hF
    subst e2
    have hmc : mc = ce := by omega
    have hms : ms = sl := by omega
    subst hmc
    subst hms
    exact w_zret hB (by decide) dL_law_55 e1
def f_L_law_b43 (N : Nat) (xs : Nat → Int32) (xs0 : Int32) (M : Mem) : Option (Int32 × Mem) :=
  if xs0 = 0 then
    some (0, M)
  else
    cl (f_L_areClocks N xs M) fun r1 M1m =>
    f_L_law_b51 N xs r1 M1m
set_option maxRecDepth 100000 in
set_option maxHeartbeats 4000000 in
theorem m_L_law_b43 {N : Nat} {xs : Nat → Int32} {xs0 : Int32} {M Z : Mem} {r : Int32} (h : f_L_law_b43 N xs xs0 M = some (r, Z)) : GX M Z := by
  unfold f_L_law_b43 at h
  rcases ifS h with ⟨-, h⟩ | ⟨-, h⟩
  · obtain ⟨-, e⟩ := retS h
    rw [← e]
    exact (GX.refl M)
  · obtain ⟨r1, M1m, c_M1m, h⟩ := clS h
    have q_M1m : GX M M1m := GX.tr (GX.refl M) (m_L_areClocks c_M1m)
    exact GX.tr q_M1m (m_L_law_b51 h)
set_option maxRecDepth 100000 in
set_option maxHeartbeats 4000000 in
theorem b_L_law_b43 {K : Kt} {X : Xt} (hp : St K) (hk : KC K) {N : Nat} {xs : Nat → Int32} (hq : KScr K N xs) {mc ms : Nat} (hB : Bx K X { frames := 10, cells := mc, slots := ms, locals := 257 } cL_law 11 RL (some .boolean)) {r : Int32} {M1 : Mem} {xs0 : Int32} {ce sl : Nat} {M : Mem} (hF : f_L_law_b43 N xs xs0 M = some (r, M1)) (hn : mc + M.2.2.2 = ce + M1.2.2.2) (hz : ms + szM M = sl + szM M1) : Wt K X (QM K X (some (vi r)) M1 mc ms) ce sl M 43 [(0, vr 61), (1, vr 64)] [vi xs0] := by
  have hg := m_L_law_b43 hF
  have hg1 := hg.1
  have hg2 := hg.2.1
  unfold f_L_law_b43 at hF
  refine w_if_eq hB 54 dL_law_43 (by decide) (fun hc => ?_) (fun hc => ?_)
  · replace hF := ifT hc hF
    refine w_iconst hB 0 (by decide) dL_law_54 ?_
    obtain ⟨e1, e2⟩ := retS hF
    subst e2
    have hmc : mc = ce := by omega
    have hms : ms = sl := by omega
    subst hmc
    subst hms
    exact w_zret hB (by decide) dL_law_55 e1
  · replace hF := ifF hc hF
    refine w_aload_n hB 1 dL_law_46 rfl rfl ?_
    refine w_aload_n hB 0 dL_law_47 rfl rfl ?_
    obtain ⟨r1, M1m, hc_M1m, hF⟩ := clS hF
    have x_M1m := m_L_areClocks hc_M1m
    have xa_M1m := x_M1m.1
    have xb_M1m := x_M1m.2.1
    have hg3 := m_L_law_b51 hF
    have hg4 := hg3.1
    have hg5 := hg3.2.1
    refine w_callS (M1 := M1m) hB (As := [vr 64, vr 61]) (st := []) cw_L_132 q_1213 (c_L_areClocks hp hk hq hc_M1m) ⟨rfl, rfl⟩ ⟨Nat.le_of_ble_eq_true rfl, Nat.le_of_ble_eq_true rfl⟩ ⟨show ce + (M1m.2.2.2 - M.2.2.2) ≤ mc by omega, show sl + (szM M1m - szM M) ≤ ms by omega⟩ rfl (Nat.le_of_ble_eq_true rfl) dL_law_48 rfl ?_ (Or.inr (by omega))
    exact Wt.sub (L' := [(0, vr 61), (1, vr 64)]) [0, 1] rfl (b_L_law_b51 hp hk hq hB hF (by omega) (by omega))
def f_L_law_b8 (N : Nat) (xs : Nat → Int32) (M : Mem) : Option (Int32 × Mem) :=
  cl (f_X10_verdict 0 0 M) fun r1 M1m =>
  if r1 = (-1) then
    cl (f_X10_wrong M1m) fun r2 M2m =>
    if r2 = 0 then
      cl (f_X10_gap 0 0 1 1 M2m) fun r3 M3m =>
      if r3 = 3000000 then
        cl (f_L_begins N xs M3m) fun r4 M4m =>
        f_L_law_b43 N xs r4 M4m
      else
        some (0, M3m)
    else
      some (0, M2m)
  else
    some (0, M1m)
set_option maxRecDepth 100000 in
set_option maxHeartbeats 4000000 in
theorem m_L_law_b8 {N : Nat} {xs : Nat → Int32} {M Z : Mem} {r : Int32} (h : f_L_law_b8 N xs M = some (r, Z)) : GX M Z := by
  unfold f_L_law_b8 at h
  obtain ⟨r1, M1m, c_M1m, h⟩ := clS h
  have q_M1m : GX M M1m := GX.tr (GX.refl M) ((k_X10_verdict c_M1m).gx)
  rcases ifS h with ⟨-, h⟩ | ⟨-, h⟩
  · obtain ⟨r2, M2m, c_M2m, h⟩ := clS h
    have q_M2m : GX M M2m := GX.tr q_M1m ((k_X10_wrong c_M2m).gx)
    rcases ifS h with ⟨-, h⟩ | ⟨-, h⟩
    · obtain ⟨r3, M3m, c_M3m, h⟩ := clS h
      have q_M3m : GX M M3m := GX.tr q_M2m ((k_X10_gap c_M3m).gx)
      rcases ifS h with ⟨-, h⟩ | ⟨-, h⟩
      · obtain ⟨r4, M4m, c_M4m, h⟩ := clS h
        have q_M4m : GX M M4m := GX.tr q_M3m (m_L_begins c_M4m)
        exact GX.tr q_M4m (m_L_law_b43 h)
      · obtain ⟨-, e⟩ := retS h
        rw [← e]
        exact q_M3m
    · obtain ⟨-, e⟩ := retS h
      rw [← e]
      exact q_M2m
  · obtain ⟨-, e⟩ := retS h
    rw [← e]
    exact q_M1m
set_option maxRecDepth 100000 in
set_option maxHeartbeats 4000000 in
theorem b_L_law_b8 {K : Kt} {X : Xt} (hp : St K) (hk : KC K) {N : Nat} {xs : Nat → Int32} (hq : KScr K N xs) {mc ms : Nat} (hB : Bx K X { frames := 10, cells := mc, slots := ms, locals := 257 } cL_law 11 RL (some .boolean)) {r : Int32} {M1 : Mem} {ce sl : Nat} {M : Mem} (hF : f_L_law_b8 N xs M = some (r, M1)) (hn : mc + M.2.2.2 = ce + M1.2.2.2) (hz : ms + szM M = sl + szM M1) : Wt K X (QM K X (some (vi r)) M1 mc ms) ce sl M 8 [(0, vr 61), (1, vr 64)] [] := by
  have hg := m_L_law_b8 hF
  have hg1 := hg.1
  have hg2 := hg.2.1
  unfold f_L_law_b8 at hF
  refine w_aload_n hB 1 dL_law_8 rfl rfl ?_
  refine w_iconst hB 0 (by decide) dL_law_9 ?_
  refine w_iconst hB 0 (by decide) dL_law_10 ?_
  obtain ⟨r1, M1m, hc_M1m, hF⟩ := clS hF
  have q_M1m : EQ M M1m := k_X10_verdict hc_M1m
  have x_M1m := q_M1m.gx
  have n_M1m := q_M1m.1
  have z_M1m := q_M1m.sz
  refine w_callV (M1 := M1m) hB (ci := 8) (As := [vi 0, vi 0]) (st := []) cw_L_116 q_447 q_448 rfl (soM hp.1 sh_64 (by decide)) (c_X10_verdict hp hc_M1m) ⟨rfl, rfl⟩ ⟨Nat.le_of_ble_eq_true rfl, Nat.le_of_ble_eq_true rfl⟩ ⟨show ce ≤ mc by omega, show sl ≤ ms by omega⟩ rfl (Nat.le_of_ble_eq_true rfl) dL_law_11 rfl ?_ (Or.inl rfl)
  refine w_iconst hB (-1) (by decide) dL_law_14 ?_
  refine w_icmp_ne hB 54 dL_law_15 (by decide) (fun hc => ?_) (fun hc => ?_)
  · replace hF := ifF hc hF
    refine w_iconst hB 0 (by decide) dL_law_54 ?_
    obtain ⟨e1, e2⟩ := retS hF
    subst e2
    have hmc : mc = ce := by omega
    have hms : ms = sl := by omega
    subst hmc
    subst hms
    exact w_zret hB (by decide) dL_law_55 e1
  · replace hF := ifT hc hF
    refine w_aload_n hB 1 dL_law_18 rfl rfl ?_
    obtain ⟨r2, M2m, hc_M2m, hF⟩ := clS hF
    have q_M2m : EQ M1m M2m := k_X10_wrong hc_M2m
    have x_M2m := q_M2m.gx
    have n_M2m := q_M2m.1
    have z_M2m := q_M2m.sz
    refine w_callV (M1 := M2m) hB (ci := 8) (As := []) (st := []) cw_L_120 q_565 q_566 rfl (soM hp.1 sh_64 (by decide)) (c_X10_wrong hp hc_M2m) ⟨rfl, rfl⟩ ⟨Nat.le_of_ble_eq_true rfl, Nat.le_of_ble_eq_true rfl⟩ ⟨show ce ≤ mc by omega, show sl ≤ ms by omega⟩ rfl (Nat.le_of_ble_eq_true rfl) dL_law_19 rfl ?_ (Or.inl rfl)
    refine w_if_ne hB 54 dL_law_22 (by decide) (fun hc => ?_) (fun hc => ?_)
    · replace hF := ifF hc hF
      refine w_iconst hB 0 (by decide) dL_law_54 ?_
      obtain ⟨e1, e2⟩ := retS hF
      subst e2
      have hmc : mc = ce := by omega
      have hms : ms = sl := by omega
      subst hmc
      subst hms
      exact w_zret hB (by decide) dL_law_55 e1
    · replace hF := ifT hc hF
      refine w_aload_n hB 1 dL_law_25 rfl rfl ?_
      refine w_iconst hB 0 (by decide) dL_law_26 ?_
      refine w_iconst hB 0 (by decide) dL_law_27 ?_
      refine w_iconst hB 1 (by decide) dL_law_28 ?_
      refine w_iconst hB 1 (by decide) dL_law_29 ?_
      obtain ⟨r3, M3m, hc_M3m, hF⟩ := clS hF
      have q_M3m : EQ M2m M3m := k_X10_gap hc_M3m
      have x_M3m := q_M3m.gx
      have n_M3m := q_M3m.1
      have z_M3m := q_M3m.sz
      refine w_callV (M1 := M3m) hB (ci := 8) (As := [vi 0, vi 0, vi 1, vi 1]) (st := []) cw_L_123 q_498 q_499 rfl (soM hp.1 sh_64 (by decide)) (c_X10_gap hp hc_M3m) ⟨rfl, rfl⟩ ⟨Nat.le_of_ble_eq_true rfl, Nat.le_of_ble_eq_true rfl⟩ ⟨show ce ≤ mc by omega, show sl ≤ ms by omega⟩ rfl (Nat.le_of_ble_eq_true rfl) dL_law_30 rfl ?_ (Or.inl rfl)
      refine w_ldc hB (v := 3000000) q_1216 dL_law_33 ?_
      refine w_icmp_ne hB 54 dL_law_35 (by decide) (fun hc => ?_) (fun hc => ?_)
      · replace hF := ifF hc hF
        refine w_iconst hB 0 (by decide) dL_law_54 ?_
        obtain ⟨e1, e2⟩ := retS hF
        subst e2
        have hmc : mc = ce := by omega
        have hms : ms = sl := by omega
        subst hmc
        subst hms
        exact w_zret hB (by decide) dL_law_55 e1
      · replace hF := ifT hc hF
        refine w_aload_n hB 1 dL_law_38 rfl rfl ?_
        refine w_aload_n hB 0 dL_law_39 rfl rfl ?_
        obtain ⟨r4, M4m, hc_M4m, hF⟩ := clS hF
        have x_M4m := m_L_begins hc_M4m
        have xa_M4m := x_M4m.1
        have xb_M4m := x_M4m.2.1
        have hg3 := m_L_law_b43 hF
        have hg4 := hg3.1
        have hg5 := hg3.2.1
        refine w_callS (M1 := M4m) hB (As := [vr 64, vr 61]) (st := []) cw_L_128 q_577 (c_L_begins hp hk hq hc_M4m) ⟨rfl, rfl⟩ ⟨Nat.le_of_ble_eq_true rfl, Nat.le_of_ble_eq_true rfl⟩ ⟨show ce + (M4m.2.2.2 - M3m.2.2.2) ≤ mc by omega, show sl + (szM M4m - szM M3m) ≤ ms by omega⟩ rfl (Nat.le_of_ble_eq_true rfl) dL_law_40 rfl ?_ (Or.inr (by omega))
        exact Wt.sub (L' := [(0, vr 61), (1, vr 64)]) [0, 1] rfl (b_L_law_b43 hp hk hq hB hF (by omega) (by omega))
