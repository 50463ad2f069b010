/-! canAll -/
def f_L_canAll_b125_s (N : Nat) (xs : Nat → Int32) (rec125 : Nat → Nat → Int32 → Mem → Option (Int32 × Mem)) (n3 : Nat) (n4 : Nat) (x5 : Int32) (M : Mem) : Option (Int32 × Mem) :=
  if 4 ≤ x5 then
    some (1, M)
  else
    gd (1000 ≤ n4 ∧ dsc M n4 = 20 ∧ n4 - 753 < M.2.2.2) <|
    gd (inb x5 (dln M n4)) <|
    gd (1000 ≤ n3 ∧ dsc M n3 = 20 ∧ n3 - 753 < M.2.2.2) <|
    gd (inb x5 (dln M n3)) <|
    if (M.1 n4 x5.toNatClampNeg) ≤ (M.1 n3 x5.toNatClampNeg) then
      bnd (x5 + 1) fun a1 =>
      rec125 n3 n4 a1 M
    else
      some (0, M)
set_option maxRecDepth 100000 in
set_option maxHeartbeats 4000000 in
theorem m_L_canAll_b125_s {N : Nat} {xs : Nat → Int32} {rec125 : Nat → Nat → Int32 → Mem → Option (Int32 × Mem)} (G125 : (∀ (n3 : Nat) (n4 : Nat) (x5 : Int32) (M Z : Mem) (r : Int32), rec125 n3 n4 x5 M = some (r, Z) → GX M Z)) {n3 : Nat} {n4 : Nat} {x5 : Int32} {M Z : Mem} {r : Int32} (h : f_L_canAll_b125_s N xs rec125 n3 n4 x5 M = some (r, Z)) : GX M Z := by
  unfold f_L_canAll_b125_s at h
  rcases ifS h with ⟨-, h⟩ | ⟨-, h⟩
  · obtain ⟨-, e⟩ := retS h
    rw [← e]
    exact (GX.refl M)
  · obtain ⟨gq3, h⟩ := gdS h
    obtain ⟨gq4, h⟩ := gdS h
    obtain ⟨gq5, h⟩ := gdS h
    obtain ⟨gq6, h⟩ := gdS h
    rcases ifS h with ⟨-, h⟩ | ⟨-, h⟩
    · obtain ⟨a1, e_a1, h⟩ := bndS h
      exact GX.tr (GX.refl M) (G125 _ _ _ _ _ _ h)
    · obtain ⟨-, e⟩ := retS h
      rw [← e]
      exact (GX.refl M)
set_option maxRecDepth 100000 in
set_option maxHeartbeats 4000000 in
theorem b_L_canAll_b125_s {K : Kt} {X : Xt} (hp : St K) (hk : KC K) {N : Nat} {xs : Nat → Int32} (hq : KScr K N xs) {mc ms : Nat} (hB : Bx K X { frames := 3, cells := mc, slots := ms, locals := 65 } cL_canAll 7 RL (some .boolean)) {r : Int32} {M1 : Mem} {rec125 : Nat → Nat → Int32 → Mem → Option (Int32 × Mem)}
    (G125 : (∀ (n3 : Nat) (n4 : Nat) (x5 : Int32) (M Z : Mem) (r : Int32), rec125 n3 n4 x5 M = some (r, Z) → GX M Z)) (h125 : (∀ (n3 : Nat) (n4 : Nat) (x5 : Int32) (ce sl : Nat) (M : Mem), rec125 n3 n4 x5 M = some (r, M1) → mc + M.2.2.2 = ce + M1.2.2.2 → ms + szM M = sl + szM M1 → Wt K X (QM K X (some (vi r)) M1 mc ms) ce sl M 125 [(3, vr n3), (4, vr n4), (5, vi x5)] [])) {n3 : Nat} {n4 : Nat} {x5 : Int32} {ce sl : Nat} {M : Mem} (hF : f_L_canAll_b125_s N xs rec125 n3 n4 x5 M = some (r, M1)) (hn : mc + M.2.2.2 = ce + M1.2.2.2) (hz : ms + szM M = sl + szM M1) : Wt K X (QM K X (some (vi r)) M1 mc ms) ce sl M 125 [(3, vr n3), (4, vr n4), (5, vi x5)] [] := by
  have hg := m_L_canAll_b125_s G125 hF
  have hg1 := hg.1
  have hg2 := hg.2.1
  unfold f_L_canAll_b125_s at hF
  refine w_iload hB 2 dL_canAll_125 rfl ?_
  refine w_iconst hB 4 (by decide) dL_canAll_127 ?_
  refine w_icmp_ge hB 151 dL_canAll_128 (by decide) (fun hc => ?_) (fun hc => ?_)
  · replace hF := ifT hc hF
    refine w_iconst hB 1 (by decide) dL_canAll_151 ?_
    obtain ⟨e1, e2⟩ := retS hF
    subst e2
    have hmc : mc = ce := by omega
    have hms : ms = sl := by omega
    subst hmc
    subst hms
    exact w_zret hB (by decide) dL_canAll_152 e1
  · replace hF := ifF hc hF
    refine w_aload hB 1 dL_canAll_131 rfl ?_
    refine w_iload hB 2 dL_canAll_133 rfl ?_
    obtain ⟨g1, hF⟩ := gdS hF
    obtain ⟨g2, hF⟩ := gdS hF
    refine w_iald hB (dqM g1) (sl_d g1.1 rfl) g2 dL_canAll_135 ?_
    refine w_aload_n hB 0 dL_canAll_136 rfl rfl ?_
    refine w_iload hB 2 dL_canAll_137 rfl ?_
    obtain ⟨g3, hF⟩ := gdS hF
    obtain ⟨g4, hF⟩ := gdS hF
    refine w_iald hB (dqM g3) (sl_d g3.1 rfl) g4 dL_canAll_139 ?_
    refine w_icmp_le hB 145 dL_canAll_140 (by decide) (fun hc => ?_) (fun hc => ?_)
    · replace hF := ifT hc hF
      obtain ⟨a1, e_a1, hF⟩ := bndS hF
      refine w_iinc hB 2 (v := 1) (L' := [(5, vi a1), (3, vr n3), (4, vr n4)]) dL_canAll_145 rfl (by decide) (by decide) e_a1 rfl ?_
      refine w_goto hB 125 dL_canAll_148 (by decide) ?_
      exact Wt.sub (L' := [(3, vr n3), (4, vr n4), (5, vi a1)]) [1, 2, 0] rfl (h125 _ _ _ _ _ M hF (by omega) (by omega))
    · replace hF := ifF hc hF
      refine w_iconst hB 0 (by decide) dL_canAll_143 ?_
      obtain ⟨e1, e2⟩ := retS hF
      subst e2
      have hmc : mc = ce := by omega
      have hms : ms = sl := by omega
      subst hmc
      subst hms
      exact w_zret hB (by decide) dL_canAll_144 e1
def f_L_canAll_b125 (N : Nat) (xs : Nat → Int32) (k : Nat) : Nat → Nat → Int32 → Mem → Option (Int32 × Mem) := lpN (fun _ _ _ _ => none) (f_L_canAll_b125_s N xs) k
theorem m_L_canAll_b125 {N : Nat} {xs : Nat → Int32} (k : Nat) : (∀ (n3 : Nat) (n4 : Nat) (x5 : Int32) (M Z : Mem) (r : Int32), f_L_canAll_b125 N xs k n3 n4 x5 M = some (r, Z) → GX M Z) :=
  lpN_ind (P := fun (f : Nat → Nat → Int32 → Mem → Option (Int32 × Mem)) => (∀ (n3 : Nat) (n4 : Nat) (x5 : Int32) (M Z : Mem) (r : Int32), f n3 n4 x5 M = some (r, Z) → GX M Z)) (fun _ _ _ _ _ _ h => by cases h) (fun f hf _ _ _ _ _ _ h => m_L_canAll_b125_s hf h) k
theorem b_L_canAll_b125 {K : Kt} {X : Xt} (hp : St K) (hk : KC K) {N : Nat} {xs : Nat → Int32} (hq : KScr K N xs) {mc ms : Nat} (hB : Bx K X { frames := 3, cells := mc, slots := ms, locals := 65 } cL_canAll 7 RL (some .boolean)) {r : Int32} {M1 : Mem} (k : Nat) : (∀ (n3 : Nat) (n4 : Nat) (x5 : Int32) (ce sl : Nat) (M : Mem), f_L_canAll_b125 N xs k n3 n4 x5 M = some (r, M1) → mc + M.2.2.2 = ce + M1.2.2.2 → ms + szM M = sl + szM M1 → Wt K X (QM K X (some (vi r)) M1 mc ms) ce sl M 125 [(3, vr n3), (4, vr n4), (5, vi x5)] []) :=
  (lpN_ind (P := fun (f : Nat → Nat → Int32 → Mem → Option (Int32 × Mem)) => (∀ (n3 : Nat) (n4 : Nat) (x5 : Int32) (M Z : Mem) (r : Int32), f n3 n4 x5 M = some (r, Z) → GX M Z) ∧ (∀ (n3 : Nat) (n4 : Nat) (x5 : Int32) (ce sl : Nat) (M : Mem), f n3 n4 x5 M = some (r, M1) → mc + M.2.2.2 = ce + M1.2.2.2 → ms + szM M = sl + szM M1 → Wt K X (QM K X (some (vi r)) M1 mc ms) ce sl M 125 [(3, vr n3), (4, vr n4), (5, vi x5)] [])) ⟨fun _ _ _ _ _ _ h => (by cases h), fun _ _ _ _ _ _ h _ _ => (by cases h)⟩ (fun f hf => ⟨fun _ _ _ _ _ _ h => m_L_canAll_b125_s hf.1 h, fun _ _ _ _ _ _ hF hn hz => b_L_canAll_b125_s hp hk hq hB hf.1 hf.2 hF hn hz⟩) k).2
def f_L_canAll_b81_s (N : Nat) (xs : Nat → Int32) (rec81 : Int32 → Nat → Nat → Int32 → Mem → Option (Int32 × Mem)) (x1 : Int32) (n3 : Nat) (n4 : Nat) (x5 : Int32) (M : Mem) : Option (Int32 × Mem) :=
  cl (f_L_pairs N xs x1 M) fun r1 M1m =>
  if r1 ≤ x5 then
    f_L_canAll_b125 N xs fuel n3 n4 0 M1m
  else
    cl (f_L_second N xs x1 x5 M1m) fun r2 M2m =>
    gd (1000 ≤ n4 ∧ dsc M2m n4 = 20 ∧ n4 - 753 < M2m.2.2.2) <|
    gd (inb r2 (dln M2m n4)) <|
    cl (f_L_first N xs x1 x5 M2m) fun r3 M3m =>
    gd (inb r3 (dln M2m n4)) <|
    if (M3m.1 n4 r3.toNatClampNeg) < (M2m.1 n4 r2.toNatClampNeg) then
      bnd (x5 + 1) fun a1 =>
      rec81 x1 n3 n4 a1 M3m
    else
      some (0, M3m)
set_option maxRecDepth 100000 in
set_option maxHeartbeats 4000000 in
theorem m_L_canAll_b81_s {N : Nat} {xs : Nat → Int32} {rec81 : Int32 → Nat → Nat → Int32 → Mem → Option (Int32 × Mem)} (G81 : (∀ (x1 : Int32) (n3 : Nat) (n4 : Nat) (x5 : Int32) (M Z : Mem) (r : Int32), rec81 x1 n3 n4 x5 M = some (r, Z) → GX M Z)) {x1 : Int32} {n3 : Nat} {n4 : Nat} {x5 : Int32} {M Z : Mem} {r : Int32} (h : f_L_canAll_b81_s N xs rec81 x1 n3 n4 x5 M = some (r, Z)) : GX M Z := by
  unfold f_L_canAll_b81_s at h
  obtain ⟨r1, M1m, c_M1m, h⟩ := clS h
  have q_M1m : GX M M1m := GX.tr (GX.refl M) ((k_L_pairs c_M1m).gx)
  rcases ifS h with ⟨-, h⟩ | ⟨-, h⟩
  · exact GX.tr q_M1m (m_L_canAll_b125 _ _ _ _ _ _ _ h)
  · obtain ⟨r2, M2m, c_M2m, h⟩ := clS h
    have q_M2m : GX M M2m := GX.tr q_M1m ((k_L_second c_M2m).gx)
    obtain ⟨gq5, h⟩ := gdS h
    obtain ⟨gq6, h⟩ := gdS h
    obtain ⟨r3, M3m, c_M3m, h⟩ := clS h
    have q_M3m : GX M M3m := GX.tr q_M2m ((k_L_first c_M3m).gx)
    obtain ⟨gq8, h⟩ := gdS h
    rcases ifS h with ⟨-, h⟩ | ⟨-, h⟩
    · obtain ⟨a1, e_a1, h⟩ := bndS h
      exact GX.tr q_M3m (G81 _ _ _ _ _ _ _ h)
    · obtain ⟨-, e⟩ := retS h
      rw [← e]
      exact q_M3m
set_option maxRecDepth 100000 in
set_option maxHeartbeats 4000000 in
theorem b_L_canAll_b81_s {K : Kt} {X : Xt} (hp : St K) (hk : KC K) {N : Nat} {xs : Nat → Int32} (hq : KScr K N xs) {mc ms : Nat} (hB : Bx K X { frames := 3, cells := mc, slots := ms, locals := 65 } cL_canAll 7 RL (some .boolean)) {r : Int32} {M1 : Mem} {rec81 : Int32 → Nat → Nat → Int32 → Mem → Option (Int32 × Mem)}
    (G81 : (∀ (x1 : Int32) (n3 : Nat) (n4 : Nat) (x5 : Int32) (M Z : Mem) (r : Int32), rec81 x1 n3 n4 x5 M = some (r, Z) → GX M Z)) (h81 : (∀ (x1 : Int32) (n3 : Nat) (n4 : Nat) (x5 : Int32) (ce sl : Nat) (M : Mem), rec81 x1 n3 n4 x5 M = some (r, M1) → mc + M.2.2.2 = ce + M1.2.2.2 → ms + szM M = sl + szM M1 → Wt K X (QM K X (some (vi r)) M1 mc ms) ce sl M 81 [(0, vr 61), (1, vi x1), (3, vr n3), (4, vr n4), (5, vi x5)] [])) {x1 : Int32} {n3 : Nat} {n4 : Nat} {x5 : Int32} {ce sl : Nat} {M : Mem} (hF : f_L_canAll_b81_s N xs rec81 x1 n3 n4 x5 M = some (r, M1)) (hn : mc + M.2.2.2 = ce + M1.2.2.2) (hz : ms + szM M = sl + szM M1) : Wt K X (QM K X (some (vi r)) M1 mc ms) ce sl M 81 [(0, vr 61), (1, vi x1), (3, vr n3), (4, vr n4), (5, vi x5)] [] := by
  have hg := m_L_canAll_b81_s G81 hF
  have hg1 := hg.1
  have hg2 := hg.2.1
  unfold f_L_canAll_b81_s at hF
  refine w_iload hB 4 dL_canAll_81 rfl ?_
  refine w_aload_n hB 0 dL_canAll_83 rfl rfl ?_
  refine w_iload_n hB 1 dL_canAll_84 rfl rfl ?_
  obtain ⟨r1, M1m, hc_M1m, hF⟩ := clS hF
  have q_M1m : EQ M M1m := k_L_pairs hc_M1m
  have x_M1m := q_M1m.gx
  have n_M1m := q_M1m.1
  have z_M1m := q_M1m.sz
  refine w_callS (M1 := M1m) hB (As := [vr 61, vi x1]) (st := [vi x5]) cw_L_194 q_1193 (c_L_pairs hp hq hc_M1m) ⟨rfl, rfl⟩ ⟨Nat.le_of_ble_eq_true rfl, Nat.le_of_ble_eq_true rfl⟩ ⟨show ce ≤ mc by omega, show sl ≤ ms by omega⟩ rfl (Nat.le_of_ble_eq_true rfl) dL_canAll_85 rfl ?_ (Or.inl rfl)
  refine w_icmp_ge hB 122 dL_canAll_88 (by decide) (fun hc => ?_) (fun hc => ?_)
  · replace hF := ifT hc hF
    refine w_iconst hB 0 (by decide) dL_canAll_122 ?_
    refine w_istore hB (L' := [(5, vi 0), (0, vr 61), (1, vi x1), (3, vr n3), (4, vr n4)]) dL_canAll_123 (by decide) rfl rfl ?_
    exact Wt.sub (L' := [(3, vr n3), (4, vr n4), (5, vi 0)]) [3, 4, 0] rfl (b_L_canAll_b125 hp hk hq hB fuel _ _ _ _ _ M1m hF (by omega) (by omega))
  · replace hF := ifF hc hF
    refine w_aload hB 3 dL_canAll_91 rfl ?_
    refine w_aload_n hB 0 dL_canAll_93 rfl rfl ?_
    refine w_iload_n hB 1 dL_canAll_94 rfl rfl ?_
    refine w_iload hB 4 dL_canAll_95 rfl ?_
    obtain ⟨r2, M2m, hc_M2m, hF⟩ := clS hF
    have q_M2m : EQ M1m M2m := k_L_second hc_M2m
    have x_M2m := q_M2m.gx
    have n_M2m := q_M2m.1
    have z_M2m := q_M2m.sz
    refine w_callS (M1 := M2m) hB (As := [vr 61, vi x1, vi x5]) (st := [vr n4]) cw_L_200 q_1199 (c_L_second hp hq hc_M2m) ⟨rfl, rfl⟩ ⟨Nat.le_of_ble_eq_true rfl, Nat.le_of_ble_eq_true rfl⟩ ⟨show ce ≤ mc by omega, show sl ≤ ms by omega⟩ rfl (Nat.le_of_ble_eq_true rfl) dL_canAll_97 rfl ?_ (Or.inl rfl)
    obtain ⟨g1, hF⟩ := gdS hF
    obtain ⟨g2, hF⟩ := gdS hF
    refine w_iald hB (dqM g1) (sl_d g1.1 rfl) g2 dL_canAll_100 ?_
    refine w_aload hB 3 dL_canAll_101 rfl ?_
    refine w_aload_n hB 0 dL_canAll_103 rfl rfl ?_
    refine w_iload_n hB 1 dL_canAll_104 rfl rfl ?_
    refine w_iload hB 4 dL_canAll_105 rfl ?_
    obtain ⟨r3, M3m, hc_M3m, hF⟩ := clS hF
    have q_M3m : EQ M2m M3m := k_L_first hc_M3m
    have x_M3m := q_M3m.gx
    have n_M3m := q_M3m.1
    have z_M3m := q_M3m.sz
    refine w_callS (M1 := M3m) hB (As := [vr 61, vi x1, vi x5]) (st := [vr n4, vi (M2m.1 n4 r2.toNatClampNeg)]) cw_L_197 q_1196 (c_L_first hp hq hc_M3m) ⟨rfl, rfl⟩ ⟨Nat.le_of_ble_eq_true rfl, Nat.le_of_ble_eq_true rfl⟩ ⟨show ce ≤ mc by omega, show sl ≤ ms by omega⟩ rfl (Nat.le_of_ble_eq_true rfl) dL_canAll_107 rfl ?_ (Or.inl rfl)
    obtain ⟨g3, hF⟩ := gdS hF
    refine w_iald hB (dqM (GX.dyo x_M3m g1)) (sl_d (GX.dyo x_M3m g1).1 (GX.dl x_M3m g1 rfl)) g3 dL_canAll_110 ?_
    refine w_icmp_gt hB 116 dL_canAll_111 (by decide) (fun hc => ?_) (fun hc => ?_)
    · replace hF := ifT hc hF
      obtain ⟨a1, e_a1, hF⟩ := bndS hF
      refine w_iinc hB 4 (v := 1) (L' := [(5, vi a1), (0, vr 61), (1, vi x1), (3, vr n3), (4, vr n4)]) dL_canAll_116 rfl (by decide) (by decide) e_a1 rfl ?_
      refine w_goto hB 81 dL_canAll_119 (by decide) ?_
      exact Wt.sub (L' := [(0, vr 61), (1, vi x1), (3, vr n3), (4, vr n4), (5, vi a1)]) [1, 2, 3, 4, 0] rfl (h81 _ _ _ _ _ _ M3m hF (by omega) (by omega))
    · replace hF := ifF hc hF
      refine w_iconst hB 0 (by decide) dL_canAll_114 ?_
      obtain ⟨e1, e2⟩ := retS hF
      subst e2
      have hmc : mc = ce := by omega
      have hms : ms = sl := by omega
      subst hmc
      subst hms
      exact w_zret hB (by decide) dL_canAll_115 e1
def f_L_canAll_b81 (N : Nat) (xs : Nat → Int32) (k : Nat) : Int32 → Nat → Nat → Int32 → Mem → Option (Int32 × Mem) := lpN (fun _ _ _ _ _ => none) (f_L_canAll_b81_s N xs) k
theorem m_L_canAll_b81 {N : Nat} {xs : Nat → Int32} (k : Nat) : (∀ (x1 : Int32) (n3 : Nat) (n4 : Nat) (x5 : Int32) (M Z : Mem) (r : Int32), f_L_canAll_b81 N xs k x1 n3 n4 x5 M = some (r, Z) → GX M Z) :=
  lpN_ind (P := fun (f : Int32 → Nat → Nat → Int32 → Mem → Option (Int32 × Mem)) => (∀ (x1 : Int32) (n3 : Nat) (n4 : Nat) (x5 : Int32) (M Z : Mem) (r : Int32), f x1 n3 n4 x5 M = some (r, Z) → GX M Z)) (fun _ _ _ _ _ _ _ h => by cases h) (fun f hf _ _ _ _ _ _ _ h => m_L_canAll_b81_s hf h) k
theorem b_L_canAll_b81 {K : Kt} {X : Xt} (hp : St K) (hk : KC K) {N : Nat} {xs : Nat → Int32} (hq : KScr K N xs) {mc ms : Nat} (hB : Bx K X { frames := 3, cells := mc, slots := ms, locals := 65 } cL_canAll 7 RL (some .boolean)) {r : Int32} {M1 : Mem} (k : Nat) : (∀ (x1 : Int32) (n3 : Nat) (n4 : Nat) (x5 : Int32) (ce sl : Nat) (M : Mem), f_L_canAll_b81 N xs k x1 n3 n4 x5 M = some (r, M1) → mc + M.2.2.2 = ce + M1.2.2.2 → ms + szM M = sl + szM M1 → Wt K X (QM K X (some (vi r)) M1 mc ms) ce sl M 81 [(0, vr 61), (1, vi x1), (3, vr n3), (4, vr n4), (5, vi x5)] []) :=
  (lpN_ind (P := fun (f : Int32 → Nat → Nat → Int32 → Mem → Option (Int32 × Mem)) => (∀ (x1 : Int32) (n3 : Nat) (n4 : Nat) (x5 : Int32) (M Z : Mem) (r : Int32), f x1 n3 n4 x5 M = some (r, Z) → GX M Z) ∧ (∀ (x1 : Int32) (n3 : Nat) (n4 : Nat) (x5 : Int32) (ce sl : Nat) (M : Mem), f x1 n3 n4 x5 M = some (r, M1) → mc + M.2.2.2 = ce + M1.2.2.2 → ms + szM M = sl + szM M1 → Wt K X (QM K X (some (vi r)) M1 mc ms) ce sl M 81 [(0, vr 61), (1, vi x1), (3, vr n3), (4, vr n4), (5, vi x5)] [])) ⟨fun _ _ _ _ _ _ _ h => (by cases h), fun _ _ _ _ _ _ _ h _ _ => (by cases h)⟩ (fun f hf => ⟨fun _ _ _ _ _ _ _ h => m_L_canAll_b81_s hf.1 h, fun _ _ _ _ _ _ _ hF hn hz => b_L_canAll_b81_s hp hk hq hB hf.1 hf.2 hF hn hz⟩) k).2
def f_L_canAll_b21_s (N : Nat) (xs : Nat → Int32) (rec12 : Int32 → Nat → Nat → Int32 → Mem → Option (Int32 × Mem)) (rec21 : Int32 → Nat → Nat → Int32 → Int32 → Mem → Option (Int32 × Mem)) (x1 : Int32) (n3 : Nat) (n4 : Nat) (x5 : Int32) (x6 : Int32) (M : Mem) : Option (Int32 × Mem) :=
  cl (f_L_pairs N xs x1 M) fun r1 M1m =>
  if r1 ≤ x6 then
    bnd (x5 + 1) fun a1 =>
    rec12 x1 n3 n4 a1 M1m
  else
    cl (f_L_second N xs x1 x6 M1m) fun r2 M2m =>
    cl (f_L_second N xs x1 x6 M2m) fun r3 M3m =>
    gd (1000 ≤ n4 ∧ dsc M3m n4 = 20 ∧ n4 - 753 < M3m.2.2.2) <|
    gd (inb r3 (dln M3m n4)) <|
    cl (f_L_first N xs x1 x6 M3m) fun r4 M4m =>
    gd (inb r4 (dln M3m n4)) <|
    gd (inb r2 (dln M3m n4)) <|
    bnd (setI M4m n4 (r2.toNatClampNeg) (max32 (M3m.1 n4 r3.toNatClampNeg) ((M4m.1 n4 r4.toNatClampNeg) + 1))) fun M5m =>
    bnd (x6 + 1) fun a2 =>
    rec21 x1 n3 n4 x5 a2 M5m
set_option maxRecDepth 100000 in
set_option maxHeartbeats 4000000 in
theorem m_L_canAll_b21_s {N : Nat} {xs : Nat → Int32} {rec12 : Int32 → Nat → Nat → Int32 → Mem → Option (Int32 × Mem)} {rec21 : Int32 → Nat → Nat → Int32 → Int32 → Mem → Option (Int32 × Mem)} (G12 : (∀ (x1 : Int32) (n3 : Nat) (n4 : Nat) (x5 : Int32) (M Z : Mem) (r : Int32), rec12 x1 n3 n4 x5 M = some (r, Z) → GX M Z)) (G21 : (∀ (x1 : Int32) (n3 : Nat) (n4 : Nat) (x5 : Int32) (x6 : Int32) (M Z : Mem) (r : Int32), rec21 x1 n3 n4 x5 x6 M = some (r, Z) → GX M Z)) {x1 : Int32} {n3 : Nat} {n4 : Nat} {x5 : Int32} {x6 : Int32} {M Z : Mem} {r : Int32} (h : f_L_canAll_b21_s N xs rec12 rec21 x1 n3 n4 x5 x6 M = some (r, Z)) : GX M Z := by
  unfold f_L_canAll_b21_s at h
  obtain ⟨r1, M1m, c_M1m, h⟩ := clS h
  have q_M1m : GX M M1m := GX.tr (GX.refl M) ((k_L_pairs c_M1m).gx)
  rcases ifS h with ⟨-, h⟩ | ⟨-, h⟩
  · obtain ⟨a1, e_a1, h⟩ := bndS h
    exact GX.tr q_M1m (G12 _ _ _ _ _ _ _ h)
  · obtain ⟨r2, M2m, c_M2m, h⟩ := clS h
    have q_M2m : GX M M2m := GX.tr q_M1m ((k_L_second c_M2m).gx)
    obtain ⟨r3, M3m, c_M3m, h⟩ := clS h
    have q_M3m : GX M M3m := GX.tr q_M2m ((k_L_second c_M3m).gx)
    obtain ⟨gq7, h⟩ := gdS h
    obtain ⟨gq8, h⟩ := gdS h
    obtain ⟨r4, M4m, c_M4m, h⟩ := clS h
    have q_M4m : GX M M4m := GX.tr q_M3m ((k_L_first c_M4m).gx)
    obtain ⟨gq10, h⟩ := gdS h
    obtain ⟨gq11, h⟩ := gdS h
    obtain ⟨M5m, e_M5m, h⟩ := bndS h
    have q_M5m : GX M M5m := GX.tr q_M4m (by rw [e_M5m]; exact (EQ_I _ _ _ _).gx)
    obtain ⟨a2, e_a2, h⟩ := bndS h
    exact GX.tr q_M5m (G21 _ _ _ _ _ _ _ _ h)
set_option maxRecDepth 100000 in
set_option maxHeartbeats 4000000 in
theorem b_L_canAll_b21_s {K : Kt} {X : Xt} (hp : St K) (hk : KC K) {N : Nat} {xs : Nat → Int32} (hq : KScr K N xs) {mc ms : Nat} (hB : Bx K X { frames := 3, cells := mc, slots := ms, locals := 65 } cL_canAll 7 RL (some .boolean)) {r : Int32} {M1 : Mem} {rec12 : Int32 → Nat → Nat → Int32 → Mem → Option (Int32 × Mem)} {rec21 : Int32 → Nat → Nat → Int32 → Int32 → Mem → Option (Int32 × Mem)}
    (G12 : (∀ (x1 : Int32) (n3 : Nat) (n4 : Nat) (x5 : Int32) (M Z : Mem) (r : Int32), rec12 x1 n3 n4 x5 M = some (r, Z) → GX M Z)) (h12 : (∀ (x1 : Int32) (n3 : Nat) (n4 : Nat) (x5 : Int32) (ce sl : Nat) (M : Mem), rec12 x1 n3 n4 x5 M = some (r, M1) → mc + M.2.2.2 = ce + M1.2.2.2 → ms + szM M = sl + szM M1 → Wt K X (QM K X (some (vi r)) M1 mc ms) ce sl M 12 [(0, vr 61), (1, vi x1), (3, vr n3), (4, vr n4), (5, vi x5)] []))
    (G21 : (∀ (x1 : Int32) (n3 : Nat) (n4 : Nat) (x5 : Int32) (x6 : Int32) (M Z : Mem) (r : Int32), rec21 x1 n3 n4 x5 x6 M = some (r, Z) → GX M Z)) (h21 : (∀ (x1 : Int32) (n3 : Nat) (n4 : Nat) (x5 : Int32) (x6 : Int32) (ce sl : Nat) (M : Mem), rec21 x1 n3 n4 x5 x6 M = some (r, M1) → mc + M.2.2.2 = ce + M1.2.2.2 → ms + szM M = sl + szM M1 → Wt K X (QM K X (some (vi r)) M1 mc ms) ce sl M 21 [(0, vr 61), (1, vi x1), (3, vr n3), (4, vr n4), (5, vi x5), (6, vi x6)] [])) {x1 : Int32} {n3 : Nat} {n4 : Nat} {x5 : Int32} {x6 : Int32} {ce sl : Nat} {M : Mem} (hF : f_L_canAll_b21_s N xs rec12 rec21 x1 n3 n4 x5 x6 M = some (r, M1)) (hn : mc + M.2.2.2 = ce + M1.2.2.2) (hz : ms + szM M = sl + szM M1) : Wt K X (QM K X (some (vi r)) M1 mc ms) ce sl M 21 [(0, vr 61), (1, vi x1), (3, vr n3), (4, vr n4), (5, vi x5), (6, vi x6)] [] := by
  have hg := m_L_canAll_b21_s G12 G21 hF
  have hg1 := hg.1
  have hg2 := hg.2.1
  unfold f_L_canAll_b21_s at hF
  refine w_iload hB 5 dL_canAll_21 rfl ?_
  refine w_aload_n hB 0 dL_canAll_23 rfl rfl ?_
  refine w_iload_n hB 1 dL_canAll_24 rfl rfl ?_
  obtain ⟨r1, M1m, hc_M1m, hF⟩ := clS hF
  have q_M1m : EQ M M1m := k_L_pairs hc_M1m
  have x_M1m := q_M1m.gx
  have n_M1m := q_M1m.1
  have z_M1m := q_M1m.sz
  refine w_callS (M1 := M1m) hB (As := [vr 61, vi x1]) (st := [vi x6]) cw_L_194 q_1193 (c_L_pairs hp hq hc_M1m) ⟨rfl, rfl⟩ ⟨Nat.le_of_ble_eq_true rfl, Nat.le_of_ble_eq_true rfl⟩ ⟨show ce ≤ mc by omega, show sl ≤ ms by omega⟩ rfl (Nat.le_of_ble_eq_true rfl) dL_canAll_25 rfl ?_ (Or.inl rfl)
  refine w_icmp_ge hB 72 dL_canAll_28 (by decide) (fun hc => ?_) (fun hc => ?_)
  · replace hF := ifT hc hF
    obtain ⟨a1, e_a1, hF⟩ := bndS hF
    refine w_iinc hB 4 (v := 1) (L' := [(5, vi a1), (0, vr 61), (1, vi x1), (3, vr n3), (4, vr n4), (6, vi x6)]) dL_canAll_72 rfl (by decide) (by decide) e_a1 rfl ?_
    refine w_goto hB 12 dL_canAll_75 (by decide) ?_
    exact Wt.sub (L' := [(0, vr 61), (1, vi x1), (3, vr n3), (4, vr n4), (5, vi a1)]) [1, 2, 3, 4, 0] rfl (h12 _ _ _ _ _ _ M1m hF (by omega) (by omega))
  · replace hF := ifF hc hF
    refine w_aload hB 3 dL_canAll_31 rfl ?_
    refine w_aload_n hB 0 dL_canAll_33 rfl rfl ?_
    refine w_iload_n hB 1 dL_canAll_34 rfl rfl ?_
    refine w_iload hB 5 dL_canAll_35 rfl ?_
    obtain ⟨r2, M2m, hc_M2m, hF⟩ := clS hF
    have q_M2m : EQ M1m M2m := k_L_second hc_M2m
    have x_M2m := q_M2m.gx
    have n_M2m := q_M2m.1
    have z_M2m := q_M2m.sz
    refine w_callS (M1 := M2m) hB (As := [vr 61, vi x1, vi x6]) (st := [vr n4]) cw_L_200 q_1199 (c_L_second hp hq hc_M2m) ⟨rfl, rfl⟩ ⟨Nat.le_of_ble_eq_true rfl, Nat.le_of_ble_eq_true rfl⟩ ⟨show ce ≤ mc by omega, show sl ≤ ms by omega⟩ rfl (Nat.le_of_ble_eq_true rfl) dL_canAll_37 rfl ?_ (Or.inl rfl)
    refine w_aload hB 3 dL_canAll_40 rfl ?_
    refine w_aload_n hB 0 dL_canAll_42 rfl rfl ?_
    refine w_iload_n hB 1 dL_canAll_43 rfl rfl ?_
    refine w_iload hB 5 dL_canAll_44 rfl ?_
    obtain ⟨r3, M3m, hc_M3m, hF⟩ := clS hF
    have q_M3m : EQ M2m M3m := k_L_second hc_M3m
    have x_M3m := q_M3m.gx
    have n_M3m := q_M3m.1
    have z_M3m := q_M3m.sz
    refine w_callS (M1 := M3m) hB (As := [vr 61, vi x1, vi x6]) (st := [vr n4, vi r2, vr n4]) cw_L_200 q_1199 (c_L_second hp hq hc_M3m) ⟨rfl, rfl⟩ ⟨Nat.le_of_ble_eq_true rfl, Nat.le_of_ble_eq_true rfl⟩ ⟨show ce ≤ mc by omega, show sl ≤ ms by omega⟩ rfl (Nat.le_of_ble_eq_true rfl) dL_canAll_46 rfl ?_ (Or.inl rfl)
    obtain ⟨g1, hF⟩ := gdS hF
    obtain ⟨g2, hF⟩ := gdS hF
    refine w_iald hB (dqM g1) (sl_d g1.1 rfl) g2 dL_canAll_49 ?_
    refine w_aload hB 3 dL_canAll_50 rfl ?_
    refine w_aload_n hB 0 dL_canAll_52 rfl rfl ?_
    refine w_iload_n hB 1 dL_canAll_53 rfl rfl ?_
    refine w_iload hB 5 dL_canAll_54 rfl ?_
    obtain ⟨r4, M4m, hc_M4m, hF⟩ := clS hF
    have q_M4m : EQ M3m M4m := k_L_first hc_M4m
    have x_M4m := q_M4m.gx
    have n_M4m := q_M4m.1
    have z_M4m := q_M4m.sz
    refine w_callS (M1 := M4m) hB (As := [vr 61, vi x1, vi x6]) (st := [vr n4, vi (M3m.1 n4 r3.toNatClampNeg), vi r2, vr n4]) cw_L_197 q_1196 (c_L_first hp hq hc_M4m) ⟨rfl, rfl⟩ ⟨Nat.le_of_ble_eq_true rfl, Nat.le_of_ble_eq_true rfl⟩ ⟨show ce ≤ mc by omega, show sl ≤ ms by omega⟩ rfl (Nat.le_of_ble_eq_true rfl) dL_canAll_56 rfl ?_ (Or.inl rfl)
    obtain ⟨g3, hF⟩ := gdS hF
    refine w_iald hB (dqM (GX.dyo x_M4m g1)) (sl_d (GX.dyo x_M4m g1).1 (GX.dl x_M4m g1 rfl)) g3 dL_canAll_59 ?_
    refine w_iconst hB 1 (by decide) dL_canAll_60 ?_
    refine w_iadd hB dL_canAll_61 ?_
    refine w_max hB q_1188 (Nat.le_of_ble_eq_true rfl) (Nat.le_of_ble_eq_true rfl) ⟨show ce ≤ mc by omega, show sl ≤ ms by omega⟩ dL_canAll_62 ?_
    obtain ⟨g4, hF⟩ := gdS hF
    obtain ⟨M5m, e_M5m, hF⟩ := bndS hF
    have q_M5m : EQ M4m M5m := by rw [e_M5m]; exact EQ_I _ _ _ _
    have x_M5m := q_M5m.gx
    have n_M5m := q_M5m.1
    have z_M5m := q_M5m.sz
    refine w_iast hB (dqM (GX.dyo x_M4m g1)) (sl_d (GX.dyo x_M4m g1).1 (GX.dl x_M4m g1 rfl)) g4 e_M5m dL_canAll_65 ?_
    obtain ⟨a2, e_a2, hF⟩ := bndS hF
    refine w_iinc hB 5 (v := 1) (L' := [(6, vi a2), (0, vr 61), (1, vi x1), (3, vr n3), (4, vr n4), (5, vi x5)]) dL_canAll_66 rfl (by decide) (by decide) e_a2 rfl ?_
    refine w_goto hB 21 dL_canAll_69 (by decide) ?_
    exact Wt.sub (L' := [(0, vr 61), (1, vi x1), (3, vr n3), (4, vr n4), (5, vi x5), (6, vi a2)]) [1, 2, 3, 4, 5, 0] rfl (h21 _ _ _ _ _ _ _ M5m hF (by omega) (by omega))
def f_L_canAll_b21 (N : Nat) (xs : Nat → Int32) (rec12 : Int32 → Nat → Nat → Int32 → Mem → Option (Int32 × Mem)) (k : Nat) : Int32 → Nat → Nat → Int32 → Int32 → Mem → Option (Int32 × Mem) := lpN (fun _ _ _ _ _ _ => none) (f_L_canAll_b21_s N xs rec12) k
theorem m_L_canAll_b21 {N : Nat} {xs : Nat → Int32} {rec12 : Int32 → Nat → Nat → Int32 → Mem → Option (Int32 × Mem)} (G12 : (∀ (x1 : Int32) (n3 : Nat) (n4 : Nat) (x5 : Int32) (M Z : Mem) (r : Int32), rec12 x1 n3 n4 x5 M = some (r, Z) → GX M Z)) (k : Nat) : (∀ (x1 : Int32) (n3 : Nat) (n4 : Nat) (x5 : Int32) (x6 : Int32) (M Z : Mem) (r : Int32), f_L_canAll_b21 N xs rec12 k x1 n3 n4 x5 x6 M = some (r, Z) → GX M Z) :=
  lpN_ind (P := fun (f : Int32 → Nat → Nat → Int32 → Int32 → Mem → Option (Int32 × Mem)) => (∀ (x1 : Int32) (n3 : Nat) (n4 : Nat) (x5 : Int32) (x6 : Int32) (M Z : Mem) (r : Int32), f x1 n3 n4 x5 x6 M = some (r, Z) → GX M Z)) (fun _ _ _ _ _ _ _ _ h => by cases h) (fun f hf _ _ _ _ _ _ _ _ h => m_L_canAll_b21_s G12 hf h) k
theorem b_L_canAll_b21 {K : Kt} {X : Xt} (hp : St K) (hk : KC K) {N : Nat} {xs : Nat → Int32} (hq : KScr K N xs) {mc ms : Nat} (hB : Bx K X { frames := 3, cells := mc, slots := ms, locals := 65 } cL_canAll 7 RL (some .boolean)) {r : Int32} {M1 : Mem} {rec12 : Int32 → Nat → Nat → Int32 → Mem → Option (Int32 × Mem)}
    (G12 : (∀ (x1 : Int32) (n3 : Nat) (n4 : Nat) (x5 : Int32) (M Z : Mem) (r : Int32), rec12 x1 n3 n4 x5 M = some (r, Z) → GX M Z)) (h12 : (∀ (x1 : Int32) (n3 : Nat) (n4 : Nat) (x5 : Int32) (ce sl : Nat) (M : Mem), rec12 x1 n3 n4 x5 M = some (r, M1) → mc + M.2.2.2 = ce + M1.2.2.2 → ms + szM M = sl + szM M1 → Wt K X (QM K X (some (vi r)) M1 mc ms) ce sl M 12 [(0, vr 61), (1, vi x1), (3, vr n3), (4, vr n4), (5, vi x5)] [])) (k : Nat) : (∀ (x1 : Int32) (n3 : Nat) (n4 : Nat) (x5 : Int32) (x6 : Int32) (ce sl : Nat) (M : Mem), f_L_canAll_b21 N xs rec12 k x1 n3 n4 x5 x6 M = some (r, M1) → mc + M.2.2.2 = ce + M1.2.2.2 → ms + szM M = sl + szM M1 → Wt K X (QM K X (some (vi r)) M1 mc ms) ce sl M 21 [(0, vr 61), (1, vi x1), (3, vr n3), (4, vr n4), (5, vi x5), (6, vi x6)] []) :=
  (lpN_ind (P := fun (f : Int32 → Nat → Nat → Int32 → Int32 → Mem → Option (Int32 × Mem)) => (∀ (x1 : Int32) (n3 : Nat) (n4 : Nat) (x5 : Int32) (x6 : Int32) (M Z : Mem) (r : Int32), f x1 n3 n4 x5 x6 M = some (r, Z) → GX M Z) ∧ (∀ (x1 : Int32) (n3 : Nat) (n4 : Nat) (x5 : Int32) (x6 : Int32) (ce sl : Nat) (M : Mem), f x1 n3 n4 x5 x6 M = some (r, M1) → mc + M.2.2.2 = ce + M1.2.2.2 → ms + szM M = sl + szM M1 → Wt K X (QM K X (some (vi r)) M1 mc ms) ce sl M 21 [(0, vr 61), (1, vi x1), (3, vr n3), (4, vr n4), (5, vi x5), (6, vi x6)] [])) ⟨fun _ _ _ _ _ _ _ _ h => (by cases h), fun _ _ _ _ _ _ _ _ h _ _ => (by cases h)⟩ (fun f hf => ⟨fun _ _ _ _ _ _ _ _ h => m_L_canAll_b21_s G12 hf.1 h, fun _ _ _ _ _ _ _ _ hF hn hz => b_L_canAll_b21_s hp hk hq hB G12 h12 hf.1 hf.2 hF hn hz⟩) k).2
def f_L_canAll_b12_s (N : Nat) (xs : Nat → Int32) (rec12 : Int32 → Nat → Nat → Int32 → Mem → Option (Int32 × Mem)) (x1 : Int32) (n3 : Nat) (n4 : Nat) (x5 : Int32) (M : Mem) : Option (Int32 × Mem) :=
  if 5 ≤ x5 then
    f_L_canAll_b81 N xs fuel x1 n3 n4 0 M
  else
    f_L_canAll_b21 N xs rec12 fuel x1 n3 n4 x5 0 M
set_option maxRecDepth 100000 in
set_option maxHeartbeats 4000000 in
theorem m_L_canAll_b12_s {N : Nat} {xs : Nat → Int32} {rec12 : Int32 → Nat → Nat → Int32 → Mem → Option (Int32 × Mem)} (G12 : (∀ (x1 : Int32) (n3 : Nat) (n4 : Nat) (x5 : Int32) (M Z : Mem) (r : Int32), rec12 x1 n3 n4 x5 M = some (r, Z) → GX M Z)) {x1 : Int32} {n3 : Nat} {n4 : Nat} {x5 : Int32} {M Z : Mem} {r : Int32} (h : f_L_canAll_b12_s N xs rec12 x1 n3 n4 x5 M = some (r, Z)) : GX M Z := by
  unfold f_L_canAll_b12_s at h
  rcases ifS h with ⟨-, h⟩ | ⟨-, h⟩
  · exact GX.tr (GX.refl M) (m_L_canAll_b81 _ _ _ _ _ _ _ _ h)
  · exact GX.tr (GX.refl M) (m_L_canAll_b21 G12 _ _ _ _ _ _ _ _ _ h)
set_option maxRecDepth 100000 in
set_option maxHeartbeats 4000000 in
theorem b_L_canAll_b12_s {K : Kt} {X : Xt} (hp : St K) (hk : KC K) {N : Nat} {xs : Nat → Int32} (hq : KScr K N xs) {mc ms : Nat} (hB : Bx K X { frames := 3, cells := mc, slots := ms, locals := 65 } cL_canAll 7 RL (some .boolean)) {r : Int32} {M1 : Mem} {rec12 : Int32 → Nat → Nat → Int32 → Mem → Option (Int32 × Mem)}
    (G12 : (∀ (x1 : Int32) (n3 : Nat) (n4 : Nat) (x5 : Int32) (M Z : Mem) (r : Int32), rec12 x1 n3 n4 x5 M = some (r, Z) → GX M Z)) (h12 : (∀ (x1 : Int32) (n3 : Nat) (n4 : Nat) (x5 : Int32) (ce sl : Nat) (M : Mem), rec12 x1 n3 n4 x5 M = some (r, M1) → mc + M.2.2.2 = ce + M1.2.2.2 → ms + szM M = sl + szM M1 → Wt K X (QM K X (some (vi r)) M1 mc ms) ce sl M 12 [(0, vr 61), (1, vi x1), (3, vr n3), (4, vr n4), (5, vi x5)] [])) {x1 : Int32} {n3 : Nat} {n4 : Nat} {x5 : Int32} {ce sl : Nat} {M : Mem} (hF : f_L_canAll_b12_s N xs rec12 x1 n3 n4 x5 M = some (r, M1)) (hn : mc + M.2.2.2 = ce + M1.2.2.2) (hz : ms + szM M = sl + szM M1) : Wt K X (QM K X (some (vi r)) M1 mc ms) ce sl M 12 [(0, vr 61), (1, vi x1), (3, vr n3), (4, vr n4), (5, vi x5)] [] := by
  have hg := m_L_canAll_b12_s G12 hF
  have hg1 := hg.1
  have hg2 := hg.2.1
  unfold f_L_canAll_b12_s at hF
  refine w_iload hB 4 dL_canAll_12 rfl ?_
  refine w_iconst hB 5 (by decide) dL_canAll_14 ?_
  refine w_icmp_ge hB 78 dL_canAll_15 (by decide) (fun hc => ?_) (fun hc => ?_)
  · replace hF := ifT hc hF
    refine w_iconst hB 0 (by decide) dL_canAll_78 ?_
    refine w_istore hB (L' := [(5, vi 0), (0, vr 61), (1, vi x1), (3, vr n3), (4, vr n4)]) dL_canAll_79 (by decide) rfl rfl ?_
    exact Wt.sub (L' := [(0, vr 61), (1, vi x1), (3, vr n3), (4, vr n4), (5, vi 0)]) [1, 2, 3, 4, 0] rfl (b_L_canAll_b81 hp hk hq hB fuel _ _ _ _ _ _ M hF (by omega) (by omega))
  · replace hF := ifF hc hF
    refine w_iconst hB 0 (by decide) dL_canAll_18 ?_
    refine w_istore hB (L' := [(6, vi 0), (0, vr 61), (1, vi x1), (3, vr n3), (4, vr n4), (5, vi x5)]) dL_canAll_19 (by decide) rfl rfl ?_
    exact Wt.sub (L' := [(0, vr 61), (1, vi x1), (3, vr n3), (4, vr n4), (5, vi x5), (6, vi 0)]) [1, 2, 3, 4, 5, 0] rfl (b_L_canAll_b21 hp hk hq hB G12 h12 fuel _ _ _ _ _ _ _ M hF (by omega) (by omega))
def f_L_canAll_b12 (N : Nat) (xs : Nat → Int32) (k : Nat) : Int32 → Nat → Nat → Int32 → Mem → Option (Int32 × Mem) := lpN (fun _ _ _ _ _ => none) (f_L_canAll_b12_s N xs) k
theorem m_L_canAll_b12 {N : Nat} {xs : Nat → Int32} (k : Nat) : (∀ (x1 : Int32) (n3 : Nat) (n4 : Nat) (x5 : Int32) (M Z : Mem) (r : Int32), f_L_canAll_b12 N xs k x1 n3 n4 x5 M = some (r, Z) → GX M Z) :=
  lpN_ind (P := fun (f : Int32 → Nat → Nat → Int32 → Mem → Option (Int32 × Mem)) => (∀ (x1 : Int32) (n3 : Nat) (n4 : Nat) (x5 : Int32) (M Z : Mem) (r : Int32), f x1 n3 n4 x5 M = some (r, Z) → GX M Z)) (fun _ _ _ _ _ _ _ h => by cases h) (fun f hf _ _ _ _ _ _ _ h => m_L_canAll_b12_s hf h) k
theorem b_L_canAll_b12 {K : Kt} {X : Xt} (hp : St K) (hk : KC K) {N : Nat} {xs : Nat → Int32} (hq : KScr K N xs) {mc ms : Nat} (hB : Bx K X { frames := 3, cells := mc, slots := ms, locals := 65 } cL_canAll 7 RL (some .boolean)) {r : Int32} {M1 : Mem} (k : Nat) : (∀ (x1 : Int32) (n3 : Nat) (n4 : Nat) (x5 : Int32) (ce sl : Nat) (M : Mem), f_L_canAll_b12 N xs k x1 n3 n4 x5 M = some (r, M1) → mc + M.2.2.2 = ce + M1.2.2.2 → ms + szM M = sl + szM M1 → Wt K X (QM K X (some (vi r)) M1 mc ms) ce sl M 12 [(0, vr 61), (1, vi x1), (3, vr n3), (4, vr n4), (5, vi x5)] []) :=
  (lpN_ind (P := fun (f : Int32 → Nat → Nat → Int32 → Mem → Option (Int32 × Mem)) => (∀ (x1 : Int32) (n3 : Nat) (n4 : Nat) (x5 : Int32) (M Z : Mem) (r : Int32), f x1 n3 n4 x5 M = some (r, Z) → GX M Z) ∧ (∀ (x1 : Int32) (n3 : Nat) (n4 : Nat) (x5 : Int32) (ce sl : Nat) (M : Mem), f x1 n3 n4 x5 M = some (r, M1) → mc + M.2.2.2 = ce + M1.2.2.2 → ms + szM M = sl + szM M1 → Wt K X (QM K X (some (vi r)) M1 mc ms) ce sl M 12 [(0, vr 61), (1, vi x1), (3, vr n3), (4, vr n4), (5, vi x5)] [])) ⟨fun _ _ _ _ _ _ _ h => (by cases h), fun _ _ _ _ _ _ _ h _ _ => (by cases h)⟩ (fun f hf => ⟨fun _ _ _ _ _ _ _ h => m_L_canAll_b12_s hf.1 h, fun _ _ _ _ _ _ _ hF hn hz => b_L_canAll_b12_s hp hk hq hB hf.1 hf.2 hF hn hz⟩) k).2
def f_L_canAll_b4 (N : Nat) (xs : Nat → Int32) (x1 : Int32) (n3 : Nat) (ns0 : Nat) (M : Mem) : Option (Int32 × Mem) :=
  gd (1000 ≤ ns0 ∧ dsc M ns0 = 20 ∧ ns0 - 753 < M.2.2.2) <|
  f_L_canAll_b12 N xs fuel x1 n3 ns0 0 M
set_option maxRecDepth 100000 in
set_option maxHeartbeats 4000000 in
theorem m_L_canAll_b4 {N : Nat} {xs : Nat → Int32} {x1 : Int32} {n3 : Nat} {ns0 : Nat} {M Z : Mem} {r : Int32} (h : f_L_canAll_b4 N xs x1 n3 ns0 M = some (r, Z)) : GX M Z := by
  unfold f_L_canAll_b4 at h
  obtain ⟨gq0, h⟩ := gdS h
  exact GX.tr (GX.refl M) (m_L_canAll_b12 _ _ _ _ _ _ _ _ h)
set_option maxRecDepth 100000 in
set_option maxHeartbeats 4000000 in
theorem b_L_canAll_b4 {K : Kt} {X : Xt} (hp : St K) (hk : KC K) {N : Nat} {xs : Nat → Int32} (hq : KScr K N xs) {mc ms : Nat} (hB : Bx K X { frames := 3, cells := mc, slots := ms, locals := 65 } cL_canAll 7 RL (some .boolean)) {r : Int32} {M1 : Mem} {x1 : Int32} {n3 : Nat} {ns0 : Nat} {ce sl : Nat} {M : Mem} (hF : f_L_canAll_b4 N xs x1 n3 ns0 M = some (r, M1)) (hn : mc + M.2.2.2 = ce + M1.2.2.2) (hz : ms + szM M = sl + szM M1) : Wt K X (QM K X (some (vi r)) M1 mc ms) ce sl M 4 [(0, vr 61), (1, vi x1), (3, vr n3)] [vr ns0] := by
  have hg := m_L_canAll_b4 hF
  have hg1 := hg.1
  have hg2 := hg.2.1
  unfold f_L_canAll_b4 at hF
  obtain ⟨g1, hF⟩ := gdS hF
  refine w_castA hB (c := 0) (by decide) (dqM g1) q_1208 ((hB.2.2.2.2.2.1).K.2 0 _ rfl).2 dL_canAll_4 ?_
  refine w_astore hB (L' := [(4, vr ns0), (0, vr 61), (1, vi x1), (3, vr n3)]) dL_canAll_7 (by decide) rfl ?_
  refine w_iconst hB 0 (by decide) dL_canAll_9 ?_
  refine w_istore hB (L' := [(5, vi 0), (4, vr ns0), (0, vr 61), (1, vi x1), (3, vr n3)]) dL_canAll_10 (by decide) rfl rfl ?_
  exact Wt.sub (L' := [(0, vr 61), (1, vi x1), (3, vr n3), (4, vr ns0), (5, vi 0)]) [2, 3, 4, 1, 0] rfl (b_L_canAll_b12 hp hk hq hB fuel _ _ _ _ _ _ M hF (by omega) (by omega))
def f_L_canAll (N : Nat) (xs : Nat → Int32) (x1 : Int32) (n2 : Nat) (n3 : Nat) (M : Mem) : Option (Int32 × Mem) :=
  gd (1000 ≤ n2 ∧ dsc M n2 = 20 ∧ n2 - 753 < M.2.2.2) <|
  bnd (cpRow n2 (nn M) (nwA 20 (dln M n2) (dln M n2) M)) fun M1m =>
  f_L_canAll_b4 N xs x1 n3 (nn M) M1m
set_option maxRecDepth 100000 in
set_option maxHeartbeats 4000000 in
theorem m_L_canAll {N : Nat} {xs : Nat → Int32} {x1 : Int32} {n2 : Nat} {n3 : Nat} {M Z : Mem} {r : Int32} (h : f_L_canAll N xs x1 n2 n3 M = some (r, Z)) : GX M Z := by
  unfold f_L_canAll at h
  obtain ⟨gq0, h⟩ := gdS h
  obtain ⟨M1m, e_M1m, h⟩ := bndS h
  have q_M1m : GX M M1m := GX.tr (GX.refl M) (by rw [e_M1m]; exact GX_cl _ _ _ _ _)
  exact GX.tr q_M1m (m_L_canAll_b4 h)
set_option maxRecDepth 100000 in
set_option maxHeartbeats 4000000 in
theorem b_L_canAll {K : Kt} {X : Xt} (hp : St K) (hk : KC K) {N : Nat} {xs : Nat → Int32} (hq : KScr K N xs) {mc ms : Nat} (hB : Bx K X { frames := 3, cells := mc, slots := ms, locals := 65 } cL_canAll 7 RL (some .boolean)) {r : Int32} {M1 : Mem} {x1 : Int32} {n2 : Nat} {n3 : Nat} {ce sl : Nat} {M : Mem} (hF : f_L_canAll N xs x1 n2 n3 M = some (r, M1)) (hn : mc + M.2.2.2 = ce + M1.2.2.2) (hz : ms + szM M = sl + szM M1) : Wt K X (QM K X (some (vi r)) M1 mc ms) ce sl M 0 [(0, vr 61), (1, vi x1), (2, vr n2), (3, vr n3)] [] := by
  have hg := m_L_canAll hF
  have hg1 := hg.1
  have hg2 := hg.2.1
  unfold f_L_canAll at hF
  refine w_aload_n hB 2 dL_canAll_0 rfl rfl ?_
  obtain ⟨g1, hF⟩ := gdS hF
  obtain ⟨M1m, e_M1m, hF⟩ := bndS hF
  have x_M1m : GX M M1m := by rw [e_M1m]; exact GX_cl _ _ _ _ _
  have n_M1m : M1m.2.2.2 = M.2.2.2 + 1 := by rw [e_M1m]; exact (EQ_cpRow _ _ _).1.trans nwA_cn
  have z_M1m : szM M1m = szM M + (dln M n2) := by rw [e_M1m]; exact (EQ_cpRow _ _ _).sz.trans nwA_sz
  have hg3 := m_L_canAll_b4 hF
  have hg4 := hg3.1
  have hg5 := hg3.2.1
  refine w_clone hB hp.1 (c := 0) (ty := .int) (len := dln M n2) (by decide) rfl (dqM g1) (sl_d g1.1 rfl) e_M1m (fun _ _ => rfl) ((hB.2.2.2.2.2.1).K.2 0 _ rfl).2 q_1204 q_1205 q_646 q_647 q_1206 (va_Nw.warmC hB.2.2.2.2.2.1.1 hk.2.1) (Nat.le_of_ble_eq_true rfl) (Nat.le_of_ble_eq_true rfl) ⟨show ce + 1 ≤ mc by omega, show sl + (dln M n2) ≤ ms by omega⟩ dL_canAll_1 ?_
  exact Wt.sub (L' := [(0, vr 61), (1, vi x1), (3, vr n3)]) [0, 1, 3] rfl (b_L_canAll_b4 hp hk hq hB hF (by omega) (by omega))
theorem c_L_canAll {K : Kt} {l : Launch} (hp : St K) (hk : KC K) {N : Nat} {xs : Nat → Int32} (hq : KScr K N xs) {r : Int32} {M1 : Mem} {x1 : Int32} {n2 : Nat} {n3 : Nat} {M : Mem} (hF : f_L_canAll N xs x1 n2 n3 M = some (r, M1)) : MT K l yL_canAll cL_canAll 7 (some .boolean) { frames := 3, cells := M1.2.2.2 - M.2.2.2, slots := szM M1 - szM M, locals := 65 } [vr 61, vi x1, vr n2, vr n3] M (some (vi r)) M1 (M1.2.2.2 - M.2.2.2) (szM M1 - szM M) := by
  have hg := m_L_canAll hF
  have hg1 := hg.1
  have hg2 := hg.2.1
  exact MT_of (by decide) rfl (Nat.le_of_ble_eq_true rfl) (fun X _ hB _ => b_L_canAll hp hk hq hB hF (by omega) (by omega))
