/-! areClocks -/
def f_L_areClocks_b198 (N : Nat) (xs : Nat → Int32) (rec140 : Nat → Nat → Int32 → Mem → Option (Int32 × Mem)) (n3 : Nat) (n4 : Nat) (x5 : Int32) (xs0 : Int32) (xs1 : Int32) (M : Mem) : Option (Int32 × Mem) :=
  if xs0 = xs1 then
    bnd (x5 + 1) fun a1 =>
    rec140 n3 n4 a1 M
  else
    some (0, M)
set_option maxRecDepth 100000 in
set_option maxHeartbeats 4000000 in
theorem m_L_areClocks_b198 {N : Nat} {xs : Nat → Int32} {rec140 : Nat → Nat → Int32 → Mem → Option (Int32 × Mem)} (G140 : (∀ (n3 : Nat) (n4 : Nat) (x5 : Int32) (M Z : Mem) (r : Int32), rec140 n3 n4 x5 M = some (r, Z) → GX M Z)) {n3 : Nat} {n4 : Nat} {x5 : Int32} {xs0 : Int32} {xs1 : Int32} {M Z : Mem} {r : Int32} (h : f_L_areClocks_b198 N xs rec140 n3 n4 x5 xs0 xs1 M = some (r, Z)) : GX M Z := by
  unfold f_L_areClocks_b198 at h
  rcases ifS h with ⟨-, h⟩ | ⟨-, h⟩
  · obtain ⟨a1, e_a1, h⟩ := bndS h
    exact GX.tr (GX.refl M) (G140 _ _ _ _ _ _ h)
  · obtain ⟨-, e⟩ := retS h
    rw [← e]
    exact (GX.refl M)
set_option maxRecDepth 100000 in
set_option maxHeartbeats 4000000 in
theorem b_L_areClocks_b198 {K : Kt} {X : Xt} (hp : St K) (hk : KC K) {N : Nat} {xs : Nat → Int32} (hq : KScr K N xs) {mc ms : Nat} (hB : Bx K X { frames := 3, cells := mc, slots := ms, locals := 68 } cL_areClocks 6 RL (some .boolean)) {r : Int32} {M1 : Mem} {rec140 : Nat → Nat → Int32 → Mem → Option (Int32 × Mem)}
    (G140 : (∀ (n3 : Nat) (n4 : Nat) (x5 : Int32) (M Z : Mem) (r : Int32), rec140 n3 n4 x5 M = some (r, Z) → GX M Z)) (h140 : (∀ (n3 : Nat) (n4 : Nat) (x5 : Int32) (ce sl : Nat) (M : Mem), rec140 n3 n4 x5 M = some (r, M1) → mc + M.2.2.2 = ce + M1.2.2.2 → ms + szM M = sl + szM M1 → Wt K X (QM K X (some (vi r)) M1 mc ms) ce sl M 140 [(0, vr 64), (3, vr n3), (4, vr n4), (5, vi x5)] [])) {n3 : Nat} {n4 : Nat} {x5 : Int32} {xs0 : Int32} {xs1 : Int32} {ce sl : Nat} {M : Mem} (hF : f_L_areClocks_b198 N xs rec140 n3 n4 x5 xs0 xs1 M = some (r, M1)) (hn : mc + M.2.2.2 = ce + M1.2.2.2) (hz : ms + szM M = sl + szM M1) : Wt K X (QM K X (some (vi r)) M1 mc ms) ce sl M 198 [(0, vr 64), (3, vr n3), (4, vr n4), (5, vi x5)] [vi xs1, vi xs0] := by
  have hg := m_L_areClocks_b198 G140 hF
  have hg1 := hg.1
  have hg2 := hg.2.1
  unfold f_L_areClocks_b198 at hF
  refine w_icmp_eq hB 203 dL_areClocks_198 (by decide) (fun hc => ?_) (fun hc => ?_)
  · replace hF := ifT hc hF
    obtain ⟨a1, e_a1, hF⟩ := bndS hF
    refine w_iinc hB 3 (v := 1) (L' := [(5, vi a1), (0, vr 64), (3, vr n3), (4, vr n4)]) dL_areClocks_203 rfl (by decide) (by decide) e_a1 rfl ?_
    refine w_goto hB 140 dL_areClocks_206 (by decide) ?_
    exact Wt.sub (L' := [(0, vr 64), (3, vr n3), (4, vr n4), (5, vi a1)]) [1, 2, 3, 0] rfl (h140 _ _ _ _ _ M hF (by omega) (by omega))
  · replace hF := ifF hc hF
    refine w_iconst hB 0 (by decide) dL_areClocks_201 ?_
    obtain ⟨e1, e2⟩ := retS hF
    subst e2
    have hmc : mc = ce := by omega
    have hms : ms = sl := by omega
    subst hmc
    subst hms
    exact w_zret hB (by decide) dL_areClocks_202 e1
def f_L_areClocks_b170 (N : Nat) (xs : Nat → Int32) (rec140 : Nat → Nat → Int32 → Mem → Option (Int32 × Mem)) (n3 : Nat) (n4 : Nat) (x5 : Int32) (xs0 : Int32) (xs1 : Int32) (M : Mem) : Option (Int32 × Mem) :=
  if xs0 = xs1 then
    cl (f_X10_camera x5 3 M) fun r1 M1m =>
    gd (1000 ≤ n4 ∧ dsc M1m n4 = 20 ∧ n4 - 753 < M1m.2.2.2) <|
    gd (inb x5 (dln M1m n4)) <|
    if 0 ≤ (M1m.1 n4 x5.toNatClampNeg) then
      f_L_areClocks_b198 N xs rec140 n3 n4 x5 r1 (M1m.1 n4 x5.toNatClampNeg) M1m
    else
      f_L_areClocks_b198 N xs rec140 n3 n4 x5 r1 (-2) M1m
  else
    some (0, M)
set_option maxRecDepth 100000 in
set_option maxHeartbeats 4000000 in
theorem m_L_areClocks_b170 {N : Nat} {xs : Nat → Int32} {rec140 : Nat → Nat → Int32 → Mem → Option (Int32 × Mem)} (G140 : (∀ (n3 : Nat) (n4 : Nat) (x5 : Int32) (M Z : Mem) (r : Int32), rec140 n3 n4 x5 M = some (r, Z) → GX M Z)) {n3 : Nat} {n4 : Nat} {x5 : Int32} {xs0 : Int32} {xs1 : Int32} {M Z : Mem} {r : Int32} (h : f_L_areClocks_b170 N xs rec140 n3 n4 x5 xs0 xs1 M = some (r, Z)) : GX M Z := by
  unfold f_L_areClocks_b170 at h
  rcases ifS h with ⟨-, h⟩ | ⟨-, h⟩
  · obtain ⟨r1, M1m, c_M1m, h⟩ := clS h
    have q_M1m : GX M M1m := GX.tr (GX.refl M) ((k_X10_camera c_M1m).gx)
    obtain ⟨gq2, h⟩ := gdS h
    obtain ⟨gq3, h⟩ := gdS h
    rcases ifS h with ⟨-, h⟩ | ⟨-, h⟩
    · exact GX.tr q_M1m (m_L_areClocks_b198 G140 h)
    · exact GX.tr q_M1m (m_L_areClocks_b198 G140 h)
  · obtain ⟨-, e⟩ := retS h
    rw [← e]
    exact (GX.refl M)
set_option maxRecDepth 100000 in
set_option maxHeartbeats 4000000 in
theorem b_L_areClocks_b170 {K : Kt} {X : Xt} (hp : St K) (hk : KC K) {N : Nat} {xs : Nat → Int32} (hq : KScr K N xs) {mc ms : Nat} (hB : Bx K X { frames := 3, cells := mc, slots := ms, locals := 68 } cL_areClocks 6 RL (some .boolean)) {r : Int32} {M1 : Mem} {rec140 : Nat → Nat → Int32 → Mem → Option (Int32 × Mem)}
    (G140 : (∀ (n3 : Nat) (n4 : Nat) (x5 : Int32) (M Z : Mem) (r : Int32), rec140 n3 n4 x5 M = some (r, Z) → GX M Z)) (h140 : (∀ (n3 : Nat) (n4 : Nat) (x5 : Int32) (ce sl : Nat) (M : Mem), rec140 n3 n4 x5 M = some (r, M1) → mc + M.2.2.2 = ce + M1.2.2.2 → ms + szM M = sl + szM M1 → Wt K X (QM K X (some (vi r)) M1 mc ms) ce sl M 140 [(0, vr 64), (3, vr n3), (4, vr n4), (5, vi x5)] [])) {n3 : Nat} {n4 : Nat} {x5 : Int32} {xs0 : Int32} {xs1 : Int32} {ce sl : Nat} {M : Mem} (hF : f_L_areClocks_b170 N xs rec140 n3 n4 x5 xs0 xs1 M = some (r, M1)) (hn : mc + M.2.2.2 = ce + M1.2.2.2) (hz : ms + szM M = sl + szM M1) : Wt K X (QM K X (some (vi r)) M1 mc ms) ce sl M 170 [(0, vr 64), (3, vr n3), (4, vr n4), (5, vi x5)] [vi xs1, vi xs0] := by
  have hg := m_L_areClocks_b170 G140 hF
  have hg1 := hg.1
  have hg2 := hg.2.1
  unfold f_L_areClocks_b170 at hF
  refine w_icmp_ne hB 201 dL_areClocks_170 (by decide) (fun hc => ?_) (fun hc => ?_)
  · replace hF := ifF hc hF
    refine w_iconst hB 0 (by decide) dL_areClocks_201 ?_
    obtain ⟨e1, e2⟩ := retS hF
    subst e2
    have hmc : mc = ce := by omega
    have hms : ms = sl := by omega
    subst hmc
    subst hms
    exact w_zret hB (by decide) dL_areClocks_202 e1
  · replace hF := ifT hc hF
    refine w_aload_n hB 0 dL_areClocks_173 rfl rfl ?_
    refine w_iload hB 3 dL_areClocks_174 rfl ?_
    refine w_iconst hB 3 (by decide) dL_areClocks_176 ?_
    obtain ⟨r1, M1m, hc_M1m, hF⟩ := clS hF
    have q_M1m : EQ M M1m := k_X10_camera hc_M1m
    have x_M1m := q_M1m.gx
    have n_M1m := q_M1m.1
    have z_M1m := q_M1m.sz
    refine w_callV (M1 := M1m) hB (ci := 8) (As := [vi x5, vi 3]) (st := []) cw_L_169 q_1173 q_1174 rfl (soM hp.1 sh_64 (by decide)) (c_X10_camera hp hc_M1m) ⟨rfl, rfl⟩ ⟨Nat.le_of_ble_eq_true rfl, Nat.le_of_ble_eq_true rfl⟩ ⟨show ce ≤ mc by omega, show sl ≤ ms by omega⟩ rfl (Nat.le_of_ble_eq_true rfl) dL_areClocks_177 rfl ?_ (Or.inl rfl)
    refine w_aload hB 2 dL_areClocks_180 rfl ?_
    refine w_iload hB 3 dL_areClocks_182 rfl ?_
    obtain ⟨g1, hF⟩ := gdS hF
    obtain ⟨g2, hF⟩ := gdS hF
    refine w_iald hB (dqM g1) (sl_d g1.1 rfl) g2 dL_areClocks_184 ?_
    refine w_if_ge hB 193 dL_areClocks_185 (by decide) (fun hc => ?_) (fun hc => ?_)
    · replace hF := ifT hc hF
      refine w_aload hB 2 dL_areClocks_193 rfl ?_
      refine w_iload hB 3 dL_areClocks_195 rfl ?_
      refine w_iald hB (dqM g1) (sl_d g1.1 rfl) g2 dL_areClocks_197 ?_
      exact Wt.sub (L' := [(0, vr 64), (3, vr n3), (4, vr n4), (5, vi x5)]) [0, 1, 2, 3] rfl (b_L_areClocks_b198 hp hk hq hB G140 h140 hF (by omega) (by omega))
    · replace hF := ifF hc hF
      refine w_bipush hB (-2) (by decide) dL_areClocks_188 ?_
      refine w_goto hB 198 dL_areClocks_190 (by decide) ?_
      exact Wt.sub (L' := [(0, vr 64), (3, vr n3), (4, vr n4), (5, vi x5)]) [0, 1, 2, 3] rfl (b_L_areClocks_b198 hp hk hq hB G140 h140 hF (by omega) (by omega))
def f_L_areClocks_b140_s (N : Nat) (xs : Nat → Int32) (rec140 : Nat → Nat → Int32 → Mem → Option (Int32 × Mem)) (n3 : Nat) (n4 : Nat) (x5 : Int32) (M : Mem) : Option (Int32 × Mem) :=
  if 3 ≤ x5 then
    cl (f_X10_camera 3 0 M) fun r1 M1m =>
    if r1 = (-1) then
      some (1, M1m)
    else
      some (0, M1m)
  else
    cl (f_X10_camera x5 2 M) fun r2 M2m =>
    gd (1000 ≤ n4 ∧ dsc M2m n4 = 20 ∧ n4 - 753 < M2m.2.2.2) <|
    gd (inb x5 (dln M2m n4)) <|
    if 0 ≤ (M2m.1 n4 x5.toNatClampNeg) then
      gd (1000 ≤ n3 ∧ dsc M2m n3 = 20 ∧ n3 - 753 < M2m.2.2.2) <|
      gd (inb x5 (dln M2m n3)) <|
      f_L_areClocks_b170 N xs rec140 n3 n4 x5 r2 (M2m.1 n3 x5.toNatClampNeg) M2m
    else
      f_L_areClocks_b170 N xs rec140 n3 n4 x5 r2 (-2) M2m
set_option maxRecDepth 100000 in
set_option maxHeartbeats 4000000 in
theorem m_L_areClocks_b140_s {N : Nat} {xs : Nat → Int32} {rec140 : Nat → Nat → Int32 → Mem → Option (Int32 × Mem)} (G140 : (∀ (n3 : Nat) (n4 : Nat) (x5 : Int32) (M Z : Mem) (r : Int32), rec140 n3 n4 x5 M = some (r, Z) → GX M Z)) {n3 : Nat} {n4 : Nat} {x5 : Int32} {M Z : Mem} {r : Int32} (h : f_L_areClocks_b140_s N xs rec140 n3 n4 x5 M = some (r, Z)) : GX M Z := by
  unfold f_L_areClocks_b140_s at h
  rcases ifS h with ⟨-, h⟩ | ⟨-, h⟩
  · obtain ⟨r1, M1m, c_M1m, h⟩ := clS h
    have q_M1m : GX M M1m := GX.tr (GX.refl M) ((k_X10_camera c_M1m).gx)
    rcases ifS h with ⟨-, h⟩ | ⟨-, h⟩
    · obtain ⟨-, e⟩ := retS h
      rw [← e]
      exact q_M1m
    · obtain ⟨-, e⟩ := retS h
      rw [← e]
      exact q_M1m
  · obtain ⟨r2, M2m, c_M2m, h⟩ := clS h
    have q_M2m : GX M M2m := GX.tr (GX.refl M) ((k_X10_camera c_M2m).gx)
    obtain ⟨gq8, h⟩ := gdS h
    obtain ⟨gq9, h⟩ := gdS h
    rcases ifS h with ⟨-, h⟩ | ⟨-, h⟩
    · obtain ⟨gq11, h⟩ := gdS h
      obtain ⟨gq12, h⟩ := gdS h
      exact GX.tr q_M2m (m_L_areClocks_b170 G140 h)
    · exact GX.tr q_M2m (m_L_areClocks_b170 G140 h)
set_option maxRecDepth 100000 in
set_option maxHeartbeats 4000000 in
theorem b_L_areClocks_b140_s {K : Kt} {X : Xt} (hp : St K) (hk : KC K) {N : Nat} {xs : Nat → Int32} (hq : KScr K N xs) {mc ms : Nat} (hB : Bx K X { frames := 3, cells := mc, slots := ms, locals := 68 } cL_areClocks 6 RL (some .boolean)) {r : Int32} {M1 : Mem} {rec140 : Nat → Nat → Int32 → Mem → Option (Int32 × Mem)}
    (G140 : (∀ (n3 : Nat) (n4 : Nat) (x5 : Int32) (M Z : Mem) (r : Int32), rec140 n3 n4 x5 M = some (r, Z) → GX M Z)) (h140 : (∀ (n3 : Nat) (n4 : Nat) (x5 : Int32) (ce sl : Nat) (M : Mem), rec140 n3 n4 x5 M = some (r, M1) → mc + M.2.2.2 = ce + M1.2.2.2 → ms + szM M = sl + szM M1 → Wt K X (QM K X (some (vi r)) M1 mc ms) ce sl M 140 [(0, vr 64), (3, vr n3), (4, vr n4), (5, vi x5)] [])) {n3 : Nat} {n4 : Nat} {x5 : Int32} {ce sl : Nat} {M : Mem} (hF : f_L_areClocks_b140_s N xs rec140 n3 n4 x5 M = some (r, M1)) (hn : mc + M.2.2.2 = ce + M1.2.2.2) (hz : ms + szM M = sl + szM M1) : Wt K X (QM K X (some (vi r)) M1 mc ms) ce sl M 140 [(0, vr 64), (3, vr n3), (4, vr n4), (5, vi x5)] [] := by
  have hg := m_L_areClocks_b140_s G140 hF
  have hg1 := hg.1
  have hg2 := hg.2.1
  unfold f_L_areClocks_b140_s at hF
  refine w_iload hB 3 dL_areClocks_140 rfl ?_
  refine w_iconst hB 3 (by decide) dL_areClocks_142 ?_
  refine w_icmp_ge hB 209 dL_areClocks_143 (by decide) (fun hc => ?_) (fun hc => ?_)
  · replace hF := ifT hc hF
    refine w_aload_n hB 0 dL_areClocks_209 rfl rfl ?_
    refine w_iconst hB 3 (by decide) dL_areClocks_210 ?_
    refine w_iconst hB 0 (by decide) dL_areClocks_211 ?_
    obtain ⟨r1, M1m, hc_M1m, hF⟩ := clS hF
    have q_M1m : EQ M M1m := k_X10_camera hc_M1m
    have x_M1m := q_M1m.gx
    have n_M1m := q_M1m.1
    have z_M1m := q_M1m.sz
    refine w_callV (M1 := M1m) hB (ci := 8) (As := [vi 3, vi 0]) (st := []) cw_L_169 q_1173 q_1174 rfl (soM hp.1 sh_64 (by decide)) (c_X10_camera hp hc_M1m) ⟨rfl, rfl⟩ ⟨Nat.le_of_ble_eq_true rfl, Nat.le_of_ble_eq_true rfl⟩ ⟨show ce ≤ mc by omega, show sl ≤ ms by omega⟩ rfl (Nat.le_of_ble_eq_true rfl) dL_areClocks_212 rfl ?_ (Or.inl rfl)
    refine w_iconst hB (-1) (by decide) dL_areClocks_215 ?_
    refine w_icmp_ne hB 223 dL_areClocks_216 (by decide) (fun hc => ?_) (fun hc => ?_)
    · replace hF := ifF hc hF
      refine w_iconst hB 0 (by decide) dL_areClocks_223 ?_
      obtain ⟨e1, e2⟩ := retS hF
      subst e2
      have hmc : mc = ce := by omega
      have hms : ms = sl := by omega
      subst hmc
      subst hms
      exact w_zret hB (by decide) dL_areClocks_224 e1
    · replace hF := ifT hc hF
      refine w_iconst hB 1 (by decide) dL_areClocks_219 ?_
      refine w_goto hB 224 dL_areClocks_220 (by decide) ?_
      obtain ⟨e1, e2⟩ := retS hF
      subst e2
      have hmc : mc = ce := by omega
      have hms : ms = sl := by omega
      subst hmc
      subst hms
      exact w_zret hB (by decide) dL_areClocks_224 e1
  · replace hF := ifF hc hF
    refine w_aload_n hB 0 dL_areClocks_146 rfl rfl ?_
    refine w_iload hB 3 dL_areClocks_147 rfl ?_
    refine w_iconst hB 2 (by decide) dL_areClocks_149 ?_
    obtain ⟨r2, M2m, hc_M2m, hF⟩ := clS hF
    have q_M2m : EQ M M2m := k_X10_camera hc_M2m
    have x_M2m := q_M2m.gx
    have n_M2m := q_M2m.1
    have z_M2m := q_M2m.sz
    refine w_callV (M1 := M2m) hB (ci := 8) (As := [vi x5, vi 2]) (st := []) cw_L_169 q_1173 q_1174 rfl (soM hp.1 sh_64 (by decide)) (c_X10_camera hp hc_M2m) ⟨rfl, rfl⟩ ⟨Nat.le_of_ble_eq_true rfl, Nat.le_of_ble_eq_true rfl⟩ ⟨show ce ≤ mc by omega, show sl ≤ ms by omega⟩ rfl (Nat.le_of_ble_eq_true rfl) dL_areClocks_150 rfl ?_ (Or.inl rfl)
    refine w_aload hB 2 dL_areClocks_153 rfl ?_
    refine w_iload hB 3 dL_areClocks_155 rfl ?_
    obtain ⟨g1, hF⟩ := gdS hF
    obtain ⟨g2, hF⟩ := gdS hF
    refine w_iald hB (dqM g1) (sl_d g1.1 rfl) g2 dL_areClocks_157 ?_
    refine w_if_ge hB 166 dL_areClocks_158 (by decide) (fun hc => ?_) (fun hc => ?_)
    · replace hF := ifT hc hF
      refine w_aload_n hB 1 dL_areClocks_166 rfl rfl ?_
      refine w_iload hB 3 dL_areClocks_167 rfl ?_
      obtain ⟨g3, hF⟩ := gdS hF
      obtain ⟨g4, hF⟩ := gdS hF
      refine w_iald hB (dqM g3) (sl_d g3.1 rfl) g4 dL_areClocks_169 ?_
      exact Wt.sub (L' := [(0, vr 64), (3, vr n3), (4, vr n4), (5, vi x5)]) [0, 1, 2, 3] rfl (b_L_areClocks_b170 hp hk hq hB G140 h140 hF (by omega) (by omega))
    · replace hF := ifF hc hF
      refine w_bipush hB (-2) (by decide) dL_areClocks_161 ?_
      refine w_goto hB 170 dL_areClocks_163 (by decide) ?_
      exact Wt.sub (L' := [(0, vr 64), (3, vr n3), (4, vr n4), (5, vi x5)]) [0, 1, 2, 3] rfl (b_L_areClocks_b170 hp hk hq hB G140 h140 hF (by omega) (by omega))
def f_L_areClocks_b140 (N : Nat) (xs : Nat → Int32) (k : Nat) : Nat → Nat → Int32 → Mem → Option (Int32 × Mem) := lpN (fun _ _ _ _ => none) (f_L_areClocks_b140_s N xs) k
theorem m_L_areClocks_b140 {N : Nat} {xs : Nat → Int32} (k : Nat) : (∀ (n3 : Nat) (n4 : Nat) (x5 : Int32) (M Z : Mem) (r : Int32), f_L_areClocks_b140 N xs k n3 n4 x5 M = some (r, Z) → GX M Z) :=
  lpN_ind (P := fun (f : Nat → Nat → Int32 → Mem → Option (Int32 × Mem)) => (∀ (n3 : Nat) (n4 : Nat) (x5 : Int32) (M Z : Mem) (r : Int32), f n3 n4 x5 M = some (r, Z) → GX M Z)) (fun _ _ _ _ _ _ h => by cases h) (fun f hf _ _ _ _ _ _ h => m_L_areClocks_b140_s hf h) k
theorem b_L_areClocks_b140 {K : Kt} {X : Xt} (hp : St K) (hk : KC K) {N : Nat} {xs : Nat → Int32} (hq : KScr K N xs) {mc ms : Nat} (hB : Bx K X { frames := 3, cells := mc, slots := ms, locals := 68 } cL_areClocks 6 RL (some .boolean)) {r : Int32} {M1 : Mem} (k : Nat) : (∀ (n3 : Nat) (n4 : Nat) (x5 : Int32) (ce sl : Nat) (M : Mem), f_L_areClocks_b140 N xs k n3 n4 x5 M = some (r, M1) → mc + M.2.2.2 = ce + M1.2.2.2 → ms + szM M = sl + szM M1 → Wt K X (QM K X (some (vi r)) M1 mc ms) ce sl M 140 [(0, vr 64), (3, vr n3), (4, vr n4), (5, vi x5)] []) :=
  (lpN_ind (P := fun (f : Nat → Nat → Int32 → Mem → Option (Int32 × Mem)) => (∀ (n3 : Nat) (n4 : Nat) (x5 : Int32) (M Z : Mem) (r : Int32), f n3 n4 x5 M = some (r, Z) → GX M Z) ∧ (∀ (n3 : Nat) (n4 : Nat) (x5 : Int32) (ce sl : Nat) (M : Mem), f n3 n4 x5 M = some (r, M1) → mc + M.2.2.2 = ce + M1.2.2.2 → ms + szM M = sl + szM M1 → Wt K X (QM K X (some (vi r)) M1 mc ms) ce sl M 140 [(0, vr 64), (3, vr n3), (4, vr n4), (5, vi x5)] [])) ⟨fun _ _ _ _ _ _ h => (by cases h), fun _ _ _ _ _ _ h _ _ => (by cases h)⟩ (fun f hf => ⟨fun _ _ _ _ _ _ h => m_L_areClocks_b140_s hf.1 h, fun _ _ _ _ _ _ hF hn hz => b_L_areClocks_b140_s hp hk hq hB hf.1 hf.2 hF hn hz⟩) k).2
def f_L_areClocks_b129 (N : Nat) (xs : Nat → Int32) (rec70 : Nat → Nat → Nat → Mem → Option (Int32 × Mem)) (n2 : Nat) (n3 : Nat) (n4 : Nat) (M : Mem) : Option (Int32 × Mem) :=
  cl (f_L_goesOn N xs n2 M) fun r1 M1m =>
  if r1 = 0 then
    f_L_areClocks_b140 N xs fuel n3 n4 0 M1m
  else
    rec70 n2 n3 n4 M1m
set_option maxRecDepth 100000 in
set_option maxHeartbeats 4000000 in
theorem m_L_areClocks_b129 {N : Nat} {xs : Nat → Int32} {rec70 : Nat → Nat → Nat → Mem → Option (Int32 × Mem)} (G70 : (∀ (n2 : Nat) (n3 : Nat) (n4 : Nat) (M Z : Mem) (r : Int32), rec70 n2 n3 n4 M = some (r, Z) → GX M Z)) {n2 : Nat} {n3 : Nat} {n4 : Nat} {M Z : Mem} {r : Int32} (h : f_L_areClocks_b129 N xs rec70 n2 n3 n4 M = some (r, Z)) : GX M Z := by
  unfold f_L_areClocks_b129 at h
  obtain ⟨r1, M1m, c_M1m, h⟩ := clS h
  have q_M1m : GX M M1m := GX.tr (GX.refl M) ((k_L_goesOn c_M1m).gx)
  rcases ifS h with ⟨-, h⟩ | ⟨-, h⟩
  · exact GX.tr q_M1m (m_L_areClocks_b140 _ _ _ _ _ _ _ h)
  · exact GX.tr q_M1m (G70 _ _ _ _ _ _ h)
set_option maxRecDepth 100000 in
set_option maxHeartbeats 4000000 in
theorem b_L_areClocks_b129 {K : Kt} {X : Xt} (hp : St K) (hk : KC K) {N : Nat} {xs : Nat → Int32} (hq : KScr K N xs) {mc ms : Nat} (hB : Bx K X { frames := 3, cells := mc, slots := ms, locals := 68 } cL_areClocks 6 RL (some .boolean)) {r : Int32} {M1 : Mem} {rec70 : Nat → Nat → Nat → Mem → Option (Int32 × Mem)}
    (G70 : (∀ (n2 : Nat) (n3 : Nat) (n4 : Nat) (M Z : Mem) (r : Int32), rec70 n2 n3 n4 M = some (r, Z) → GX M Z)) (h70 : (∀ (n2 : Nat) (n3 : Nat) (n4 : Nat) (ce sl : Nat) (M : Mem), rec70 n2 n3 n4 M = some (r, M1) → mc + M.2.2.2 = ce + M1.2.2.2 → ms + szM M = sl + szM M1 → Wt K X (QM K X (some (vi r)) M1 mc ms) ce sl M 70 [(0, vr 64), (1, vr 61), (2, vr n2), (3, vr n3), (4, vr n4)] [])) {n2 : Nat} {n3 : Nat} {n4 : Nat} {ce sl : Nat} {M : Mem} (hF : f_L_areClocks_b129 N xs rec70 n2 n3 n4 M = some (r, M1)) (hn : mc + M.2.2.2 = ce + M1.2.2.2) (hz : ms + szM M = sl + szM M1) : Wt K X (QM K X (some (vi r)) M1 mc ms) ce sl M 129 [(0, vr 64), (1, vr 61), (2, vr n2), (3, vr n3), (4, vr n4)] [] := by
  have hg := m_L_areClocks_b129 G70 hF
  have hg1 := hg.1
  have hg2 := hg.2.1
  unfold f_L_areClocks_b129 at hF
  refine w_aload_n hB 0 dL_areClocks_129 rfl rfl ?_
  refine w_aload_n hB 2 dL_areClocks_130 rfl rfl ?_
  obtain ⟨r1, M1m, hc_M1m, hF⟩ := clS hF
  have q_M1m : EQ M M1m := k_L_goesOn hc_M1m
  have x_M1m := q_M1m.gx
  have n_M1m := q_M1m.1
  have z_M1m := q_M1m.sz
  refine w_callS (M1 := M1m) hB (As := [vr 64, vr n2]) (st := []) cw_L_191 q_1210 (c_L_goesOn hp hq hc_M1m) ⟨rfl, rfl⟩ ⟨Nat.le_of_ble_eq_true rfl, Nat.le_of_ble_eq_true rfl⟩ ⟨show ce ≤ mc by omega, show sl ≤ ms by omega⟩ rfl (Nat.le_of_ble_eq_true rfl) dL_areClocks_131 rfl ?_ (Or.inl rfl)
  refine w_if_ne hB 70 dL_areClocks_134 (by decide) (fun hc => ?_) (fun hc => ?_)
  · replace hF := ifF hc hF
    exact Wt.sub (L' := [(0, vr 64), (1, vr 61), (2, vr n2), (3, vr n3), (4, vr n4)]) [0, 1, 2, 3, 4] rfl (h70 _ _ _ _ _ M1m hF (by omega) (by omega))
  · replace hF := ifT hc hF
    refine w_iconst hB 0 (by decide) dL_areClocks_137 ?_
    refine w_istore hB (L' := [(5, vi 0), (0, vr 64), (1, vr 61), (2, vr n2), (3, vr n3), (4, vr n4)]) dL_areClocks_138 (by decide) rfl rfl ?_
    exact Wt.sub (L' := [(0, vr 64), (3, vr n3), (4, vr n4), (5, vi 0)]) [1, 4, 5, 0] rfl (b_L_areClocks_b140 hp hk hq hB fuel _ _ _ _ _ M1m hF (by omega) (by omega))
def f_L_areClocks_b85_s (N : Nat) (xs : Nat → Int32) (rec70 : Nat → Nat → Nat → Mem → Option (Int32 × Mem)) (rec85 : Nat → Nat → Nat → Int32 → Mem → Option (Int32 × Mem)) (n2 : Nat) (n3 : Nat) (n4 : Nat) (x5 : Int32) (M : Mem) : Option (Int32 × Mem) :=
  if 3 ≤ x5 then
    f_L_areClocks_b129 N xs rec70 n2 n3 n4 M
  else
    gd (1000 ≤ n3 ∧ dsc M n3 = 20 ∧ n3 - 753 < M.2.2.2) <|
    gd (inb x5 (dln M n3)) <|
    gd (1000 ≤ n2 ∧ dsc M n2 = 20 ∧ n2 - 753 < M.2.2.2) <|
    gd (inb x5 (dln M n2)) <|
    bnd (setI M n3 (x5.toNatClampNeg) (min32 (M.1 n3 x5.toNatClampNeg) (M.1 n2 x5.toNatClampNeg))) fun M1m =>
    gd (1000 ≤ n4 ∧ dsc M1m n4 = 20 ∧ n4 - 753 < M1m.2.2.2) <|
    gd (inb x5 (dln M1m n4)) <|
    bnd (setI M1m n4 (x5.toNatClampNeg) (max32 (M1m.1 n4 x5.toNatClampNeg) (M1m.1 n2 x5.toNatClampNeg))) fun M2m =>
    bnd (x5 + 1) fun a1 =>
    rec85 n2 n3 n4 a1 M2m
set_option maxRecDepth 100000 in
set_option maxHeartbeats 4000000 in
theorem m_L_areClocks_b85_s {N : Nat} {xs : Nat → Int32} {rec70 : Nat → Nat → Nat → Mem → Option (Int32 × Mem)} {rec85 : Nat → Nat → Nat → Int32 → Mem → Option (Int32 × Mem)} (G70 : (∀ (n2 : Nat) (n3 : Nat) (n4 : Nat) (M Z : Mem) (r : Int32), rec70 n2 n3 n4 M = some (r, Z) → GX M Z)) (G85 : (∀ (n2 : Nat) (n3 : Nat) (n4 : Nat) (x5 : Int32) (M Z : Mem) (r : Int32), rec85 n2 n3 n4 x5 M = some (r, Z) → GX M Z)) {n2 : Nat} {n3 : Nat} {n4 : Nat} {x5 : Int32} {M Z : Mem} {r : Int32} (h : f_L_areClocks_b85_s N xs rec70 rec85 n2 n3 n4 x5 M = some (r, Z)) : GX M Z := by
  unfold f_L_areClocks_b85_s at h
  rcases ifS h with ⟨-, h⟩ | ⟨-, h⟩
  · exact GX.tr (GX.refl M) (m_L_areClocks_b129 G70 h)
  · obtain ⟨gq3, h⟩ := gdS h
    obtain ⟨gq4, h⟩ := gdS h
    obtain ⟨gq5, h⟩ := gdS h
    obtain ⟨gq6, h⟩ := gdS h
    obtain ⟨M1m, e_M1m, h⟩ := bndS h
    have q_M1m : GX M M1m := GX.tr (GX.refl M) (by rw [e_M1m]; exact (EQ_I _ _ _ _).gx)
    obtain ⟨gq8, h⟩ := gdS h
    obtain ⟨gq9, h⟩ := gdS h
    obtain ⟨M2m, e_M2m, h⟩ := bndS h
    have q_M2m : GX M M2m := GX.tr q_M1m (by rw [e_M2m]; exact (EQ_I _ _ _ _).gx)
    obtain ⟨a1, e_a1, h⟩ := bndS h
    exact GX.tr q_M2m (G85 _ _ _ _ _ _ _ h)
set_option maxRecDepth 100000 in
set_option maxHeartbeats 4000000 in
theorem b_L_areClocks_b85_s {K : Kt} {X : Xt} (hp : St K) (hk : KC K) {N : Nat} {xs : Nat → Int32} (hq : KScr K N xs) {mc ms : Nat} (hB : Bx K X { frames := 3, cells := mc, slots := ms, locals := 68 } cL_areClocks 6 RL (some .boolean)) {r : Int32} {M1 : Mem} {rec70 : Nat → Nat → Nat → Mem → Option (Int32 × Mem)} {rec85 : Nat → Nat → Nat → Int32 → Mem → Option (Int32 × Mem)}
    (G70 : (∀ (n2 : Nat) (n3 : Nat) (n4 : Nat) (M Z : Mem) (r : Int32), rec70 n2 n3 n4 M = some (r, Z) → GX M Z)) (h70 : (∀ (n2 : Nat) (n3 : Nat) (n4 : Nat) (ce sl : Nat) (M : Mem), rec70 n2 n3 n4 M = some (r, M1) → mc + M.2.2.2 = ce + M1.2.2.2 → ms + szM M = sl + szM M1 → Wt K X (QM K X (some (vi r)) M1 mc ms) ce sl M 70 [(0, vr 64), (1, vr 61), (2, vr n2), (3, vr n3), (4, vr n4)] []))
    (G85 : (∀ (n2 : Nat) (n3 : Nat) (n4 : Nat) (x5 : Int32) (M Z : Mem) (r : Int32), rec85 n2 n3 n4 x5 M = some (r, Z) → GX M Z)) (h85 : (∀ (n2 : Nat) (n3 : Nat) (n4 : Nat) (x5 : Int32) (ce sl : Nat) (M : Mem), rec85 n2 n3 n4 x5 M = some (r, M1) → mc + M.2.2.2 = ce + M1.2.2.2 → ms + szM M = sl + szM M1 → Wt K X (QM K X (some (vi r)) M1 mc ms) ce sl M 85 [(0, vr 64), (1, vr 61), (2, vr n2), (3, vr n3), (4, vr n4), (5, vi x5)] [])) {n2 : Nat} {n3 : Nat} {n4 : Nat} {x5 : Int32} {ce sl : Nat} {M : Mem} (hF : f_L_areClocks_b85_s N xs rec70 rec85 n2 n3 n4 x5 M = some (r, M1)) (hn : mc + M.2.2.2 = ce + M1.2.2.2) (hz : ms + szM M = sl + szM M1) : Wt K X (QM K X (some (vi r)) M1 mc ms) ce sl M 85 [(0, vr 64), (1, vr 61), (2, vr n2), (3, vr n3), (4, vr n4), (5, vi x5)] [] := by
  have hg := m_L_areClocks_b85_s G70 G85 hF
  have hg1 := hg.1
  have hg2 := hg.2.1
  unfold f_L_areClocks_b85_s at hF
  refine w_iload hB 5 dL_areClocks_85 rfl ?_
  refine w_iconst hB 3 (by decide) dL_areClocks_87 ?_
  refine w_icmp_ge hB 129 dL_areClocks_88 (by decide) (fun hc => ?_) (fun hc => ?_)
  · replace hF := ifT hc hF
    exact Wt.sub (L' := [(0, vr 64), (1, vr 61), (2, vr n2), (3, vr n3), (4, vr n4)]) [0, 1, 2, 3, 4] rfl (b_L_areClocks_b129 hp hk hq hB G70 h70 hF (by omega) (by omega))
  · replace hF := ifF hc hF
    refine w_aload_n hB 3 dL_areClocks_91 rfl rfl ?_
    refine w_iload hB 5 dL_areClocks_92 rfl ?_
    refine w_aload_n hB 3 dL_areClocks_94 rfl rfl ?_
    refine w_iload hB 5 dL_areClocks_95 rfl ?_
    obtain ⟨g1, hF⟩ := gdS hF
    obtain ⟨g2, hF⟩ := gdS hF
    refine w_iald hB (dqM g1) (sl_d g1.1 rfl) g2 dL_areClocks_97 ?_
    refine w_aload_n hB 2 dL_areClocks_98 rfl rfl ?_
    refine w_iload hB 5 dL_areClocks_99 rfl ?_
    obtain ⟨g3, hF⟩ := gdS hF
    obtain ⟨g4, hF⟩ := gdS hF
    refine w_iald hB (dqM g3) (sl_d g3.1 rfl) g4 dL_areClocks_101 ?_
    refine w_min hB q_1187 (Nat.le_of_ble_eq_true rfl) (Nat.le_of_ble_eq_true rfl) ⟨show ce ≤ mc by omega, show sl ≤ ms by omega⟩ dL_areClocks_102 ?_
    obtain ⟨M1m, e_M1m, hF⟩ := bndS hF
    have q_M1m : EQ M M1m := by rw [e_M1m]; exact EQ_I _ _ _ _
    have x_M1m := q_M1m.gx
    have n_M1m := q_M1m.1
    have z_M1m := q_M1m.sz
    refine w_iast hB (dqM g1) (sl_d g1.1 rfl) g2 e_M1m dL_areClocks_105 ?_
    refine w_aload hB 4 dL_areClocks_106 rfl ?_
    refine w_iload hB 5 dL_areClocks_108 rfl ?_
    refine w_aload hB 4 dL_areClocks_110 rfl ?_
    refine w_iload hB 5 dL_areClocks_112 rfl ?_
    obtain ⟨g5, hF⟩ := gdS hF
    obtain ⟨g6, hF⟩ := gdS hF
    refine w_iald hB (dqM g5) (sl_d g5.1 rfl) g6 dL_areClocks_114 ?_
    refine w_aload_n hB 2 dL_areClocks_115 rfl rfl ?_
    refine w_iload hB 5 dL_areClocks_116 rfl ?_
    refine w_iald hB (dqM (GX.dyo x_M1m g3)) (sl_d (GX.dyo x_M1m g3).1 (GX.dl x_M1m g3 rfl)) g4 dL_areClocks_118 ?_
    refine w_max hB q_1188 (Nat.le_of_ble_eq_true rfl) (Nat.le_of_ble_eq_true rfl) ⟨show ce ≤ mc by omega, show sl ≤ ms by omega⟩ dL_areClocks_119 ?_
    obtain ⟨M2m, e_M2m, hF⟩ := bndS hF
    have q_M2m : EQ M1m M2m := by rw [e_M2m]; exact EQ_I _ _ _ _
    have x_M2m := q_M2m.gx
    have n_M2m := q_M2m.1
    have z_M2m := q_M2m.sz
    refine w_iast hB (dqM g5) (sl_d g5.1 rfl) g6 e_M2m dL_areClocks_122 ?_
    obtain ⟨a1, e_a1, hF⟩ := bndS hF
    refine w_iinc hB 5 (v := 1) (L' := [(5, vi a1), (0, vr 64), (1, vr 61), (2, vr n2), (3, vr n3), (4, vr n4)]) dL_areClocks_123 rfl (by decide) (by decide) e_a1 rfl ?_
    refine w_goto hB 85 dL_areClocks_126 (by decide) ?_
    exact Wt.sub (L' := [(0, vr 64), (1, vr 61), (2, vr n2), (3, vr n3), (4, vr n4), (5, vi a1)]) [1, 2, 3, 4, 5, 0] rfl (h85 _ _ _ _ _ _ M2m hF (by omega) (by omega))
def f_L_areClocks_b85 (N : Nat) (xs : Nat → Int32) (rec70 : Nat → Nat → Nat → Mem → Option (Int32 × Mem)) (k : Nat) : Nat → Nat → Nat → Int32 → Mem → Option (Int32 × Mem) := lpN (fun _ _ _ _ _ => none) (f_L_areClocks_b85_s N xs rec70) k
theorem m_L_areClocks_b85 {N : Nat} {xs : Nat → Int32} {rec70 : Nat → Nat → Nat → Mem → Option (Int32 × Mem)} (G70 : (∀ (n2 : Nat) (n3 : Nat) (n4 : Nat) (M Z : Mem) (r : Int32), rec70 n2 n3 n4 M = some (r, Z) → GX M Z)) (k : Nat) : (∀ (n2 : Nat) (n3 : Nat) (n4 : Nat) (x5 : Int32) (M Z : Mem) (r : Int32), f_L_areClocks_b85 N xs rec70 k n2 n3 n4 x5 M = some (r, Z) → GX M Z) :=
  lpN_ind (P := fun (f : Nat → Nat → Nat → Int32 → Mem → Option (Int32 × Mem)) => (∀ (n2 : Nat) (n3 : Nat) (n4 : Nat) (x5 : Int32) (M Z : Mem) (r : Int32), f n2 n3 n4 x5 M = some (r, Z) → GX M Z)) (fun _ _ _ _ _ _ _ h => by cases h) (fun f hf _ _ _ _ _ _ _ h => m_L_areClocks_b85_s G70 hf h) k
theorem b_L_areClocks_b85 {K : Kt} {X : Xt} (hp : St K) (hk : KC K) {N : Nat} {xs : Nat → Int32} (hq : KScr K N xs) {mc ms : Nat} (hB : Bx K X { frames := 3, cells := mc, slots := ms, locals := 68 } cL_areClocks 6 RL (some .boolean)) {r : Int32} {M1 : Mem} {rec70 : Nat → Nat → Nat → Mem → Option (Int32 × Mem)}
    (G70 : (∀ (n2 : Nat) (n3 : Nat) (n4 : Nat) (M Z : Mem) (r : Int32), rec70 n2 n3 n4 M = some (r, Z) → GX M Z)) (h70 : (∀ (n2 : Nat) (n3 : Nat) (n4 : Nat) (ce sl : Nat) (M : Mem), rec70 n2 n3 n4 M = some (r, M1) → mc + M.2.2.2 = ce + M1.2.2.2 → ms + szM M = sl + szM M1 → Wt K X (QM K X (some (vi r)) M1 mc ms) ce sl M 70 [(0, vr 64), (1, vr 61), (2, vr n2), (3, vr n3), (4, vr n4)] [])) (k : Nat) : (∀ (n2 : Nat) (n3 : Nat) (n4 : Nat) (x5 : Int32) (ce sl : Nat) (M : Mem), f_L_areClocks_b85 N xs rec70 k n2 n3 n4 x5 M = some (r, M1) → mc + M.2.2.2 = ce + M1.2.2.2 → ms + szM M = sl + szM M1 → Wt K X (QM K X (some (vi r)) M1 mc ms) ce sl M 85 [(0, vr 64), (1, vr 61), (2, vr n2), (3, vr n3), (4, vr n4), (5, vi x5)] []) :=
  (lpN_ind (P := fun (f : Nat → Nat → Nat → Int32 → Mem → Option (Int32 × Mem)) => (∀ (n2 : Nat) (n3 : Nat) (n4 : Nat) (x5 : Int32) (M Z : Mem) (r : Int32), f n2 n3 n4 x5 M = some (r, Z) → GX M Z) ∧ (∀ (n2 : Nat) (n3 : Nat) (n4 : Nat) (x5 : Int32) (ce sl : Nat) (M : Mem), f n2 n3 n4 x5 M = some (r, M1) → mc + M.2.2.2 = ce + M1.2.2.2 → ms + szM M = sl + szM M1 → Wt K X (QM K X (some (vi r)) M1 mc ms) ce sl M 85 [(0, vr 64), (1, vr 61), (2, vr n2), (3, vr n3), (4, vr n4), (5, vi x5)] [])) ⟨fun _ _ _ _ _ _ _ h => (by cases h), fun _ _ _ _ _ _ _ h _ _ => (by cases h)⟩ (fun f hf => ⟨fun _ _ _ _ _ _ _ h => m_L_areClocks_b85_s G70 hf.1 h, fun _ _ _ _ _ _ _ hF hn hz => b_L_areClocks_b85_s hp hk hq hB G70 h70 hf.1 hf.2 hF hn hz⟩) k).2
def f_L_areClocks_b70_s (N : Nat) (xs : Nat → Int32) (rec70 : Nat → Nat → Nat → Mem → Option (Int32 × Mem)) (n2 : Nat) (n3 : Nat) (n4 : Nat) (M : Mem) : Option (Int32 × Mem) :=
  cl (f_L_canBe N xs n2 M) fun r1 M1m =>
  if r1 = 0 then
    f_L_areClocks_b129 N xs rec70 n2 n3 n4 M1m
  else
    f_L_areClocks_b85 N xs rec70 fuel n2 n3 n4 0 M1m
set_option maxRecDepth 100000 in
set_option maxHeartbeats 4000000 in
theorem m_L_areClocks_b70_s {N : Nat} {xs : Nat → Int32} {rec70 : Nat → Nat → Nat → Mem → Option (Int32 × Mem)} (G70 : (∀ (n2 : Nat) (n3 : Nat) (n4 : Nat) (M Z : Mem) (r : Int32), rec70 n2 n3 n4 M = some (r, Z) → GX M Z)) {n2 : Nat} {n3 : Nat} {n4 : Nat} {M Z : Mem} {r : Int32} (h : f_L_areClocks_b70_s N xs rec70 n2 n3 n4 M = some (r, Z)) : GX M Z := by
  unfold f_L_areClocks_b70_s at h
  obtain ⟨r1, M1m, c_M1m, h⟩ := clS h
  have q_M1m : GX M M1m := GX.tr (GX.refl M) ((k_L_canBe c_M1m).gx)
  rcases ifS h with ⟨-, h⟩ | ⟨-, h⟩
  · exact GX.tr q_M1m (m_L_areClocks_b129 G70 h)
  · exact GX.tr q_M1m (m_L_areClocks_b85 G70 _ _ _ _ _ _ _ _ h)
set_option maxRecDepth 100000 in
set_option maxHeartbeats 4000000 in
theorem b_L_areClocks_b70_s {K : Kt} {X : Xt} (hp : St K) (hk : KC K) {N : Nat} {xs : Nat → Int32} (hq : KScr K N xs) {mc ms : Nat} (hB : Bx K X { frames := 3, cells := mc, slots := ms, locals := 68 } cL_areClocks 6 RL (some .boolean)) {r : Int32} {M1 : Mem} {rec70 : Nat → Nat → Nat → Mem → Option (Int32 × Mem)}
    (G70 : (∀ (n2 : Nat) (n3 : Nat) (n4 : Nat) (M Z : Mem) (r : Int32), rec70 n2 n3 n4 M = some (r, Z) → GX M Z)) (h70 : (∀ (n2 : Nat) (n3 : Nat) (n4 : Nat) (ce sl : Nat) (M : Mem), rec70 n2 n3 n4 M = some (r, M1) → mc + M.2.2.2 = ce + M1.2.2.2 → ms + szM M = sl + szM M1 → Wt K X (QM K X (some (vi r)) M1 mc ms) ce sl M 70 [(0, vr 64), (1, vr 61), (2, vr n2), (3, vr n3), (4, vr n4)] [])) {n2 : Nat} {n3 : Nat} {n4 : Nat} {ce sl : Nat} {M : Mem} (hF : f_L_areClocks_b70_s N xs rec70 n2 n3 n4 M = some (r, M1)) (hn : mc + M.2.2.2 = ce + M1.2.2.2) (hz : ms + szM M = sl + szM M1) : Wt K X (QM K X (some (vi r)) M1 mc ms) ce sl M 70 [(0, vr 64), (1, vr 61), (2, vr n2), (3, vr n3), (4, vr n4)] [] := by
  have hg := m_L_areClocks_b70_s G70 hF
  have hg1 := hg.1
  have hg2 := hg.2.1
  unfold f_L_areClocks_b70_s at hF
  refine w_aload_n hB 0 dL_areClocks_70 rfl rfl ?_
  refine w_aload_n hB 1 dL_areClocks_71 rfl rfl ?_
  refine w_aload_n hB 2 dL_areClocks_72 rfl rfl ?_
  obtain ⟨r1, M1m, hc_M1m, hF⟩ := clS hF
  have q_M1m : EQ M M1m := k_L_canBe hc_M1m
  have x_M1m := q_M1m.gx
  have n_M1m := q_M1m.1
  have z_M1m := q_M1m.sz
  refine w_callS (M1 := M1m) hB (As := [vr 64, vr 61, vr n2]) (st := []) cw_L_172 q_1185 (c_L_canBe hp hq hc_M1m) ⟨rfl, rfl⟩ ⟨Nat.le_of_ble_eq_true rfl, Nat.le_of_ble_eq_true rfl⟩ ⟨show ce ≤ mc by omega, show sl ≤ ms by omega⟩ rfl (Nat.le_of_ble_eq_true rfl) dL_areClocks_73 rfl ?_ (Or.inl rfl)
  refine w_if_ne hB 82 dL_areClocks_76 (by decide) (fun hc => ?_) (fun hc => ?_)
  · replace hF := ifF hc hF
    refine w_iconst hB 0 (by decide) dL_areClocks_82 ?_
    refine w_istore hB (L' := [(5, vi 0), (0, vr 64), (1, vr 61), (2, vr n2), (3, vr n3), (4, vr n4)]) dL_areClocks_83 (by decide) rfl rfl ?_
    exact Wt.sub (L' := [(0, vr 64), (1, vr 61), (2, vr n2), (3, vr n3), (4, vr n4), (5, vi 0)]) [1, 2, 3, 4, 5, 0] rfl (b_L_areClocks_b85 hp hk hq hB G70 h70 fuel _ _ _ _ _ _ M1m hF (by omega) (by omega))
  · replace hF := ifT hc hF
    refine w_goto hB 129 dL_areClocks_79 (by decide) ?_
    exact Wt.sub (L' := [(0, vr 64), (1, vr 61), (2, vr n2), (3, vr n3), (4, vr n4)]) [0, 1, 2, 3, 4] rfl (b_L_areClocks_b129 hp hk hq hB G70 h70 hF (by omega) (by omega))
def f_L_areClocks_b70 (N : Nat) (xs : Nat → Int32) (k : Nat) : Nat → Nat → Nat → Mem → Option (Int32 × Mem) := lpN (fun _ _ _ _ => none) (f_L_areClocks_b70_s N xs) k
theorem m_L_areClocks_b70 {N : Nat} {xs : Nat → Int32} (k : Nat) : (∀ (n2 : Nat) (n3 : Nat) (n4 : Nat) (M Z : Mem) (r : Int32), f_L_areClocks_b70 N xs k n2 n3 n4 M = some (r, Z) → GX M Z) :=
  lpN_ind (P := fun (f : Nat → Nat → Nat → Mem → Option (Int32 × Mem)) => (∀ (n2 : Nat) (n3 : Nat) (n4 : Nat) (M Z : Mem) (r : Int32), f n2 n3 n4 M = some (r, Z) → GX M Z)) (fun _ _ _ _ _ _ h => by cases h) (fun f hf _ _ _ _ _ _ h => m_L_areClocks_b70_s hf h) k
theorem b_L_areClocks_b70 {K : Kt} {X : Xt} (hp : St K) (hk : KC K) {N : Nat} {xs : Nat → Int32} (hq : KScr K N xs) {mc ms : Nat} (hB : Bx K X { frames := 3, cells := mc, slots := ms, locals := 68 } cL_areClocks 6 RL (some .boolean)) {r : Int32} {M1 : Mem} (k : Nat) : (∀ (n2 : Nat) (n3 : Nat) (n4 : Nat) (ce sl : Nat) (M : Mem), f_L_areClocks_b70 N xs k n2 n3 n4 M = some (r, M1) → mc + M.2.2.2 = ce + M1.2.2.2 → ms + szM M = sl + szM M1 → Wt K X (QM K X (some (vi r)) M1 mc ms) ce sl M 70 [(0, vr 64), (1, vr 61), (2, vr n2), (3, vr n3), (4, vr n4)] []) :=
  (lpN_ind (P := fun (f : Nat → Nat → Nat → Mem → Option (Int32 × Mem)) => (∀ (n2 : Nat) (n3 : Nat) (n4 : Nat) (M Z : Mem) (r : Int32), f n2 n3 n4 M = some (r, Z) → GX M Z) ∧ (∀ (n2 : Nat) (n3 : Nat) (n4 : Nat) (ce sl : Nat) (M : Mem), f n2 n3 n4 M = some (r, M1) → mc + M.2.2.2 = ce + M1.2.2.2 → ms + szM M = sl + szM M1 → Wt K X (QM K X (some (vi r)) M1 mc ms) ce sl M 70 [(0, vr 64), (1, vr 61), (2, vr n2), (3, vr n3), (4, vr n4)] [])) ⟨fun _ _ _ _ _ _ h => (by cases h), fun _ _ _ _ _ _ h _ _ => (by cases h)⟩ (fun f hf => ⟨fun _ _ _ _ _ _ h => m_L_areClocks_b70_s hf.1 h, fun _ _ _ _ _ _ hF hn hz => b_L_areClocks_b70_s hp hk hq hB hf.1 hf.2 hF hn hz⟩) k).2
def f_L_areClocks_b56 (N : Nat) (xs : Nat → Int32) (n2 : Nat) (n3 : Nat) (ns0 : Nat) (M : Mem) : Option (Int32 × Mem) :=
  gd (1000 ≤ ns0 ∧ dsc M ns0 = 20 ∧ ns0 - 753 < M.2.2.2) <|
  gd (inb 0 (dln M ns0)) <|
  bnd (setI M ns0 0 (-1)) fun M1m =>
  gd (inb 1 (dln M ns0)) <|
  bnd (setI M1m ns0 1 (-1)) fun M2m =>
  gd (inb 2 (dln M ns0)) <|
  bnd (setI M2m ns0 2 (-1)) fun M3m =>
  f_L_areClocks_b70 N xs fuel n2 n3 ns0 M3m
set_option maxRecDepth 100000 in
set_option maxHeartbeats 4000000 in
theorem m_L_areClocks_b56 {N : Nat} {xs : Nat → Int32} {n2 : Nat} {n3 : Nat} {ns0 : Nat} {M Z : Mem} {r : Int32} (h : f_L_areClocks_b56 N xs n2 n3 ns0 M = some (r, Z)) : GX M Z := by
  unfold f_L_areClocks_b56 at h
  obtain ⟨gq0, h⟩ := gdS h
  obtain ⟨gq1, h⟩ := gdS h
  obtain ⟨M1m, e_M1m, h⟩ := bndS h
  have q_M1m : GX M M1m := GX.tr (GX.refl M) (by rw [e_M1m]; exact (EQ_I _ _ _ _).gx)
  obtain ⟨gq3, h⟩ := gdS h
  obtain ⟨M2m, e_M2m, h⟩ := bndS h
  have q_M2m : GX M M2m := GX.tr q_M1m (by rw [e_M2m]; exact (EQ_I _ _ _ _).gx)
  obtain ⟨gq5, h⟩ := gdS h
  obtain ⟨M3m, e_M3m, h⟩ := bndS h
  have q_M3m : GX M M3m := GX.tr q_M2m (by rw [e_M3m]; exact (EQ_I _ _ _ _).gx)
  exact GX.tr q_M3m (m_L_areClocks_b70 _ _ _ _ _ _ _ h)
set_option maxRecDepth 100000 in
set_option maxHeartbeats 4000000 in
theorem b_L_areClocks_b56 {K : Kt} {X : Xt} (hp : St K) (hk : KC K) {N : Nat} {xs : Nat → Int32} (hq : KScr K N xs) {mc ms : Nat} (hB : Bx K X { frames := 3, cells := mc, slots := ms, locals := 68 } cL_areClocks 6 RL (some .boolean)) {r : Int32} {M1 : Mem} {n2 : Nat} {n3 : Nat} {ns0 : Nat} {ce sl : Nat} {M : Mem} (hF : f_L_areClocks_b56 N xs n2 n3 ns0 M = some (r, M1)) (hn : mc + M.2.2.2 = ce + M1.2.2.2) (hz : ms + szM M = sl + szM M1) : Wt K X (QM K X (some (vi r)) M1 mc ms) ce sl M 56 [(0, vr 64), (1, vr 61), (2, vr n2), (3, vr n3)] [vr ns0] := by
  have hg := m_L_areClocks_b56 hF
  have hg1 := hg.1
  have hg2 := hg.2.1
  unfold f_L_areClocks_b56 at hF
  refine w_dup hB rfl dL_areClocks_56 ?_
  refine w_iconst hB 0 (by decide) dL_areClocks_57 ?_
  refine w_iconst hB (-1) (by decide) dL_areClocks_58 ?_
  obtain ⟨g1, hF⟩ := gdS hF
  obtain ⟨g2, hF⟩ := gdS hF
  obtain ⟨M1m, e_M1m, hF⟩ := bndS hF
  have q_M1m : EQ M M1m := by rw [e_M1m]; exact EQ_I _ _ _ _
  have x_M1m := q_M1m.gx
  have n_M1m := q_M1m.1
  have z_M1m := q_M1m.sz
  refine w_iast hB (dqM g1) (sl_d g1.1 rfl) g2 e_M1m dL_areClocks_59 ?_
  refine w_dup hB rfl dL_areClocks_60 ?_
  refine w_iconst hB 1 (by decide) dL_areClocks_61 ?_
  refine w_iconst hB (-1) (by decide) dL_areClocks_62 ?_
  obtain ⟨g3, hF⟩ := gdS hF
  obtain ⟨M2m, e_M2m, hF⟩ := bndS hF
  have q_M2m : EQ M1m M2m := by rw [e_M2m]; exact EQ_I _ _ _ _
  have x_M2m := q_M2m.gx
  have n_M2m := q_M2m.1
  have z_M2m := q_M2m.sz
  refine w_iast hB (dqM (GX.dyo x_M1m g1)) (sl_d (GX.dyo x_M1m g1).1 (GX.dl x_M1m g1 rfl)) g3 e_M2m dL_areClocks_63 ?_
  refine w_dup hB rfl dL_areClocks_64 ?_
  refine w_iconst hB 2 (by decide) dL_areClocks_65 ?_
  refine w_iconst hB (-1) (by decide) dL_areClocks_66 ?_
  obtain ⟨g4, hF⟩ := gdS hF
  obtain ⟨M3m, e_M3m, hF⟩ := bndS hF
  have q_M3m : EQ M2m M3m := by rw [e_M3m]; exact EQ_I _ _ _ _
  have x_M3m := q_M3m.gx
  have n_M3m := q_M3m.1
  have z_M3m := q_M3m.sz
  refine w_iast hB (dqM (GX.dyo x_M2m (GX.dyo x_M1m g1))) (sl_d (GX.dyo x_M2m (GX.dyo x_M1m g1)).1 (GX.dl x_M2m (GX.dyo x_M1m g1) (GX.dl x_M1m g1 rfl))) g4 e_M3m dL_areClocks_67 ?_
  refine w_astore hB (L' := [(4, vr ns0), (0, vr 64), (1, vr 61), (2, vr n2), (3, vr n3)]) dL_areClocks_68 (by decide) rfl ?_
  exact Wt.sub (L' := [(0, vr 64), (1, vr 61), (2, vr n2), (3, vr n3), (4, vr ns0)]) [1, 2, 3, 4, 0] rfl (b_L_areClocks_b70 hp hk hq hB fuel _ _ _ _ _ M3m hF (by omega) (by omega))
def f_L_areClocks_b34 (N : Nat) (xs : Nat → Int32) (n2 : Nat) (ns0 : Nat) (M : Mem) : Option (Int32 × Mem) :=
  gd (1000 ≤ ns0 ∧ dsc M ns0 = 20 ∧ ns0 - 753 < M.2.2.2) <|
  gd (inb 0 (dln M ns0)) <|
  bnd (setI M ns0 0 9999) fun M1m =>
  gd (inb 1 (dln M ns0)) <|
  bnd (setI M1m ns0 1 9999) fun M2m =>
  gd (inb 2 (dln M ns0)) <|
  bnd (setI M2m ns0 2 9999) fun M3m =>
  bnd (nwA 20 3 3 M3m) fun M4m =>
  f_L_areClocks_b56 N xs n2 ns0 (nn M3m) M4m
set_option maxRecDepth 100000 in
set_option maxHeartbeats 4000000 in
theorem m_L_areClocks_b34 {N : Nat} {xs : Nat → Int32} {n2 : Nat} {ns0 : Nat} {M Z : Mem} {r : Int32} (h : f_L_areClocks_b34 N xs n2 ns0 M = some (r, Z)) : GX M Z := by
  unfold f_L_areClocks_b34 at h
  obtain ⟨gq0, h⟩ := gdS h
  obtain ⟨gq1, h⟩ := gdS h
  obtain ⟨M1m, e_M1m, h⟩ := bndS h
  have q_M1m : GX M M1m := GX.tr (GX.refl M) (by rw [e_M1m]; exact (EQ_I _ _ _ _).gx)
  obtain ⟨gq3, h⟩ := gdS h
  obtain ⟨M2m, e_M2m, h⟩ := bndS h
  have q_M2m : GX M M2m := GX.tr q_M1m (by rw [e_M2m]; exact (EQ_I _ _ _ _).gx)
  obtain ⟨gq5, h⟩ := gdS h
  obtain ⟨M3m, e_M3m, h⟩ := bndS h
  have q_M3m : GX M M3m := GX.tr q_M2m (by rw [e_M3m]; exact (EQ_I _ _ _ _).gx)
  obtain ⟨M4m, e_M4m, h⟩ := bndS h
  have q_M4m : GX M M4m := GX.tr q_M3m (by rw [e_M4m]; exact GX_nw _ _ _ _)
  exact GX.tr q_M4m (m_L_areClocks_b56 h)
set_option maxRecDepth 100000 in
set_option maxHeartbeats 4000000 in
theorem b_L_areClocks_b34 {K : Kt} {X : Xt} (hp : St K) (hk : KC K) {N : Nat} {xs : Nat → Int32} (hq : KScr K N xs) {mc ms : Nat} (hB : Bx K X { frames := 3, cells := mc, slots := ms, locals := 68 } cL_areClocks 6 RL (some .boolean)) {r : Int32} {M1 : Mem} {n2 : Nat} {ns0 : Nat} {ce sl : Nat} {M : Mem} (hF : f_L_areClocks_b34 N xs n2 ns0 M = some (r, M1)) (hn : mc + M.2.2.2 = ce + M1.2.2.2) (hz : ms + szM M = sl + szM M1) : Wt K X (QM K X (some (vi r)) M1 mc ms) ce sl M 34 [(0, vr 64), (1, vr 61), (2, vr n2)] [vr ns0] := by
  have hg := m_L_areClocks_b34 hF
  have hg1 := hg.1
  have hg2 := hg.2.1
  unfold f_L_areClocks_b34 at hF
  refine w_dup hB rfl dL_areClocks_34 ?_
  refine w_iconst hB 0 (by decide) dL_areClocks_35 ?_
  refine w_sipush hB 9999 (by decide) dL_areClocks_36 ?_
  obtain ⟨g1, hF⟩ := gdS hF
  obtain ⟨g2, hF⟩ := gdS hF
  obtain ⟨M1m, e_M1m, hF⟩ := bndS hF
  have q_M1m : EQ M M1m := by rw [e_M1m]; exact EQ_I _ _ _ _
  have x_M1m := q_M1m.gx
  have n_M1m := q_M1m.1
  have z_M1m := q_M1m.sz
  refine w_iast hB (dqM g1) (sl_d g1.1 rfl) g2 e_M1m dL_areClocks_39 ?_
  refine w_dup hB rfl dL_areClocks_40 ?_
  refine w_iconst hB 1 (by decide) dL_areClocks_41 ?_
  refine w_sipush hB 9999 (by decide) dL_areClocks_42 ?_
  obtain ⟨g3, hF⟩ := gdS hF
  obtain ⟨M2m, e_M2m, hF⟩ := bndS hF
  have q_M2m : EQ M1m M2m := by rw [e_M2m]; exact EQ_I _ _ _ _
  have x_M2m := q_M2m.gx
  have n_M2m := q_M2m.1
  have z_M2m := q_M2m.sz
  refine w_iast hB (dqM (GX.dyo x_M1m g1)) (sl_d (GX.dyo x_M1m g1).1 (GX.dl x_M1m g1 rfl)) g3 e_M2m dL_areClocks_45 ?_
  refine w_dup hB rfl dL_areClocks_46 ?_
  refine w_iconst hB 2 (by decide) dL_areClocks_47 ?_
  refine w_sipush hB 9999 (by decide) dL_areClocks_48 ?_
  obtain ⟨g4, hF⟩ := gdS hF
  obtain ⟨M3m, e_M3m, hF⟩ := bndS hF
  have q_M3m : EQ M2m M3m := by rw [e_M3m]; exact EQ_I _ _ _ _
  have x_M3m := q_M3m.gx
  have n_M3m := q_M3m.1
  have z_M3m := q_M3m.sz
  refine w_iast hB (dqM (GX.dyo x_M2m (GX.dyo x_M1m g1))) (sl_d (GX.dyo x_M2m (GX.dyo x_M1m g1)).1 (GX.dl x_M2m (GX.dyo x_M1m g1) (GX.dl x_M1m g1 rfl))) g4 e_M3m dL_areClocks_51 ?_
  refine w_astore_n hB (L' := [(3, vr ns0), (0, vr 64), (1, vr 61), (2, vr n2)]) dL_areClocks_52 rfl (by decide) rfl ?_
  refine w_iconst hB 3 (by decide) dL_areClocks_53 ?_
  obtain ⟨M4m, e_M4m, hF⟩ := bndS hF
  have x_M4m : GX M3m M4m := by rw [e_M4m]; exact GX_nw _ _ _ _
  have n_M4m : M4m.2.2.2 = M3m.2.2.2 + 1 := by rw [e_M4m]; exact nwA_cn
  have z_M4m : szM M4m = szM M3m + 3 := by rw [e_M4m]; exact nwA_sz
  have hg3 := m_L_areClocks_b56 hF
  have hg4 := hg3.1
  have hg5 := hg3.2.1
  refine w_nwI hB hp.1 (N := 3) e_M4m (by decide) (by decide) ⟨show ce + 1 ≤ mc by omega, show sl + 3 ≤ ms by omega⟩ dL_areClocks_54 ?_
  exact Wt.sub (L' := [(0, vr 64), (1, vr 61), (2, vr n2), (3, vr ns0)]) [1, 2, 3, 0] rfl (b_L_areClocks_b56 hp hk hq hB hF (by omega) (by omega))
def f_L_areClocks_b3 (N : Nat) (xs : Nat → Int32) (ns0 : Nat) (M : Mem) : Option (Int32 × Mem) :=
  cl (f_X10_camera 0 0 M) fun r1 M1m =>
  gd (1000 ≤ ns0 ∧ dsc M1m ns0 = 20 ∧ ns0 - 753 < M1m.2.2.2) <|
  gd (inb 0 (dln M1m ns0)) <|
  bnd (setI M1m ns0 0 r1) fun M2m =>
  cl (f_X10_camera 1 0 M2m) fun r2 M3m =>
  gd (inb 1 (dln M1m ns0)) <|
  bnd (setI M3m ns0 1 r2) fun M4m =>
  cl (f_X10_camera 2 0 M4m) fun r3 M5m =>
  gd (inb 2 (dln M1m ns0)) <|
  bnd (setI M5m ns0 2 r3) fun M6m =>
  bnd (nwA 20 3 3 M6m) fun M7m =>
  f_L_areClocks_b34 N xs ns0 (nn M6m) M7m
set_option maxRecDepth 100000 in
set_option maxHeartbeats 4000000 in
theorem m_L_areClocks_b3 {N : Nat} {xs : Nat → Int32} {ns0 : Nat} {M Z : Mem} {r : Int32} (h : f_L_areClocks_b3 N xs ns0 M = some (r, Z)) : GX M Z := by
  unfold f_L_areClocks_b3 at h
  obtain ⟨r1, M1m, c_M1m, h⟩ := clS h
  have q_M1m : GX M M1m := GX.tr (GX.refl M) ((k_X10_camera c_M1m).gx)
  obtain ⟨gq1, h⟩ := gdS h
  obtain ⟨gq2, h⟩ := gdS h
  obtain ⟨M2m, e_M2m, h⟩ := bndS h
  have q_M2m : GX M M2m := GX.tr q_M1m (by rw [e_M2m]; exact (EQ_I _ _ _ _).gx)
  obtain ⟨r2, M3m, c_M3m, h⟩ := clS h
  have q_M3m : GX M M3m := GX.tr q_M2m ((k_X10_camera c_M3m).gx)
  obtain ⟨gq5, h⟩ := gdS h
  obtain ⟨M4m, e_M4m, h⟩ := bndS h
  have q_M4m : GX M M4m := GX.tr q_M3m (by rw [e_M4m]; exact (EQ_I _ _ _ _).gx)
  obtain ⟨r3, M5m, c_M5m, h⟩ := clS h
  have q_M5m : GX M M5m := GX.tr q_M4m ((k_X10_camera c_M5m).gx)
  obtain ⟨gq8, h⟩ := gdS h
  obtain ⟨M6m, e_M6m, h⟩ := bndS h
  have q_M6m : GX M M6m := GX.tr q_M5m (by rw [e_M6m]; exact (EQ_I _ _ _ _).gx)
  obtain ⟨M7m, e_M7m, h⟩ := bndS h
  have q_M7m : GX M M7m := GX.tr q_M6m (by rw [e_M7m]; exact GX_nw _ _ _ _)
  exact GX.tr q_M7m (m_L_areClocks_b34 h)
set_option maxRecDepth 100000 in
set_option maxHeartbeats 4000000 in
theorem b_L_areClocks_b3 {K : Kt} {X : Xt} (hp : St K) (hk : KC K) {N : Nat} {xs : Nat → Int32} (hq : KScr K N xs) {mc ms : Nat} (hB : Bx K X { frames := 3, cells := mc, slots := ms, locals := 68 } cL_areClocks 6 RL (some .boolean)) {r : Int32} {M1 : Mem} {ns0 : Nat} {ce sl : Nat} {M : Mem} (hF : f_L_areClocks_b3 N xs ns0 M = some (r, M1)) (hn : mc + M.2.2.2 = ce + M1.2.2.2) (hz : ms + szM M = sl + szM M1) : Wt K X (QM K X (some (vi r)) M1 mc ms) ce sl M 3 [(0, vr 64), (1, vr 61)] [vr ns0] := by
  have hg := m_L_areClocks_b3 hF
  have hg1 := hg.1
  have hg2 := hg.2.1
  unfold f_L_areClocks_b3 at hF
  refine w_dup hB rfl dL_areClocks_3 ?_
  refine w_iconst hB 0 (by decide) dL_areClocks_4 ?_
  refine w_aload_n hB 0 dL_areClocks_5 rfl rfl ?_
  refine w_iconst hB 0 (by decide) dL_areClocks_6 ?_
  refine w_iconst hB 0 (by decide) dL_areClocks_7 ?_
  obtain ⟨r1, M1m, hc_M1m, hF⟩ := clS hF
  have q_M1m : EQ M M1m := k_X10_camera hc_M1m
  have x_M1m := q_M1m.gx
  have n_M1m := q_M1m.1
  have z_M1m := q_M1m.sz
  refine w_callV (M1 := M1m) hB (ci := 8) (As := [vi 0, vi 0]) (st := [vi 0, vr ns0, vr ns0]) cw_L_169 q_1173 q_1174 rfl (soM hp.1 sh_64 (by decide)) (c_X10_camera hp hc_M1m) ⟨rfl, rfl⟩ ⟨Nat.le_of_ble_eq_true rfl, Nat.le_of_ble_eq_true rfl⟩ ⟨show ce ≤ mc by omega, show sl ≤ ms by omega⟩ rfl (Nat.le_of_ble_eq_true rfl) dL_areClocks_8 rfl ?_ (Or.inl rfl)
  obtain ⟨g1, hF⟩ := gdS hF
  obtain ⟨g2, hF⟩ := gdS hF
  obtain ⟨M2m, e_M2m, hF⟩ := bndS hF
  have q_M2m : EQ M1m M2m := by rw [e_M2m]; exact EQ_I _ _ _ _
  have x_M2m := q_M2m.gx
  have n_M2m := q_M2m.1
  have z_M2m := q_M2m.sz
  refine w_iast hB (dqM g1) (sl_d g1.1 rfl) g2 e_M2m dL_areClocks_11 ?_
  refine w_dup hB rfl dL_areClocks_12 ?_
  refine w_iconst hB 1 (by decide) dL_areClocks_13 ?_
  refine w_aload_n hB 0 dL_areClocks_14 rfl rfl ?_
  refine w_iconst hB 1 (by decide) dL_areClocks_15 ?_
  refine w_iconst hB 0 (by decide) dL_areClocks_16 ?_
  obtain ⟨r2, M3m, hc_M3m, hF⟩ := clS hF
  have q_M3m : EQ M2m M3m := k_X10_camera hc_M3m
  have x_M3m := q_M3m.gx
  have n_M3m := q_M3m.1
  have z_M3m := q_M3m.sz
  refine w_callV (M1 := M3m) hB (ci := 8) (As := [vi 1, vi 0]) (st := [vi 1, vr ns0, vr ns0]) cw_L_169 q_1173 q_1174 rfl (soM hp.1 sh_64 (by decide)) (c_X10_camera hp hc_M3m) ⟨rfl, rfl⟩ ⟨Nat.le_of_ble_eq_true rfl, Nat.le_of_ble_eq_true rfl⟩ ⟨show ce ≤ mc by omega, show sl ≤ ms by omega⟩ rfl (Nat.le_of_ble_eq_true rfl) dL_areClocks_17 rfl ?_ (Or.inl rfl)
  obtain ⟨g3, hF⟩ := gdS hF
  obtain ⟨M4m, e_M4m, hF⟩ := bndS hF
  have q_M4m : EQ M3m M4m := by rw [e_M4m]; exact EQ_I _ _ _ _
  have x_M4m := q_M4m.gx
  have n_M4m := q_M4m.1
  have z_M4m := q_M4m.sz
  refine w_iast hB (dqM (GX.dyo x_M3m (GX.dyo x_M2m g1))) (sl_d (GX.dyo x_M3m (GX.dyo x_M2m g1)).1 (GX.dl x_M3m (GX.dyo x_M2m g1) (GX.dl x_M2m g1 rfl))) g3 e_M4m dL_areClocks_20 ?_
  refine w_dup hB rfl dL_areClocks_21 ?_
  refine w_iconst hB 2 (by decide) dL_areClocks_22 ?_
  refine w_aload_n hB 0 dL_areClocks_23 rfl rfl ?_
  refine w_iconst hB 2 (by decide) dL_areClocks_24 ?_
  refine w_iconst hB 0 (by decide) dL_areClocks_25 ?_
  obtain ⟨r3, M5m, hc_M5m, hF⟩ := clS hF
  have q_M5m : EQ M4m M5m := k_X10_camera hc_M5m
  have x_M5m := q_M5m.gx
  have n_M5m := q_M5m.1
  have z_M5m := q_M5m.sz
  refine w_callV (M1 := M5m) hB (ci := 8) (As := [vi 2, vi 0]) (st := [vi 2, vr ns0, vr ns0]) cw_L_169 q_1173 q_1174 rfl (soM hp.1 sh_64 (by decide)) (c_X10_camera hp hc_M5m) ⟨rfl, rfl⟩ ⟨Nat.le_of_ble_eq_true rfl, Nat.le_of_ble_eq_true rfl⟩ ⟨show ce ≤ mc by omega, show sl ≤ ms by omega⟩ rfl (Nat.le_of_ble_eq_true rfl) dL_areClocks_26 rfl ?_ (Or.inl rfl)
  obtain ⟨g4, hF⟩ := gdS hF
  obtain ⟨M6m, e_M6m, hF⟩ := bndS hF
  have q_M6m : EQ M5m M6m := by rw [e_M6m]; exact EQ_I _ _ _ _
  have x_M6m := q_M6m.gx
  have n_M6m := q_M6m.1
  have z_M6m := q_M6m.sz
  refine w_iast hB (dqM (GX.dyo x_M5m (GX.dyo x_M4m (GX.dyo x_M3m (GX.dyo x_M2m g1))))) (sl_d (GX.dyo x_M5m (GX.dyo x_M4m (GX.dyo x_M3m (GX.dyo x_M2m g1)))).1 (GX.dl x_M5m (GX.dyo x_M4m (GX.dyo x_M3m (GX.dyo x_M2m g1))) (GX.dl x_M4m (GX.dyo x_M3m (GX.dyo x_M2m g1)) (GX.dl x_M3m (GX.dyo x_M2m g1) (GX.dl x_M2m g1 rfl))))) g4 e_M6m dL_areClocks_29 ?_
  refine w_astore_n hB (L' := [(2, vr ns0), (0, vr 64), (1, vr 61)]) dL_areClocks_30 rfl (by decide) rfl ?_
  refine w_iconst hB 3 (by decide) dL_areClocks_31 ?_
  obtain ⟨M7m, e_M7m, hF⟩ := bndS hF
  have x_M7m : GX M6m M7m := by rw [e_M7m]; exact GX_nw _ _ _ _
  have n_M7m : M7m.2.2.2 = M6m.2.2.2 + 1 := by rw [e_M7m]; exact nwA_cn
  have z_M7m : szM M7m = szM M6m + 3 := by rw [e_M7m]; exact nwA_sz
  have hg3 := m_L_areClocks_b34 hF
  have hg4 := hg3.1
  have hg5 := hg3.2.1
  refine w_nwI hB hp.1 (N := 3) e_M7m (by decide) (by decide) ⟨show ce + 1 ≤ mc by omega, show sl + 3 ≤ ms by omega⟩ dL_areClocks_32 ?_
  exact Wt.sub (L' := [(0, vr 64), (1, vr 61), (2, vr ns0)]) [1, 2, 0] rfl (b_L_areClocks_b34 hp hk hq hB hF (by omega) (by omega))
def f_L_areClocks (N : Nat) (xs : Nat → Int32) (M : Mem) : Option (Int32 × Mem) :=
  bnd (nwA 20 3 3 M) fun M1m =>
  f_L_areClocks_b3 N xs (nn M) M1m
set_option maxRecDepth 100000 in
set_option maxHeartbeats 4000000 in
theorem m_L_areClocks {N : Nat} {xs : Nat → Int32} {M Z : Mem} {r : Int32} (h : f_L_areClocks N xs M = some (r, Z)) : GX M Z := by
  unfold f_L_areClocks at h
  obtain ⟨M1m, e_M1m, h⟩ := bndS h
  have q_M1m : GX M M1m := GX.tr (GX.refl M) (by rw [e_M1m]; exact GX_nw _ _ _ _)
  exact GX.tr q_M1m (m_L_areClocks_b3 h)
set_option maxRecDepth 100000 in
set_option maxHeartbeats 4000000 in
theorem b_L_areClocks {K : Kt} {X : Xt} (hp : St K) (hk : KC K) {N : Nat} {xs : Nat → Int32} (hq : KScr K N xs) {mc ms : Nat} (hB : Bx K X { frames := 3, cells := mc, slots := ms, locals := 68 } cL_areClocks 6 RL (some .boolean)) {r : Int32} {M1 : Mem} {ce sl : Nat} {M : Mem} (hF : f_L_areClocks N xs M = some (r, M1)) (hn : mc + M.2.2.2 = ce + M1.2.2.2) (hz : ms + szM M = sl + szM M1) : Wt K X (QM K X (some (vi r)) M1 mc ms) ce sl M 0 [(0, vr 64), (1, vr 61)] [] := by
  have hg := m_L_areClocks hF
  have hg1 := hg.1
  have hg2 := hg.2.1
  unfold f_L_areClocks at hF
  refine w_iconst hB 3 (by decide) dL_areClocks_0 ?_
  obtain ⟨M1m, e_M1m, hF⟩ := bndS hF
  have x_M1m : GX M M1m := by rw [e_M1m]; exact GX_nw _ _ _ _
  have n_M1m : M1m.2.2.2 = M.2.2.2 + 1 := by rw [e_M1m]; exact nwA_cn
  have z_M1m : szM M1m = szM M + 3 := by rw [e_M1m]; exact nwA_sz
  have hg3 := m_L_areClocks_b3 hF
  have hg4 := hg3.1
  have hg5 := hg3.2.1
  refine w_nwI hB hp.1 (N := 3) e_M1m (by decide) (by decide) ⟨show ce + 1 ≤ mc by omega, show sl + 3 ≤ ms by omega⟩ dL_areClocks_1 ?_
  exact Wt.sub (L' := [(0, vr 64), (1, vr 61)]) [0, 1] rfl (b_L_areClocks_b3 hp hk hq hB hF (by omega) (by omega))
theorem c_L_areClocks {K : Kt} {l : Launch} (hp : St K) (hk : KC K) {N : Nat} {xs : Nat → Int32} (hq : KScr K N xs) {r : Int32} {M1 : Mem} {M : Mem} (hF : f_L_areClocks N xs M = some (r, M1)) : MT K l yL_areClocks cL_areClocks 6 (some .boolean) { frames := 3, cells := M1.2.2.2 - M.2.2.2, slots := szM M1 - szM M, locals := 68 } [vr 64, vr 61] M (some (vi r)) M1 (M1.2.2.2 - M.2.2.2) (szM M1 - szM M) := by
  have hg := m_L_areClocks hF
  have hg1 := hg.1
  have hg2 := hg.2.1
  exact MT_of (by decide) rfl (Nat.le_of_ble_eq_true rfl) (fun X _ hB _ => b_L_areClocks hp hk hq hB hF (by omega) (by omega))
