/-! begins -/
def f_L_begins_b880 (N : Nat) (xs : Nat → Int32) (x3 : Int32) (x4 : Int32) (xs0 : Int32) (M : Mem) : Option (Int32 × Mem) :=
  if xs0 = x4 then
    cl (f_X10_count 1 M) fun r1 M1m =>
    if r1 = x3 then
      some (1, M1m)
    else
      some (0, M1m)
  else
    some (0, M)
set_option maxRecDepth 100000 in
set_option maxHeartbeats 4000000 in
theorem m_L_begins_b880 {N : Nat} {xs : Nat → Int32} {x3 : Int32} {x4 : Int32} {xs0 : Int32} {M Z : Mem} {r : Int32} (h : f_L_begins_b880 N xs x3 x4 xs0 M = some (r, Z)) : GX M Z := by
  unfold f_L_begins_b880 at h
  rcases ifS h with ⟨-, h⟩ | ⟨-, h⟩
  · obtain ⟨r1, M1m, c_M1m, h⟩ := clS h
    have q_M1m : GX M M1m := GX.tr (GX.refl M) ((k_X10_count c_M1m).gx)
    rcases ifS h with ⟨-, h⟩ | ⟨-, h⟩
    · obtain ⟨-, e⟩ := retS h
      rw [← e]
      exact q_M1m
    · obtain ⟨-, e⟩ := retS h
      rw [← e]
      exact q_M1m
  · obtain ⟨-, e⟩ := retS h
    rw [← e]
    exact (GX.refl M)
set_option maxRecDepth 100000 in
set_option maxHeartbeats 4000000 in
theorem b_L_begins_b880 {K : Kt} {X : Xt} (hp : St K) (hk : KC K) {N : Nat} {xs : Nat → Int32} (hq : KScr K N xs) {mc ms : Nat} (hB : Bx K X { frames := 9, cells := mc, slots := ms, locals := 200 } cL_begins 10 RL (some .boolean)) {r : Int32} {M1 : Mem} {x3 : Int32} {x4 : Int32} {xs0 : Int32} {ce sl : Nat} {M : Mem} (hF : f_L_begins_b880 N xs x3 x4 xs0 M = some (r, M1)) (hn : mc + M.2.2.2 = ce + M1.2.2.2) (hz : ms + szM M = sl + szM M1) : Wt K X (QM K X (some (vi r)) M1 mc ms) ce sl M 880 [(0, vr 64), (3, vi x3), (4, vi x4)] [vi xs0] := by
  have hg := m_L_begins_b880 hF
  have hg1 := hg.1
  have hg2 := hg.2.1
  unfold f_L_begins_b880 at hF
  refine w_iload hB 2 dL_begins_880 rfl ?_
  refine w_icmp_ne hB 898 dL_begins_882 (by decide) (fun hc => ?_) (fun hc => ?_)
  · replace hF := ifF hc hF
    refine w_iconst hB 0 (by decide) dL_begins_898 ?_
    obtain ⟨e1, e2⟩ := retS hF
    subst e2
    have hmc : mc = ce := by omega
    have hms : ms = sl := by omega
    subst hmc
    subst hms
    exact w_zret hB (by decide) dL_begins_899 e1
  · replace hF := ifT hc hF
    refine w_aload_n hB 0 dL_begins_885 rfl rfl ?_
    refine w_iconst hB 1 (by decide) dL_begins_886 ?_
    obtain ⟨r1, M1m, hc_M1m, hF⟩ := clS hF
    have q_M1m : EQ M M1m := k_X10_count hc_M1m
    have x_M1m := q_M1m.gx
    have n_M1m := q_M1m.1
    have z_M1m := q_M1m.sz
    refine w_callV (M1 := M1m) hB (ci := 8) (As := [vi 1]) (st := []) cw_L_112 q_573 q_574 rfl (soM hp.1 sh_64 (by decide)) (c_X10_count hp hc_M1m) ⟨rfl, rfl⟩ ⟨Nat.le_of_ble_eq_true rfl, Nat.le_of_ble_eq_true rfl⟩ ⟨show ce ≤ mc by omega, show sl ≤ ms by omega⟩ rfl (Nat.le_of_ble_eq_true rfl) dL_begins_887 rfl ?_ (Or.inl rfl)
    refine w_iload_n hB 1 dL_begins_890 rfl rfl ?_
    refine w_icmp_ne hB 898 dL_begins_891 (by decide) (fun hc => ?_) (fun hc => ?_)
    · replace hF := ifF hc hF
      refine w_iconst hB 0 (by decide) dL_begins_898 ?_
      obtain ⟨e1, e2⟩ := retS hF
      subst e2
      have hmc : mc = ce := by omega
      have hms : ms = sl := by omega
      subst hmc
      subst hms
      exact w_zret hB (by decide) dL_begins_899 e1
    · replace hF := ifT hc hF
      refine w_iconst hB 1 (by decide) dL_begins_894 ?_
      refine w_goto hB 899 dL_begins_895 (by decide) ?_
      obtain ⟨e1, e2⟩ := retS hF
      subst e2
      have hmc : mc = ce := by omega
      have hms : ms = sl := by omega
      subst hmc
      subst hms
      exact w_zret hB (by decide) dL_begins_899 e1
def f_L_begins_b877 (N : Nat) (xs : Nat → Int32) (x3 : Int32) (x4 : Int32) (ns1 : Nat) (M : Mem) : Option (Int32 × Mem) :=
  cl (f_L_feeds N xs ns1 M) fun r1 M1m =>
  f_L_begins_b880 N xs x3 x4 r1 M1m
set_option maxRecDepth 100000 in
set_option maxHeartbeats 4000000 in
theorem m_L_begins_b877 {N : Nat} {xs : Nat → Int32} {x3 : Int32} {x4 : Int32} {ns1 : Nat} {M Z : Mem} {r : Int32} (h : f_L_begins_b877 N xs x3 x4 ns1 M = some (r, Z)) : GX M Z := by
  unfold f_L_begins_b877 at h
  obtain ⟨r1, M1m, c_M1m, h⟩ := clS h
  have q_M1m : GX M M1m := GX.tr (GX.refl M) (m_L_feeds c_M1m)
  exact GX.tr q_M1m (m_L_begins_b880 h)
set_option maxRecDepth 100000 in
set_option maxHeartbeats 4000000 in
theorem b_L_begins_b877 {K : Kt} {X : Xt} (hp : St K) (hk : KC K) {N : Nat} {xs : Nat → Int32} (hq : KScr K N xs) {mc ms : Nat} (hB : Bx K X { frames := 9, cells := mc, slots := ms, locals := 200 } cL_begins 10 RL (some .boolean)) {r : Int32} {M1 : Mem} {x3 : Int32} {x4 : Int32} {ns1 : Nat} {ce sl : Nat} {M : Mem} (hF : f_L_begins_b877 N xs x3 x4 ns1 M = some (r, M1)) (hn : mc + M.2.2.2 = ce + M1.2.2.2) (hz : ms + szM M = sl + szM M1) : Wt K X (QM K X (some (vi r)) M1 mc ms) ce sl M 877 [(0, vr 64), (3, vi x3), (4, vi x4)] [vr ns1, vr 64] := by
  have hg := m_L_begins_b877 hF
  have hg1 := hg.1
  have hg2 := hg.2.1
  unfold f_L_begins_b877 at hF
  obtain ⟨r1, M1m, hc_M1m, hF⟩ := clS hF
  have x_M1m := m_L_feeds hc_M1m
  have xa_M1m := x_M1m.1
  have xb_M1m := x_M1m.2.1
  have hg3 := m_L_begins_b880 hF
  have hg4 := hg3.1
  have hg5 := hg3.2.1
  refine w_callS (M1 := M1m) hB (As := [vr 64, vr ns1]) (st := []) cw_L_108 q_870 (c_L_feeds hp hk hq hc_M1m) ⟨rfl, rfl⟩ ⟨Nat.le_of_ble_eq_true rfl, Nat.le_of_ble_eq_true rfl⟩ ⟨show ce + (M1m.2.2.2 - M.2.2.2) ≤ mc by omega, show sl + (szM M1m - szM M) ≤ ms by omega⟩ rfl (Nat.le_of_ble_eq_true rfl) dL_begins_877 rfl ?_ (Or.inr (by omega))
  exact Wt.sub (L' := [(0, vr 64), (3, vi x3), (4, vi x4)]) [0, 1, 2] rfl (b_L_begins_b880 hp hk hq hB hF (by omega) (by omega))
def f_L_begins_b871 (N : Nat) (xs : Nat → Int32) (n2 : Nat) (x3 : Int32) (x4 : Int32) (ns0 : Nat) (M : Mem) : Option (Int32 × Mem) :=
  gd (1000 ≤ n2 ∧ dsc M n2 = 11 ∧ n2 - 753 < M.2.2.2) <|
  cl (f_J4_toString_0e30d n2 M) fun o1 M1m =>
  f_L_begins_b877 N xs x3 x4 o1 M1m
set_option maxRecDepth 100000 in
set_option maxHeartbeats 4000000 in
theorem m_L_begins_b871 {N : Nat} {xs : Nat → Int32} {n2 : Nat} {x3 : Int32} {x4 : Int32} {ns0 : Nat} {M Z : Mem} {r : Int32} (h : f_L_begins_b871 N xs n2 x3 x4 ns0 M = some (r, Z)) : GX M Z := by
  unfold f_L_begins_b871 at h
  obtain ⟨gq0, h⟩ := gdS h
  obtain ⟨o1, M1m, c_M1m, h⟩ := clS h
  have q_M1m : GX M M1m := GX.tr (GX.refl M) (m_J4_toString_0e30d c_M1m)
  exact GX.tr q_M1m (m_L_begins_b877 h)
set_option maxRecDepth 100000 in
set_option maxHeartbeats 4000000 in
theorem b_L_begins_b871 {K : Kt} {X : Xt} (hp : St K) (hk : KC K) {N : Nat} {xs : Nat → Int32} (hq : KScr K N xs) {mc ms : Nat} (hB : Bx K X { frames := 9, cells := mc, slots := ms, locals := 200 } cL_begins 10 RL (some .boolean)) {r : Int32} {M1 : Mem} {n2 : Nat} {x3 : Int32} {x4 : Int32} {ns0 : Nat} {ce sl : Nat} {M : Mem} (hF : f_L_begins_b871 N xs n2 x3 x4 ns0 M = some (r, M1)) (hn : mc + M.2.2.2 = ce + M1.2.2.2) (hz : ms + szM M = sl + szM M1) : Wt K X (QM K X (some (vi r)) M1 mc ms) ce sl M 871 [(0, vr 64), (2, vr n2), (3, vi x3), (4, vi x4)] [vr ns0] := by
  have hg := m_L_begins_b871 hF
  have hg1 := hg.1
  have hg2 := hg.2.1
  unfold f_L_begins_b871 at hF
  refine w_pop hB rfl dL_begins_871 ?_
  refine w_aload_n hB 0 dL_begins_872 rfl rfl ?_
  refine w_aload_n hB 1 dL_begins_873 rfl rfl ?_
  obtain ⟨g1, hF⟩ := gdS hF
  obtain ⟨o1, M1m, hc_M1m, hF⟩ := clS hF
  have x_M1m := m_J4_toString_0e30d hc_M1m
  have xa_M1m := x_M1m.1
  have xb_M1m := x_M1m.2.1
  have hg3 := m_L_begins_b877 hF
  have hg4 := hg3.1
  have hg5 := hg3.2.1
  refine w_callV (M1 := M1m) hB (ci := 10) (As := []) (st := [vr 64]) cw_L_104 q_810 q_811 rfl (dqM g1) (c_J4_toString_0e30d hp hk hc_M1m) ⟨rfl, rfl⟩ ⟨Nat.le_of_ble_eq_true rfl, Nat.le_of_ble_eq_true rfl⟩ ⟨show ce + (M1m.2.2.2 - M.2.2.2) ≤ mc by omega, show sl + (szM M1m - szM M) ≤ ms by omega⟩ rfl (Nat.le_of_ble_eq_true rfl) dL_begins_874 rfl ?_ (Or.inr (by omega))
  exact Wt.sub (L' := [(0, vr 64), (3, vi x3), (4, vi x4)]) [0, 2, 3] rfl (b_L_begins_b877 hp hk hq hB hF (by omega) (by omega))
def f_L_begins_b866 (N : Nat) (xs : Nat → Int32) (n2 : Nat) (x3 : Int32) (x4 : Int32) (ns0 : Nat) (M : Mem) : Option (Int32 × Mem) :=
  gd (1000 ≤ ns0 ∧ dsc M ns0 = 11 ∧ ns0 - 753 < M.2.2.2) <|
  cl (f_J4_append_15ec4 ns0 402 M) fun o1 M1m =>
  f_L_begins_b871 N xs n2 x3 x4 o1 M1m
set_option maxRecDepth 100000 in
set_option maxHeartbeats 4000000 in
theorem m_L_begins_b866 {N : Nat} {xs : Nat → Int32} {n2 : Nat} {x3 : Int32} {x4 : Int32} {ns0 : Nat} {M Z : Mem} {r : Int32} (h : f_L_begins_b866 N xs n2 x3 x4 ns0 M = some (r, Z)) : GX M Z := by
  unfold f_L_begins_b866 at h
  obtain ⟨gq0, h⟩ := gdS h
  obtain ⟨o1, M1m, c_M1m, h⟩ := clS h
  have q_M1m : GX M M1m := GX.tr (GX.refl M) (m_J4_append_15ec4 c_M1m)
  exact GX.tr q_M1m (m_L_begins_b871 h)
set_option maxRecDepth 100000 in
set_option maxHeartbeats 4000000 in
theorem b_L_begins_b866 {K : Kt} {X : Xt} (hp : St K) (hk : KC K) {N : Nat} {xs : Nat → Int32} (hq : KScr K N xs) {mc ms : Nat} (hB : Bx K X { frames := 9, cells := mc, slots := ms, locals := 200 } cL_begins 10 RL (some .boolean)) {r : Int32} {M1 : Mem} {n2 : Nat} {x3 : Int32} {x4 : Int32} {ns0 : Nat} {ce sl : Nat} {M : Mem} (hF : f_L_begins_b866 N xs n2 x3 x4 ns0 M = some (r, M1)) (hn : mc + M.2.2.2 = ce + M1.2.2.2) (hz : ms + szM M = sl + szM M1) : Wt K X (QM K X (some (vi r)) M1 mc ms) ce sl M 866 [(0, vr 64), (2, vr n2), (3, vi x3), (4, vi x4)] [vr ns0] := by
  have hg := m_L_begins_b866 hF
  have hg1 := hg.1
  have hg2 := hg.2.1
  unfold f_L_begins_b866 at hF
  refine w_ldcs hB hp 402 (by decide) dL_begins_866 ?_
  obtain ⟨g1, hF⟩ := gdS hF
  obtain ⟨o1, M1m, hc_M1m, hF⟩ := clS hF
  have x_M1m := m_J4_append_15ec4 hc_M1m
  have xa_M1m := x_M1m.1
  have xb_M1m := x_M1m.2.1
  have hg3 := m_L_begins_b871 hF
  have hg4 := hg3.1
  have hg5 := hg3.2.1
  refine w_callV (M1 := M1m) hB (ci := 10) (As := [vr 402]) (st := []) cw_L_40 q_612 q_613 rfl (dqM g1) (c_J4_append_15ec4 hp hk hc_M1m) ⟨rfl, rfl⟩ ⟨Nat.le_of_ble_eq_true rfl, Nat.le_of_ble_eq_true rfl⟩ ⟨show ce + (M1m.2.2.2 - M.2.2.2) ≤ mc by omega, show sl + (szM M1m - szM M) ≤ ms by omega⟩ rfl (Nat.le_of_ble_eq_true rfl) dL_begins_868 rfl ?_ (Or.inr (by omega))
  exact Wt.sub (L' := [(0, vr 64), (2, vr n2), (3, vi x3), (4, vi x4)]) [0, 1, 2, 3] rfl (b_L_begins_b871 hp hk hq hB hF (by omega) (by omega))
def f_L_begins_b855 (N : Nat) (xs : Nat → Int32) (n2 : Nat) (x3 : Int32) (x4 : Int32) (ns0 : Nat) (M : Mem) : Option (Int32 × Mem) :=
  cl (f_L_some N xs 183 3 M) fun r1 M1m =>
  gd (1000 ≤ ns0 ∧ dsc M1m ns0 = 11 ∧ ns0 - 753 < M1m.2.2.2) <|
  cl (f_J4_append_bf812 ns0 r1 M1m) fun o1 M2m =>
  f_L_begins_b866 N xs n2 x3 x4 o1 M2m
set_option maxRecDepth 100000 in
set_option maxHeartbeats 4000000 in
theorem m_L_begins_b855 {N : Nat} {xs : Nat → Int32} {n2 : Nat} {x3 : Int32} {x4 : Int32} {ns0 : Nat} {M Z : Mem} {r : Int32} (h : f_L_begins_b855 N xs n2 x3 x4 ns0 M = some (r, Z)) : GX M Z := by
  unfold f_L_begins_b855 at h
  obtain ⟨r1, M1m, c_M1m, h⟩ := clS h
  have q_M1m : GX M M1m := GX.tr (GX.refl M) ((k_L_some c_M1m).gx)
  obtain ⟨gq1, h⟩ := gdS h
  obtain ⟨o1, M2m, c_M2m, h⟩ := clS h
  have q_M2m : GX M M2m := GX.tr q_M1m (m_J4_append_bf812 c_M2m)
  exact GX.tr q_M2m (m_L_begins_b866 h)
set_option maxRecDepth 100000 in
set_option maxHeartbeats 4000000 in
theorem b_L_begins_b855 {K : Kt} {X : Xt} (hp : St K) (hk : KC K) {N : Nat} {xs : Nat → Int32} (hq : KScr K N xs) {mc ms : Nat} (hB : Bx K X { frames := 9, cells := mc, slots := ms, locals := 200 } cL_begins 10 RL (some .boolean)) {r : Int32} {M1 : Mem} {n2 : Nat} {x3 : Int32} {x4 : Int32} {ns0 : Nat} {ce sl : Nat} {M : Mem} (hF : f_L_begins_b855 N xs n2 x3 x4 ns0 M = some (r, M1)) (hn : mc + M.2.2.2 = ce + M1.2.2.2) (hz : ms + szM M = sl + szM M1) : Wt K X (QM K X (some (vi r)) M1 mc ms) ce sl M 855 [(0, vr 64), (1, vr 61), (2, vr n2), (3, vi x3), (4, vi x4)] [vr ns0] := by
  have hg := m_L_begins_b855 hF
  have hg1 := hg.1
  have hg2 := hg.2.1
  unfold f_L_begins_b855 at hF
  refine w_aload_n hB 1 dL_begins_855 rfl rfl ?_
  refine w_sipush hB 183 (by decide) dL_begins_856 ?_
  refine w_iconst hB 3 (by decide) dL_begins_859 ?_
  obtain ⟨r1, M1m, hc_M1m, hF⟩ := clS hF
  have q_M1m : EQ M M1m := k_L_some hc_M1m
  have x_M1m := q_M1m.gx
  have n_M1m := q_M1m.1
  have z_M1m := q_M1m.sz
  refine w_callS (M1 := M1m) hB (As := [vr 61, vi 183, vi 3]) (st := [vr ns0]) cw_L_49 q_753 (c_L_some hp hq hc_M1m) ⟨rfl, rfl⟩ ⟨Nat.le_of_ble_eq_true rfl, Nat.le_of_ble_eq_true rfl⟩ ⟨show ce ≤ mc by omega, show sl ≤ ms by omega⟩ rfl (Nat.le_of_ble_eq_true rfl) dL_begins_860 rfl ?_ (Or.inl rfl)
  obtain ⟨g1, hF⟩ := gdS hF
  obtain ⟨o1, M2m, hc_M2m, hF⟩ := clS hF
  have x_M2m := m_J4_append_bf812 hc_M2m
  have xa_M2m := x_M2m.1
  have xb_M2m := x_M2m.2.1
  have hg3 := m_L_begins_b866 hF
  have hg4 := hg3.1
  have hg5 := hg3.2.1
  refine w_callV (M1 := M2m) hB (ci := 10) (As := [vi r1]) (st := []) cw_L_53 q_761 q_762 rfl (dqM g1) (c_J4_append_bf812 hp hk hc_M2m) ⟨rfl, rfl⟩ ⟨Nat.le_of_ble_eq_true rfl, Nat.le_of_ble_eq_true rfl⟩ ⟨show ce + (M2m.2.2.2 - M1m.2.2.2) ≤ mc by omega, show sl + (szM M2m - szM M1m) ≤ ms by omega⟩ rfl (Nat.le_of_ble_eq_true rfl) dL_begins_863 rfl ?_ (Or.inr (by omega))
  exact Wt.sub (L' := [(0, vr 64), (2, vr n2), (3, vi x3), (4, vi x4)]) [0, 2, 3, 4] rfl (b_L_begins_b866 hp hk hq hB hF (by omega) (by omega))
def f_L_begins_b850 (N : Nat) (xs : Nat → Int32) (n2 : Nat) (x3 : Int32) (x4 : Int32) (ns0 : Nat) (M : Mem) : Option (Int32 × Mem) :=
  gd (1000 ≤ ns0 ∧ dsc M ns0 = 11 ∧ ns0 - 753 < M.2.2.2) <|
  cl (f_J4_append_15ec4 ns0 425 M) fun o1 M1m =>
  f_L_begins_b855 N xs n2 x3 x4 o1 M1m
set_option maxRecDepth 100000 in
set_option maxHeartbeats 4000000 in
theorem m_L_begins_b850 {N : Nat} {xs : Nat → Int32} {n2 : Nat} {x3 : Int32} {x4 : Int32} {ns0 : Nat} {M Z : Mem} {r : Int32} (h : f_L_begins_b850 N xs n2 x3 x4 ns0 M = some (r, Z)) : GX M Z := by
  unfold f_L_begins_b850 at h
  obtain ⟨gq0, h⟩ := gdS h
  obtain ⟨o1, M1m, c_M1m, h⟩ := clS h
  have q_M1m : GX M M1m := GX.tr (GX.refl M) (m_J4_append_15ec4 c_M1m)
  exact GX.tr q_M1m (m_L_begins_b855 h)
set_option maxRecDepth 100000 in
set_option maxHeartbeats 4000000 in
theorem b_L_begins_b850 {K : Kt} {X : Xt} (hp : St K) (hk : KC K) {N : Nat} {xs : Nat → Int32} (hq : KScr K N xs) {mc ms : Nat} (hB : Bx K X { frames := 9, cells := mc, slots := ms, locals := 200 } cL_begins 10 RL (some .boolean)) {r : Int32} {M1 : Mem} {n2 : Nat} {x3 : Int32} {x4 : Int32} {ns0 : Nat} {ce sl : Nat} {M : Mem} (hF : f_L_begins_b850 N xs n2 x3 x4 ns0 M = some (r, M1)) (hn : mc + M.2.2.2 = ce + M1.2.2.2) (hz : ms + szM M = sl + szM M1) : Wt K X (QM K X (some (vi r)) M1 mc ms) ce sl M 850 [(0, vr 64), (1, vr 61), (2, vr n2), (3, vi x3), (4, vi x4)] [vr ns0] := by
  have hg := m_L_begins_b850 hF
  have hg1 := hg.1
  have hg2 := hg.2.1
  unfold f_L_begins_b850 at hF
  refine w_ldcs hB hp 425 (by decide) dL_begins_850 ?_
  obtain ⟨g1, hF⟩ := gdS hF
  obtain ⟨o1, M1m, hc_M1m, hF⟩ := clS hF
  have x_M1m := m_J4_append_15ec4 hc_M1m
  have xa_M1m := x_M1m.1
  have xb_M1m := x_M1m.2.1
  have hg3 := m_L_begins_b855 hF
  have hg4 := hg3.1
  have hg5 := hg3.2.1
  refine w_callV (M1 := M1m) hB (ci := 10) (As := [vr 425]) (st := []) cw_L_40 q_612 q_613 rfl (dqM g1) (c_J4_append_15ec4 hp hk hc_M1m) ⟨rfl, rfl⟩ ⟨Nat.le_of_ble_eq_true rfl, Nat.le_of_ble_eq_true rfl⟩ ⟨show ce + (M1m.2.2.2 - M.2.2.2) ≤ mc by omega, show sl + (szM M1m - szM M) ≤ ms by omega⟩ rfl (Nat.le_of_ble_eq_true rfl) dL_begins_852 rfl ?_ (Or.inr (by omega))
  exact Wt.sub (L' := [(0, vr 64), (1, vr 61), (2, vr n2), (3, vi x3), (4, vi x4)]) [0, 1, 2, 3, 4] rfl (b_L_begins_b855 hp hk hq hB hF (by omega) (by omega))
def f_L_begins_b838 (N : Nat) (xs : Nat → Int32) (n2 : Nat) (x3 : Int32) (x4 : Int32) (ns0 : Nat) (M : Mem) : Option (Int32 × Mem) :=
  cl (f_L_some N xs 182 12 M) fun r1 M1m =>
  gd (1000 ≤ ns0 ∧ dsc M1m ns0 = 11 ∧ ns0 - 753 < M1m.2.2.2) <|
  cl (f_J4_append_bf812 ns0 r1 M1m) fun o1 M2m =>
  f_L_begins_b850 N xs n2 x3 x4 o1 M2m
set_option maxRecDepth 100000 in
set_option maxHeartbeats 4000000 in
theorem m_L_begins_b838 {N : Nat} {xs : Nat → Int32} {n2 : Nat} {x3 : Int32} {x4 : Int32} {ns0 : Nat} {M Z : Mem} {r : Int32} (h : f_L_begins_b838 N xs n2 x3 x4 ns0 M = some (r, Z)) : GX M Z := by
  unfold f_L_begins_b838 at h
  obtain ⟨r1, M1m, c_M1m, h⟩ := clS h
  have q_M1m : GX M M1m := GX.tr (GX.refl M) ((k_L_some c_M1m).gx)
  obtain ⟨gq1, h⟩ := gdS h
  obtain ⟨o1, M2m, c_M2m, h⟩ := clS h
  have q_M2m : GX M M2m := GX.tr q_M1m (m_J4_append_bf812 c_M2m)
  exact GX.tr q_M2m (m_L_begins_b850 h)
set_option maxRecDepth 100000 in
set_option maxHeartbeats 4000000 in
theorem b_L_begins_b838 {K : Kt} {X : Xt} (hp : St K) (hk : KC K) {N : Nat} {xs : Nat → Int32} (hq : KScr K N xs) {mc ms : Nat} (hB : Bx K X { frames := 9, cells := mc, slots := ms, locals := 200 } cL_begins 10 RL (some .boolean)) {r : Int32} {M1 : Mem} {n2 : Nat} {x3 : Int32} {x4 : Int32} {ns0 : Nat} {ce sl : Nat} {M : Mem} (hF : f_L_begins_b838 N xs n2 x3 x4 ns0 M = some (r, M1)) (hn : mc + M.2.2.2 = ce + M1.2.2.2) (hz : ms + szM M = sl + szM M1) : Wt K X (QM K X (some (vi r)) M1 mc ms) ce sl M 838 [(0, vr 64), (1, vr 61), (2, vr n2), (3, vi x3), (4, vi x4)] [vr ns0] := by
  have hg := m_L_begins_b838 hF
  have hg1 := hg.1
  have hg2 := hg.2.1
  unfold f_L_begins_b838 at hF
  refine w_aload_n hB 1 dL_begins_838 rfl rfl ?_
  refine w_sipush hB 182 (by decide) dL_begins_839 ?_
  refine w_bipush hB 12 (by decide) dL_begins_842 ?_
  obtain ⟨r1, M1m, hc_M1m, hF⟩ := clS hF
  have q_M1m : EQ M M1m := k_L_some hc_M1m
  have x_M1m := q_M1m.gx
  have n_M1m := q_M1m.1
  have z_M1m := q_M1m.sz
  refine w_callS (M1 := M1m) hB (As := [vr 61, vi 182, vi 12]) (st := [vr ns0]) cw_L_49 q_753 (c_L_some hp hq hc_M1m) ⟨rfl, rfl⟩ ⟨Nat.le_of_ble_eq_true rfl, Nat.le_of_ble_eq_true rfl⟩ ⟨show ce ≤ mc by omega, show sl ≤ ms by omega⟩ rfl (Nat.le_of_ble_eq_true rfl) dL_begins_844 rfl ?_ (Or.inl rfl)
  obtain ⟨g1, hF⟩ := gdS hF
  obtain ⟨o1, M2m, hc_M2m, hF⟩ := clS hF
  have x_M2m := m_J4_append_bf812 hc_M2m
  have xa_M2m := x_M2m.1
  have xb_M2m := x_M2m.2.1
  have hg3 := m_L_begins_b850 hF
  have hg4 := hg3.1
  have hg5 := hg3.2.1
  refine w_callV (M1 := M2m) hB (ci := 10) (As := [vi r1]) (st := []) cw_L_53 q_761 q_762 rfl (dqM g1) (c_J4_append_bf812 hp hk hc_M2m) ⟨rfl, rfl⟩ ⟨Nat.le_of_ble_eq_true rfl, Nat.le_of_ble_eq_true rfl⟩ ⟨show ce + (M2m.2.2.2 - M1m.2.2.2) ≤ mc by omega, show sl + (szM M2m - szM M1m) ≤ ms by omega⟩ rfl (Nat.le_of_ble_eq_true rfl) dL_begins_847 rfl ?_ (Or.inr (by omega))
  exact Wt.sub (L' := [(0, vr 64), (1, vr 61), (2, vr n2), (3, vi x3), (4, vi x4)]) [0, 1, 2, 3, 4] rfl (b_L_begins_b850 hp hk hq hB hF (by omega) (by omega))
def f_L_begins_b833 (N : Nat) (xs : Nat → Int32) (n2 : Nat) (x3 : Int32) (x4 : Int32) (ns0 : Nat) (M : Mem) : Option (Int32 × Mem) :=
  gd (1000 ≤ ns0 ∧ dsc M ns0 = 11 ∧ ns0 - 753 < M.2.2.2) <|
  cl (f_J4_append_15ec4 ns0 424 M) fun o1 M1m =>
  f_L_begins_b838 N xs n2 x3 x4 o1 M1m
set_option maxRecDepth 100000 in
set_option maxHeartbeats 4000000 in
theorem m_L_begins_b833 {N : Nat} {xs : Nat → Int32} {n2 : Nat} {x3 : Int32} {x4 : Int32} {ns0 : Nat} {M Z : Mem} {r : Int32} (h : f_L_begins_b833 N xs n2 x3 x4 ns0 M = some (r, Z)) : GX M Z := by
  unfold f_L_begins_b833 at h
  obtain ⟨gq0, h⟩ := gdS h
  obtain ⟨o1, M1m, c_M1m, h⟩ := clS h
  have q_M1m : GX M M1m := GX.tr (GX.refl M) (m_J4_append_15ec4 c_M1m)
  exact GX.tr q_M1m (m_L_begins_b838 h)
set_option maxRecDepth 100000 in
set_option maxHeartbeats 4000000 in
theorem b_L_begins_b833 {K : Kt} {X : Xt} (hp : St K) (hk : KC K) {N : Nat} {xs : Nat → Int32} (hq : KScr K N xs) {mc ms : Nat} (hB : Bx K X { frames := 9, cells := mc, slots := ms, locals := 200 } cL_begins 10 RL (some .boolean)) {r : Int32} {M1 : Mem} {n2 : Nat} {x3 : Int32} {x4 : Int32} {ns0 : Nat} {ce sl : Nat} {M : Mem} (hF : f_L_begins_b833 N xs n2 x3 x4 ns0 M = some (r, M1)) (hn : mc + M.2.2.2 = ce + M1.2.2.2) (hz : ms + szM M = sl + szM M1) : Wt K X (QM K X (some (vi r)) M1 mc ms) ce sl M 833 [(0, vr 64), (1, vr 61), (2, vr n2), (3, vi x3), (4, vi x4)] [vr ns0] := by
  have hg := m_L_begins_b833 hF
  have hg1 := hg.1
  have hg2 := hg.2.1
  unfold f_L_begins_b833 at hF
  refine w_ldcs hB hp 424 (by decide) dL_begins_833 ?_
  obtain ⟨g1, hF⟩ := gdS hF
  obtain ⟨o1, M1m, hc_M1m, hF⟩ := clS hF
  have x_M1m := m_J4_append_15ec4 hc_M1m
  have xa_M1m := x_M1m.1
  have xb_M1m := x_M1m.2.1
  have hg3 := m_L_begins_b838 hF
  have hg4 := hg3.1
  have hg5 := hg3.2.1
  refine w_callV (M1 := M1m) hB (ci := 10) (As := [vr 424]) (st := []) cw_L_40 q_612 q_613 rfl (dqM g1) (c_J4_append_15ec4 hp hk hc_M1m) ⟨rfl, rfl⟩ ⟨Nat.le_of_ble_eq_true rfl, Nat.le_of_ble_eq_true rfl⟩ ⟨show ce + (M1m.2.2.2 - M.2.2.2) ≤ mc by omega, show sl + (szM M1m - szM M) ≤ ms by omega⟩ rfl (Nat.le_of_ble_eq_true rfl) dL_begins_835 rfl ?_ (Or.inr (by omega))
  exact Wt.sub (L' := [(0, vr 64), (1, vr 61), (2, vr n2), (3, vi x3), (4, vi x4)]) [0, 1, 2, 3, 4] rfl (b_L_begins_b838 hp hk hq hB hF (by omega) (by omega))
def f_L_begins_b822 (N : Nat) (xs : Nat → Int32) (n2 : Nat) (x3 : Int32) (x4 : Int32) (ns0 : Nat) (M : Mem) : Option (Int32 × Mem) :=
  cl (f_L_some N xs 181 3 M) fun r1 M1m =>
  gd (1000 ≤ ns0 ∧ dsc M1m ns0 = 11 ∧ ns0 - 753 < M1m.2.2.2) <|
  cl (f_J4_append_bf812 ns0 r1 M1m) fun o1 M2m =>
  f_L_begins_b833 N xs n2 x3 x4 o1 M2m
set_option maxRecDepth 100000 in
set_option maxHeartbeats 4000000 in
theorem m_L_begins_b822 {N : Nat} {xs : Nat → Int32} {n2 : Nat} {x3 : Int32} {x4 : Int32} {ns0 : Nat} {M Z : Mem} {r : Int32} (h : f_L_begins_b822 N xs n2 x3 x4 ns0 M = some (r, Z)) : GX M Z := by
  unfold f_L_begins_b822 at h
  obtain ⟨r1, M1m, c_M1m, h⟩ := clS h
  have q_M1m : GX M M1m := GX.tr (GX.refl M) ((k_L_some c_M1m).gx)
  obtain ⟨gq1, h⟩ := gdS h
  obtain ⟨o1, M2m, c_M2m, h⟩ := clS h
  have q_M2m : GX M M2m := GX.tr q_M1m (m_J4_append_bf812 c_M2m)
  exact GX.tr q_M2m (m_L_begins_b833 h)
set_option maxRecDepth 100000 in
set_option maxHeartbeats 4000000 in
theorem b_L_begins_b822 {K : Kt} {X : Xt} (hp : St K) (hk : KC K) {N : Nat} {xs : Nat → Int32} (hq : KScr K N xs) {mc ms : Nat} (hB : Bx K X { frames := 9, cells := mc, slots := ms, locals := 200 } cL_begins 10 RL (some .boolean)) {r : Int32} {M1 : Mem} {n2 : Nat} {x3 : Int32} {x4 : Int32} {ns0 : Nat} {ce sl : Nat} {M : Mem} (hF : f_L_begins_b822 N xs n2 x3 x4 ns0 M = some (r, M1)) (hn : mc + M.2.2.2 = ce + M1.2.2.2) (hz : ms + szM M = sl + szM M1) : Wt K X (QM K X (some (vi r)) M1 mc ms) ce sl M 822 [(0, vr 64), (1, vr 61), (2, vr n2), (3, vi x3), (4, vi x4)] [vr ns0] := by
  have hg := m_L_begins_b822 hF
  have hg1 := hg.1
  have hg2 := hg.2.1
  unfold f_L_begins_b822 at hF
  refine w_aload_n hB 1 dL_begins_822 rfl rfl ?_
  refine w_sipush hB 181 (by decide) dL_begins_823 ?_
  refine w_iconst hB 3 (by decide) dL_begins_826 ?_
  obtain ⟨r1, M1m, hc_M1m, hF⟩ := clS hF
  have q_M1m : EQ M M1m := k_L_some hc_M1m
  have x_M1m := q_M1m.gx
  have n_M1m := q_M1m.1
  have z_M1m := q_M1m.sz
  refine w_callS (M1 := M1m) hB (As := [vr 61, vi 181, vi 3]) (st := [vr ns0]) cw_L_49 q_753 (c_L_some hp hq hc_M1m) ⟨rfl, rfl⟩ ⟨Nat.le_of_ble_eq_true rfl, Nat.le_of_ble_eq_true rfl⟩ ⟨show ce ≤ mc by omega, show sl ≤ ms by omega⟩ rfl (Nat.le_of_ble_eq_true rfl) dL_begins_827 rfl ?_ (Or.inl rfl)
  obtain ⟨g1, hF⟩ := gdS hF
  obtain ⟨o1, M2m, hc_M2m, hF⟩ := clS hF
  have x_M2m := m_J4_append_bf812 hc_M2m
  have xa_M2m := x_M2m.1
  have xb_M2m := x_M2m.2.1
  have hg3 := m_L_begins_b833 hF
  have hg4 := hg3.1
  have hg5 := hg3.2.1
  refine w_callV (M1 := M2m) hB (ci := 10) (As := [vi r1]) (st := []) cw_L_53 q_761 q_762 rfl (dqM g1) (c_J4_append_bf812 hp hk hc_M2m) ⟨rfl, rfl⟩ ⟨Nat.le_of_ble_eq_true rfl, Nat.le_of_ble_eq_true rfl⟩ ⟨show ce + (M2m.2.2.2 - M1m.2.2.2) ≤ mc by omega, show sl + (szM M2m - szM M1m) ≤ ms by omega⟩ rfl (Nat.le_of_ble_eq_true rfl) dL_begins_830 rfl ?_ (Or.inr (by omega))
  exact Wt.sub (L' := [(0, vr 64), (1, vr 61), (2, vr n2), (3, vi x3), (4, vi x4)]) [0, 1, 2, 3, 4] rfl (b_L_begins_b833 hp hk hq hB hF (by omega) (by omega))
def f_L_begins_b817 (N : Nat) (xs : Nat → Int32) (n2 : Nat) (x3 : Int32) (x4 : Int32) (ns0 : Nat) (M : Mem) : Option (Int32 × Mem) :=
  gd (1000 ≤ ns0 ∧ dsc M ns0 = 11 ∧ ns0 - 753 < M.2.2.2) <|
  cl (f_J4_append_15ec4 ns0 423 M) fun o1 M1m =>
  f_L_begins_b822 N xs n2 x3 x4 o1 M1m
set_option maxRecDepth 100000 in
set_option maxHeartbeats 4000000 in
theorem m_L_begins_b817 {N : Nat} {xs : Nat → Int32} {n2 : Nat} {x3 : Int32} {x4 : Int32} {ns0 : Nat} {M Z : Mem} {r : Int32} (h : f_L_begins_b817 N xs n2 x3 x4 ns0 M = some (r, Z)) : GX M Z := by
  unfold f_L_begins_b817 at h
  obtain ⟨gq0, h⟩ := gdS h
  obtain ⟨o1, M1m, c_M1m, h⟩ := clS h
  have q_M1m : GX M M1m := GX.tr (GX.refl M) (m_J4_append_15ec4 c_M1m)
  exact GX.tr q_M1m (m_L_begins_b822 h)
set_option maxRecDepth 100000 in
set_option maxHeartbeats 4000000 in
theorem b_L_begins_b817 {K : Kt} {X : Xt} (hp : St K) (hk : KC K) {N : Nat} {xs : Nat → Int32} (hq : KScr K N xs) {mc ms : Nat} (hB : Bx K X { frames := 9, cells := mc, slots := ms, locals := 200 } cL_begins 10 RL (some .boolean)) {r : Int32} {M1 : Mem} {n2 : Nat} {x3 : Int32} {x4 : Int32} {ns0 : Nat} {ce sl : Nat} {M : Mem} (hF : f_L_begins_b817 N xs n2 x3 x4 ns0 M = some (r, M1)) (hn : mc + M.2.2.2 = ce + M1.2.2.2) (hz : ms + szM M = sl + szM M1) : Wt K X (QM K X (some (vi r)) M1 mc ms) ce sl M 817 [(0, vr 64), (1, vr 61), (2, vr n2), (3, vi x3), (4, vi x4)] [vr ns0] := by
  have hg := m_L_begins_b817 hF
  have hg1 := hg.1
  have hg2 := hg.2.1
  unfold f_L_begins_b817 at hF
  refine w_ldcs hB hp 423 (by decide) dL_begins_817 ?_
  obtain ⟨g1, hF⟩ := gdS hF
  obtain ⟨o1, M1m, hc_M1m, hF⟩ := clS hF
  have x_M1m := m_J4_append_15ec4 hc_M1m
  have xa_M1m := x_M1m.1
  have xb_M1m := x_M1m.2.1
  have hg3 := m_L_begins_b822 hF
  have hg4 := hg3.1
  have hg5 := hg3.2.1
  refine w_callV (M1 := M1m) hB (ci := 10) (As := [vr 423]) (st := []) cw_L_40 q_612 q_613 rfl (dqM g1) (c_J4_append_15ec4 hp hk hc_M1m) ⟨rfl, rfl⟩ ⟨Nat.le_of_ble_eq_true rfl, Nat.le_of_ble_eq_true rfl⟩ ⟨show ce + (M1m.2.2.2 - M.2.2.2) ≤ mc by omega, show sl + (szM M1m - szM M) ≤ ms by omega⟩ rfl (Nat.le_of_ble_eq_true rfl) dL_begins_819 rfl ?_ (Or.inr (by omega))
  exact Wt.sub (L' := [(0, vr 64), (1, vr 61), (2, vr n2), (3, vi x3), (4, vi x4)]) [0, 1, 2, 3, 4] rfl (b_L_begins_b822 hp hk hq hB hF (by omega) (by omega))
def f_L_begins_b802 (N : Nat) (xs : Nat → Int32) (n2 : Nat) (x3 : Int32) (x4 : Int32) (ns0 : Nat) (M : Mem) : Option (Int32 × Mem) :=
  cl (f_L_some N xs 180 100 M) fun r1 M1m =>
  gd (1000 ≤ ns0 ∧ dsc M1m ns0 = 11 ∧ ns0 - 753 < M1m.2.2.2) <|
  cl (f_J4_append_bf812 ns0 (20 + r1) M1m) fun o1 M2m =>
  f_L_begins_b817 N xs n2 x3 x4 o1 M2m
set_option maxRecDepth 100000 in
set_option maxHeartbeats 4000000 in
theorem m_L_begins_b802 {N : Nat} {xs : Nat → Int32} {n2 : Nat} {x3 : Int32} {x4 : Int32} {ns0 : Nat} {M Z : Mem} {r : Int32} (h : f_L_begins_b802 N xs n2 x3 x4 ns0 M = some (r, Z)) : GX M Z := by
  unfold f_L_begins_b802 at h
  obtain ⟨r1, M1m, c_M1m, h⟩ := clS h
  have q_M1m : GX M M1m := GX.tr (GX.refl M) ((k_L_some c_M1m).gx)
  obtain ⟨gq1, h⟩ := gdS h
  obtain ⟨o1, M2m, c_M2m, h⟩ := clS h
  have q_M2m : GX M M2m := GX.tr q_M1m (m_J4_append_bf812 c_M2m)
  exact GX.tr q_M2m (m_L_begins_b817 h)
set_option maxRecDepth 100000 in
set_option maxHeartbeats 4000000 in
theorem b_L_begins_b802 {K : Kt} {X : Xt} (hp : St K) (hk : KC K) {N : Nat} {xs : Nat → Int32} (hq : KScr K N xs) {mc ms : Nat} (hB : Bx K X { frames := 9, cells := mc, slots := ms, locals := 200 } cL_begins 10 RL (some .boolean)) {r : Int32} {M1 : Mem} {n2 : Nat} {x3 : Int32} {x4 : Int32} {ns0 : Nat} {ce sl : Nat} {M : Mem} (hF : f_L_begins_b802 N xs n2 x3 x4 ns0 M = some (r, M1)) (hn : mc + M.2.2.2 = ce + M1.2.2.2) (hz : ms + szM M = sl + szM M1) : Wt K X (QM K X (some (vi r)) M1 mc ms) ce sl M 802 [(0, vr 64), (1, vr 61), (2, vr n2), (3, vi x3), (4, vi x4)] [vr ns0] := by
  have hg := m_L_begins_b802 hF
  have hg1 := hg.1
  have hg2 := hg.2.1
  unfold f_L_begins_b802 at hF
  refine w_bipush hB 20 (by decide) dL_begins_802 ?_
  refine w_aload_n hB 1 dL_begins_804 rfl rfl ?_
  refine w_sipush hB 180 (by decide) dL_begins_805 ?_
  refine w_bipush hB 100 (by decide) dL_begins_808 ?_
  obtain ⟨r1, M1m, hc_M1m, hF⟩ := clS hF
  have q_M1m : EQ M M1m := k_L_some hc_M1m
  have x_M1m := q_M1m.gx
  have n_M1m := q_M1m.1
  have z_M1m := q_M1m.sz
  refine w_callS (M1 := M1m) hB (As := [vr 61, vi 180, vi 100]) (st := [vi 20, vr ns0]) cw_L_49 q_753 (c_L_some hp hq hc_M1m) ⟨rfl, rfl⟩ ⟨Nat.le_of_ble_eq_true rfl, Nat.le_of_ble_eq_true rfl⟩ ⟨show ce ≤ mc by omega, show sl ≤ ms by omega⟩ rfl (Nat.le_of_ble_eq_true rfl) dL_begins_810 rfl ?_ (Or.inl rfl)
  refine w_iadd hB dL_begins_813 ?_
  obtain ⟨g1, hF⟩ := gdS hF
  obtain ⟨o1, M2m, hc_M2m, hF⟩ := clS hF
  have x_M2m := m_J4_append_bf812 hc_M2m
  have xa_M2m := x_M2m.1
  have xb_M2m := x_M2m.2.1
  have hg3 := m_L_begins_b817 hF
  have hg4 := hg3.1
  have hg5 := hg3.2.1
  refine w_callV (M1 := M2m) hB (ci := 10) (As := [vi (20 + r1)]) (st := []) cw_L_53 q_761 q_762 rfl (dqM g1) (c_J4_append_bf812 hp hk hc_M2m) ⟨rfl, rfl⟩ ⟨Nat.le_of_ble_eq_true rfl, Nat.le_of_ble_eq_true rfl⟩ ⟨show ce + (M2m.2.2.2 - M1m.2.2.2) ≤ mc by omega, show sl + (szM M2m - szM M1m) ≤ ms by omega⟩ rfl (Nat.le_of_ble_eq_true rfl) dL_begins_814 rfl ?_ (Or.inr (by omega))
  exact Wt.sub (L' := [(0, vr 64), (1, vr 61), (2, vr n2), (3, vi x3), (4, vi x4)]) [0, 1, 2, 3, 4] rfl (b_L_begins_b817 hp hk hq hB hF (by omega) (by omega))
def f_L_begins_b789 (N : Nat) (xs : Nat → Int32) (rec483 : Nat → Int32 → Int32 → Int32 → Int32 → Mem → Option (Int32 × Mem)) (n2 : Nat) (x3 : Int32) (x4 : Int32) (x5 : Int32) (x6 : Int32) (ns0 : Nat) (M : Mem) : Option (Int32 × Mem) :=
  bnd (x6 + 1) fun a1 =>
  rec483 n2 x3 x4 x5 a1 M
set_option maxRecDepth 100000 in
set_option maxHeartbeats 4000000 in
theorem m_L_begins_b789 {N : Nat} {xs : Nat → Int32} {rec483 : Nat → Int32 → Int32 → Int32 → Int32 → Mem → Option (Int32 × Mem)} (G483 : (∀ (n2 : Nat) (x3 : Int32) (x4 : Int32) (x5 : Int32) (x6 : Int32) (M Z : Mem) (r : Int32), rec483 n2 x3 x4 x5 x6 M = some (r, Z) → GX M Z)) {n2 : Nat} {x3 : Int32} {x4 : Int32} {x5 : Int32} {x6 : Int32} {ns0 : Nat} {M Z : Mem} {r : Int32} (h : f_L_begins_b789 N xs rec483 n2 x3 x4 x5 x6 ns0 M = some (r, Z)) : GX M Z := by
  unfold f_L_begins_b789 at h
  obtain ⟨a1, e_a1, h⟩ := bndS h
  exact GX.tr (GX.refl M) (G483 _ _ _ _ _ _ _ _ h)
set_option maxRecDepth 100000 in
set_option maxHeartbeats 4000000 in
theorem b_L_begins_b789 {K : Kt} {X : Xt} (hp : St K) (hk : KC K) {N : Nat} {xs : Nat → Int32} (hq : KScr K N xs) {mc ms : Nat} (hB : Bx K X { frames := 9, cells := mc, slots := ms, locals := 200 } cL_begins 10 RL (some .boolean)) {r : Int32} {M1 : Mem} {rec483 : Nat → Int32 → Int32 → Int32 → Int32 → Mem → Option (Int32 × Mem)}
    (G483 : (∀ (n2 : Nat) (x3 : Int32) (x4 : Int32) (x5 : Int32) (x6 : Int32) (M Z : Mem) (r : Int32), rec483 n2 x3 x4 x5 x6 M = some (r, Z) → GX M Z)) (h483 : (∀ (n2 : Nat) (x3 : Int32) (x4 : Int32) (x5 : Int32) (x6 : Int32) (ce sl : Nat) (M : Mem), rec483 n2 x3 x4 x5 x6 M = some (r, M1) → mc + M.2.2.2 = ce + M1.2.2.2 → ms + szM M = sl + szM M1 → Wt K X (QM K X (some (vi r)) M1 mc ms) ce sl M 483 [(0, vr 64), (1, vr 61), (2, vr n2), (3, vi x3), (4, vi x4), (5, vi x5), (6, vi x6)] [])) {n2 : Nat} {x3 : Int32} {x4 : Int32} {x5 : Int32} {x6 : Int32} {ns0 : Nat} {ce sl : Nat} {M : Mem} (hF : f_L_begins_b789 N xs rec483 n2 x3 x4 x5 x6 ns0 M = some (r, M1)) (hn : mc + M.2.2.2 = ce + M1.2.2.2) (hz : ms + szM M = sl + szM M1) : Wt K X (QM K X (some (vi r)) M1 mc ms) ce sl M 789 [(0, vr 64), (1, vr 61), (2, vr n2), (3, vi x3), (4, vi x4), (5, vi x5), (6, vi x6)] [vr ns0] := by
  have hg := m_L_begins_b789 G483 hF
  have hg1 := hg.1
  have hg2 := hg.2.1
  unfold f_L_begins_b789 at hF
  refine w_pop hB rfl dL_begins_789 ?_
  obtain ⟨a1, e_a1, hF⟩ := bndS hF
  refine w_iinc hB 6 (v := 1) (L' := [(6, vi a1), (0, vr 64), (1, vr 61), (2, vr n2), (3, vi x3), (4, vi x4), (5, vi x5)]) dL_begins_790 rfl (by decide) (by decide) e_a1 rfl ?_
  refine w_goto hB 483 dL_begins_793 (by decide) ?_
  exact Wt.sub (L' := [(0, vr 64), (1, vr 61), (2, vr n2), (3, vi x3), (4, vi x4), (5, vi x5), (6, vi a1)]) [1, 2, 3, 4, 5, 6, 0] rfl (h483 _ _ _ _ _ _ _ M hF (by omega) (by omega))
def f_L_begins_b776 (N : Nat) (xs : Nat → Int32) (rec483 : Nat → Int32 → Int32 → Int32 → Int32 → Mem → Option (Int32 × Mem)) (rec622 : Nat → Int32 → Int32 → Int32 → Int32 → Int32 → Mem → Option (Int32 × Mem)) (n2 : Nat) (x3 : Int32) (x4 : Int32) (x5 : Int32) (x6 : Int32) (x7 : Int32) (ns0 : Nat) (M : Mem) : Option (Int32 × Mem) :=
  bnd (x7 + 1) fun a1 =>
  rec622 n2 x3 x4 x5 x6 a1 M
set_option maxRecDepth 100000 in
set_option maxHeartbeats 4000000 in
theorem m_L_begins_b776 {N : Nat} {xs : Nat → Int32} {rec483 : Nat → Int32 → Int32 → Int32 → Int32 → Mem → Option (Int32 × Mem)} {rec622 : Nat → Int32 → Int32 → Int32 → Int32 → Int32 → Mem → Option (Int32 × Mem)} (G483 : (∀ (n2 : Nat) (x3 : Int32) (x4 : Int32) (x5 : Int32) (x6 : Int32) (M Z : Mem) (r : Int32), rec483 n2 x3 x4 x5 x6 M = some (r, Z) → GX M Z)) (G622 : (∀ (n2 : Nat) (x3 : Int32) (x4 : Int32) (x5 : Int32) (x6 : Int32) (x7 : Int32) (M Z : Mem) (r : Int32), rec622 n2 x3 x4 x5 x6 x7 M = some (r, Z) → GX M Z)) {n2 : Nat} {x3 : Int32} {x4 : Int32} {x5 : Int32} {x6 : Int32} {x7 : Int32} {ns0 : Nat} {M Z : Mem} {r : Int32} (h : f_L_begins_b776 N xs rec483 rec622 n2 x3 x4 x5 x6 x7 ns0 M = some (r, Z)) : GX M Z := by
  unfold f_L_begins_b776 at h
  obtain ⟨a1, e_a1, h⟩ := bndS h
  exact GX.tr (GX.refl M) (G622 _ _ _ _ _ _ _ _ _ h)
set_option maxRecDepth 100000 in
set_option maxHeartbeats 4000000 in
theorem b_L_begins_b776 {K : Kt} {X : Xt} (hp : St K) (hk : KC K) {N : Nat} {xs : Nat → Int32} (hq : KScr K N xs) {mc ms : Nat} (hB : Bx K X { frames := 9, cells := mc, slots := ms, locals := 200 } cL_begins 10 RL (some .boolean)) {r : Int32} {M1 : Mem} {rec483 : Nat → Int32 → Int32 → Int32 → Int32 → Mem → Option (Int32 × Mem)} {rec622 : Nat → Int32 → Int32 → Int32 → Int32 → Int32 → Mem → Option (Int32 × Mem)}
    (G483 : (∀ (n2 : Nat) (x3 : Int32) (x4 : Int32) (x5 : Int32) (x6 : Int32) (M Z : Mem) (r : Int32), rec483 n2 x3 x4 x5 x6 M = some (r, Z) → GX M Z)) (h483 : (∀ (n2 : Nat) (x3 : Int32) (x4 : Int32) (x5 : Int32) (x6 : Int32) (ce sl : Nat) (M : Mem), rec483 n2 x3 x4 x5 x6 M = some (r, M1) → mc + M.2.2.2 = ce + M1.2.2.2 → ms + szM M = sl + szM M1 → Wt K X (QM K X (some (vi r)) M1 mc ms) ce sl M 483 [(0, vr 64), (1, vr 61), (2, vr n2), (3, vi x3), (4, vi x4), (5, vi x5), (6, vi x6)] []))
    (G622 : (∀ (n2 : Nat) (x3 : Int32) (x4 : Int32) (x5 : Int32) (x6 : Int32) (x7 : Int32) (M Z : Mem) (r : Int32), rec622 n2 x3 x4 x5 x6 x7 M = some (r, Z) → GX M Z)) (h622 : (∀ (n2 : Nat) (x3 : Int32) (x4 : Int32) (x5 : Int32) (x6 : Int32) (x7 : Int32) (ce sl : Nat) (M : Mem), rec622 n2 x3 x4 x5 x6 x7 M = some (r, M1) → mc + M.2.2.2 = ce + M1.2.2.2 → ms + szM M = sl + szM M1 → Wt K X (QM K X (some (vi r)) M1 mc ms) ce sl M 622 [(0, vr 64), (1, vr 61), (2, vr n2), (3, vi x3), (4, vi x4), (5, vi x5), (6, vi x6), (7, vi x7)] [])) {n2 : Nat} {x3 : Int32} {x4 : Int32} {x5 : Int32} {x6 : Int32} {x7 : Int32} {ns0 : Nat} {ce sl : Nat} {M : Mem} (hF : f_L_begins_b776 N xs rec483 rec622 n2 x3 x4 x5 x6 x7 ns0 M = some (r, M1)) (hn : mc + M.2.2.2 = ce + M1.2.2.2) (hz : ms + szM M = sl + szM M1) : Wt K X (QM K X (some (vi r)) M1 mc ms) ce sl M 776 [(0, vr 64), (1, vr 61), (2, vr n2), (3, vi x3), (4, vi x4), (5, vi x5), (6, vi x6), (7, vi x7)] [vr ns0] := by
  have hg := m_L_begins_b776 G483 G622 hF
  have hg1 := hg.1
  have hg2 := hg.2.1
  unfold f_L_begins_b776 at hF
  refine w_pop hB rfl dL_begins_776 ?_
  obtain ⟨a1, e_a1, hF⟩ := bndS hF
  refine w_iinc hB 7 (v := 1) (L' := [(7, vi a1), (0, vr 64), (1, vr 61), (2, vr n2), (3, vi x3), (4, vi x4), (5, vi x5), (6, vi x6)]) dL_begins_777 rfl (by decide) (by decide) e_a1 rfl ?_
  refine w_goto hB 622 dL_begins_780 (by decide) ?_
  exact Wt.sub (L' := [(0, vr 64), (1, vr 61), (2, vr n2), (3, vi x3), (4, vi x4), (5, vi x5), (6, vi x6), (7, vi a1)]) [1, 2, 3, 4, 5, 6, 7, 0] rfl (h622 _ _ _ _ _ _ _ _ M hF (by omega) (by omega))
def f_L_begins_b767 (N : Nat) (xs : Nat → Int32) (rec483 : Nat → Int32 → Int32 → Int32 → Int32 → Mem → Option (Int32 × Mem)) (rec622 : Nat → Int32 → Int32 → Int32 → Int32 → Int32 → Mem → Option (Int32 × Mem)) (n2 : Nat) (x3 : Int32) (x4 : Int32) (x5 : Int32) (x6 : Int32) (x7 : Int32) (x9 : Int32) (ns0 : Nat) (M : Mem) : Option (Int32 × Mem) :=
  gd (1000 ≤ ns0 ∧ dsc M ns0 = 11 ∧ ns0 - 753 < M.2.2.2) <|
  cl (f_J4_append_bf812 ns0 ((x9 + 1) - (x9 + 1) / 3 * 3) M) fun o1 M1m =>
  f_L_begins_b776 N xs rec483 rec622 n2 x3 x4 x5 x6 x7 o1 M1m
set_option maxRecDepth 100000 in
set_option maxHeartbeats 4000000 in
theorem m_L_begins_b767 {N : Nat} {xs : Nat → Int32} {rec483 : Nat → Int32 → Int32 → Int32 → Int32 → Mem → Option (Int32 × Mem)} {rec622 : Nat → Int32 → Int32 → Int32 → Int32 → Int32 → Mem → Option (Int32 × Mem)} (G483 : (∀ (n2 : Nat) (x3 : Int32) (x4 : Int32) (x5 : Int32) (x6 : Int32) (M Z : Mem) (r : Int32), rec483 n2 x3 x4 x5 x6 M = some (r, Z) → GX M Z)) (G622 : (∀ (n2 : Nat) (x3 : Int32) (x4 : Int32) (x5 : Int32) (x6 : Int32) (x7 : Int32) (M Z : Mem) (r : Int32), rec622 n2 x3 x4 x5 x6 x7 M = some (r, Z) → GX M Z)) {n2 : Nat} {x3 : Int32} {x4 : Int32} {x5 : Int32} {x6 : Int32} {x7 : Int32} {x9 : Int32} {ns0 : Nat} {M Z : Mem} {r : Int32} (h : f_L_begins_b767 N xs rec483 rec622 n2 x3 x4 x5 x6 x7 x9 ns0 M = some (r, Z)) : GX M Z := by
  unfold f_L_begins_b767 at h
  obtain ⟨gq0, h⟩ := gdS h
  obtain ⟨o1, M1m, c_M1m, h⟩ := clS h
  have q_M1m : GX M M1m := GX.tr (GX.refl M) (m_J4_append_bf812 c_M1m)
  exact GX.tr q_M1m (m_L_begins_b776 G483 G622 h)
set_option maxRecDepth 100000 in
set_option maxHeartbeats 4000000 in
theorem b_L_begins_b767 {K : Kt} {X : Xt} (hp : St K) (hk : KC K) {N : Nat} {xs : Nat → Int32} (hq : KScr K N xs) {mc ms : Nat} (hB : Bx K X { frames := 9, cells := mc, slots := ms, locals := 200 } cL_begins 10 RL (some .boolean)) {r : Int32} {M1 : Mem} {rec483 : Nat → Int32 → Int32 → Int32 → Int32 → Mem → Option (Int32 × Mem)} {rec622 : Nat → Int32 → Int32 → Int32 → Int32 → Int32 → Mem → Option (Int32 × Mem)}
    (G483 : (∀ (n2 : Nat) (x3 : Int32) (x4 : Int32) (x5 : Int32) (x6 : Int32) (M Z : Mem) (r : Int32), rec483 n2 x3 x4 x5 x6 M = some (r, Z) → GX M Z)) (h483 : (∀ (n2 : Nat) (x3 : Int32) (x4 : Int32) (x5 : Int32) (x6 : Int32) (ce sl : Nat) (M : Mem), rec483 n2 x3 x4 x5 x6 M = some (r, M1) → mc + M.2.2.2 = ce + M1.2.2.2 → ms + szM M = sl + szM M1 → Wt K X (QM K X (some (vi r)) M1 mc ms) ce sl M 483 [(0, vr 64), (1, vr 61), (2, vr n2), (3, vi x3), (4, vi x4), (5, vi x5), (6, vi x6)] []))
    (G622 : (∀ (n2 : Nat) (x3 : Int32) (x4 : Int32) (x5 : Int32) (x6 : Int32) (x7 : Int32) (M Z : Mem) (r : Int32), rec622 n2 x3 x4 x5 x6 x7 M = some (r, Z) → GX M Z)) (h622 : (∀ (n2 : Nat) (x3 : Int32) (x4 : Int32) (x5 : Int32) (x6 : Int32) (x7 : Int32) (ce sl : Nat) (M : Mem), rec622 n2 x3 x4 x5 x6 x7 M = some (r, M1) → mc + M.2.2.2 = ce + M1.2.2.2 → ms + szM M = sl + szM M1 → Wt K X (QM K X (some (vi r)) M1 mc ms) ce sl M 622 [(0, vr 64), (1, vr 61), (2, vr n2), (3, vi x3), (4, vi x4), (5, vi x5), (6, vi x6), (7, vi x7)] [])) {n2 : Nat} {x3 : Int32} {x4 : Int32} {x5 : Int32} {x6 : Int32} {x7 : Int32} {x9 : Int32} {ns0 : Nat} {ce sl : Nat} {M : Mem} (hF : f_L_begins_b767 N xs rec483 rec622 n2 x3 x4 x5 x6 x7 x9 ns0 M = some (r, M1)) (hn : mc + M.2.2.2 = ce + M1.2.2.2) (hz : ms + szM M = sl + szM M1) : Wt K X (QM K X (some (vi r)) M1 mc ms) ce sl M 767 [(0, vr 64), (1, vr 61), (2, vr n2), (3, vi x3), (4, vi x4), (5, vi x5), (6, vi x6), (7, vi x7), (9, vi x9)] [vr ns0] := by
  have hg := m_L_begins_b767 G483 G622 hF
  have hg1 := hg.1
  have hg2 := hg.2.1
  unfold f_L_begins_b767 at hF
  refine w_iload hB 8 dL_begins_767 rfl ?_
  refine w_iconst hB 1 (by decide) dL_begins_769 ?_
  refine w_iadd hB dL_begins_770 ?_
  refine w_iconst hB 3 (by decide) dL_begins_771 ?_
  refine w_irem hB (by decide) dL_begins_772 ?_
  obtain ⟨g1, hF⟩ := gdS hF
  obtain ⟨o1, M1m, hc_M1m, hF⟩ := clS hF
  have x_M1m := m_J4_append_bf812 hc_M1m
  have xa_M1m := x_M1m.1
  have xb_M1m := x_M1m.2.1
  have hg3 := m_L_begins_b776 G483 G622 hF
  have hg4 := hg3.1
  have hg5 := hg3.2.1
  refine w_callV (M1 := M1m) hB (ci := 10) (As := [vi ((x9 + 1) - (x9 + 1) / 3 * 3)]) (st := []) cw_L_53 q_761 q_762 rfl (dqM g1) (c_J4_append_bf812 hp hk hc_M1m) ⟨rfl, rfl⟩ ⟨Nat.le_of_ble_eq_true rfl, Nat.le_of_ble_eq_true rfl⟩ ⟨show ce + (M1m.2.2.2 - M.2.2.2) ≤ mc by omega, show sl + (szM M1m - szM M) ≤ ms by omega⟩ rfl (Nat.le_of_ble_eq_true rfl) dL_begins_773 rfl ?_ (Or.inr (by omega))
  exact Wt.sub (L' := [(0, vr 64), (1, vr 61), (2, vr n2), (3, vi x3), (4, vi x4), (5, vi x5), (6, vi x6), (7, vi x7)]) [0, 1, 2, 3, 4, 5, 6, 7] rfl (b_L_begins_b776 hp hk hq hB G483 h483 G622 h622 hF (by omega) (by omega))
def f_L_begins_b764 (N : Nat) (xs : Nat → Int32) (rec483 : Nat → Int32 → Int32 → Int32 → Int32 → Mem → Option (Int32 × Mem)) (rec622 : Nat → Int32 → Int32 → Int32 → Int32 → Int32 → Mem → Option (Int32 × Mem)) (n2 : Nat) (x3 : Int32) (x4 : Int32) (x5 : Int32) (x6 : Int32) (x7 : Int32) (x9 : Int32) (ns0 : Nat) (ns1 : Nat) (M : Mem) : Option (Int32 × Mem) :=
  gd (1000 ≤ ns0 ∧ dsc M ns0 = 11 ∧ ns0 - 753 < M.2.2.2) <|
  cl (f_J4_append_15ec4 ns0 ns1 M) fun o1 M1m =>
  f_L_begins_b767 N xs rec483 rec622 n2 x3 x4 x5 x6 x7 x9 o1 M1m
set_option maxRecDepth 100000 in
set_option maxHeartbeats 4000000 in
theorem m_L_begins_b764 {N : Nat} {xs : Nat → Int32} {rec483 : Nat → Int32 → Int32 → Int32 → Int32 → Mem → Option (Int32 × Mem)} {rec622 : Nat → Int32 → Int32 → Int32 → Int32 → Int32 → Mem → Option (Int32 × Mem)} (G483 : (∀ (n2 : Nat) (x3 : Int32) (x4 : Int32) (x5 : Int32) (x6 : Int32) (M Z : Mem) (r : Int32), rec483 n2 x3 x4 x5 x6 M = some (r, Z) → GX M Z)) (G622 : (∀ (n2 : Nat) (x3 : Int32) (x4 : Int32) (x5 : Int32) (x6 : Int32) (x7 : Int32) (M Z : Mem) (r : Int32), rec622 n2 x3 x4 x5 x6 x7 M = some (r, Z) → GX M Z)) {n2 : Nat} {x3 : Int32} {x4 : Int32} {x5 : Int32} {x6 : Int32} {x7 : Int32} {x9 : Int32} {ns0 : Nat} {ns1 : Nat} {M Z : Mem} {r : Int32} (h : f_L_begins_b764 N xs rec483 rec622 n2 x3 x4 x5 x6 x7 x9 ns0 ns1 M = some (r, Z)) : GX M Z := by
  unfold f_L_begins_b764 at h
  obtain ⟨gq0, h⟩ := gdS h
  obtain ⟨o1, M1m, c_M1m, h⟩ := clS h
  have q_M1m : GX M M1m := GX.tr (GX.refl M) (m_J4_append_15ec4 c_M1m)
  exact GX.tr q_M1m (m_L_begins_b767 G483 G622 h)
set_option maxRecDepth 100000 in
set_option maxHeartbeats 4000000 in
theorem b_L_begins_b764 {K : Kt} {X : Xt} (hp : St K) (hk : KC K) {N : Nat} {xs : Nat → Int32} (hq : KScr K N xs) {mc ms : Nat} (hB : Bx K X { frames := 9, cells := mc, slots := ms, locals := 200 } cL_begins 10 RL (some .boolean)) {r : Int32} {M1 : Mem} {rec483 : Nat → Int32 → Int32 → Int32 → Int32 → Mem → Option (Int32 × Mem)} {rec622 : Nat → Int32 → Int32 → Int32 → Int32 → Int32 → Mem → Option (Int32 × Mem)}
    (G483 : (∀ (n2 : Nat) (x3 : Int32) (x4 : Int32) (x5 : Int32) (x6 : Int32) (M Z : Mem) (r : Int32), rec483 n2 x3 x4 x5 x6 M = some (r, Z) → GX M Z)) (h483 : (∀ (n2 : Nat) (x3 : Int32) (x4 : Int32) (x5 : Int32) (x6 : Int32) (ce sl : Nat) (M : Mem), rec483 n2 x3 x4 x5 x6 M = some (r, M1) → mc + M.2.2.2 = ce + M1.2.2.2 → ms + szM M = sl + szM M1 → Wt K X (QM K X (some (vi r)) M1 mc ms) ce sl M 483 [(0, vr 64), (1, vr 61), (2, vr n2), (3, vi x3), (4, vi x4), (5, vi x5), (6, vi x6)] []))
    (G622 : (∀ (n2 : Nat) (x3 : Int32) (x4 : Int32) (x5 : Int32) (x6 : Int32) (x7 : Int32) (M Z : Mem) (r : Int32), rec622 n2 x3 x4 x5 x6 x7 M = some (r, Z) → GX M Z)) (h622 : (∀ (n2 : Nat) (x3 : Int32) (x4 : Int32) (x5 : Int32) (x6 : Int32) (x7 : Int32) (ce sl : Nat) (M : Mem), rec622 n2 x3 x4 x5 x6 x7 M = some (r, M1) → mc + M.2.2.2 = ce + M1.2.2.2 → ms + szM M = sl + szM M1 → Wt K X (QM K X (some (vi r)) M1 mc ms) ce sl M 622 [(0, vr 64), (1, vr 61), (2, vr n2), (3, vi x3), (4, vi x4), (5, vi x5), (6, vi x6), (7, vi x7)] [])) {n2 : Nat} {x3 : Int32} {x4 : Int32} {x5 : Int32} {x6 : Int32} {x7 : Int32} {x9 : Int32} {ns0 : Nat} {ns1 : Nat} {ce sl : Nat} {M : Mem} (hF : f_L_begins_b764 N xs rec483 rec622 n2 x3 x4 x5 x6 x7 x9 ns0 ns1 M = some (r, M1)) (hn : mc + M.2.2.2 = ce + M1.2.2.2) (hz : ms + szM M = sl + szM M1) : Wt K X (QM K X (some (vi r)) M1 mc ms) ce sl M 764 [(0, vr 64), (1, vr 61), (2, vr n2), (3, vi x3), (4, vi x4), (5, vi x5), (6, vi x6), (7, vi x7), (9, vi x9)] [vr ns1, vr ns0] := by
  have hg := m_L_begins_b764 G483 G622 hF
  have hg1 := hg.1
  have hg2 := hg.2.1
  unfold f_L_begins_b764 at hF
  obtain ⟨g1, hF⟩ := gdS hF
  obtain ⟨o1, M1m, hc_M1m, hF⟩ := clS hF
  have x_M1m := m_J4_append_15ec4 hc_M1m
  have xa_M1m := x_M1m.1
  have xb_M1m := x_M1m.2.1
  have hg3 := m_L_begins_b767 G483 G622 hF
  have hg4 := hg3.1
  have hg5 := hg3.2.1
  refine w_callV (M1 := M1m) hB (ci := 10) (As := [vr ns1]) (st := []) cw_L_40 q_612 q_613 rfl (dqM g1) (c_J4_append_15ec4 hp hk hc_M1m) ⟨rfl, rfl⟩ ⟨Nat.le_of_ble_eq_true rfl, Nat.le_of_ble_eq_true rfl⟩ ⟨show ce + (M1m.2.2.2 - M.2.2.2) ≤ mc by omega, show sl + (szM M1m - szM M) ≤ ms by omega⟩ rfl (Nat.le_of_ble_eq_true rfl) dL_begins_764 rfl ?_ (Or.inr (by omega))
  exact Wt.sub (L' := [(0, vr 64), (1, vr 61), (2, vr n2), (3, vi x3), (4, vi x4), (5, vi x5), (6, vi x6), (7, vi x7), (9, vi x9)]) [0, 1, 2, 3, 4, 5, 6, 7, 8] rfl (b_L_begins_b767 hp hk hq hB G483 h483 G622 h622 hF (by omega) (by omega))
def f_L_begins_b731 (N : Nat) (xs : Nat → Int32) (rec483 : Nat → Int32 → Int32 → Int32 → Int32 → Mem → Option (Int32 × Mem)) (rec622 : Nat → Int32 → Int32 → Int32 → Int32 → Int32 → Mem → Option (Int32 × Mem)) (n2 : Nat) (x3 : Int32) (x4 : Int32) (x5 : Int32) (x6 : Int32) (x7 : Int32) (x8 : Int32) (x9 : Int32) (ns0 : Nat) (M : Mem) : Option (Int32 × Mem) :=
  cl (f_L_some N xs (x8 + 4) 2 M) fun r1 M1m =>
  if r1 = 0 then
    cl (f_L_some N xs (x8 + 3) 3 M1m) fun r2 M2m =>
    if r2 = 0 then
      f_L_begins_b764 N xs rec483 rec622 n2 x3 x4 x5 x6 x7 x9 n2 420 M2m
    else
      f_L_begins_b764 N xs rec483 rec622 n2 x3 x4 x5 x6 x7 x9 n2 421 M2m
  else
    bnd (x7 + 1) fun a1 =>
    rec622 n2 x3 x4 x5 x6 a1 M1m
set_option maxRecDepth 100000 in
set_option maxHeartbeats 4000000 in
theorem m_L_begins_b731 {N : Nat} {xs : Nat → Int32} {rec483 : Nat → Int32 → Int32 → Int32 → Int32 → Mem → Option (Int32 × Mem)} {rec622 : Nat → Int32 → Int32 → Int32 → Int32 → Int32 → Mem → Option (Int32 × Mem)} (G483 : (∀ (n2 : Nat) (x3 : Int32) (x4 : Int32) (x5 : Int32) (x6 : Int32) (M Z : Mem) (r : Int32), rec483 n2 x3 x4 x5 x6 M = some (r, Z) → GX M Z)) (G622 : (∀ (n2 : Nat) (x3 : Int32) (x4 : Int32) (x5 : Int32) (x6 : Int32) (x7 : Int32) (M Z : Mem) (r : Int32), rec622 n2 x3 x4 x5 x6 x7 M = some (r, Z) → GX M Z)) {n2 : Nat} {x3 : Int32} {x4 : Int32} {x5 : Int32} {x6 : Int32} {x7 : Int32} {x8 : Int32} {x9 : Int32} {ns0 : Nat} {M Z : Mem} {r : Int32} (h : f_L_begins_b731 N xs rec483 rec622 n2 x3 x4 x5 x6 x7 x8 x9 ns0 M = some (r, Z)) : GX M Z := by
  unfold f_L_begins_b731 at h
  obtain ⟨r1, M1m, c_M1m, h⟩ := clS h
  have q_M1m : GX M M1m := GX.tr (GX.refl M) ((k_L_some c_M1m).gx)
  rcases ifS h with ⟨-, h⟩ | ⟨-, h⟩
  · obtain ⟨r2, M2m, c_M2m, h⟩ := clS h
    have q_M2m : GX M M2m := GX.tr q_M1m ((k_L_some c_M2m).gx)
    rcases ifS h with ⟨-, h⟩ | ⟨-, h⟩
    · exact GX.tr q_M2m (m_L_begins_b764 G483 G622 h)
    · exact GX.tr q_M2m (m_L_begins_b764 G483 G622 h)
  · obtain ⟨a1, e_a1, h⟩ := bndS h
    exact GX.tr q_M1m (G622 _ _ _ _ _ _ _ _ _ h)
set_option maxRecDepth 100000 in
set_option maxHeartbeats 4000000 in
theorem b_L_begins_b731 {K : Kt} {X : Xt} (hp : St K) (hk : KC K) {N : Nat} {xs : Nat → Int32} (hq : KScr K N xs) {mc ms : Nat} (hB : Bx K X { frames := 9, cells := mc, slots := ms, locals := 200 } cL_begins 10 RL (some .boolean)) {r : Int32} {M1 : Mem} {rec483 : Nat → Int32 → Int32 → Int32 → Int32 → Mem → Option (Int32 × Mem)} {rec622 : Nat → Int32 → Int32 → Int32 → Int32 → Int32 → Mem → Option (Int32 × Mem)}
    (G483 : (∀ (n2 : Nat) (x3 : Int32) (x4 : Int32) (x5 : Int32) (x6 : Int32) (M Z : Mem) (r : Int32), rec483 n2 x3 x4 x5 x6 M = some (r, Z) → GX M Z)) (h483 : (∀ (n2 : Nat) (x3 : Int32) (x4 : Int32) (x5 : Int32) (x6 : Int32) (ce sl : Nat) (M : Mem), rec483 n2 x3 x4 x5 x6 M = some (r, M1) → mc + M.2.2.2 = ce + M1.2.2.2 → ms + szM M = sl + szM M1 → Wt K X (QM K X (some (vi r)) M1 mc ms) ce sl M 483 [(0, vr 64), (1, vr 61), (2, vr n2), (3, vi x3), (4, vi x4), (5, vi x5), (6, vi x6)] []))
    (G622 : (∀ (n2 : Nat) (x3 : Int32) (x4 : Int32) (x5 : Int32) (x6 : Int32) (x7 : Int32) (M Z : Mem) (r : Int32), rec622 n2 x3 x4 x5 x6 x7 M = some (r, Z) → GX M Z)) (h622 : (∀ (n2 : Nat) (x3 : Int32) (x4 : Int32) (x5 : Int32) (x6 : Int32) (x7 : Int32) (ce sl : Nat) (M : Mem), rec622 n2 x3 x4 x5 x6 x7 M = some (r, M1) → mc + M.2.2.2 = ce + M1.2.2.2 → ms + szM M = sl + szM M1 → Wt K X (QM K X (some (vi r)) M1 mc ms) ce sl M 622 [(0, vr 64), (1, vr 61), (2, vr n2), (3, vi x3), (4, vi x4), (5, vi x5), (6, vi x6), (7, vi x7)] [])) {n2 : Nat} {x3 : Int32} {x4 : Int32} {x5 : Int32} {x6 : Int32} {x7 : Int32} {x8 : Int32} {x9 : Int32} {ns0 : Nat} {ce sl : Nat} {M : Mem} (hF : f_L_begins_b731 N xs rec483 rec622 n2 x3 x4 x5 x6 x7 x8 x9 ns0 M = some (r, M1)) (hn : mc + M.2.2.2 = ce + M1.2.2.2) (hz : ms + szM M = sl + szM M1) : Wt K X (QM K X (some (vi r)) M1 mc ms) ce sl M 731 [(0, vr 64), (1, vr 61), (2, vr n2), (3, vi x3), (4, vi x4), (5, vi x5), (6, vi x6), (7, vi x7), (8, vi x8), (9, vi x9)] [vr ns0] := by
  have hg := m_L_begins_b731 G483 G622 hF
  have hg1 := hg.1
  have hg2 := hg.2.1
  unfold f_L_begins_b731 at hF
  refine w_pop hB rfl dL_begins_731 ?_
  refine w_aload_n hB 1 dL_begins_732 rfl rfl ?_
  refine w_iload hB 8 dL_begins_733 rfl ?_
  refine w_iconst hB 4 (by decide) dL_begins_735 ?_
  refine w_iadd hB dL_begins_736 ?_
  refine w_iconst hB 2 (by decide) dL_begins_737 ?_
  obtain ⟨r1, M1m, hc_M1m, hF⟩ := clS hF
  have q_M1m : EQ M M1m := k_L_some hc_M1m
  have x_M1m := q_M1m.gx
  have n_M1m := q_M1m.1
  have z_M1m := q_M1m.sz
  refine w_callS (M1 := M1m) hB (As := [vr 61, vi (x8 + 4), vi 2]) (st := []) cw_L_49 q_753 (c_L_some hp hq hc_M1m) ⟨rfl, rfl⟩ ⟨Nat.le_of_ble_eq_true rfl, Nat.le_of_ble_eq_true rfl⟩ ⟨show ce ≤ mc by omega, show sl ≤ ms by omega⟩ rfl (Nat.le_of_ble_eq_true rfl) dL_begins_738 rfl ?_ (Or.inl rfl)
  refine w_if_ne hB 777 dL_begins_741 (by decide) (fun hc => ?_) (fun hc => ?_)
  · replace hF := ifF hc hF
    obtain ⟨a1, e_a1, hF⟩ := bndS hF
    refine w_iinc hB 7 (v := 1) (L' := [(7, vi a1), (0, vr 64), (1, vr 61), (2, vr n2), (3, vi x3), (4, vi x4), (5, vi x5), (6, vi x6), (8, vi x8), (9, vi x9)]) dL_begins_777 rfl (by decide) (by decide) e_a1 rfl ?_
    refine w_goto hB 622 dL_begins_780 (by decide) ?_
    exact Wt.sub (L' := [(0, vr 64), (1, vr 61), (2, vr n2), (3, vi x3), (4, vi x4), (5, vi x5), (6, vi x6), (7, vi a1)]) [1, 2, 3, 4, 5, 6, 7, 0] rfl (h622 _ _ _ _ _ _ _ _ M1m hF (by omega) (by omega))
  · replace hF := ifT hc hF
    refine w_aload_n hB 2 dL_begins_744 rfl rfl ?_
    refine w_aload_n hB 1 dL_begins_745 rfl rfl ?_
    refine w_iload hB 8 dL_begins_746 rfl ?_
    refine w_iconst hB 3 (by decide) dL_begins_748 ?_
    refine w_iadd hB dL_begins_749 ?_
    refine w_iconst hB 3 (by decide) dL_begins_750 ?_
    obtain ⟨r2, M2m, hc_M2m, hF⟩ := clS hF
    have q_M2m : EQ M1m M2m := k_L_some hc_M2m
    have x_M2m := q_M2m.gx
    have n_M2m := q_M2m.1
    have z_M2m := q_M2m.sz
    refine w_callS (M1 := M2m) hB (As := [vr 61, vi (x8 + 3), vi 3]) (st := [vr n2]) cw_L_49 q_753 (c_L_some hp hq hc_M2m) ⟨rfl, rfl⟩ ⟨Nat.le_of_ble_eq_true rfl, Nat.le_of_ble_eq_true rfl⟩ ⟨show ce ≤ mc by omega, show sl ≤ ms by omega⟩ rfl (Nat.le_of_ble_eq_true rfl) dL_begins_751 rfl ?_ (Or.inl rfl)
    refine w_if_ne hB 762 dL_begins_754 (by decide) (fun hc => ?_) (fun hc => ?_)
    · replace hF := ifF hc hF
      refine w_ldcs hB hp 421 (by decide) dL_begins_762 ?_
      exact Wt.sub (L' := [(0, vr 64), (1, vr 61), (2, vr n2), (3, vi x3), (4, vi x4), (5, vi x5), (6, vi x6), (7, vi x7), (9, vi x9)]) [0, 1, 2, 3, 4, 5, 6, 7, 9] rfl (b_L_begins_b764 hp hk hq hB G483 h483 G622 h622 hF (by omega) (by omega))
    · replace hF := ifT hc hF
      refine w_ldcs hB hp 420 (by decide) dL_begins_757 ?_
      refine w_goto hB 764 dL_begins_759 (by decide) ?_
      exact Wt.sub (L' := [(0, vr 64), (1, vr 61), (2, vr n2), (3, vi x3), (4, vi x4), (5, vi x5), (6, vi x6), (7, vi x7), (9, vi x9)]) [0, 1, 2, 3, 4, 5, 6, 7, 9] rfl (b_L_begins_b764 hp hk hq hB G483 h483 G622 h622 hF (by omega) (by omega))
def f_L_begins_b726 (N : Nat) (xs : Nat → Int32) (rec483 : Nat → Int32 → Int32 → Int32 → Int32 → Mem → Option (Int32 × Mem)) (rec622 : Nat → Int32 → Int32 → Int32 → Int32 → Int32 → Mem → Option (Int32 × Mem)) (n2 : Nat) (x3 : Int32) (x4 : Int32) (x5 : Int32) (x6 : Int32) (x7 : Int32) (x8 : Int32) (x9 : Int32) (ns0 : Nat) (M : Mem) : Option (Int32 × Mem) :=
  gd (1000 ≤ ns0 ∧ dsc M ns0 = 11 ∧ ns0 - 753 < M.2.2.2) <|
  cl (f_J4_append_bf812 ns0 x9 M) fun o1 M1m =>
  f_L_begins_b731 N xs rec483 rec622 n2 x3 x4 x5 x6 x7 x8 x9 o1 M1m
set_option maxRecDepth 100000 in
set_option maxHeartbeats 4000000 in
theorem m_L_begins_b726 {N : Nat} {xs : Nat → Int32} {rec483 : Nat → Int32 → Int32 → Int32 → Int32 → Mem → Option (Int32 × Mem)} {rec622 : Nat → Int32 → Int32 → Int32 → Int32 → Int32 → Mem → Option (Int32 × Mem)} (G483 : (∀ (n2 : Nat) (x3 : Int32) (x4 : Int32) (x5 : Int32) (x6 : Int32) (M Z : Mem) (r : Int32), rec483 n2 x3 x4 x5 x6 M = some (r, Z) → GX M Z)) (G622 : (∀ (n2 : Nat) (x3 : Int32) (x4 : Int32) (x5 : Int32) (x6 : Int32) (x7 : Int32) (M Z : Mem) (r : Int32), rec622 n2 x3 x4 x5 x6 x7 M = some (r, Z) → GX M Z)) {n2 : Nat} {x3 : Int32} {x4 : Int32} {x5 : Int32} {x6 : Int32} {x7 : Int32} {x8 : Int32} {x9 : Int32} {ns0 : Nat} {M Z : Mem} {r : Int32} (h : f_L_begins_b726 N xs rec483 rec622 n2 x3 x4 x5 x6 x7 x8 x9 ns0 M = some (r, Z)) : GX M Z := by
  unfold f_L_begins_b726 at h
  obtain ⟨gq0, h⟩ := gdS h
  obtain ⟨o1, M1m, c_M1m, h⟩ := clS h
  have q_M1m : GX M M1m := GX.tr (GX.refl M) (m_J4_append_bf812 c_M1m)
  exact GX.tr q_M1m (m_L_begins_b731 G483 G622 h)
set_option maxRecDepth 100000 in
set_option maxHeartbeats 4000000 in
theorem b_L_begins_b726 {K : Kt} {X : Xt} (hp : St K) (hk : KC K) {N : Nat} {xs : Nat → Int32} (hq : KScr K N xs) {mc ms : Nat} (hB : Bx K X { frames := 9, cells := mc, slots := ms, locals := 200 } cL_begins 10 RL (some .boolean)) {r : Int32} {M1 : Mem} {rec483 : Nat → Int32 → Int32 → Int32 → Int32 → Mem → Option (Int32 × Mem)} {rec622 : Nat → Int32 → Int32 → Int32 → Int32 → Int32 → Mem → Option (Int32 × Mem)}
    (G483 : (∀ (n2 : Nat) (x3 : Int32) (x4 : Int32) (x5 : Int32) (x6 : Int32) (M Z : Mem) (r : Int32), rec483 n2 x3 x4 x5 x6 M = some (r, Z) → GX M Z)) (h483 : (∀ (n2 : Nat) (x3 : Int32) (x4 : Int32) (x5 : Int32) (x6 : Int32) (ce sl : Nat) (M : Mem), rec483 n2 x3 x4 x5 x6 M = some (r, M1) → mc + M.2.2.2 = ce + M1.2.2.2 → ms + szM M = sl + szM M1 → Wt K X (QM K X (some (vi r)) M1 mc ms) ce sl M 483 [(0, vr 64), (1, vr 61), (2, vr n2), (3, vi x3), (4, vi x4), (5, vi x5), (6, vi x6)] []))
    (G622 : (∀ (n2 : Nat) (x3 : Int32) (x4 : Int32) (x5 : Int32) (x6 : Int32) (x7 : Int32) (M Z : Mem) (r : Int32), rec622 n2 x3 x4 x5 x6 x7 M = some (r, Z) → GX M Z)) (h622 : (∀ (n2 : Nat) (x3 : Int32) (x4 : Int32) (x5 : Int32) (x6 : Int32) (x7 : Int32) (ce sl : Nat) (M : Mem), rec622 n2 x3 x4 x5 x6 x7 M = some (r, M1) → mc + M.2.2.2 = ce + M1.2.2.2 → ms + szM M = sl + szM M1 → Wt K X (QM K X (some (vi r)) M1 mc ms) ce sl M 622 [(0, vr 64), (1, vr 61), (2, vr n2), (3, vi x3), (4, vi x4), (5, vi x5), (6, vi x6), (7, vi x7)] [])) {n2 : Nat} {x3 : Int32} {x4 : Int32} {x5 : Int32} {x6 : Int32} {x7 : Int32} {x8 : Int32} {x9 : Int32} {ns0 : Nat} {ce sl : Nat} {M : Mem} (hF : f_L_begins_b726 N xs rec483 rec622 n2 x3 x4 x5 x6 x7 x8 x9 ns0 M = some (r, M1)) (hn : mc + M.2.2.2 = ce + M1.2.2.2) (hz : ms + szM M = sl + szM M1) : Wt K X (QM K X (some (vi r)) M1 mc ms) ce sl M 726 [(0, vr 64), (1, vr 61), (2, vr n2), (3, vi x3), (4, vi x4), (5, vi x5), (6, vi x6), (7, vi x7), (8, vi x8), (9, vi x9)] [vr ns0] := by
  have hg := m_L_begins_b726 G483 G622 hF
  have hg1 := hg.1
  have hg2 := hg.2.1
  unfold f_L_begins_b726 at hF
  refine w_iload hB 9 dL_begins_726 rfl ?_
  obtain ⟨g1, hF⟩ := gdS hF
  obtain ⟨o1, M1m, hc_M1m, hF⟩ := clS hF
  have x_M1m := m_J4_append_bf812 hc_M1m
  have xa_M1m := x_M1m.1
  have xb_M1m := x_M1m.2.1
  have hg3 := m_L_begins_b731 G483 G622 hF
  have hg4 := hg3.1
  have hg5 := hg3.2.1
  refine w_callV (M1 := M1m) hB (ci := 10) (As := [vi x9]) (st := []) cw_L_53 q_761 q_762 rfl (dqM g1) (c_J4_append_bf812 hp hk hc_M1m) ⟨rfl, rfl⟩ ⟨Nat.le_of_ble_eq_true rfl, Nat.le_of_ble_eq_true rfl⟩ ⟨show ce + (M1m.2.2.2 - M.2.2.2) ≤ mc by omega, show sl + (szM M1m - szM M) ≤ ms by omega⟩ rfl (Nat.le_of_ble_eq_true rfl) dL_begins_728 rfl ?_ (Or.inr (by omega))
  exact Wt.sub (L' := [(0, vr 64), (1, vr 61), (2, vr n2), (3, vi x3), (4, vi x4), (5, vi x5), (6, vi x6), (7, vi x7), (8, vi x8), (9, vi x9)]) [0, 1, 2, 3, 4, 5, 6, 7, 8, 9] rfl (b_L_begins_b731 hp hk hq hB G483 h483 G622 h622 hF (by omega) (by omega))
def f_L_begins_b723 (N : Nat) (xs : Nat → Int32) (rec483 : Nat → Int32 → Int32 → Int32 → Int32 → Mem → Option (Int32 × Mem)) (rec622 : Nat → Int32 → Int32 → Int32 → Int32 → Int32 → Mem → Option (Int32 × Mem)) (n2 : Nat) (x3 : Int32) (x4 : Int32) (x5 : Int32) (x6 : Int32) (x7 : Int32) (x8 : Int32) (x9 : Int32) (ns0 : Nat) (ns1 : Nat) (M : Mem) : Option (Int32 × Mem) :=
  gd (1000 ≤ ns0 ∧ dsc M ns0 = 11 ∧ ns0 - 753 < M.2.2.2) <|
  cl (f_J4_append_15ec4 ns0 ns1 M) fun o1 M1m =>
  f_L_begins_b726 N xs rec483 rec622 n2 x3 x4 x5 x6 x7 x8 x9 o1 M1m
set_option maxRecDepth 100000 in
set_option maxHeartbeats 4000000 in
theorem m_L_begins_b723 {N : Nat} {xs : Nat → Int32} {rec483 : Nat → Int32 → Int32 → Int32 → Int32 → Mem → Option (Int32 × Mem)} {rec622 : Nat → Int32 → Int32 → Int32 → Int32 → Int32 → Mem → Option (Int32 × Mem)} (G483 : (∀ (n2 : Nat) (x3 : Int32) (x4 : Int32) (x5 : Int32) (x6 : Int32) (M Z : Mem) (r : Int32), rec483 n2 x3 x4 x5 x6 M = some (r, Z) → GX M Z)) (G622 : (∀ (n2 : Nat) (x3 : Int32) (x4 : Int32) (x5 : Int32) (x6 : Int32) (x7 : Int32) (M Z : Mem) (r : Int32), rec622 n2 x3 x4 x5 x6 x7 M = some (r, Z) → GX M Z)) {n2 : Nat} {x3 : Int32} {x4 : Int32} {x5 : Int32} {x6 : Int32} {x7 : Int32} {x8 : Int32} {x9 : Int32} {ns0 : Nat} {ns1 : Nat} {M Z : Mem} {r : Int32} (h : f_L_begins_b723 N xs rec483 rec622 n2 x3 x4 x5 x6 x7 x8 x9 ns0 ns1 M = some (r, Z)) : GX M Z := by
  unfold f_L_begins_b723 at h
  obtain ⟨gq0, h⟩ := gdS h
  obtain ⟨o1, M1m, c_M1m, h⟩ := clS h
  have q_M1m : GX M M1m := GX.tr (GX.refl M) (m_J4_append_15ec4 c_M1m)
  exact GX.tr q_M1m (m_L_begins_b726 G483 G622 h)
set_option maxRecDepth 100000 in
set_option maxHeartbeats 4000000 in
theorem b_L_begins_b723 {K : Kt} {X : Xt} (hp : St K) (hk : KC K) {N : Nat} {xs : Nat → Int32} (hq : KScr K N xs) {mc ms : Nat} (hB : Bx K X { frames := 9, cells := mc, slots := ms, locals := 200 } cL_begins 10 RL (some .boolean)) {r : Int32} {M1 : Mem} {rec483 : Nat → Int32 → Int32 → Int32 → Int32 → Mem → Option (Int32 × Mem)} {rec622 : Nat → Int32 → Int32 → Int32 → Int32 → Int32 → Mem → Option (Int32 × Mem)}
    (G483 : (∀ (n2 : Nat) (x3 : Int32) (x4 : Int32) (x5 : Int32) (x6 : Int32) (M Z : Mem) (r : Int32), rec483 n2 x3 x4 x5 x6 M = some (r, Z) → GX M Z)) (h483 : (∀ (n2 : Nat) (x3 : Int32) (x4 : Int32) (x5 : Int32) (x6 : Int32) (ce sl : Nat) (M : Mem), rec483 n2 x3 x4 x5 x6 M = some (r, M1) → mc + M.2.2.2 = ce + M1.2.2.2 → ms + szM M = sl + szM M1 → Wt K X (QM K X (some (vi r)) M1 mc ms) ce sl M 483 [(0, vr 64), (1, vr 61), (2, vr n2), (3, vi x3), (4, vi x4), (5, vi x5), (6, vi x6)] []))
    (G622 : (∀ (n2 : Nat) (x3 : Int32) (x4 : Int32) (x5 : Int32) (x6 : Int32) (x7 : Int32) (M Z : Mem) (r : Int32), rec622 n2 x3 x4 x5 x6 x7 M = some (r, Z) → GX M Z)) (h622 : (∀ (n2 : Nat) (x3 : Int32) (x4 : Int32) (x5 : Int32) (x6 : Int32) (x7 : Int32) (ce sl : Nat) (M : Mem), rec622 n2 x3 x4 x5 x6 x7 M = some (r, M1) → mc + M.2.2.2 = ce + M1.2.2.2 → ms + szM M = sl + szM M1 → Wt K X (QM K X (some (vi r)) M1 mc ms) ce sl M 622 [(0, vr 64), (1, vr 61), (2, vr n2), (3, vi x3), (4, vi x4), (5, vi x5), (6, vi x6), (7, vi x7)] [])) {n2 : Nat} {x3 : Int32} {x4 : Int32} {x5 : Int32} {x6 : Int32} {x7 : Int32} {x8 : Int32} {x9 : Int32} {ns0 : Nat} {ns1 : Nat} {ce sl : Nat} {M : Mem} (hF : f_L_begins_b723 N xs rec483 rec622 n2 x3 x4 x5 x6 x7 x8 x9 ns0 ns1 M = some (r, M1)) (hn : mc + M.2.2.2 = ce + M1.2.2.2) (hz : ms + szM M = sl + szM M1) : Wt K X (QM K X (some (vi r)) M1 mc ms) ce sl M 723 [(0, vr 64), (1, vr 61), (2, vr n2), (3, vi x3), (4, vi x4), (5, vi x5), (6, vi x6), (7, vi x7), (8, vi x8), (9, vi x9)] [vr ns1, vr ns0] := by
  have hg := m_L_begins_b723 G483 G622 hF
  have hg1 := hg.1
  have hg2 := hg.2.1
  unfold f_L_begins_b723 at hF
  obtain ⟨g1, hF⟩ := gdS hF
  obtain ⟨o1, M1m, hc_M1m, hF⟩ := clS hF
  have x_M1m := m_J4_append_15ec4 hc_M1m
  have xa_M1m := x_M1m.1
  have xb_M1m := x_M1m.2.1
  have hg3 := m_L_begins_b726 G483 G622 hF
  have hg4 := hg3.1
  have hg5 := hg3.2.1
  refine w_callV (M1 := M1m) hB (ci := 10) (As := [vr ns1]) (st := []) cw_L_40 q_612 q_613 rfl (dqM g1) (c_J4_append_15ec4 hp hk hc_M1m) ⟨rfl, rfl⟩ ⟨Nat.le_of_ble_eq_true rfl, Nat.le_of_ble_eq_true rfl⟩ ⟨show ce + (M1m.2.2.2 - M.2.2.2) ≤ mc by omega, show sl + (szM M1m - szM M) ≤ ms by omega⟩ rfl (Nat.le_of_ble_eq_true rfl) dL_begins_723 rfl ?_ (Or.inr (by omega))
  exact Wt.sub (L' := [(0, vr 64), (1, vr 61), (2, vr n2), (3, vi x3), (4, vi x4), (5, vi x5), (6, vi x6), (7, vi x7), (8, vi x8), (9, vi x9)]) [0, 1, 2, 3, 4, 5, 6, 7, 8, 9] rfl (b_L_begins_b726 hp hk hq hB G483 h483 G622 h622 hF (by omega) (by omega))
def f_L_begins_b704 (N : Nat) (xs : Nat → Int32) (rec483 : Nat → Int32 → Int32 → Int32 → Int32 → Mem → Option (Int32 × Mem)) (rec622 : Nat → Int32 → Int32 → Int32 → Int32 → Int32 → Mem → Option (Int32 × Mem)) (n2 : Nat) (x3 : Int32) (x4 : Int32) (x5 : Int32) (x6 : Int32) (x7 : Int32) (x8 : Int32) (x9 : Int32) (ns0 : Nat) (M : Mem) : Option (Int32 × Mem) :=
  cl (f_L_some N xs (x8 + 3) 2 M) fun r1 M1m =>
  if r1 = 0 then
    f_L_begins_b723 N xs rec483 rec622 n2 x3 x4 x5 x6 x7 x8 x9 ns0 420 M1m
  else
    f_L_begins_b723 N xs rec483 rec622 n2 x3 x4 x5 x6 x7 x8 x9 ns0 421 M1m
set_option maxRecDepth 100000 in
set_option maxHeartbeats 4000000 in
theorem m_L_begins_b704 {N : Nat} {xs : Nat → Int32} {rec483 : Nat → Int32 → Int32 → Int32 → Int32 → Mem → Option (Int32 × Mem)} {rec622 : Nat → Int32 → Int32 → Int32 → Int32 → Int32 → Mem → Option (Int32 × Mem)} (G483 : (∀ (n2 : Nat) (x3 : Int32) (x4 : Int32) (x5 : Int32) (x6 : Int32) (M Z : Mem) (r : Int32), rec483 n2 x3 x4 x5 x6 M = some (r, Z) → GX M Z)) (G622 : (∀ (n2 : Nat) (x3 : Int32) (x4 : Int32) (x5 : Int32) (x6 : Int32) (x7 : Int32) (M Z : Mem) (r : Int32), rec622 n2 x3 x4 x5 x6 x7 M = some (r, Z) → GX M Z)) {n2 : Nat} {x3 : Int32} {x4 : Int32} {x5 : Int32} {x6 : Int32} {x7 : Int32} {x8 : Int32} {x9 : Int32} {ns0 : Nat} {M Z : Mem} {r : Int32} (h : f_L_begins_b704 N xs rec483 rec622 n2 x3 x4 x5 x6 x7 x8 x9 ns0 M = some (r, Z)) : GX M Z := by
  unfold f_L_begins_b704 at h
  obtain ⟨r1, M1m, c_M1m, h⟩ := clS h
  have q_M1m : GX M M1m := GX.tr (GX.refl M) ((k_L_some c_M1m).gx)
  rcases ifS h with ⟨-, h⟩ | ⟨-, h⟩
  · exact GX.tr q_M1m (m_L_begins_b723 G483 G622 h)
  · exact GX.tr q_M1m (m_L_begins_b723 G483 G622 h)
set_option maxRecDepth 100000 in
set_option maxHeartbeats 4000000 in
theorem b_L_begins_b704 {K : Kt} {X : Xt} (hp : St K) (hk : KC K) {N : Nat} {xs : Nat → Int32} (hq : KScr K N xs) {mc ms : Nat} (hB : Bx K X { frames := 9, cells := mc, slots := ms, locals := 200 } cL_begins 10 RL (some .boolean)) {r : Int32} {M1 : Mem} {rec483 : Nat → Int32 → Int32 → Int32 → Int32 → Mem → Option (Int32 × Mem)} {rec622 : Nat → Int32 → Int32 → Int32 → Int32 → Int32 → Mem → Option (Int32 × Mem)}
    (G483 : (∀ (n2 : Nat) (x3 : Int32) (x4 : Int32) (x5 : Int32) (x6 : Int32) (M Z : Mem) (r : Int32), rec483 n2 x3 x4 x5 x6 M = some (r, Z) → GX M Z)) (h483 : (∀ (n2 : Nat) (x3 : Int32) (x4 : Int32) (x5 : Int32) (x6 : Int32) (ce sl : Nat) (M : Mem), rec483 n2 x3 x4 x5 x6 M = some (r, M1) → mc + M.2.2.2 = ce + M1.2.2.2 → ms + szM M = sl + szM M1 → Wt K X (QM K X (some (vi r)) M1 mc ms) ce sl M 483 [(0, vr 64), (1, vr 61), (2, vr n2), (3, vi x3), (4, vi x4), (5, vi x5), (6, vi x6)] []))
    (G622 : (∀ (n2 : Nat) (x3 : Int32) (x4 : Int32) (x5 : Int32) (x6 : Int32) (x7 : Int32) (M Z : Mem) (r : Int32), rec622 n2 x3 x4 x5 x6 x7 M = some (r, Z) → GX M Z)) (h622 : (∀ (n2 : Nat) (x3 : Int32) (x4 : Int32) (x5 : Int32) (x6 : Int32) (x7 : Int32) (ce sl : Nat) (M : Mem), rec622 n2 x3 x4 x5 x6 x7 M = some (r, M1) → mc + M.2.2.2 = ce + M1.2.2.2 → ms + szM M = sl + szM M1 → Wt K X (QM K X (some (vi r)) M1 mc ms) ce sl M 622 [(0, vr 64), (1, vr 61), (2, vr n2), (3, vi x3), (4, vi x4), (5, vi x5), (6, vi x6), (7, vi x7)] [])) {n2 : Nat} {x3 : Int32} {x4 : Int32} {x5 : Int32} {x6 : Int32} {x7 : Int32} {x8 : Int32} {x9 : Int32} {ns0 : Nat} {ce sl : Nat} {M : Mem} (hF : f_L_begins_b704 N xs rec483 rec622 n2 x3 x4 x5 x6 x7 x8 x9 ns0 M = some (r, M1)) (hn : mc + M.2.2.2 = ce + M1.2.2.2) (hz : ms + szM M = sl + szM M1) : Wt K X (QM K X (some (vi r)) M1 mc ms) ce sl M 704 [(0, vr 64), (1, vr 61), (2, vr n2), (3, vi x3), (4, vi x4), (5, vi x5), (6, vi x6), (7, vi x7), (8, vi x8), (9, vi x9)] [vr ns0] := by
  have hg := m_L_begins_b704 G483 G622 hF
  have hg1 := hg.1
  have hg2 := hg.2.1
  unfold f_L_begins_b704 at hF
  refine w_aload_n hB 1 dL_begins_704 rfl rfl ?_
  refine w_iload hB 8 dL_begins_705 rfl ?_
  refine w_iconst hB 3 (by decide) dL_begins_707 ?_
  refine w_iadd hB dL_begins_708 ?_
  refine w_iconst hB 2 (by decide) dL_begins_709 ?_
  obtain ⟨r1, M1m, hc_M1m, hF⟩ := clS hF
  have q_M1m : EQ M M1m := k_L_some hc_M1m
  have x_M1m := q_M1m.gx
  have n_M1m := q_M1m.1
  have z_M1m := q_M1m.sz
  refine w_callS (M1 := M1m) hB (As := [vr 61, vi (x8 + 3), vi 2]) (st := [vr ns0]) cw_L_49 q_753 (c_L_some hp hq hc_M1m) ⟨rfl, rfl⟩ ⟨Nat.le_of_ble_eq_true rfl, Nat.le_of_ble_eq_true rfl⟩ ⟨show ce ≤ mc by omega, show sl ≤ ms by omega⟩ rfl (Nat.le_of_ble_eq_true rfl) dL_begins_710 rfl ?_ (Or.inl rfl)
  refine w_if_ne hB 721 dL_begins_713 (by decide) (fun hc => ?_) (fun hc => ?_)
  · replace hF := ifF hc hF
    refine w_ldcs hB hp 421 (by decide) dL_begins_721 ?_
    exact Wt.sub (L' := [(0, vr 64), (1, vr 61), (2, vr n2), (3, vi x3), (4, vi x4), (5, vi x5), (6, vi x6), (7, vi x7), (8, vi x8), (9, vi x9)]) [0, 1, 2, 3, 4, 5, 6, 7, 8, 9] rfl (b_L_begins_b723 hp hk hq hB G483 h483 G622 h622 hF (by omega) (by omega))
  · replace hF := ifT hc hF
    refine w_ldcs hB hp 420 (by decide) dL_begins_716 ?_
    refine w_goto hB 723 dL_begins_718 (by decide) ?_
    exact Wt.sub (L' := [(0, vr 64), (1, vr 61), (2, vr n2), (3, vi x3), (4, vi x4), (5, vi x5), (6, vi x6), (7, vi x7), (8, vi x8), (9, vi x9)]) [0, 1, 2, 3, 4, 5, 6, 7, 8, 9] rfl (b_L_begins_b723 hp hk hq hB G483 h483 G622 h622 hF (by omega) (by omega))
def f_L_begins_b688 (N : Nat) (xs : Nat → Int32) (rec483 : Nat → Int32 → Int32 → Int32 → Int32 → Mem → Option (Int32 × Mem)) (rec622 : Nat → Int32 → Int32 → Int32 → Int32 → Int32 → Mem → Option (Int32 × Mem)) (n2 : Nat) (x3 : Int32) (x4 : Int32) (x5 : Int32) (x6 : Int32) (x7 : Int32) (x8 : Int32) (x9 : Int32) (ns0 : Nat) (M : Mem) : Option (Int32 × Mem) :=
  cl (f_L_some N xs (x8 + 2) 9 M) fun r1 M1m =>
  gd (1000 ≤ ns0 ∧ dsc M1m ns0 = 11 ∧ ns0 - 753 < M1m.2.2.2) <|
  cl (f_J4_append_bf812 ns0 (8 + r1) M1m) fun o1 M2m =>
  f_L_begins_b704 N xs rec483 rec622 n2 x3 x4 x5 x6 x7 x8 x9 o1 M2m
set_option maxRecDepth 100000 in
set_option maxHeartbeats 4000000 in
theorem m_L_begins_b688 {N : Nat} {xs : Nat → Int32} {rec483 : Nat → Int32 → Int32 → Int32 → Int32 → Mem → Option (Int32 × Mem)} {rec622 : Nat → Int32 → Int32 → Int32 → Int32 → Int32 → Mem → Option (Int32 × Mem)} (G483 : (∀ (n2 : Nat) (x3 : Int32) (x4 : Int32) (x5 : Int32) (x6 : Int32) (M Z : Mem) (r : Int32), rec483 n2 x3 x4 x5 x6 M = some (r, Z) → GX M Z)) (G622 : (∀ (n2 : Nat) (x3 : Int32) (x4 : Int32) (x5 : Int32) (x6 : Int32) (x7 : Int32) (M Z : Mem) (r : Int32), rec622 n2 x3 x4 x5 x6 x7 M = some (r, Z) → GX M Z)) {n2 : Nat} {x3 : Int32} {x4 : Int32} {x5 : Int32} {x6 : Int32} {x7 : Int32} {x8 : Int32} {x9 : Int32} {ns0 : Nat} {M Z : Mem} {r : Int32} (h : f_L_begins_b688 N xs rec483 rec622 n2 x3 x4 x5 x6 x7 x8 x9 ns0 M = some (r, Z)) : GX M Z := by
  unfold f_L_begins_b688 at h
  obtain ⟨r1, M1m, c_M1m, h⟩ := clS h
  have q_M1m : GX M M1m := GX.tr (GX.refl M) ((k_L_some c_M1m).gx)
  obtain ⟨gq1, h⟩ := gdS h
  obtain ⟨o1, M2m, c_M2m, h⟩ := clS h
  have q_M2m : GX M M2m := GX.tr q_M1m (m_J4_append_bf812 c_M2m)
  exact GX.tr q_M2m (m_L_begins_b704 G483 G622 h)
set_option maxRecDepth 100000 in
set_option maxHeartbeats 4000000 in
theorem b_L_begins_b688 {K : Kt} {X : Xt} (hp : St K) (hk : KC K) {N : Nat} {xs : Nat → Int32} (hq : KScr K N xs) {mc ms : Nat} (hB : Bx K X { frames := 9, cells := mc, slots := ms, locals := 200 } cL_begins 10 RL (some .boolean)) {r : Int32} {M1 : Mem} {rec483 : Nat → Int32 → Int32 → Int32 → Int32 → Mem → Option (Int32 × Mem)} {rec622 : Nat → Int32 → Int32 → Int32 → Int32 → Int32 → Mem → Option (Int32 × Mem)}
    (G483 : (∀ (n2 : Nat) (x3 : Int32) (x4 : Int32) (x5 : Int32) (x6 : Int32) (M Z : Mem) (r : Int32), rec483 n2 x3 x4 x5 x6 M = some (r, Z) → GX M Z)) (h483 : (∀ (n2 : Nat) (x3 : Int32) (x4 : Int32) (x5 : Int32) (x6 : Int32) (ce sl : Nat) (M : Mem), rec483 n2 x3 x4 x5 x6 M = some (r, M1) → mc + M.2.2.2 = ce + M1.2.2.2 → ms + szM M = sl + szM M1 → Wt K X (QM K X (some (vi r)) M1 mc ms) ce sl M 483 [(0, vr 64), (1, vr 61), (2, vr n2), (3, vi x3), (4, vi x4), (5, vi x5), (6, vi x6)] []))
    (G622 : (∀ (n2 : Nat) (x3 : Int32) (x4 : Int32) (x5 : Int32) (x6 : Int32) (x7 : Int32) (M Z : Mem) (r : Int32), rec622 n2 x3 x4 x5 x6 x7 M = some (r, Z) → GX M Z)) (h622 : (∀ (n2 : Nat) (x3 : Int32) (x4 : Int32) (x5 : Int32) (x6 : Int32) (x7 : Int32) (ce sl : Nat) (M : Mem), rec622 n2 x3 x4 x5 x6 x7 M = some (r, M1) → mc + M.2.2.2 = ce + M1.2.2.2 → ms + szM M = sl + szM M1 → Wt K X (QM K X (some (vi r)) M1 mc ms) ce sl M 622 [(0, vr 64), (1, vr 61), (2, vr n2), (3, vi x3), (4, vi x4), (5, vi x5), (6, vi x6), (7, vi x7)] [])) {n2 : Nat} {x3 : Int32} {x4 : Int32} {x5 : Int32} {x6 : Int32} {x7 : Int32} {x8 : Int32} {x9 : Int32} {ns0 : Nat} {ce sl : Nat} {M : Mem} (hF : f_L_begins_b688 N xs rec483 rec622 n2 x3 x4 x5 x6 x7 x8 x9 ns0 M = some (r, M1)) (hn : mc + M.2.2.2 = ce + M1.2.2.2) (hz : ms + szM M = sl + szM M1) : Wt K X (QM K X (some (vi r)) M1 mc ms) ce sl M 688 [(0, vr 64), (1, vr 61), (2, vr n2), (3, vi x3), (4, vi x4), (5, vi x5), (6, vi x6), (7, vi x7), (8, vi x8), (9, vi x9)] [vr ns0] := by
  have hg := m_L_begins_b688 G483 G622 hF
  have hg1 := hg.1
  have hg2 := hg.2.1
  unfold f_L_begins_b688 at hF
  refine w_bipush hB 8 (by decide) dL_begins_688 ?_
  refine w_aload_n hB 1 dL_begins_690 rfl rfl ?_
  refine w_iload hB 8 dL_begins_691 rfl ?_
  refine w_iconst hB 2 (by decide) dL_begins_693 ?_
  refine w_iadd hB dL_begins_694 ?_
  refine w_bipush hB 9 (by decide) dL_begins_695 ?_
  obtain ⟨r1, M1m, hc_M1m, hF⟩ := clS hF
  have q_M1m : EQ M M1m := k_L_some hc_M1m
  have x_M1m := q_M1m.gx
  have n_M1m := q_M1m.1
  have z_M1m := q_M1m.sz
  refine w_callS (M1 := M1m) hB (As := [vr 61, vi (x8 + 2), vi 9]) (st := [vi 8, vr ns0]) cw_L_49 q_753 (c_L_some hp hq hc_M1m) ⟨rfl, rfl⟩ ⟨Nat.le_of_ble_eq_true rfl, Nat.le_of_ble_eq_true rfl⟩ ⟨show ce ≤ mc by omega, show sl ≤ ms by omega⟩ rfl (Nat.le_of_ble_eq_true rfl) dL_begins_697 rfl ?_ (Or.inl rfl)
  refine w_iadd hB dL_begins_700 ?_
  obtain ⟨g1, hF⟩ := gdS hF
  obtain ⟨o1, M2m, hc_M2m, hF⟩ := clS hF
  have x_M2m := m_J4_append_bf812 hc_M2m
  have xa_M2m := x_M2m.1
  have xb_M2m := x_M2m.2.1
  have hg3 := m_L_begins_b704 G483 G622 hF
  have hg4 := hg3.1
  have hg5 := hg3.2.1
  refine w_callV (M1 := M2m) hB (ci := 10) (As := [vi (8 + r1)]) (st := []) cw_L_53 q_761 q_762 rfl (dqM g1) (c_J4_append_bf812 hp hk hc_M2m) ⟨rfl, rfl⟩ ⟨Nat.le_of_ble_eq_true rfl, Nat.le_of_ble_eq_true rfl⟩ ⟨show ce + (M2m.2.2.2 - M1m.2.2.2) ≤ mc by omega, show sl + (szM M2m - szM M1m) ≤ ms by omega⟩ rfl (Nat.le_of_ble_eq_true rfl) dL_begins_701 rfl ?_ (Or.inr (by omega))
  exact Wt.sub (L' := [(0, vr 64), (1, vr 61), (2, vr n2), (3, vi x3), (4, vi x4), (5, vi x5), (6, vi x6), (7, vi x7), (8, vi x8), (9, vi x9)]) [0, 1, 2, 3, 4, 5, 6, 7, 8, 9] rfl (b_L_begins_b704 hp hk hq hB G483 h483 G622 h622 hF (by omega) (by omega))
def f_L_begins_b683 (N : Nat) (xs : Nat → Int32) (rec483 : Nat → Int32 → Int32 → Int32 → Int32 → Mem → Option (Int32 × Mem)) (rec622 : Nat → Int32 → Int32 → Int32 → Int32 → Int32 → Mem → Option (Int32 × Mem)) (n2 : Nat) (x3 : Int32) (x4 : Int32) (x5 : Int32) (x6 : Int32) (x7 : Int32) (x8 : Int32) (x9 : Int32) (ns0 : Nat) (M : Mem) : Option (Int32 × Mem) :=
  gd (1000 ≤ ns0 ∧ dsc M ns0 = 11 ∧ ns0 - 753 < M.2.2.2) <|
  cl (f_J4_append_15ec4 ns0 401 M) fun o1 M1m =>
  f_L_begins_b688 N xs rec483 rec622 n2 x3 x4 x5 x6 x7 x8 x9 o1 M1m
set_option maxRecDepth 100000 in
set_option maxHeartbeats 4000000 in
theorem m_L_begins_b683 {N : Nat} {xs : Nat → Int32} {rec483 : Nat → Int32 → Int32 → Int32 → Int32 → Mem → Option (Int32 × Mem)} {rec622 : Nat → Int32 → Int32 → Int32 → Int32 → Int32 → Mem → Option (Int32 × Mem)} (G483 : (∀ (n2 : Nat) (x3 : Int32) (x4 : Int32) (x5 : Int32) (x6 : Int32) (M Z : Mem) (r : Int32), rec483 n2 x3 x4 x5 x6 M = some (r, Z) → GX M Z)) (G622 : (∀ (n2 : Nat) (x3 : Int32) (x4 : Int32) (x5 : Int32) (x6 : Int32) (x7 : Int32) (M Z : Mem) (r : Int32), rec622 n2 x3 x4 x5 x6 x7 M = some (r, Z) → GX M Z)) {n2 : Nat} {x3 : Int32} {x4 : Int32} {x5 : Int32} {x6 : Int32} {x7 : Int32} {x8 : Int32} {x9 : Int32} {ns0 : Nat} {M Z : Mem} {r : Int32} (h : f_L_begins_b683 N xs rec483 rec622 n2 x3 x4 x5 x6 x7 x8 x9 ns0 M = some (r, Z)) : GX M Z := by
  unfold f_L_begins_b683 at h
  obtain ⟨gq0, h⟩ := gdS h
  obtain ⟨o1, M1m, c_M1m, h⟩ := clS h
  have q_M1m : GX M M1m := GX.tr (GX.refl M) (m_J4_append_15ec4 c_M1m)
  exact GX.tr q_M1m (m_L_begins_b688 G483 G622 h)
set_option maxRecDepth 100000 in
set_option maxHeartbeats 4000000 in
theorem b_L_begins_b683 {K : Kt} {X : Xt} (hp : St K) (hk : KC K) {N : Nat} {xs : Nat → Int32} (hq : KScr K N xs) {mc ms : Nat} (hB : Bx K X { frames := 9, cells := mc, slots := ms, locals := 200 } cL_begins 10 RL (some .boolean)) {r : Int32} {M1 : Mem} {rec483 : Nat → Int32 → Int32 → Int32 → Int32 → Mem → Option (Int32 × Mem)} {rec622 : Nat → Int32 → Int32 → Int32 → Int32 → Int32 → Mem → Option (Int32 × Mem)}
    (G483 : (∀ (n2 : Nat) (x3 : Int32) (x4 : Int32) (x5 : Int32) (x6 : Int32) (M Z : Mem) (r : Int32), rec483 n2 x3 x4 x5 x6 M = some (r, Z) → GX M Z)) (h483 : (∀ (n2 : Nat) (x3 : Int32) (x4 : Int32) (x5 : Int32) (x6 : Int32) (ce sl : Nat) (M : Mem), rec483 n2 x3 x4 x5 x6 M = some (r, M1) → mc + M.2.2.2 = ce + M1.2.2.2 → ms + szM M = sl + szM M1 → Wt K X (QM K X (some (vi r)) M1 mc ms) ce sl M 483 [(0, vr 64), (1, vr 61), (2, vr n2), (3, vi x3), (4, vi x4), (5, vi x5), (6, vi x6)] []))
    (G622 : (∀ (n2 : Nat) (x3 : Int32) (x4 : Int32) (x5 : Int32) (x6 : Int32) (x7 : Int32) (M Z : Mem) (r : Int32), rec622 n2 x3 x4 x5 x6 x7 M = some (r, Z) → GX M Z)) (h622 : (∀ (n2 : Nat) (x3 : Int32) (x4 : Int32) (x5 : Int32) (x6 : Int32) (x7 : Int32) (ce sl : Nat) (M : Mem), rec622 n2 x3 x4 x5 x6 x7 M = some (r, M1) → mc + M.2.2.2 = ce + M1.2.2.2 → ms + szM M = sl + szM M1 → Wt K X (QM K X (some (vi r)) M1 mc ms) ce sl M 622 [(0, vr 64), (1, vr 61), (2, vr n2), (3, vi x3), (4, vi x4), (5, vi x5), (6, vi x6), (7, vi x7)] [])) {n2 : Nat} {x3 : Int32} {x4 : Int32} {x5 : Int32} {x6 : Int32} {x7 : Int32} {x8 : Int32} {x9 : Int32} {ns0 : Nat} {ce sl : Nat} {M : Mem} (hF : f_L_begins_b683 N xs rec483 rec622 n2 x3 x4 x5 x6 x7 x8 x9 ns0 M = some (r, M1)) (hn : mc + M.2.2.2 = ce + M1.2.2.2) (hz : ms + szM M = sl + szM M1) : Wt K X (QM K X (some (vi r)) M1 mc ms) ce sl M 683 [(0, vr 64), (1, vr 61), (2, vr n2), (3, vi x3), (4, vi x4), (5, vi x5), (6, vi x6), (7, vi x7), (8, vi x8), (9, vi x9)] [vr ns0] := by
  have hg := m_L_begins_b683 G483 G622 hF
  have hg1 := hg.1
  have hg2 := hg.2.1
  unfold f_L_begins_b683 at hF
  refine w_ldcs hB hp 401 (by decide) dL_begins_683 ?_
  obtain ⟨g1, hF⟩ := gdS hF
  obtain ⟨o1, M1m, hc_M1m, hF⟩ := clS hF
  have x_M1m := m_J4_append_15ec4 hc_M1m
  have xa_M1m := x_M1m.1
  have xb_M1m := x_M1m.2.1
  have hg3 := m_L_begins_b688 G483 G622 hF
  have hg4 := hg3.1
  have hg5 := hg3.2.1
  refine w_callV (M1 := M1m) hB (ci := 10) (As := [vr 401]) (st := []) cw_L_40 q_612 q_613 rfl (dqM g1) (c_J4_append_15ec4 hp hk hc_M1m) ⟨rfl, rfl⟩ ⟨Nat.le_of_ble_eq_true rfl, Nat.le_of_ble_eq_true rfl⟩ ⟨show ce + (M1m.2.2.2 - M.2.2.2) ≤ mc by omega, show sl + (szM M1m - szM M) ≤ ms by omega⟩ rfl (Nat.le_of_ble_eq_true rfl) dL_begins_685 rfl ?_ (Or.inr (by omega))
  exact Wt.sub (L' := [(0, vr 64), (1, vr 61), (2, vr n2), (3, vi x3), (4, vi x4), (5, vi x5), (6, vi x6), (7, vi x7), (8, vi x8), (9, vi x9)]) [0, 1, 2, 3, 4, 5, 6, 7, 8, 9] rfl (b_L_begins_b688 hp hk hq hB G483 h483 G622 h622 hF (by omega) (by omega))
def f_L_begins_b667 (N : Nat) (xs : Nat → Int32) (rec483 : Nat → Int32 → Int32 → Int32 → Int32 → Mem → Option (Int32 × Mem)) (rec622 : Nat → Int32 → Int32 → Int32 → Int32 → Int32 → Mem → Option (Int32 × Mem)) (n2 : Nat) (x3 : Int32) (x4 : Int32) (x5 : Int32) (x6 : Int32) (x7 : Int32) (x8 : Int32) (x9 : Int32) (ns0 : Nat) (M : Mem) : Option (Int32 × Mem) :=
  cl (f_L_some N xs (x8 + 1) 3 M) fun r1 M1m =>
  gd (1000 ≤ ns0 ∧ dsc M1m ns0 = 11 ∧ ns0 - 753 < M1m.2.2.2) <|
  cl (f_J4_append_cf468 ns0 (((97 + r1).toUInt32 % 65536).toInt32) M1m) fun o1 M2m =>
  f_L_begins_b683 N xs rec483 rec622 n2 x3 x4 x5 x6 x7 x8 x9 o1 M2m
set_option maxRecDepth 100000 in
set_option maxHeartbeats 4000000 in
theorem m_L_begins_b667 {N : Nat} {xs : Nat → Int32} {rec483 : Nat → Int32 → Int32 → Int32 → Int32 → Mem → Option (Int32 × Mem)} {rec622 : Nat → Int32 → Int32 → Int32 → Int32 → Int32 → Mem → Option (Int32 × Mem)} (G483 : (∀ (n2 : Nat) (x3 : Int32) (x4 : Int32) (x5 : Int32) (x6 : Int32) (M Z : Mem) (r : Int32), rec483 n2 x3 x4 x5 x6 M = some (r, Z) → GX M Z)) (G622 : (∀ (n2 : Nat) (x3 : Int32) (x4 : Int32) (x5 : Int32) (x6 : Int32) (x7 : Int32) (M Z : Mem) (r : Int32), rec622 n2 x3 x4 x5 x6 x7 M = some (r, Z) → GX M Z)) {n2 : Nat} {x3 : Int32} {x4 : Int32} {x5 : Int32} {x6 : Int32} {x7 : Int32} {x8 : Int32} {x9 : Int32} {ns0 : Nat} {M Z : Mem} {r : Int32} (h : f_L_begins_b667 N xs rec483 rec622 n2 x3 x4 x5 x6 x7 x8 x9 ns0 M = some (r, Z)) : GX M Z := by
  unfold f_L_begins_b667 at h
  obtain ⟨r1, M1m, c_M1m, h⟩ := clS h
  have q_M1m : GX M M1m := GX.tr (GX.refl M) ((k_L_some c_M1m).gx)
  obtain ⟨gq1, h⟩ := gdS h
  obtain ⟨o1, M2m, c_M2m, h⟩ := clS h
  have q_M2m : GX M M2m := GX.tr q_M1m (m_J4_append_cf468 c_M2m)
  exact GX.tr q_M2m (m_L_begins_b683 G483 G622 h)
set_option maxRecDepth 100000 in
set_option maxHeartbeats 4000000 in
theorem b_L_begins_b667 {K : Kt} {X : Xt} (hp : St K) (hk : KC K) {N : Nat} {xs : Nat → Int32} (hq : KScr K N xs) {mc ms : Nat} (hB : Bx K X { frames := 9, cells := mc, slots := ms, locals := 200 } cL_begins 10 RL (some .boolean)) {r : Int32} {M1 : Mem} {rec483 : Nat → Int32 → Int32 → Int32 → Int32 → Mem → Option (Int32 × Mem)} {rec622 : Nat → Int32 → Int32 → Int32 → Int32 → Int32 → Mem → Option (Int32 × Mem)}
    (G483 : (∀ (n2 : Nat) (x3 : Int32) (x4 : Int32) (x5 : Int32) (x6 : Int32) (M Z : Mem) (r : Int32), rec483 n2 x3 x4 x5 x6 M = some (r, Z) → GX M Z)) (h483 : (∀ (n2 : Nat) (x3 : Int32) (x4 : Int32) (x5 : Int32) (x6 : Int32) (ce sl : Nat) (M : Mem), rec483 n2 x3 x4 x5 x6 M = some (r, M1) → mc + M.2.2.2 = ce + M1.2.2.2 → ms + szM M = sl + szM M1 → Wt K X (QM K X (some (vi r)) M1 mc ms) ce sl M 483 [(0, vr 64), (1, vr 61), (2, vr n2), (3, vi x3), (4, vi x4), (5, vi x5), (6, vi x6)] []))
    (G622 : (∀ (n2 : Nat) (x3 : Int32) (x4 : Int32) (x5 : Int32) (x6 : Int32) (x7 : Int32) (M Z : Mem) (r : Int32), rec622 n2 x3 x4 x5 x6 x7 M = some (r, Z) → GX M Z)) (h622 : (∀ (n2 : Nat) (x3 : Int32) (x4 : Int32) (x5 : Int32) (x6 : Int32) (x7 : Int32) (ce sl : Nat) (M : Mem), rec622 n2 x3 x4 x5 x6 x7 M = some (r, M1) → mc + M.2.2.2 = ce + M1.2.2.2 → ms + szM M = sl + szM M1 → Wt K X (QM K X (some (vi r)) M1 mc ms) ce sl M 622 [(0, vr 64), (1, vr 61), (2, vr n2), (3, vi x3), (4, vi x4), (5, vi x5), (6, vi x6), (7, vi x7)] [])) {n2 : Nat} {x3 : Int32} {x4 : Int32} {x5 : Int32} {x6 : Int32} {x7 : Int32} {x8 : Int32} {x9 : Int32} {ns0 : Nat} {ce sl : Nat} {M : Mem} (hF : f_L_begins_b667 N xs rec483 rec622 n2 x3 x4 x5 x6 x7 x8 x9 ns0 M = some (r, M1)) (hn : mc + M.2.2.2 = ce + M1.2.2.2) (hz : ms + szM M = sl + szM M1) : Wt K X (QM K X (some (vi r)) M1 mc ms) ce sl M 667 [(0, vr 64), (1, vr 61), (2, vr n2), (3, vi x3), (4, vi x4), (5, vi x5), (6, vi x6), (7, vi x7), (8, vi x8), (9, vi x9)] [vr ns0] := by
  have hg := m_L_begins_b667 G483 G622 hF
  have hg1 := hg.1
  have hg2 := hg.2.1
  unfold f_L_begins_b667 at hF
  refine w_bipush hB 97 (by decide) dL_begins_667 ?_
  refine w_aload_n hB 1 dL_begins_669 rfl rfl ?_
  refine w_iload hB 8 dL_begins_670 rfl ?_
  refine w_iconst hB 1 (by decide) dL_begins_672 ?_
  refine w_iadd hB dL_begins_673 ?_
  refine w_iconst hB 3 (by decide) dL_begins_674 ?_
  obtain ⟨r1, M1m, hc_M1m, hF⟩ := clS hF
  have q_M1m : EQ M M1m := k_L_some hc_M1m
  have x_M1m := q_M1m.gx
  have n_M1m := q_M1m.1
  have z_M1m := q_M1m.sz
  refine w_callS (M1 := M1m) hB (As := [vr 61, vi (x8 + 1), vi 3]) (st := [vi 97, vr ns0]) cw_L_49 q_753 (c_L_some hp hq hc_M1m) ⟨rfl, rfl⟩ ⟨Nat.le_of_ble_eq_true rfl, Nat.le_of_ble_eq_true rfl⟩ ⟨show ce ≤ mc by omega, show sl ≤ ms by omega⟩ rfl (Nat.le_of_ble_eq_true rfl) dL_begins_675 rfl ?_ (Or.inl rfl)
  refine w_iadd hB dL_begins_678 ?_
  refine w_i2c hB dL_begins_679 ?_
  obtain ⟨g1, hF⟩ := gdS hF
  obtain ⟨o1, M2m, hc_M2m, hF⟩ := clS hF
  have x_M2m := m_J4_append_cf468 hc_M2m
  have xa_M2m := x_M2m.1
  have xb_M2m := x_M2m.2.1
  have hg3 := m_L_begins_b683 G483 G622 hF
  have hg4 := hg3.1
  have hg5 := hg3.2.1
  refine w_callV (M1 := M2m) hB (ci := 10) (As := [vi (((97 + r1).toUInt32 % 65536).toInt32)]) (st := []) cw_L_44 q_730 q_731 rfl (dqM g1) (c_J4_append_cf468 hp hk hc_M2m) ⟨rfl, rfl⟩ ⟨Nat.le_of_ble_eq_true rfl, Nat.le_of_ble_eq_true rfl⟩ ⟨show ce + (M2m.2.2.2 - M1m.2.2.2) ≤ mc by omega, show sl + (szM M2m - szM M1m) ≤ ms by omega⟩ rfl (Nat.le_of_ble_eq_true rfl) dL_begins_680 rfl ?_ (Or.inr (by omega))
  exact Wt.sub (L' := [(0, vr 64), (1, vr 61), (2, vr n2), (3, vi x3), (4, vi x4), (5, vi x5), (6, vi x6), (7, vi x7), (8, vi x8), (9, vi x9)]) [0, 1, 2, 3, 4, 5, 6, 7, 8, 9] rfl (b_L_begins_b683 hp hk hq hB G483 h483 G622 h622 hF (by omega) (by omega))
def f_L_begins_b622_s (N : Nat) (xs : Nat → Int32) (rec483 : Nat → Int32 → Int32 → Int32 → Int32 → Mem → Option (Int32 × Mem)) (rec622 : Nat → Int32 → Int32 → Int32 → Int32 → Int32 → Mem → Option (Int32 × Mem)) (n2 : Nat) (x3 : Int32) (x4 : Int32) (x5 : Int32) (x6 : Int32) (x7 : Int32) (M : Mem) : Option (Int32 × Mem) :=
  cl (f_L_some N xs (64 + x6) 5 M) fun r1 M1m =>
  if r1 ≤ x7 then
    gd (1000 ≤ n2 ∧ dsc M1m n2 = 11 ∧ n2 - 753 < M1m.2.2.2) <|
    cl (f_J4_append_15ec4 n2 402 M1m) fun o1 M2m =>
    f_L_begins_b789 N xs rec483 n2 x3 x4 x5 x6 o1 M2m
  else
    bnd ((70 + (20 * x6)) + (5 * x7)) fun a1 =>
    cl (f_L_some N xs a1 3 M1m) fun r2 M3m =>
    gd (1000 ≤ n2 ∧ dsc M3m n2 = 11 ∧ n2 - 753 < M3m.2.2.2) <|
    cl (f_J4_append_15ec4 n2 404 M3m) fun o2 M4m =>
    f_L_begins_b667 N xs rec483 rec622 n2 x3 x4 x5 x6 x7 a1 r2 o2 M4m
set_option maxRecDepth 100000 in
set_option maxHeartbeats 4000000 in
theorem m_L_begins_b622_s {N : Nat} {xs : Nat → Int32} {rec483 : Nat → Int32 → Int32 → Int32 → Int32 → Mem → Option (Int32 × Mem)} {rec622 : Nat → Int32 → Int32 → Int32 → Int32 → Int32 → Mem → Option (Int32 × Mem)} (G483 : (∀ (n2 : Nat) (x3 : Int32) (x4 : Int32) (x5 : Int32) (x6 : Int32) (M Z : Mem) (r : Int32), rec483 n2 x3 x4 x5 x6 M = some (r, Z) → GX M Z)) (G622 : (∀ (n2 : Nat) (x3 : Int32) (x4 : Int32) (x5 : Int32) (x6 : Int32) (x7 : Int32) (M Z : Mem) (r : Int32), rec622 n2 x3 x4 x5 x6 x7 M = some (r, Z) → GX M Z)) {n2 : Nat} {x3 : Int32} {x4 : Int32} {x5 : Int32} {x6 : Int32} {x7 : Int32} {M Z : Mem} {r : Int32} (h : f_L_begins_b622_s N xs rec483 rec622 n2 x3 x4 x5 x6 x7 M = some (r, Z)) : GX M Z := by
  unfold f_L_begins_b622_s at h
  obtain ⟨r1, M1m, c_M1m, h⟩ := clS h
  have q_M1m : GX M M1m := GX.tr (GX.refl M) ((k_L_some c_M1m).gx)
  rcases ifS h with ⟨-, h⟩ | ⟨-, h⟩
  · obtain ⟨gq2, h⟩ := gdS h
    obtain ⟨o1, M2m, c_M2m, h⟩ := clS h
    have q_M2m : GX M M2m := GX.tr q_M1m (m_J4_append_15ec4 c_M2m)
    exact GX.tr q_M2m (m_L_begins_b789 G483 h)
  · obtain ⟨a1, e_a1, h⟩ := bndS h
    obtain ⟨r2, M3m, c_M3m, h⟩ := clS h
    have q_M3m : GX M M3m := GX.tr q_M1m ((k_L_some c_M3m).gx)
    obtain ⟨gq8, h⟩ := gdS h
    obtain ⟨o2, M4m, c_M4m, h⟩ := clS h
    have q_M4m : GX M M4m := GX.tr q_M3m (m_J4_append_15ec4 c_M4m)
    exact GX.tr q_M4m (m_L_begins_b667 G483 G622 h)
set_option maxRecDepth 100000 in
set_option maxHeartbeats 4000000 in
theorem b_L_begins_b622_s {K : Kt} {X : Xt} (hp : St K) (hk : KC K) {N : Nat} {xs : Nat → Int32} (hq : KScr K N xs) {mc ms : Nat} (hB : Bx K X { frames := 9, cells := mc, slots := ms, locals := 200 } cL_begins 10 RL (some .boolean)) {r : Int32} {M1 : Mem} {rec483 : Nat → Int32 → Int32 → Int32 → Int32 → Mem → Option (Int32 × Mem)} {rec622 : Nat → Int32 → Int32 → Int32 → Int32 → Int32 → Mem → Option (Int32 × Mem)}
    (G483 : (∀ (n2 : Nat) (x3 : Int32) (x4 : Int32) (x5 : Int32) (x6 : Int32) (M Z : Mem) (r : Int32), rec483 n2 x3 x4 x5 x6 M = some (r, Z) → GX M Z)) (h483 : (∀ (n2 : Nat) (x3 : Int32) (x4 : Int32) (x5 : Int32) (x6 : Int32) (ce sl : Nat) (M : Mem), rec483 n2 x3 x4 x5 x6 M = some (r, M1) → mc + M.2.2.2 = ce + M1.2.2.2 → ms + szM M = sl + szM M1 → Wt K X (QM K X (some (vi r)) M1 mc ms) ce sl M 483 [(0, vr 64), (1, vr 61), (2, vr n2), (3, vi x3), (4, vi x4), (5, vi x5), (6, vi x6)] []))
    (G622 : (∀ (n2 : Nat) (x3 : Int32) (x4 : Int32) (x5 : Int32) (x6 : Int32) (x7 : Int32) (M Z : Mem) (r : Int32), rec622 n2 x3 x4 x5 x6 x7 M = some (r, Z) → GX M Z)) (h622 : (∀ (n2 : Nat) (x3 : Int32) (x4 : Int32) (x5 : Int32) (x6 : Int32) (x7 : Int32) (ce sl : Nat) (M : Mem), rec622 n2 x3 x4 x5 x6 x7 M = some (r, M1) → mc + M.2.2.2 = ce + M1.2.2.2 → ms + szM M = sl + szM M1 → Wt K X (QM K X (some (vi r)) M1 mc ms) ce sl M 622 [(0, vr 64), (1, vr 61), (2, vr n2), (3, vi x3), (4, vi x4), (5, vi x5), (6, vi x6), (7, vi x7)] [])) {n2 : Nat} {x3 : Int32} {x4 : Int32} {x5 : Int32} {x6 : Int32} {x7 : Int32} {ce sl : Nat} {M : Mem} (hF : f_L_begins_b622_s N xs rec483 rec622 n2 x3 x4 x5 x6 x7 M = some (r, M1)) (hn : mc + M.2.2.2 = ce + M1.2.2.2) (hz : ms + szM M = sl + szM M1) : Wt K X (QM K X (some (vi r)) M1 mc ms) ce sl M 622 [(0, vr 64), (1, vr 61), (2, vr n2), (3, vi x3), (4, vi x4), (5, vi x5), (6, vi x6), (7, vi x7)] [] := by
  have hg := m_L_begins_b622_s G483 G622 hF
  have hg1 := hg.1
  have hg2 := hg.2.1
  unfold f_L_begins_b622_s at hF
  refine w_iload hB 7 dL_begins_622 rfl ?_
  refine w_aload_n hB 1 dL_begins_624 rfl rfl ?_
  refine w_bipush hB 64 (by decide) dL_begins_625 ?_
  refine w_iload hB 6 dL_begins_627 rfl ?_
  refine w_iadd hB dL_begins_629 ?_
  refine w_iconst hB 5 (by decide) dL_begins_630 ?_
  obtain ⟨r1, M1m, hc_M1m, hF⟩ := clS hF
  have q_M1m : EQ M M1m := k_L_some hc_M1m
  have x_M1m := q_M1m.gx
  have n_M1m := q_M1m.1
  have z_M1m := q_M1m.sz
  refine w_callS (M1 := M1m) hB (As := [vr 61, vi (64 + x6), vi 5]) (st := [vi x7]) cw_L_49 q_753 (c_L_some hp hq hc_M1m) ⟨rfl, rfl⟩ ⟨Nat.le_of_ble_eq_true rfl, Nat.le_of_ble_eq_true rfl⟩ ⟨show ce ≤ mc by omega, show sl ≤ ms by omega⟩ rfl (Nat.le_of_ble_eq_true rfl) dL_begins_631 rfl ?_ (Or.inl rfl)
  refine w_icmp_ge hB 783 dL_begins_634 (by decide) (fun hc => ?_) (fun hc => ?_)
  · replace hF := ifT hc hF
    refine w_aload_n hB 2 dL_begins_783 rfl rfl ?_
    refine w_ldcs hB hp 402 (by decide) dL_begins_784 ?_
    obtain ⟨g1, hF⟩ := gdS hF
    obtain ⟨o1, M2m, hc_M2m, hF⟩ := clS hF
    have x_M2m := m_J4_append_15ec4 hc_M2m
    have xa_M2m := x_M2m.1
    have xb_M2m := x_M2m.2.1
    have hg3 := m_L_begins_b789 G483 hF
    have hg4 := hg3.1
    have hg5 := hg3.2.1
    refine w_callV (M1 := M2m) hB (ci := 10) (As := [vr 402]) (st := []) cw_L_40 q_612 q_613 rfl (dqM g1) (c_J4_append_15ec4 hp hk hc_M2m) ⟨rfl, rfl⟩ ⟨Nat.le_of_ble_eq_true rfl, Nat.le_of_ble_eq_true rfl⟩ ⟨show ce + (M2m.2.2.2 - M1m.2.2.2) ≤ mc by omega, show sl + (szM M2m - szM M1m) ≤ ms by omega⟩ rfl (Nat.le_of_ble_eq_true rfl) dL_begins_786 rfl ?_ (Or.inr (by omega))
    exact Wt.sub (L' := [(0, vr 64), (1, vr 61), (2, vr n2), (3, vi x3), (4, vi x4), (5, vi x5), (6, vi x6)]) [0, 1, 2, 3, 4, 5, 6] rfl (b_L_begins_b789 hp hk hq hB G483 h483 hF (by omega) (by omega))
  · replace hF := ifF hc hF
    refine w_bipush hB 70 (by decide) dL_begins_637 ?_
    refine w_bipush hB 20 (by decide) dL_begins_639 ?_
    refine w_iload hB 6 dL_begins_641 rfl ?_
    refine w_imul hB dL_begins_643 ?_
    refine w_iadd hB dL_begins_644 ?_
    refine w_iconst hB 5 (by decide) dL_begins_645 ?_
    refine w_iload hB 7 dL_begins_646 rfl ?_
    refine w_imul hB dL_begins_648 ?_
    refine w_iadd hB dL_begins_649 ?_
    obtain ⟨a1, e_a1, hF⟩ := bndS hF
    refine w_istore hB (L' := [(8, vi a1), (0, vr 64), (1, vr 61), (2, vr n2), (3, vi x3), (4, vi x4), (5, vi x5), (6, vi x6), (7, vi x7)]) dL_begins_650 (by decide) e_a1 rfl ?_
    refine w_aload_n hB 2 dL_begins_652 rfl rfl ?_
    refine w_iload hB 0 dL_begins_653 rfl ?_
    refine w_iconst hB 3 (by decide) dL_begins_655 ?_
    obtain ⟨r2, M3m, hc_M3m, hF⟩ := clS hF
    have q_M3m : EQ M1m M3m := k_L_some hc_M3m
    have x_M3m := q_M3m.gx
    have n_M3m := q_M3m.1
    have z_M3m := q_M3m.sz
    refine w_callS (M1 := M3m) hB (As := [vr 61, vi a1, vi 3]) (st := []) cw_L_49 q_753 (c_L_some hp hq hc_M3m) ⟨rfl, rfl⟩ ⟨Nat.le_of_ble_eq_true rfl, Nat.le_of_ble_eq_true rfl⟩ ⟨show ce ≤ mc by omega, show sl ≤ ms by omega⟩ rfl (Nat.le_of_ble_eq_true rfl) dL_begins_656 rfl ?_ (Or.inl rfl)
    refine w_istore hB (L' := [(9, vi r2), (8, vi a1), (0, vr 64), (1, vr 61), (2, vr n2), (3, vi x3), (4, vi x4), (5, vi x5), (6, vi x6), (7, vi x7)]) dL_begins_659 (by decide) rfl rfl ?_
    refine w_aload_n hB 4 dL_begins_661 rfl rfl ?_
    refine w_ldcs hB hp 404 (by decide) dL_begins_662 ?_
    obtain ⟨g2, hF⟩ := gdS hF
    obtain ⟨o2, M4m, hc_M4m, hF⟩ := clS hF
    have x_M4m := m_J4_append_15ec4 hc_M4m
    have xa_M4m := x_M4m.1
    have xb_M4m := x_M4m.2.1
    have hg3 := m_L_begins_b667 G483 G622 hF
    have hg4 := hg3.1
    have hg5 := hg3.2.1
    refine w_callV (M1 := M4m) hB (ci := 10) (As := [vr 404]) (st := []) cw_L_40 q_612 q_613 rfl (dqM g2) (c_J4_append_15ec4 hp hk hc_M4m) ⟨rfl, rfl⟩ ⟨Nat.le_of_ble_eq_true rfl, Nat.le_of_ble_eq_true rfl⟩ ⟨show ce + (M4m.2.2.2 - M3m.2.2.2) ≤ mc by omega, show sl + (szM M4m - szM M3m) ≤ ms by omega⟩ rfl (Nat.le_of_ble_eq_true rfl) dL_begins_664 rfl ?_ (Or.inr (by omega))
    exact Wt.sub (L' := [(0, vr 64), (1, vr 61), (2, vr n2), (3, vi x3), (4, vi x4), (5, vi x5), (6, vi x6), (7, vi x7), (8, vi a1), (9, vi r2)]) [2, 3, 4, 5, 6, 7, 8, 9, 1, 0] rfl (b_L_begins_b667 hp hk hq hB G483 h483 G622 h622 hF (by omega) (by omega))
def f_L_begins_b622 (N : Nat) (xs : Nat → Int32) (rec483 : Nat → Int32 → Int32 → Int32 → Int32 → Mem → Option (Int32 × Mem)) (k : Nat) : Nat → Int32 → Int32 → Int32 → Int32 → Int32 → Mem → Option (Int32 × Mem) := lpN (fun _ _ _ _ _ _ _ => none) (f_L_begins_b622_s N xs rec483) k
theorem m_L_begins_b622 {N : Nat} {xs : Nat → Int32} {rec483 : Nat → Int32 → Int32 → Int32 → Int32 → Mem → Option (Int32 × Mem)} (G483 : (∀ (n2 : Nat) (x3 : Int32) (x4 : Int32) (x5 : Int32) (x6 : Int32) (M Z : Mem) (r : Int32), rec483 n2 x3 x4 x5 x6 M = some (r, Z) → GX M Z)) (k : Nat) : (∀ (n2 : Nat) (x3 : Int32) (x4 : Int32) (x5 : Int32) (x6 : Int32) (x7 : Int32) (M Z : Mem) (r : Int32), f_L_begins_b622 N xs rec483 k n2 x3 x4 x5 x6 x7 M = some (r, Z) → GX M Z) :=
  lpN_ind (P := fun (f : Nat → Int32 → Int32 → Int32 → Int32 → Int32 → Mem → Option (Int32 × Mem)) => (∀ (n2 : Nat) (x3 : Int32) (x4 : Int32) (x5 : Int32) (x6 : Int32) (x7 : Int32) (M Z : Mem) (r : Int32), f n2 x3 x4 x5 x6 x7 M = some (r, Z) → GX M Z)) (fun _ _ _ _ _ _ _ _ _ h => by cases h) (fun f hf _ _ _ _ _ _ _ _ _ h => m_L_begins_b622_s G483 hf h) k
theorem b_L_begins_b622 {K : Kt} {X : Xt} (hp : St K) (hk : KC K) {N : Nat} {xs : Nat → Int32} (hq : KScr K N xs) {mc ms : Nat} (hB : Bx K X { frames := 9, cells := mc, slots := ms, locals := 200 } cL_begins 10 RL (some .boolean)) {r : Int32} {M1 : Mem} {rec483 : Nat → Int32 → Int32 → Int32 → Int32 → Mem → Option (Int32 × Mem)}
    (G483 : (∀ (n2 : Nat) (x3 : Int32) (x4 : Int32) (x5 : Int32) (x6 : Int32) (M Z : Mem) (r : Int32), rec483 n2 x3 x4 x5 x6 M = some (r, Z) → GX M Z)) (h483 : (∀ (n2 : Nat) (x3 : Int32) (x4 : Int32) (x5 : Int32) (x6 : Int32) (ce sl : Nat) (M : Mem), rec483 n2 x3 x4 x5 x6 M = some (r, M1) → mc + M.2.2.2 = ce + M1.2.2.2 → ms + szM M = sl + szM M1 → Wt K X (QM K X (some (vi r)) M1 mc ms) ce sl M 483 [(0, vr 64), (1, vr 61), (2, vr n2), (3, vi x3), (4, vi x4), (5, vi x5), (6, vi x6)] [])) (k : Nat) : (∀ (n2 : Nat) (x3 : Int32) (x4 : Int32) (x5 : Int32) (x6 : Int32) (x7 : Int32) (ce sl : Nat) (M : Mem), f_L_begins_b622 N xs rec483 k n2 x3 x4 x5 x6 x7 M = some (r, M1) → mc + M.2.2.2 = ce + M1.2.2.2 → ms + szM M = sl + szM M1 → Wt K X (QM K X (some (vi r)) M1 mc ms) ce sl M 622 [(0, vr 64), (1, vr 61), (2, vr n2), (3, vi x3), (4, vi x4), (5, vi x5), (6, vi x6), (7, vi x7)] []) :=
  (lpN_ind (P := fun (f : Nat → Int32 → Int32 → Int32 → Int32 → Int32 → Mem → Option (Int32 × Mem)) => (∀ (n2 : Nat) (x3 : Int32) (x4 : Int32) (x5 : Int32) (x6 : Int32) (x7 : Int32) (M Z : Mem) (r : Int32), f n2 x3 x4 x5 x6 x7 M = some (r, Z) → GX M Z) ∧ (∀ (n2 : Nat) (x3 : Int32) (x4 : Int32) (x5 : Int32) (x6 : Int32) (x7 : Int32) (ce sl : Nat) (M : Mem), f n2 x3 x4 x5 x6 x7 M = some (r, M1) → mc + M.2.2.2 = ce + M1.2.2.2 → ms + szM M = sl + szM M1 → Wt K X (QM K X (some (vi r)) M1 mc ms) ce sl M 622 [(0, vr 64), (1, vr 61), (2, vr n2), (3, vi x3), (4, vi x4), (5, vi x5), (6, vi x6), (7, vi x7)] [])) ⟨fun _ _ _ _ _ _ _ _ _ h => (by cases h), fun _ _ _ _ _ _ _ _ _ h _ _ => (by cases h)⟩ (fun f hf => ⟨fun _ _ _ _ _ _ _ _ _ h => m_L_begins_b622_s G483 hf.1 h, fun _ _ _ _ _ _ _ _ _ hF hn hz => b_L_begins_b622_s hp hk hq hB G483 h483 hf.1 hf.2 hF hn hz⟩) k).2
def f_L_begins_b618 (N : Nat) (xs : Nat → Int32) (rec483 : Nat → Int32 → Int32 → Int32 → Int32 → Mem → Option (Int32 × Mem)) (n2 : Nat) (x3 : Int32) (x4 : Int32) (x5 : Int32) (x6 : Int32) (ns0 : Nat) (M : Mem) : Option (Int32 × Mem) :=
  f_L_begins_b622 N xs rec483 fuel n2 x3 x4 x5 x6 0 M
set_option maxRecDepth 100000 in
set_option maxHeartbeats 4000000 in
theorem m_L_begins_b618 {N : Nat} {xs : Nat → Int32} {rec483 : Nat → Int32 → Int32 → Int32 → Int32 → Mem → Option (Int32 × Mem)} (G483 : (∀ (n2 : Nat) (x3 : Int32) (x4 : Int32) (x5 : Int32) (x6 : Int32) (M Z : Mem) (r : Int32), rec483 n2 x3 x4 x5 x6 M = some (r, Z) → GX M Z)) {n2 : Nat} {x3 : Int32} {x4 : Int32} {x5 : Int32} {x6 : Int32} {ns0 : Nat} {M Z : Mem} {r : Int32} (h : f_L_begins_b618 N xs rec483 n2 x3 x4 x5 x6 ns0 M = some (r, Z)) : GX M Z := by
  unfold f_L_begins_b618 at h
  exact GX.tr (GX.refl M) (m_L_begins_b622 G483 _ _ _ _ _ _ _ _ _ _ h)
set_option maxRecDepth 100000 in
set_option maxHeartbeats 4000000 in
theorem b_L_begins_b618 {K : Kt} {X : Xt} (hp : St K) (hk : KC K) {N : Nat} {xs : Nat → Int32} (hq : KScr K N xs) {mc ms : Nat} (hB : Bx K X { frames := 9, cells := mc, slots := ms, locals := 200 } cL_begins 10 RL (some .boolean)) {r : Int32} {M1 : Mem} {rec483 : Nat → Int32 → Int32 → Int32 → Int32 → Mem → Option (Int32 × Mem)}
    (G483 : (∀ (n2 : Nat) (x3 : Int32) (x4 : Int32) (x5 : Int32) (x6 : Int32) (M Z : Mem) (r : Int32), rec483 n2 x3 x4 x5 x6 M = some (r, Z) → GX M Z)) (h483 : (∀ (n2 : Nat) (x3 : Int32) (x4 : Int32) (x5 : Int32) (x6 : Int32) (ce sl : Nat) (M : Mem), rec483 n2 x3 x4 x5 x6 M = some (r, M1) → mc + M.2.2.2 = ce + M1.2.2.2 → ms + szM M = sl + szM M1 → Wt K X (QM K X (some (vi r)) M1 mc ms) ce sl M 483 [(0, vr 64), (1, vr 61), (2, vr n2), (3, vi x3), (4, vi x4), (5, vi x5), (6, vi x6)] [])) {n2 : Nat} {x3 : Int32} {x4 : Int32} {x5 : Int32} {x6 : Int32} {ns0 : Nat} {ce sl : Nat} {M : Mem} (hF : f_L_begins_b618 N xs rec483 n2 x3 x4 x5 x6 ns0 M = some (r, M1)) (hn : mc + M.2.2.2 = ce + M1.2.2.2) (hz : ms + szM M = sl + szM M1) : Wt K X (QM K X (some (vi r)) M1 mc ms) ce sl M 618 [(0, vr 64), (1, vr 61), (2, vr n2), (3, vi x3), (4, vi x4), (5, vi x5), (6, vi x6)] [vr ns0] := by
  have hg := m_L_begins_b618 G483 hF
  have hg1 := hg.1
  have hg2 := hg.2.1
  unfold f_L_begins_b618 at hF
  refine w_pop hB rfl dL_begins_618 ?_
  refine w_iconst hB 0 (by decide) dL_begins_619 ?_
  refine w_istore hB (L' := [(7, vi 0), (0, vr 64), (1, vr 61), (2, vr n2), (3, vi x3), (4, vi x4), (5, vi x5), (6, vi x6)]) dL_begins_620 (by decide) rfl rfl ?_
  exact Wt.sub (L' := [(0, vr 64), (1, vr 61), (2, vr n2), (3, vi x3), (4, vi x4), (5, vi x5), (6, vi x6), (7, vi 0)]) [1, 2, 3, 4, 5, 6, 7, 0] rfl (b_L_begins_b622 hp hk hq hB G483 h483 fuel _ _ _ _ _ _ _ _ M hF (by omega) (by omega))
def f_L_begins_b615 (N : Nat) (xs : Nat → Int32) (rec483 : Nat → Int32 → Int32 → Int32 → Int32 → Mem → Option (Int32 × Mem)) (n2 : Nat) (x3 : Int32) (x4 : Int32) (x5 : Int32) (x6 : Int32) (ns0 : Nat) (ns1 : Nat) (M : Mem) : Option (Int32 × Mem) :=
  gd (1000 ≤ ns0 ∧ dsc M ns0 = 11 ∧ ns0 - 753 < M.2.2.2) <|
  cl (f_J4_append_15ec4 ns0 ns1 M) fun o1 M1m =>
  f_L_begins_b618 N xs rec483 n2 x3 x4 x5 x6 o1 M1m
set_option maxRecDepth 100000 in
set_option maxHeartbeats 4000000 in
theorem m_L_begins_b615 {N : Nat} {xs : Nat → Int32} {rec483 : Nat → Int32 → Int32 → Int32 → Int32 → Mem → Option (Int32 × Mem)} (G483 : (∀ (n2 : Nat) (x3 : Int32) (x4 : Int32) (x5 : Int32) (x6 : Int32) (M Z : Mem) (r : Int32), rec483 n2 x3 x4 x5 x6 M = some (r, Z) → GX M Z)) {n2 : Nat} {x3 : Int32} {x4 : Int32} {x5 : Int32} {x6 : Int32} {ns0 : Nat} {ns1 : Nat} {M Z : Mem} {r : Int32} (h : f_L_begins_b615 N xs rec483 n2 x3 x4 x5 x6 ns0 ns1 M = some (r, Z)) : GX M Z := by
  unfold f_L_begins_b615 at h
  obtain ⟨gq0, h⟩ := gdS h
  obtain ⟨o1, M1m, c_M1m, h⟩ := clS h
  have q_M1m : GX M M1m := GX.tr (GX.refl M) (m_J4_append_15ec4 c_M1m)
  exact GX.tr q_M1m (m_L_begins_b618 G483 h)
set_option maxRecDepth 100000 in
set_option maxHeartbeats 4000000 in
theorem b_L_begins_b615 {K : Kt} {X : Xt} (hp : St K) (hk : KC K) {N : Nat} {xs : Nat → Int32} (hq : KScr K N xs) {mc ms : Nat} (hB : Bx K X { frames := 9, cells := mc, slots := ms, locals := 200 } cL_begins 10 RL (some .boolean)) {r : Int32} {M1 : Mem} {rec483 : Nat → Int32 → Int32 → Int32 → Int32 → Mem → Option (Int32 × Mem)}
    (G483 : (∀ (n2 : Nat) (x3 : Int32) (x4 : Int32) (x5 : Int32) (x6 : Int32) (M Z : Mem) (r : Int32), rec483 n2 x3 x4 x5 x6 M = some (r, Z) → GX M Z)) (h483 : (∀ (n2 : Nat) (x3 : Int32) (x4 : Int32) (x5 : Int32) (x6 : Int32) (ce sl : Nat) (M : Mem), rec483 n2 x3 x4 x5 x6 M = some (r, M1) → mc + M.2.2.2 = ce + M1.2.2.2 → ms + szM M = sl + szM M1 → Wt K X (QM K X (some (vi r)) M1 mc ms) ce sl M 483 [(0, vr 64), (1, vr 61), (2, vr n2), (3, vi x3), (4, vi x4), (5, vi x5), (6, vi x6)] [])) {n2 : Nat} {x3 : Int32} {x4 : Int32} {x5 : Int32} {x6 : Int32} {ns0 : Nat} {ns1 : Nat} {ce sl : Nat} {M : Mem} (hF : f_L_begins_b615 N xs rec483 n2 x3 x4 x5 x6 ns0 ns1 M = some (r, M1)) (hn : mc + M.2.2.2 = ce + M1.2.2.2) (hz : ms + szM M = sl + szM M1) : Wt K X (QM K X (some (vi r)) M1 mc ms) ce sl M 615 [(0, vr 64), (1, vr 61), (2, vr n2), (3, vi x3), (4, vi x4), (5, vi x5), (6, vi x6)] [vr ns1, vr ns0] := by
  have hg := m_L_begins_b615 G483 hF
  have hg1 := hg.1
  have hg2 := hg.2.1
  unfold f_L_begins_b615 at hF
  obtain ⟨g1, hF⟩ := gdS hF
  obtain ⟨o1, M1m, hc_M1m, hF⟩ := clS hF
  have x_M1m := m_J4_append_15ec4 hc_M1m
  have xa_M1m := x_M1m.1
  have xb_M1m := x_M1m.2.1
  have hg3 := m_L_begins_b618 G483 hF
  have hg4 := hg3.1
  have hg5 := hg3.2.1
  refine w_callV (M1 := M1m) hB (ci := 10) (As := [vr ns1]) (st := []) cw_L_40 q_612 q_613 rfl (dqM g1) (c_J4_append_15ec4 hp hk hc_M1m) ⟨rfl, rfl⟩ ⟨Nat.le_of_ble_eq_true rfl, Nat.le_of_ble_eq_true rfl⟩ ⟨show ce + (M1m.2.2.2 - M.2.2.2) ≤ mc by omega, show sl + (szM M1m - szM M) ≤ ms by omega⟩ rfl (Nat.le_of_ble_eq_true rfl) dL_begins_615 rfl ?_ (Or.inr (by omega))
  exact Wt.sub (L' := [(0, vr 64), (1, vr 61), (2, vr n2), (3, vi x3), (4, vi x4), (5, vi x5), (6, vi x6)]) [0, 1, 2, 3, 4, 5, 6] rfl (b_L_begins_b618 hp hk hq hB G483 h483 hF (by omega) (by omega))
def f_L_begins_b595 (N : Nat) (xs : Nat → Int32) (rec483 : Nat → Int32 → Int32 → Int32 → Int32 → Mem → Option (Int32 × Mem)) (n2 : Nat) (x3 : Int32) (x4 : Int32) (x5 : Int32) (x6 : Int32) (ns0 : Nat) (M : Mem) : Option (Int32 × Mem) :=
  cl (f_L_some N xs (58 + x6) 2 M) fun r1 M1m =>
  if r1 = 0 then
    f_L_begins_b615 N xs rec483 n2 x3 x4 x5 x6 ns0 418 M1m
  else
    f_L_begins_b615 N xs rec483 n2 x3 x4 x5 x6 ns0 419 M1m
set_option maxRecDepth 100000 in
set_option maxHeartbeats 4000000 in
theorem m_L_begins_b595 {N : Nat} {xs : Nat → Int32} {rec483 : Nat → Int32 → Int32 → Int32 → Int32 → Mem → Option (Int32 × Mem)} (G483 : (∀ (n2 : Nat) (x3 : Int32) (x4 : Int32) (x5 : Int32) (x6 : Int32) (M Z : Mem) (r : Int32), rec483 n2 x3 x4 x5 x6 M = some (r, Z) → GX M Z)) {n2 : Nat} {x3 : Int32} {x4 : Int32} {x5 : Int32} {x6 : Int32} {ns0 : Nat} {M Z : Mem} {r : Int32} (h : f_L_begins_b595 N xs rec483 n2 x3 x4 x5 x6 ns0 M = some (r, Z)) : GX M Z := by
  unfold f_L_begins_b595 at h
  obtain ⟨r1, M1m, c_M1m, h⟩ := clS h
  have q_M1m : GX M M1m := GX.tr (GX.refl M) ((k_L_some c_M1m).gx)
  rcases ifS h with ⟨-, h⟩ | ⟨-, h⟩
  · exact GX.tr q_M1m (m_L_begins_b615 G483 h)
  · exact GX.tr q_M1m (m_L_begins_b615 G483 h)
set_option maxRecDepth 100000 in
set_option maxHeartbeats 4000000 in
theorem b_L_begins_b595 {K : Kt} {X : Xt} (hp : St K) (hk : KC K) {N : Nat} {xs : Nat → Int32} (hq : KScr K N xs) {mc ms : Nat} (hB : Bx K X { frames := 9, cells := mc, slots := ms, locals := 200 } cL_begins 10 RL (some .boolean)) {r : Int32} {M1 : Mem} {rec483 : Nat → Int32 → Int32 → Int32 → Int32 → Mem → Option (Int32 × Mem)}
    (G483 : (∀ (n2 : Nat) (x3 : Int32) (x4 : Int32) (x5 : Int32) (x6 : Int32) (M Z : Mem) (r : Int32), rec483 n2 x3 x4 x5 x6 M = some (r, Z) → GX M Z)) (h483 : (∀ (n2 : Nat) (x3 : Int32) (x4 : Int32) (x5 : Int32) (x6 : Int32) (ce sl : Nat) (M : Mem), rec483 n2 x3 x4 x5 x6 M = some (r, M1) → mc + M.2.2.2 = ce + M1.2.2.2 → ms + szM M = sl + szM M1 → Wt K X (QM K X (some (vi r)) M1 mc ms) ce sl M 483 [(0, vr 64), (1, vr 61), (2, vr n2), (3, vi x3), (4, vi x4), (5, vi x5), (6, vi x6)] [])) {n2 : Nat} {x3 : Int32} {x4 : Int32} {x5 : Int32} {x6 : Int32} {ns0 : Nat} {ce sl : Nat} {M : Mem} (hF : f_L_begins_b595 N xs rec483 n2 x3 x4 x5 x6 ns0 M = some (r, M1)) (hn : mc + M.2.2.2 = ce + M1.2.2.2) (hz : ms + szM M = sl + szM M1) : Wt K X (QM K X (some (vi r)) M1 mc ms) ce sl M 595 [(0, vr 64), (1, vr 61), (2, vr n2), (3, vi x3), (4, vi x4), (5, vi x5), (6, vi x6)] [vr ns0] := by
  have hg := m_L_begins_b595 G483 hF
  have hg1 := hg.1
  have hg2 := hg.2.1
  unfold f_L_begins_b595 at hF
  refine w_aload_n hB 1 dL_begins_595 rfl rfl ?_
  refine w_bipush hB 58 (by decide) dL_begins_596 ?_
  refine w_iload hB 6 dL_begins_598 rfl ?_
  refine w_iadd hB dL_begins_600 ?_
  refine w_iconst hB 2 (by decide) dL_begins_601 ?_
  obtain ⟨r1, M1m, hc_M1m, hF⟩ := clS hF
  have q_M1m : EQ M M1m := k_L_some hc_M1m
  have x_M1m := q_M1m.gx
  have n_M1m := q_M1m.1
  have z_M1m := q_M1m.sz
  refine w_callS (M1 := M1m) hB (As := [vr 61, vi (58 + x6), vi 2]) (st := [vr ns0]) cw_L_49 q_753 (c_L_some hp hq hc_M1m) ⟨rfl, rfl⟩ ⟨Nat.le_of_ble_eq_true rfl, Nat.le_of_ble_eq_true rfl⟩ ⟨show ce ≤ mc by omega, show sl ≤ ms by omega⟩ rfl (Nat.le_of_ble_eq_true rfl) dL_begins_602 rfl ?_ (Or.inl rfl)
  refine w_if_ne hB 613 dL_begins_605 (by decide) (fun hc => ?_) (fun hc => ?_)
  · replace hF := ifF hc hF
    refine w_ldcs hB hp 419 (by decide) dL_begins_613 ?_
    exact Wt.sub (L' := [(0, vr 64), (1, vr 61), (2, vr n2), (3, vi x3), (4, vi x4), (5, vi x5), (6, vi x6)]) [0, 1, 2, 3, 4, 5, 6] rfl (b_L_begins_b615 hp hk hq hB G483 h483 hF (by omega) (by omega))
  · replace hF := ifT hc hF
    refine w_ldcs hB hp 418 (by decide) dL_begins_608 ?_
    refine w_goto hB 615 dL_begins_610 (by decide) ?_
    exact Wt.sub (L' := [(0, vr 64), (1, vr 61), (2, vr n2), (3, vi x3), (4, vi x4), (5, vi x5), (6, vi x6)]) [0, 1, 2, 3, 4, 5, 6] rfl (b_L_begins_b615 hp hk hq hB G483 h483 hF (by omega) (by omega))
def f_L_begins_b581 (N : Nat) (xs : Nat → Int32) (rec483 : Nat → Int32 → Int32 → Int32 → Int32 → Mem → Option (Int32 × Mem)) (n2 : Nat) (x3 : Int32) (x4 : Int32) (x5 : Int32) (x6 : Int32) (ns0 : Nat) (M : Mem) : Option (Int32 × Mem) :=
  cl (f_L_some N xs (52 + x6) 8 M) fun r1 M1m =>
  gd (1000 ≤ ns0 ∧ dsc M1m ns0 = 11 ∧ ns0 - 753 < M1m.2.2.2) <|
  cl (f_J4_append_bf812 ns0 r1 M1m) fun o1 M2m =>
  f_L_begins_b595 N xs rec483 n2 x3 x4 x5 x6 o1 M2m
set_option maxRecDepth 100000 in
set_option maxHeartbeats 4000000 in
theorem m_L_begins_b581 {N : Nat} {xs : Nat → Int32} {rec483 : Nat → Int32 → Int32 → Int32 → Int32 → Mem → Option (Int32 × Mem)} (G483 : (∀ (n2 : Nat) (x3 : Int32) (x4 : Int32) (x5 : Int32) (x6 : Int32) (M Z : Mem) (r : Int32), rec483 n2 x3 x4 x5 x6 M = some (r, Z) → GX M Z)) {n2 : Nat} {x3 : Int32} {x4 : Int32} {x5 : Int32} {x6 : Int32} {ns0 : Nat} {M Z : Mem} {r : Int32} (h : f_L_begins_b581 N xs rec483 n2 x3 x4 x5 x6 ns0 M = some (r, Z)) : GX M Z := by
  unfold f_L_begins_b581 at h
  obtain ⟨r1, M1m, c_M1m, h⟩ := clS h
  have q_M1m : GX M M1m := GX.tr (GX.refl M) ((k_L_some c_M1m).gx)
  obtain ⟨gq1, h⟩ := gdS h
  obtain ⟨o1, M2m, c_M2m, h⟩ := clS h
  have q_M2m : GX M M2m := GX.tr q_M1m (m_J4_append_bf812 c_M2m)
  exact GX.tr q_M2m (m_L_begins_b595 G483 h)
set_option maxRecDepth 100000 in
set_option maxHeartbeats 4000000 in
theorem b_L_begins_b581 {K : Kt} {X : Xt} (hp : St K) (hk : KC K) {N : Nat} {xs : Nat → Int32} (hq : KScr K N xs) {mc ms : Nat} (hB : Bx K X { frames := 9, cells := mc, slots := ms, locals := 200 } cL_begins 10 RL (some .boolean)) {r : Int32} {M1 : Mem} {rec483 : Nat → Int32 → Int32 → Int32 → Int32 → Mem → Option (Int32 × Mem)}
    (G483 : (∀ (n2 : Nat) (x3 : Int32) (x4 : Int32) (x5 : Int32) (x6 : Int32) (M Z : Mem) (r : Int32), rec483 n2 x3 x4 x5 x6 M = some (r, Z) → GX M Z)) (h483 : (∀ (n2 : Nat) (x3 : Int32) (x4 : Int32) (x5 : Int32) (x6 : Int32) (ce sl : Nat) (M : Mem), rec483 n2 x3 x4 x5 x6 M = some (r, M1) → mc + M.2.2.2 = ce + M1.2.2.2 → ms + szM M = sl + szM M1 → Wt K X (QM K X (some (vi r)) M1 mc ms) ce sl M 483 [(0, vr 64), (1, vr 61), (2, vr n2), (3, vi x3), (4, vi x4), (5, vi x5), (6, vi x6)] [])) {n2 : Nat} {x3 : Int32} {x4 : Int32} {x5 : Int32} {x6 : Int32} {ns0 : Nat} {ce sl : Nat} {M : Mem} (hF : f_L_begins_b581 N xs rec483 n2 x3 x4 x5 x6 ns0 M = some (r, M1)) (hn : mc + M.2.2.2 = ce + M1.2.2.2) (hz : ms + szM M = sl + szM M1) : Wt K X (QM K X (some (vi r)) M1 mc ms) ce sl M 581 [(0, vr 64), (1, vr 61), (2, vr n2), (3, vi x3), (4, vi x4), (5, vi x5), (6, vi x6)] [vr ns0] := by
  have hg := m_L_begins_b581 G483 hF
  have hg1 := hg.1
  have hg2 := hg.2.1
  unfold f_L_begins_b581 at hF
  refine w_aload_n hB 1 dL_begins_581 rfl rfl ?_
  refine w_bipush hB 52 (by decide) dL_begins_582 ?_
  refine w_iload hB 6 dL_begins_584 rfl ?_
  refine w_iadd hB dL_begins_586 ?_
  refine w_bipush hB 8 (by decide) dL_begins_587 ?_
  obtain ⟨r1, M1m, hc_M1m, hF⟩ := clS hF
  have q_M1m : EQ M M1m := k_L_some hc_M1m
  have x_M1m := q_M1m.gx
  have n_M1m := q_M1m.1
  have z_M1m := q_M1m.sz
  refine w_callS (M1 := M1m) hB (As := [vr 61, vi (52 + x6), vi 8]) (st := [vr ns0]) cw_L_49 q_753 (c_L_some hp hq hc_M1m) ⟨rfl, rfl⟩ ⟨Nat.le_of_ble_eq_true rfl, Nat.le_of_ble_eq_true rfl⟩ ⟨show ce ≤ mc by omega, show sl ≤ ms by omega⟩ rfl (Nat.le_of_ble_eq_true rfl) dL_begins_589 rfl ?_ (Or.inl rfl)
  obtain ⟨g1, hF⟩ := gdS hF
  obtain ⟨o1, M2m, hc_M2m, hF⟩ := clS hF
  have x_M2m := m_J4_append_bf812 hc_M2m
  have xa_M2m := x_M2m.1
  have xb_M2m := x_M2m.2.1
  have hg3 := m_L_begins_b595 G483 hF
  have hg4 := hg3.1
  have hg5 := hg3.2.1
  refine w_callV (M1 := M2m) hB (ci := 10) (As := [vi r1]) (st := []) cw_L_53 q_761 q_762 rfl (dqM g1) (c_J4_append_bf812 hp hk hc_M2m) ⟨rfl, rfl⟩ ⟨Nat.le_of_ble_eq_true rfl, Nat.le_of_ble_eq_true rfl⟩ ⟨show ce + (M2m.2.2.2 - M1m.2.2.2) ≤ mc by omega, show sl + (szM M2m - szM M1m) ≤ ms by omega⟩ rfl (Nat.le_of_ble_eq_true rfl) dL_begins_592 rfl ?_ (Or.inr (by omega))
  exact Wt.sub (L' := [(0, vr 64), (1, vr 61), (2, vr n2), (3, vi x3), (4, vi x4), (5, vi x5), (6, vi x6)]) [0, 1, 2, 3, 4, 5, 6] rfl (b_L_begins_b595 hp hk hq hB G483 h483 hF (by omega) (by omega))
def f_L_begins_b574 (N : Nat) (xs : Nat → Int32) (rec483 : Nat → Int32 → Int32 → Int32 → Int32 → Mem → Option (Int32 × Mem)) (n2 : Nat) (x3 : Int32) (x4 : Int32) (x5 : Int32) (x6 : Int32) (ns0 : Nat) (M : Mem) : Option (Int32 × Mem) :=
  gd (1000 ≤ n2 ∧ dsc M n2 = 11 ∧ n2 - 753 < M.2.2.2) <|
  cl (f_J4_append_15ec4 n2 401 M) fun o1 M1m =>
  f_L_begins_b581 N xs rec483 n2 x3 x4 x5 x6 o1 M1m
set_option maxRecDepth 100000 in
set_option maxHeartbeats 4000000 in
theorem m_L_begins_b574 {N : Nat} {xs : Nat → Int32} {rec483 : Nat → Int32 → Int32 → Int32 → Int32 → Mem → Option (Int32 × Mem)} (G483 : (∀ (n2 : Nat) (x3 : Int32) (x4 : Int32) (x5 : Int32) (x6 : Int32) (M Z : Mem) (r : Int32), rec483 n2 x3 x4 x5 x6 M = some (r, Z) → GX M Z)) {n2 : Nat} {x3 : Int32} {x4 : Int32} {x5 : Int32} {x6 : Int32} {ns0 : Nat} {M Z : Mem} {r : Int32} (h : f_L_begins_b574 N xs rec483 n2 x3 x4 x5 x6 ns0 M = some (r, Z)) : GX M Z := by
  unfold f_L_begins_b574 at h
  obtain ⟨gq0, h⟩ := gdS h
  obtain ⟨o1, M1m, c_M1m, h⟩ := clS h
  have q_M1m : GX M M1m := GX.tr (GX.refl M) (m_J4_append_15ec4 c_M1m)
  exact GX.tr q_M1m (m_L_begins_b581 G483 h)
set_option maxRecDepth 100000 in
set_option maxHeartbeats 4000000 in
theorem b_L_begins_b574 {K : Kt} {X : Xt} (hp : St K) (hk : KC K) {N : Nat} {xs : Nat → Int32} (hq : KScr K N xs) {mc ms : Nat} (hB : Bx K X { frames := 9, cells := mc, slots := ms, locals := 200 } cL_begins 10 RL (some .boolean)) {r : Int32} {M1 : Mem} {rec483 : Nat → Int32 → Int32 → Int32 → Int32 → Mem → Option (Int32 × Mem)}
    (G483 : (∀ (n2 : Nat) (x3 : Int32) (x4 : Int32) (x5 : Int32) (x6 : Int32) (M Z : Mem) (r : Int32), rec483 n2 x3 x4 x5 x6 M = some (r, Z) → GX M Z)) (h483 : (∀ (n2 : Nat) (x3 : Int32) (x4 : Int32) (x5 : Int32) (x6 : Int32) (ce sl : Nat) (M : Mem), rec483 n2 x3 x4 x5 x6 M = some (r, M1) → mc + M.2.2.2 = ce + M1.2.2.2 → ms + szM M = sl + szM M1 → Wt K X (QM K X (some (vi r)) M1 mc ms) ce sl M 483 [(0, vr 64), (1, vr 61), (2, vr n2), (3, vi x3), (4, vi x4), (5, vi x5), (6, vi x6)] [])) {n2 : Nat} {x3 : Int32} {x4 : Int32} {x5 : Int32} {x6 : Int32} {ns0 : Nat} {ce sl : Nat} {M : Mem} (hF : f_L_begins_b574 N xs rec483 n2 x3 x4 x5 x6 ns0 M = some (r, M1)) (hn : mc + M.2.2.2 = ce + M1.2.2.2) (hz : ms + szM M = sl + szM M1) : Wt K X (QM K X (some (vi r)) M1 mc ms) ce sl M 574 [(0, vr 64), (1, vr 61), (2, vr n2), (3, vi x3), (4, vi x4), (5, vi x5), (6, vi x6)] [vr ns0] := by
  have hg := m_L_begins_b574 G483 hF
  have hg1 := hg.1
  have hg2 := hg.2.1
  unfold f_L_begins_b574 at hF
  refine w_pop hB rfl dL_begins_574 ?_
  refine w_aload_n hB 2 dL_begins_575 rfl rfl ?_
  refine w_ldcs hB hp 401 (by decide) dL_begins_576 ?_
  obtain ⟨g1, hF⟩ := gdS hF
  obtain ⟨o1, M1m, hc_M1m, hF⟩ := clS hF
  have x_M1m := m_J4_append_15ec4 hc_M1m
  have xa_M1m := x_M1m.1
  have xb_M1m := x_M1m.2.1
  have hg3 := m_L_begins_b581 G483 hF
  have hg4 := hg3.1
  have hg5 := hg3.2.1
  refine w_callV (M1 := M1m) hB (ci := 10) (As := [vr 401]) (st := []) cw_L_40 q_612 q_613 rfl (dqM g1) (c_J4_append_15ec4 hp hk hc_M1m) ⟨rfl, rfl⟩ ⟨Nat.le_of_ble_eq_true rfl, Nat.le_of_ble_eq_true rfl⟩ ⟨show ce + (M1m.2.2.2 - M.2.2.2) ≤ mc by omega, show sl + (szM M1m - szM M) ≤ ms by omega⟩ rfl (Nat.le_of_ble_eq_true rfl) dL_begins_578 rfl ?_ (Or.inr (by omega))
  exact Wt.sub (L' := [(0, vr 64), (1, vr 61), (2, vr n2), (3, vi x3), (4, vi x4), (5, vi x5), (6, vi x6)]) [0, 1, 2, 3, 4, 5, 6] rfl (b_L_begins_b581 hp hk hq hB G483 h483 hF (by omega) (by omega))
def f_L_begins_b557 (N : Nat) (xs : Nat → Int32) (rec483 : Nat → Int32 → Int32 → Int32 → Int32 → Mem → Option (Int32 × Mem)) (n2 : Nat) (x3 : Int32) (x4 : Int32) (x5 : Int32) (x6 : Int32) (ns0 : Nat) (M : Mem) : Option (Int32 × Mem) :=
  cl (f_L_some N xs (46 + x6) 2 M) fun r1 M1m =>
  gd (1000 ≤ ns0 ∧ dsc M1m ns0 = 11 ∧ ns0 - 753 < M1m.2.2.2) <|
  cl (f_J4_append_cf468 ns0 (((97 + r1).toUInt32 % 65536).toInt32) M1m) fun o1 M2m =>
  f_L_begins_b574 N xs rec483 n2 x3 x4 x5 x6 o1 M2m
set_option maxRecDepth 100000 in
set_option maxHeartbeats 4000000 in
theorem m_L_begins_b557 {N : Nat} {xs : Nat → Int32} {rec483 : Nat → Int32 → Int32 → Int32 → Int32 → Mem → Option (Int32 × Mem)} (G483 : (∀ (n2 : Nat) (x3 : Int32) (x4 : Int32) (x5 : Int32) (x6 : Int32) (M Z : Mem) (r : Int32), rec483 n2 x3 x4 x5 x6 M = some (r, Z) → GX M Z)) {n2 : Nat} {x3 : Int32} {x4 : Int32} {x5 : Int32} {x6 : Int32} {ns0 : Nat} {M Z : Mem} {r : Int32} (h : f_L_begins_b557 N xs rec483 n2 x3 x4 x5 x6 ns0 M = some (r, Z)) : GX M Z := by
  unfold f_L_begins_b557 at h
  obtain ⟨r1, M1m, c_M1m, h⟩ := clS h
  have q_M1m : GX M M1m := GX.tr (GX.refl M) ((k_L_some c_M1m).gx)
  obtain ⟨gq1, h⟩ := gdS h
  obtain ⟨o1, M2m, c_M2m, h⟩ := clS h
  have q_M2m : GX M M2m := GX.tr q_M1m (m_J4_append_cf468 c_M2m)
  exact GX.tr q_M2m (m_L_begins_b574 G483 h)
set_option maxRecDepth 100000 in
set_option maxHeartbeats 4000000 in
theorem b_L_begins_b557 {K : Kt} {X : Xt} (hp : St K) (hk : KC K) {N : Nat} {xs : Nat → Int32} (hq : KScr K N xs) {mc ms : Nat} (hB : Bx K X { frames := 9, cells := mc, slots := ms, locals := 200 } cL_begins 10 RL (some .boolean)) {r : Int32} {M1 : Mem} {rec483 : Nat → Int32 → Int32 → Int32 → Int32 → Mem → Option (Int32 × Mem)}
    (G483 : (∀ (n2 : Nat) (x3 : Int32) (x4 : Int32) (x5 : Int32) (x6 : Int32) (M Z : Mem) (r : Int32), rec483 n2 x3 x4 x5 x6 M = some (r, Z) → GX M Z)) (h483 : (∀ (n2 : Nat) (x3 : Int32) (x4 : Int32) (x5 : Int32) (x6 : Int32) (ce sl : Nat) (M : Mem), rec483 n2 x3 x4 x5 x6 M = some (r, M1) → mc + M.2.2.2 = ce + M1.2.2.2 → ms + szM M = sl + szM M1 → Wt K X (QM K X (some (vi r)) M1 mc ms) ce sl M 483 [(0, vr 64), (1, vr 61), (2, vr n2), (3, vi x3), (4, vi x4), (5, vi x5), (6, vi x6)] [])) {n2 : Nat} {x3 : Int32} {x4 : Int32} {x5 : Int32} {x6 : Int32} {ns0 : Nat} {ce sl : Nat} {M : Mem} (hF : f_L_begins_b557 N xs rec483 n2 x3 x4 x5 x6 ns0 M = some (r, M1)) (hn : mc + M.2.2.2 = ce + M1.2.2.2) (hz : ms + szM M = sl + szM M1) : Wt K X (QM K X (some (vi r)) M1 mc ms) ce sl M 557 [(0, vr 64), (1, vr 61), (2, vr n2), (3, vi x3), (4, vi x4), (5, vi x5), (6, vi x6)] [vr ns0] := by
  have hg := m_L_begins_b557 G483 hF
  have hg1 := hg.1
  have hg2 := hg.2.1
  unfold f_L_begins_b557 at hF
  refine w_bipush hB 97 (by decide) dL_begins_557 ?_
  refine w_aload_n hB 1 dL_begins_559 rfl rfl ?_
  refine w_bipush hB 46 (by decide) dL_begins_560 ?_
  refine w_iload hB 6 dL_begins_562 rfl ?_
  refine w_iadd hB dL_begins_564 ?_
  refine w_iconst hB 2 (by decide) dL_begins_565 ?_
  obtain ⟨r1, M1m, hc_M1m, hF⟩ := clS hF
  have q_M1m : EQ M M1m := k_L_some hc_M1m
  have x_M1m := q_M1m.gx
  have n_M1m := q_M1m.1
  have z_M1m := q_M1m.sz
  refine w_callS (M1 := M1m) hB (As := [vr 61, vi (46 + x6), vi 2]) (st := [vi 97, vr ns0]) cw_L_49 q_753 (c_L_some hp hq hc_M1m) ⟨rfl, rfl⟩ ⟨Nat.le_of_ble_eq_true rfl, Nat.le_of_ble_eq_true rfl⟩ ⟨show ce ≤ mc by omega, show sl ≤ ms by omega⟩ rfl (Nat.le_of_ble_eq_true rfl) dL_begins_566 rfl ?_ (Or.inl rfl)
  refine w_iadd hB dL_begins_569 ?_
  refine w_i2c hB dL_begins_570 ?_
  obtain ⟨g1, hF⟩ := gdS hF
  obtain ⟨o1, M2m, hc_M2m, hF⟩ := clS hF
  have x_M2m := m_J4_append_cf468 hc_M2m
  have xa_M2m := x_M2m.1
  have xb_M2m := x_M2m.2.1
  have hg3 := m_L_begins_b574 G483 hF
  have hg4 := hg3.1
  have hg5 := hg3.2.1
  refine w_callV (M1 := M2m) hB (ci := 10) (As := [vi (((97 + r1).toUInt32 % 65536).toInt32)]) (st := []) cw_L_44 q_730 q_731 rfl (dqM g1) (c_J4_append_cf468 hp hk hc_M2m) ⟨rfl, rfl⟩ ⟨Nat.le_of_ble_eq_true rfl, Nat.le_of_ble_eq_true rfl⟩ ⟨show ce + (M2m.2.2.2 - M1m.2.2.2) ≤ mc by omega, show sl + (szM M2m - szM M1m) ≤ ms by omega⟩ rfl (Nat.le_of_ble_eq_true rfl) dL_begins_571 rfl ?_ (Or.inr (by omega))
  exact Wt.sub (L' := [(0, vr 64), (1, vr 61), (2, vr n2), (3, vi x3), (4, vi x4), (5, vi x5), (6, vi x6)]) [0, 1, 2, 3, 4, 5, 6] rfl (b_L_begins_b574 hp hk hq hB G483 h483 hF (by omega) (by omega))
def f_L_begins_b552 (N : Nat) (xs : Nat → Int32) (rec483 : Nat → Int32 → Int32 → Int32 → Int32 → Mem → Option (Int32 × Mem)) (n2 : Nat) (x3 : Int32) (x4 : Int32) (x5 : Int32) (x6 : Int32) (ns0 : Nat) (M : Mem) : Option (Int32 × Mem) :=
  gd (1000 ≤ ns0 ∧ dsc M ns0 = 11 ∧ ns0 - 753 < M.2.2.2) <|
  cl (f_J4_append_15ec4 ns0 417 M) fun o1 M1m =>
  f_L_begins_b557 N xs rec483 n2 x3 x4 x5 x6 o1 M1m
set_option maxRecDepth 100000 in
set_option maxHeartbeats 4000000 in
theorem m_L_begins_b552 {N : Nat} {xs : Nat → Int32} {rec483 : Nat → Int32 → Int32 → Int32 → Int32 → Mem → Option (Int32 × Mem)} (G483 : (∀ (n2 : Nat) (x3 : Int32) (x4 : Int32) (x5 : Int32) (x6 : Int32) (M Z : Mem) (r : Int32), rec483 n2 x3 x4 x5 x6 M = some (r, Z) → GX M Z)) {n2 : Nat} {x3 : Int32} {x4 : Int32} {x5 : Int32} {x6 : Int32} {ns0 : Nat} {M Z : Mem} {r : Int32} (h : f_L_begins_b552 N xs rec483 n2 x3 x4 x5 x6 ns0 M = some (r, Z)) : GX M Z := by
  unfold f_L_begins_b552 at h
  obtain ⟨gq0, h⟩ := gdS h
  obtain ⟨o1, M1m, c_M1m, h⟩ := clS h
  have q_M1m : GX M M1m := GX.tr (GX.refl M) (m_J4_append_15ec4 c_M1m)
  exact GX.tr q_M1m (m_L_begins_b557 G483 h)
set_option maxRecDepth 100000 in
set_option maxHeartbeats 4000000 in
theorem b_L_begins_b552 {K : Kt} {X : Xt} (hp : St K) (hk : KC K) {N : Nat} {xs : Nat → Int32} (hq : KScr K N xs) {mc ms : Nat} (hB : Bx K X { frames := 9, cells := mc, slots := ms, locals := 200 } cL_begins 10 RL (some .boolean)) {r : Int32} {M1 : Mem} {rec483 : Nat → Int32 → Int32 → Int32 → Int32 → Mem → Option (Int32 × Mem)}
    (G483 : (∀ (n2 : Nat) (x3 : Int32) (x4 : Int32) (x5 : Int32) (x6 : Int32) (M Z : Mem) (r : Int32), rec483 n2 x3 x4 x5 x6 M = some (r, Z) → GX M Z)) (h483 : (∀ (n2 : Nat) (x3 : Int32) (x4 : Int32) (x5 : Int32) (x6 : Int32) (ce sl : Nat) (M : Mem), rec483 n2 x3 x4 x5 x6 M = some (r, M1) → mc + M.2.2.2 = ce + M1.2.2.2 → ms + szM M = sl + szM M1 → Wt K X (QM K X (some (vi r)) M1 mc ms) ce sl M 483 [(0, vr 64), (1, vr 61), (2, vr n2), (3, vi x3), (4, vi x4), (5, vi x5), (6, vi x6)] [])) {n2 : Nat} {x3 : Int32} {x4 : Int32} {x5 : Int32} {x6 : Int32} {ns0 : Nat} {ce sl : Nat} {M : Mem} (hF : f_L_begins_b552 N xs rec483 n2 x3 x4 x5 x6 ns0 M = some (r, M1)) (hn : mc + M.2.2.2 = ce + M1.2.2.2) (hz : ms + szM M = sl + szM M1) : Wt K X (QM K X (some (vi r)) M1 mc ms) ce sl M 552 [(0, vr 64), (1, vr 61), (2, vr n2), (3, vi x3), (4, vi x4), (5, vi x5), (6, vi x6)] [vr ns0] := by
  have hg := m_L_begins_b552 G483 hF
  have hg1 := hg.1
  have hg2 := hg.2.1
  unfold f_L_begins_b552 at hF
  refine w_ldcs hB hp 417 (by decide) dL_begins_552 ?_
  obtain ⟨g1, hF⟩ := gdS hF
  obtain ⟨o1, M1m, hc_M1m, hF⟩ := clS hF
  have x_M1m := m_J4_append_15ec4 hc_M1m
  have xa_M1m := x_M1m.1
  have xb_M1m := x_M1m.2.1
  have hg3 := m_L_begins_b557 G483 hF
  have hg4 := hg3.1
  have hg5 := hg3.2.1
  refine w_callV (M1 := M1m) hB (ci := 10) (As := [vr 417]) (st := []) cw_L_40 q_612 q_613 rfl (dqM g1) (c_J4_append_15ec4 hp hk hc_M1m) ⟨rfl, rfl⟩ ⟨Nat.le_of_ble_eq_true rfl, Nat.le_of_ble_eq_true rfl⟩ ⟨show ce + (M1m.2.2.2 - M.2.2.2) ≤ mc by omega, show sl + (szM M1m - szM M) ≤ ms by omega⟩ rfl (Nat.le_of_ble_eq_true rfl) dL_begins_554 rfl ?_ (Or.inr (by omega))
  exact Wt.sub (L' := [(0, vr 64), (1, vr 61), (2, vr n2), (3, vi x3), (4, vi x4), (5, vi x5), (6, vi x6)]) [0, 1, 2, 3, 4, 5, 6] rfl (b_L_begins_b557 hp hk hq hB G483 h483 hF (by omega) (by omega))
def f_L_begins_b535 (N : Nat) (xs : Nat → Int32) (rec483 : Nat → Int32 → Int32 → Int32 → Int32 → Mem → Option (Int32 × Mem)) (n2 : Nat) (x3 : Int32) (x4 : Int32) (x5 : Int32) (x6 : Int32) (ns0 : Nat) (M : Mem) : Option (Int32 × Mem) :=
  cl (f_L_some N xs (40 + x6) 2 M) fun r1 M1m =>
  gd (1000 ≤ ns0 ∧ dsc M1m ns0 = 11 ∧ ns0 - 753 < M1m.2.2.2) <|
  cl (f_J4_append_cf468 ns0 (((97 + r1).toUInt32 % 65536).toInt32) M1m) fun o1 M2m =>
  f_L_begins_b552 N xs rec483 n2 x3 x4 x5 x6 o1 M2m
set_option maxRecDepth 100000 in
set_option maxHeartbeats 4000000 in
theorem m_L_begins_b535 {N : Nat} {xs : Nat → Int32} {rec483 : Nat → Int32 → Int32 → Int32 → Int32 → Mem → Option (Int32 × Mem)} (G483 : (∀ (n2 : Nat) (x3 : Int32) (x4 : Int32) (x5 : Int32) (x6 : Int32) (M Z : Mem) (r : Int32), rec483 n2 x3 x4 x5 x6 M = some (r, Z) → GX M Z)) {n2 : Nat} {x3 : Int32} {x4 : Int32} {x5 : Int32} {x6 : Int32} {ns0 : Nat} {M Z : Mem} {r : Int32} (h : f_L_begins_b535 N xs rec483 n2 x3 x4 x5 x6 ns0 M = some (r, Z)) : GX M Z := by
  unfold f_L_begins_b535 at h
  obtain ⟨r1, M1m, c_M1m, h⟩ := clS h
  have q_M1m : GX M M1m := GX.tr (GX.refl M) ((k_L_some c_M1m).gx)
  obtain ⟨gq1, h⟩ := gdS h
  obtain ⟨o1, M2m, c_M2m, h⟩ := clS h
  have q_M2m : GX M M2m := GX.tr q_M1m (m_J4_append_cf468 c_M2m)
  exact GX.tr q_M2m (m_L_begins_b552 G483 h)
set_option maxRecDepth 100000 in
set_option maxHeartbeats 4000000 in
theorem b_L_begins_b535 {K : Kt} {X : Xt} (hp : St K) (hk : KC K) {N : Nat} {xs : Nat → Int32} (hq : KScr K N xs) {mc ms : Nat} (hB : Bx K X { frames := 9, cells := mc, slots := ms, locals := 200 } cL_begins 10 RL (some .boolean)) {r : Int32} {M1 : Mem} {rec483 : Nat → Int32 → Int32 → Int32 → Int32 → Mem → Option (Int32 × Mem)}
    (G483 : (∀ (n2 : Nat) (x3 : Int32) (x4 : Int32) (x5 : Int32) (x6 : Int32) (M Z : Mem) (r : Int32), rec483 n2 x3 x4 x5 x6 M = some (r, Z) → GX M Z)) (h483 : (∀ (n2 : Nat) (x3 : Int32) (x4 : Int32) (x5 : Int32) (x6 : Int32) (ce sl : Nat) (M : Mem), rec483 n2 x3 x4 x5 x6 M = some (r, M1) → mc + M.2.2.2 = ce + M1.2.2.2 → ms + szM M = sl + szM M1 → Wt K X (QM K X (some (vi r)) M1 mc ms) ce sl M 483 [(0, vr 64), (1, vr 61), (2, vr n2), (3, vi x3), (4, vi x4), (5, vi x5), (6, vi x6)] [])) {n2 : Nat} {x3 : Int32} {x4 : Int32} {x5 : Int32} {x6 : Int32} {ns0 : Nat} {ce sl : Nat} {M : Mem} (hF : f_L_begins_b535 N xs rec483 n2 x3 x4 x5 x6 ns0 M = some (r, M1)) (hn : mc + M.2.2.2 = ce + M1.2.2.2) (hz : ms + szM M = sl + szM M1) : Wt K X (QM K X (some (vi r)) M1 mc ms) ce sl M 535 [(0, vr 64), (1, vr 61), (2, vr n2), (3, vi x3), (4, vi x4), (5, vi x5), (6, vi x6)] [vr ns0] := by
  have hg := m_L_begins_b535 G483 hF
  have hg1 := hg.1
  have hg2 := hg.2.1
  unfold f_L_begins_b535 at hF
  refine w_bipush hB 97 (by decide) dL_begins_535 ?_
  refine w_aload_n hB 1 dL_begins_537 rfl rfl ?_
  refine w_bipush hB 40 (by decide) dL_begins_538 ?_
  refine w_iload hB 6 dL_begins_540 rfl ?_
  refine w_iadd hB dL_begins_542 ?_
  refine w_iconst hB 2 (by decide) dL_begins_543 ?_
  obtain ⟨r1, M1m, hc_M1m, hF⟩ := clS hF
  have q_M1m : EQ M M1m := k_L_some hc_M1m
  have x_M1m := q_M1m.gx
  have n_M1m := q_M1m.1
  have z_M1m := q_M1m.sz
  refine w_callS (M1 := M1m) hB (As := [vr 61, vi (40 + x6), vi 2]) (st := [vi 97, vr ns0]) cw_L_49 q_753 (c_L_some hp hq hc_M1m) ⟨rfl, rfl⟩ ⟨Nat.le_of_ble_eq_true rfl, Nat.le_of_ble_eq_true rfl⟩ ⟨show ce ≤ mc by omega, show sl ≤ ms by omega⟩ rfl (Nat.le_of_ble_eq_true rfl) dL_begins_544 rfl ?_ (Or.inl rfl)
  refine w_iadd hB dL_begins_547 ?_
  refine w_i2c hB dL_begins_548 ?_
  obtain ⟨g1, hF⟩ := gdS hF
  obtain ⟨o1, M2m, hc_M2m, hF⟩ := clS hF
  have x_M2m := m_J4_append_cf468 hc_M2m
  have xa_M2m := x_M2m.1
  have xb_M2m := x_M2m.2.1
  have hg3 := m_L_begins_b552 G483 hF
  have hg4 := hg3.1
  have hg5 := hg3.2.1
  refine w_callV (M1 := M2m) hB (ci := 10) (As := [vi (((97 + r1).toUInt32 % 65536).toInt32)]) (st := []) cw_L_44 q_730 q_731 rfl (dqM g1) (c_J4_append_cf468 hp hk hc_M2m) ⟨rfl, rfl⟩ ⟨Nat.le_of_ble_eq_true rfl, Nat.le_of_ble_eq_true rfl⟩ ⟨show ce + (M2m.2.2.2 - M1m.2.2.2) ≤ mc by omega, show sl + (szM M2m - szM M1m) ≤ ms by omega⟩ rfl (Nat.le_of_ble_eq_true rfl) dL_begins_549 rfl ?_ (Or.inr (by omega))
  exact Wt.sub (L' := [(0, vr 64), (1, vr 61), (2, vr n2), (3, vi x3), (4, vi x4), (5, vi x5), (6, vi x6)]) [0, 1, 2, 3, 4, 5, 6] rfl (b_L_begins_b552 hp hk hq hB G483 h483 hF (by omega) (by omega))
def f_L_begins_b530 (N : Nat) (xs : Nat → Int32) (rec483 : Nat → Int32 → Int32 → Int32 → Int32 → Mem → Option (Int32 × Mem)) (n2 : Nat) (x3 : Int32) (x4 : Int32) (x5 : Int32) (x6 : Int32) (ns0 : Nat) (M : Mem) : Option (Int32 × Mem) :=
  gd (1000 ≤ ns0 ∧ dsc M ns0 = 11 ∧ ns0 - 753 < M.2.2.2) <|
  cl (f_J4_append_15ec4 ns0 416 M) fun o1 M1m =>
  f_L_begins_b535 N xs rec483 n2 x3 x4 x5 x6 o1 M1m
set_option maxRecDepth 100000 in
set_option maxHeartbeats 4000000 in
theorem m_L_begins_b530 {N : Nat} {xs : Nat → Int32} {rec483 : Nat → Int32 → Int32 → Int32 → Int32 → Mem → Option (Int32 × Mem)} (G483 : (∀ (n2 : Nat) (x3 : Int32) (x4 : Int32) (x5 : Int32) (x6 : Int32) (M Z : Mem) (r : Int32), rec483 n2 x3 x4 x5 x6 M = some (r, Z) → GX M Z)) {n2 : Nat} {x3 : Int32} {x4 : Int32} {x5 : Int32} {x6 : Int32} {ns0 : Nat} {M Z : Mem} {r : Int32} (h : f_L_begins_b530 N xs rec483 n2 x3 x4 x5 x6 ns0 M = some (r, Z)) : GX M Z := by
  unfold f_L_begins_b530 at h
  obtain ⟨gq0, h⟩ := gdS h
  obtain ⟨o1, M1m, c_M1m, h⟩ := clS h
  have q_M1m : GX M M1m := GX.tr (GX.refl M) (m_J4_append_15ec4 c_M1m)
  exact GX.tr q_M1m (m_L_begins_b535 G483 h)
set_option maxRecDepth 100000 in
set_option maxHeartbeats 4000000 in
theorem b_L_begins_b530 {K : Kt} {X : Xt} (hp : St K) (hk : KC K) {N : Nat} {xs : Nat → Int32} (hq : KScr K N xs) {mc ms : Nat} (hB : Bx K X { frames := 9, cells := mc, slots := ms, locals := 200 } cL_begins 10 RL (some .boolean)) {r : Int32} {M1 : Mem} {rec483 : Nat → Int32 → Int32 → Int32 → Int32 → Mem → Option (Int32 × Mem)}
    (G483 : (∀ (n2 : Nat) (x3 : Int32) (x4 : Int32) (x5 : Int32) (x6 : Int32) (M Z : Mem) (r : Int32), rec483 n2 x3 x4 x5 x6 M = some (r, Z) → GX M Z)) (h483 : (∀ (n2 : Nat) (x3 : Int32) (x4 : Int32) (x5 : Int32) (x6 : Int32) (ce sl : Nat) (M : Mem), rec483 n2 x3 x4 x5 x6 M = some (r, M1) → mc + M.2.2.2 = ce + M1.2.2.2 → ms + szM M = sl + szM M1 → Wt K X (QM K X (some (vi r)) M1 mc ms) ce sl M 483 [(0, vr 64), (1, vr 61), (2, vr n2), (3, vi x3), (4, vi x4), (5, vi x5), (6, vi x6)] [])) {n2 : Nat} {x3 : Int32} {x4 : Int32} {x5 : Int32} {x6 : Int32} {ns0 : Nat} {ce sl : Nat} {M : Mem} (hF : f_L_begins_b530 N xs rec483 n2 x3 x4 x5 x6 ns0 M = some (r, M1)) (hn : mc + M.2.2.2 = ce + M1.2.2.2) (hz : ms + szM M = sl + szM M1) : Wt K X (QM K X (some (vi r)) M1 mc ms) ce sl M 530 [(0, vr 64), (1, vr 61), (2, vr n2), (3, vi x3), (4, vi x4), (5, vi x5), (6, vi x6)] [vr ns0] := by
  have hg := m_L_begins_b530 G483 hF
  have hg1 := hg.1
  have hg2 := hg.2.1
  unfold f_L_begins_b530 at hF
  refine w_ldcs hB hp 416 (by decide) dL_begins_530 ?_
  obtain ⟨g1, hF⟩ := gdS hF
  obtain ⟨o1, M1m, hc_M1m, hF⟩ := clS hF
  have x_M1m := m_J4_append_15ec4 hc_M1m
  have xa_M1m := x_M1m.1
  have xb_M1m := x_M1m.2.1
  have hg3 := m_L_begins_b535 G483 hF
  have hg4 := hg3.1
  have hg5 := hg3.2.1
  refine w_callV (M1 := M1m) hB (ci := 10) (As := [vr 416]) (st := []) cw_L_40 q_612 q_613 rfl (dqM g1) (c_J4_append_15ec4 hp hk hc_M1m) ⟨rfl, rfl⟩ ⟨Nat.le_of_ble_eq_true rfl, Nat.le_of_ble_eq_true rfl⟩ ⟨show ce + (M1m.2.2.2 - M.2.2.2) ≤ mc by omega, show sl + (szM M1m - szM M) ≤ ms by omega⟩ rfl (Nat.le_of_ble_eq_true rfl) dL_begins_532 rfl ?_ (Or.inr (by omega))
  exact Wt.sub (L' := [(0, vr 64), (1, vr 61), (2, vr n2), (3, vi x3), (4, vi x4), (5, vi x5), (6, vi x6)]) [0, 1, 2, 3, 4, 5, 6] rfl (b_L_begins_b535 hp hk hq hB G483 h483 hF (by omega) (by omega))
def f_L_begins_b525 (N : Nat) (xs : Nat → Int32) (rec483 : Nat → Int32 → Int32 → Int32 → Int32 → Mem → Option (Int32 × Mem)) (n2 : Nat) (x3 : Int32) (x4 : Int32) (x5 : Int32) (x6 : Int32) (ns0 : Nat) (M : Mem) : Option (Int32 × Mem) :=
  gd (1000 ≤ ns0 ∧ dsc M ns0 = 11 ∧ ns0 - 753 < M.2.2.2) <|
  cl (f_J4_append_bf812 ns0 x5 M) fun o1 M1m =>
  f_L_begins_b530 N xs rec483 n2 x3 x4 x5 x6 o1 M1m
set_option maxRecDepth 100000 in
set_option maxHeartbeats 4000000 in
theorem m_L_begins_b525 {N : Nat} {xs : Nat → Int32} {rec483 : Nat → Int32 → Int32 → Int32 → Int32 → Mem → Option (Int32 × Mem)} (G483 : (∀ (n2 : Nat) (x3 : Int32) (x4 : Int32) (x5 : Int32) (x6 : Int32) (M Z : Mem) (r : Int32), rec483 n2 x3 x4 x5 x6 M = some (r, Z) → GX M Z)) {n2 : Nat} {x3 : Int32} {x4 : Int32} {x5 : Int32} {x6 : Int32} {ns0 : Nat} {M Z : Mem} {r : Int32} (h : f_L_begins_b525 N xs rec483 n2 x3 x4 x5 x6 ns0 M = some (r, Z)) : GX M Z := by
  unfold f_L_begins_b525 at h
  obtain ⟨gq0, h⟩ := gdS h
  obtain ⟨o1, M1m, c_M1m, h⟩ := clS h
  have q_M1m : GX M M1m := GX.tr (GX.refl M) (m_J4_append_bf812 c_M1m)
  exact GX.tr q_M1m (m_L_begins_b530 G483 h)
set_option maxRecDepth 100000 in
set_option maxHeartbeats 4000000 in
theorem b_L_begins_b525 {K : Kt} {X : Xt} (hp : St K) (hk : KC K) {N : Nat} {xs : Nat → Int32} (hq : KScr K N xs) {mc ms : Nat} (hB : Bx K X { frames := 9, cells := mc, slots := ms, locals := 200 } cL_begins 10 RL (some .boolean)) {r : Int32} {M1 : Mem} {rec483 : Nat → Int32 → Int32 → Int32 → Int32 → Mem → Option (Int32 × Mem)}
    (G483 : (∀ (n2 : Nat) (x3 : Int32) (x4 : Int32) (x5 : Int32) (x6 : Int32) (M Z : Mem) (r : Int32), rec483 n2 x3 x4 x5 x6 M = some (r, Z) → GX M Z)) (h483 : (∀ (n2 : Nat) (x3 : Int32) (x4 : Int32) (x5 : Int32) (x6 : Int32) (ce sl : Nat) (M : Mem), rec483 n2 x3 x4 x5 x6 M = some (r, M1) → mc + M.2.2.2 = ce + M1.2.2.2 → ms + szM M = sl + szM M1 → Wt K X (QM K X (some (vi r)) M1 mc ms) ce sl M 483 [(0, vr 64), (1, vr 61), (2, vr n2), (3, vi x3), (4, vi x4), (5, vi x5), (6, vi x6)] [])) {n2 : Nat} {x3 : Int32} {x4 : Int32} {x5 : Int32} {x6 : Int32} {ns0 : Nat} {ce sl : Nat} {M : Mem} (hF : f_L_begins_b525 N xs rec483 n2 x3 x4 x5 x6 ns0 M = some (r, M1)) (hn : mc + M.2.2.2 = ce + M1.2.2.2) (hz : ms + szM M = sl + szM M1) : Wt K X (QM K X (some (vi r)) M1 mc ms) ce sl M 525 [(0, vr 64), (1, vr 61), (2, vr n2), (3, vi x3), (4, vi x4), (5, vi x5), (6, vi x6)] [vr ns0] := by
  have hg := m_L_begins_b525 G483 hF
  have hg1 := hg.1
  have hg2 := hg.2.1
  unfold f_L_begins_b525 at hF
  refine w_iload hB 5 dL_begins_525 rfl ?_
  obtain ⟨g1, hF⟩ := gdS hF
  obtain ⟨o1, M1m, hc_M1m, hF⟩ := clS hF
  have x_M1m := m_J4_append_bf812 hc_M1m
  have xa_M1m := x_M1m.1
  have xb_M1m := x_M1m.2.1
  have hg3 := m_L_begins_b530 G483 hF
  have hg4 := hg3.1
  have hg5 := hg3.2.1
  refine w_callV (M1 := M1m) hB (ci := 10) (As := [vi x5]) (st := []) cw_L_53 q_761 q_762 rfl (dqM g1) (c_J4_append_bf812 hp hk hc_M1m) ⟨rfl, rfl⟩ ⟨Nat.le_of_ble_eq_true rfl, Nat.le_of_ble_eq_true rfl⟩ ⟨show ce + (M1m.2.2.2 - M.2.2.2) ≤ mc by omega, show sl + (szM M1m - szM M) ≤ ms by omega⟩ rfl (Nat.le_of_ble_eq_true rfl) dL_begins_527 rfl ?_ (Or.inr (by omega))
  exact Wt.sub (L' := [(0, vr 64), (1, vr 61), (2, vr n2), (3, vi x3), (4, vi x4), (5, vi x5), (6, vi x6)]) [0, 1, 2, 3, 4, 5, 6] rfl (b_L_begins_b530 hp hk hq hB G483 h483 hF (by omega) (by omega))
def f_L_begins_b520 (N : Nat) (xs : Nat → Int32) (rec483 : Nat → Int32 → Int32 → Int32 → Int32 → Mem → Option (Int32 × Mem)) (n2 : Nat) (x3 : Int32) (x4 : Int32) (x5 : Int32) (x6 : Int32) (ns0 : Nat) (M : Mem) : Option (Int32 × Mem) :=
  gd (1000 ≤ ns0 ∧ dsc M ns0 = 11 ∧ ns0 - 753 < M.2.2.2) <|
  cl (f_J4_append_15ec4 ns0 401 M) fun o1 M1m =>
  f_L_begins_b525 N xs rec483 n2 x3 x4 x5 x6 o1 M1m
set_option maxRecDepth 100000 in
set_option maxHeartbeats 4000000 in
theorem m_L_begins_b520 {N : Nat} {xs : Nat → Int32} {rec483 : Nat → Int32 → Int32 → Int32 → Int32 → Mem → Option (Int32 × Mem)} (G483 : (∀ (n2 : Nat) (x3 : Int32) (x4 : Int32) (x5 : Int32) (x6 : Int32) (M Z : Mem) (r : Int32), rec483 n2 x3 x4 x5 x6 M = some (r, Z) → GX M Z)) {n2 : Nat} {x3 : Int32} {x4 : Int32} {x5 : Int32} {x6 : Int32} {ns0 : Nat} {M Z : Mem} {r : Int32} (h : f_L_begins_b520 N xs rec483 n2 x3 x4 x5 x6 ns0 M = some (r, Z)) : GX M Z := by
  unfold f_L_begins_b520 at h
  obtain ⟨gq0, h⟩ := gdS h
  obtain ⟨o1, M1m, c_M1m, h⟩ := clS h
  have q_M1m : GX M M1m := GX.tr (GX.refl M) (m_J4_append_15ec4 c_M1m)
  exact GX.tr q_M1m (m_L_begins_b525 G483 h)
set_option maxRecDepth 100000 in
set_option maxHeartbeats 4000000 in
theorem b_L_begins_b520 {K : Kt} {X : Xt} (hp : St K) (hk : KC K) {N : Nat} {xs : Nat → Int32} (hq : KScr K N xs) {mc ms : Nat} (hB : Bx K X { frames := 9, cells := mc, slots := ms, locals := 200 } cL_begins 10 RL (some .boolean)) {r : Int32} {M1 : Mem} {rec483 : Nat → Int32 → Int32 → Int32 → Int32 → Mem → Option (Int32 × Mem)}
    (G483 : (∀ (n2 : Nat) (x3 : Int32) (x4 : Int32) (x5 : Int32) (x6 : Int32) (M Z : Mem) (r : Int32), rec483 n2 x3 x4 x5 x6 M = some (r, Z) → GX M Z)) (h483 : (∀ (n2 : Nat) (x3 : Int32) (x4 : Int32) (x5 : Int32) (x6 : Int32) (ce sl : Nat) (M : Mem), rec483 n2 x3 x4 x5 x6 M = some (r, M1) → mc + M.2.2.2 = ce + M1.2.2.2 → ms + szM M = sl + szM M1 → Wt K X (QM K X (some (vi r)) M1 mc ms) ce sl M 483 [(0, vr 64), (1, vr 61), (2, vr n2), (3, vi x3), (4, vi x4), (5, vi x5), (6, vi x6)] [])) {n2 : Nat} {x3 : Int32} {x4 : Int32} {x5 : Int32} {x6 : Int32} {ns0 : Nat} {ce sl : Nat} {M : Mem} (hF : f_L_begins_b520 N xs rec483 n2 x3 x4 x5 x6 ns0 M = some (r, M1)) (hn : mc + M.2.2.2 = ce + M1.2.2.2) (hz : ms + szM M = sl + szM M1) : Wt K X (QM K X (some (vi r)) M1 mc ms) ce sl M 520 [(0, vr 64), (1, vr 61), (2, vr n2), (3, vi x3), (4, vi x4), (5, vi x5), (6, vi x6)] [vr ns0] := by
  have hg := m_L_begins_b520 G483 hF
  have hg1 := hg.1
  have hg2 := hg.2.1
  unfold f_L_begins_b520 at hF
  refine w_ldcs hB hp 401 (by decide) dL_begins_520 ?_
  obtain ⟨g1, hF⟩ := gdS hF
  obtain ⟨o1, M1m, hc_M1m, hF⟩ := clS hF
  have x_M1m := m_J4_append_15ec4 hc_M1m
  have xa_M1m := x_M1m.1
  have xb_M1m := x_M1m.2.1
  have hg3 := m_L_begins_b525 G483 hF
  have hg4 := hg3.1
  have hg5 := hg3.2.1
  refine w_callV (M1 := M1m) hB (ci := 10) (As := [vr 401]) (st := []) cw_L_40 q_612 q_613 rfl (dqM g1) (c_J4_append_15ec4 hp hk hc_M1m) ⟨rfl, rfl⟩ ⟨Nat.le_of_ble_eq_true rfl, Nat.le_of_ble_eq_true rfl⟩ ⟨show ce + (M1m.2.2.2 - M.2.2.2) ≤ mc by omega, show sl + (szM M1m - szM M) ≤ ms by omega⟩ rfl (Nat.le_of_ble_eq_true rfl) dL_begins_522 rfl ?_ (Or.inr (by omega))
  exact Wt.sub (L' := [(0, vr 64), (1, vr 61), (2, vr n2), (3, vi x3), (4, vi x4), (5, vi x5), (6, vi x6)]) [0, 1, 2, 3, 4, 5, 6] rfl (b_L_begins_b525 hp hk hq hB G483 h483 hF (by omega) (by omega))
def f_L_begins_b511 (N : Nat) (xs : Nat → Int32) (rec483 : Nat → Int32 → Int32 → Int32 → Int32 → Mem → Option (Int32 × Mem)) (n2 : Nat) (x3 : Int32) (x4 : Int32) (x5 : Int32) (x6 : Int32) (ns0 : Nat) (M : Mem) : Option (Int32 × Mem) :=
  gd (1000 ≤ ns0 ∧ dsc M ns0 = 11 ∧ ns0 - 753 < M.2.2.2) <|
  cl (f_J4_append_cf468 ns0 (((97 + x6).toUInt32 % 65536).toInt32) M) fun o1 M1m =>
  f_L_begins_b520 N xs rec483 n2 x3 x4 x5 x6 o1 M1m
set_option maxRecDepth 100000 in
set_option maxHeartbeats 4000000 in
theorem m_L_begins_b511 {N : Nat} {xs : Nat → Int32} {rec483 : Nat → Int32 → Int32 → Int32 → Int32 → Mem → Option (Int32 × Mem)} (G483 : (∀ (n2 : Nat) (x3 : Int32) (x4 : Int32) (x5 : Int32) (x6 : Int32) (M Z : Mem) (r : Int32), rec483 n2 x3 x4 x5 x6 M = some (r, Z) → GX M Z)) {n2 : Nat} {x3 : Int32} {x4 : Int32} {x5 : Int32} {x6 : Int32} {ns0 : Nat} {M Z : Mem} {r : Int32} (h : f_L_begins_b511 N xs rec483 n2 x3 x4 x5 x6 ns0 M = some (r, Z)) : GX M Z := by
  unfold f_L_begins_b511 at h
  obtain ⟨gq0, h⟩ := gdS h
  obtain ⟨o1, M1m, c_M1m, h⟩ := clS h
  have q_M1m : GX M M1m := GX.tr (GX.refl M) (m_J4_append_cf468 c_M1m)
  exact GX.tr q_M1m (m_L_begins_b520 G483 h)
set_option maxRecDepth 100000 in
set_option maxHeartbeats 4000000 in
theorem b_L_begins_b511 {K : Kt} {X : Xt} (hp : St K) (hk : KC K) {N : Nat} {xs : Nat → Int32} (hq : KScr K N xs) {mc ms : Nat} (hB : Bx K X { frames := 9, cells := mc, slots := ms, locals := 200 } cL_begins 10 RL (some .boolean)) {r : Int32} {M1 : Mem} {rec483 : Nat → Int32 → Int32 → Int32 → Int32 → Mem → Option (Int32 × Mem)}
    (G483 : (∀ (n2 : Nat) (x3 : Int32) (x4 : Int32) (x5 : Int32) (x6 : Int32) (M Z : Mem) (r : Int32), rec483 n2 x3 x4 x5 x6 M = some (r, Z) → GX M Z)) (h483 : (∀ (n2 : Nat) (x3 : Int32) (x4 : Int32) (x5 : Int32) (x6 : Int32) (ce sl : Nat) (M : Mem), rec483 n2 x3 x4 x5 x6 M = some (r, M1) → mc + M.2.2.2 = ce + M1.2.2.2 → ms + szM M = sl + szM M1 → Wt K X (QM K X (some (vi r)) M1 mc ms) ce sl M 483 [(0, vr 64), (1, vr 61), (2, vr n2), (3, vi x3), (4, vi x4), (5, vi x5), (6, vi x6)] [])) {n2 : Nat} {x3 : Int32} {x4 : Int32} {x5 : Int32} {x6 : Int32} {ns0 : Nat} {ce sl : Nat} {M : Mem} (hF : f_L_begins_b511 N xs rec483 n2 x3 x4 x5 x6 ns0 M = some (r, M1)) (hn : mc + M.2.2.2 = ce + M1.2.2.2) (hz : ms + szM M = sl + szM M1) : Wt K X (QM K X (some (vi r)) M1 mc ms) ce sl M 511 [(0, vr 64), (1, vr 61), (2, vr n2), (3, vi x3), (4, vi x4), (5, vi x5), (6, vi x6)] [vr ns0] := by
  have hg := m_L_begins_b511 G483 hF
  have hg1 := hg.1
  have hg2 := hg.2.1
  unfold f_L_begins_b511 at hF
  refine w_bipush hB 97 (by decide) dL_begins_511 ?_
  refine w_iload hB 6 dL_begins_513 rfl ?_
  refine w_iadd hB dL_begins_515 ?_
  refine w_i2c hB dL_begins_516 ?_
  obtain ⟨g1, hF⟩ := gdS hF
  obtain ⟨o1, M1m, hc_M1m, hF⟩ := clS hF
  have x_M1m := m_J4_append_cf468 hc_M1m
  have xa_M1m := x_M1m.1
  have xb_M1m := x_M1m.2.1
  have hg3 := m_L_begins_b520 G483 hF
  have hg4 := hg3.1
  have hg5 := hg3.2.1
  refine w_callV (M1 := M1m) hB (ci := 10) (As := [vi (((97 + x6).toUInt32 % 65536).toInt32)]) (st := []) cw_L_44 q_730 q_731 rfl (dqM g1) (c_J4_append_cf468 hp hk hc_M1m) ⟨rfl, rfl⟩ ⟨Nat.le_of_ble_eq_true rfl, Nat.le_of_ble_eq_true rfl⟩ ⟨show ce + (M1m.2.2.2 - M.2.2.2) ≤ mc by omega, show sl + (szM M1m - szM M) ≤ ms by omega⟩ rfl (Nat.le_of_ble_eq_true rfl) dL_begins_517 rfl ?_ (Or.inr (by omega))
  exact Wt.sub (L' := [(0, vr 64), (1, vr 61), (2, vr n2), (3, vi x3), (4, vi x4), (5, vi x5), (6, vi x6)]) [0, 1, 2, 3, 4, 5, 6] rfl (b_L_begins_b520 hp hk hq hB G483 h483 hF (by omega) (by omega))
def f_L_begins_b483_s (N : Nat) (xs : Nat → Int32) (rec483 : Nat → Int32 → Int32 → Int32 → Int32 → Mem → Option (Int32 × Mem)) (n2 : Nat) (x3 : Int32) (x4 : Int32) (x5 : Int32) (x6 : Int32) (M : Mem) : Option (Int32 × Mem) :=
  if x4 ≤ x6 then
    gd (1000 ≤ n2 ∧ dsc M n2 = 11 ∧ n2 - 753 < M.2.2.2) <|
    cl (f_J4_append_15ec4 n2 422 M) fun o1 M1m =>
    f_L_begins_b802 N xs n2 x3 x4 o1 M1m
  else
    cl (f_L_some N xs (34 + x6) 3 M) fun r1 M2m =>
    bnd (x5 + r1) fun a1 =>
    gd (1000 ≤ n2 ∧ dsc M2m n2 = 11 ∧ n2 - 753 < M2m.2.2.2) <|
    cl (f_J4_append_15ec4 n2 415 M2m) fun o2 M3m =>
    f_L_begins_b511 N xs rec483 n2 x3 x4 a1 x6 o2 M3m
set_option maxRecDepth 100000 in
set_option maxHeartbeats 4000000 in
theorem m_L_begins_b483_s {N : Nat} {xs : Nat → Int32} {rec483 : Nat → Int32 → Int32 → Int32 → Int32 → Mem → Option (Int32 × Mem)} (G483 : (∀ (n2 : Nat) (x3 : Int32) (x4 : Int32) (x5 : Int32) (x6 : Int32) (M Z : Mem) (r : Int32), rec483 n2 x3 x4 x5 x6 M = some (r, Z) → GX M Z)) {n2 : Nat} {x3 : Int32} {x4 : Int32} {x5 : Int32} {x6 : Int32} {M Z : Mem} {r : Int32} (h : f_L_begins_b483_s N xs rec483 n2 x3 x4 x5 x6 M = some (r, Z)) : GX M Z := by
  unfold f_L_begins_b483_s at h
  rcases ifS h with ⟨-, h⟩ | ⟨-, h⟩
  · obtain ⟨gq1, h⟩ := gdS h
    obtain ⟨o1, M1m, c_M1m, h⟩ := clS h
    have q_M1m : GX M M1m := GX.tr (GX.refl M) (m_J4_append_15ec4 c_M1m)
    exact GX.tr q_M1m (m_L_begins_b802 h)
  · obtain ⟨r1, M2m, c_M2m, h⟩ := clS h
    have q_M2m : GX M M2m := GX.tr (GX.refl M) ((k_L_some c_M2m).gx)
    obtain ⟨a1, e_a1, h⟩ := bndS h
    obtain ⟨gq7, h⟩ := gdS h
    obtain ⟨o2, M3m, c_M3m, h⟩ := clS h
    have q_M3m : GX M M3m := GX.tr q_M2m (m_J4_append_15ec4 c_M3m)
    exact GX.tr q_M3m (m_L_begins_b511 G483 h)
set_option maxRecDepth 100000 in
set_option maxHeartbeats 4000000 in
theorem b_L_begins_b483_s {K : Kt} {X : Xt} (hp : St K) (hk : KC K) {N : Nat} {xs : Nat → Int32} (hq : KScr K N xs) {mc ms : Nat} (hB : Bx K X { frames := 9, cells := mc, slots := ms, locals := 200 } cL_begins 10 RL (some .boolean)) {r : Int32} {M1 : Mem} {rec483 : Nat → Int32 → Int32 → Int32 → Int32 → Mem → Option (Int32 × Mem)}
    (G483 : (∀ (n2 : Nat) (x3 : Int32) (x4 : Int32) (x5 : Int32) (x6 : Int32) (M Z : Mem) (r : Int32), rec483 n2 x3 x4 x5 x6 M = some (r, Z) → GX M Z)) (h483 : (∀ (n2 : Nat) (x3 : Int32) (x4 : Int32) (x5 : Int32) (x6 : Int32) (ce sl : Nat) (M : Mem), rec483 n2 x3 x4 x5 x6 M = some (r, M1) → mc + M.2.2.2 = ce + M1.2.2.2 → ms + szM M = sl + szM M1 → Wt K X (QM K X (some (vi r)) M1 mc ms) ce sl M 483 [(0, vr 64), (1, vr 61), (2, vr n2), (3, vi x3), (4, vi x4), (5, vi x5), (6, vi x6)] [])) {n2 : Nat} {x3 : Int32} {x4 : Int32} {x5 : Int32} {x6 : Int32} {ce sl : Nat} {M : Mem} (hF : f_L_begins_b483_s N xs rec483 n2 x3 x4 x5 x6 M = some (r, M1)) (hn : mc + M.2.2.2 = ce + M1.2.2.2) (hz : ms + szM M = sl + szM M1) : Wt K X (QM K X (some (vi r)) M1 mc ms) ce sl M 483 [(0, vr 64), (1, vr 61), (2, vr n2), (3, vi x3), (4, vi x4), (5, vi x5), (6, vi x6)] [] := by
  have hg := m_L_begins_b483_s G483 hF
  have hg1 := hg.1
  have hg2 := hg.2.1
  unfold f_L_begins_b483_s at hF
  refine w_iload hB 6 dL_begins_483 rfl ?_
  refine w_iload hB 4 dL_begins_485 rfl ?_
  refine w_icmp_ge hB 796 dL_begins_487 (by decide) (fun hc => ?_) (fun hc => ?_)
  · replace hF := ifT hc hF
    refine w_aload_n hB 2 dL_begins_796 rfl rfl ?_
    refine w_ldcs hB hp 422 (by decide) dL_begins_797 ?_
    obtain ⟨g1, hF⟩ := gdS hF
    obtain ⟨o1, M1m, hc_M1m, hF⟩ := clS hF
    have x_M1m := m_J4_append_15ec4 hc_M1m
    have xa_M1m := x_M1m.1
    have xb_M1m := x_M1m.2.1
    have hg3 := m_L_begins_b802 hF
    have hg4 := hg3.1
    have hg5 := hg3.2.1
    refine w_callV (M1 := M1m) hB (ci := 10) (As := [vr 422]) (st := []) cw_L_40 q_612 q_613 rfl (dqM g1) (c_J4_append_15ec4 hp hk hc_M1m) ⟨rfl, rfl⟩ ⟨Nat.le_of_ble_eq_true rfl, Nat.le_of_ble_eq_true rfl⟩ ⟨show ce + (M1m.2.2.2 - M.2.2.2) ≤ mc by omega, show sl + (szM M1m - szM M) ≤ ms by omega⟩ rfl (Nat.le_of_ble_eq_true rfl) dL_begins_799 rfl ?_ (Or.inr (by omega))
    exact Wt.sub (L' := [(0, vr 64), (1, vr 61), (2, vr n2), (3, vi x3), (4, vi x4)]) [0, 1, 2, 3, 4] rfl (b_L_begins_b802 hp hk hq hB hF (by omega) (by omega))
  · replace hF := ifF hc hF
    refine w_iload hB 5 dL_begins_490 rfl ?_
    refine w_aload_n hB 1 dL_begins_492 rfl rfl ?_
    refine w_bipush hB 34 (by decide) dL_begins_493 ?_
    refine w_iload hB 6 dL_begins_495 rfl ?_
    refine w_iadd hB dL_begins_497 ?_
    refine w_iconst hB 3 (by decide) dL_begins_498 ?_
    obtain ⟨r1, M2m, hc_M2m, hF⟩ := clS hF
    have q_M2m : EQ M M2m := k_L_some hc_M2m
    have x_M2m := q_M2m.gx
    have n_M2m := q_M2m.1
    have z_M2m := q_M2m.sz
    refine w_callS (M1 := M2m) hB (As := [vr 61, vi (34 + x6), vi 3]) (st := [vi x5]) cw_L_49 q_753 (c_L_some hp hq hc_M2m) ⟨rfl, rfl⟩ ⟨Nat.le_of_ble_eq_true rfl, Nat.le_of_ble_eq_true rfl⟩ ⟨show ce ≤ mc by omega, show sl ≤ ms by omega⟩ rfl (Nat.le_of_ble_eq_true rfl) dL_begins_499 rfl ?_ (Or.inl rfl)
    refine w_iadd hB dL_begins_502 ?_
    obtain ⟨a1, e_a1, hF⟩ := bndS hF
    refine w_istore hB (L' := [(5, vi a1), (0, vr 64), (1, vr 61), (2, vr n2), (3, vi x3), (4, vi x4), (6, vi x6)]) dL_begins_503 (by decide) e_a1 rfl ?_
    refine w_aload_n hB 3 dL_begins_505 rfl rfl ?_
    refine w_ldcs hB hp 415 (by decide) dL_begins_506 ?_
    obtain ⟨g2, hF⟩ := gdS hF
    obtain ⟨o2, M3m, hc_M3m, hF⟩ := clS hF
    have x_M3m := m_J4_append_15ec4 hc_M3m
    have xa_M3m := x_M3m.1
    have xb_M3m := x_M3m.2.1
    have hg3 := m_L_begins_b511 G483 hF
    have hg4 := hg3.1
    have hg5 := hg3.2.1
    refine w_callV (M1 := M3m) hB (ci := 10) (As := [vr 415]) (st := []) cw_L_40 q_612 q_613 rfl (dqM g2) (c_J4_append_15ec4 hp hk hc_M3m) ⟨rfl, rfl⟩ ⟨Nat.le_of_ble_eq_true rfl, Nat.le_of_ble_eq_true rfl⟩ ⟨show ce + (M3m.2.2.2 - M2m.2.2.2) ≤ mc by omega, show sl + (szM M3m - szM M2m) ≤ ms by omega⟩ rfl (Nat.le_of_ble_eq_true rfl) dL_begins_508 rfl ?_ (Or.inr (by omega))
    exact Wt.sub (L' := [(0, vr 64), (1, vr 61), (2, vr n2), (3, vi x3), (4, vi x4), (5, vi a1), (6, vi x6)]) [1, 2, 3, 4, 5, 0, 6] rfl (b_L_begins_b511 hp hk hq hB G483 h483 hF (by omega) (by omega))
def f_L_begins_b483 (N : Nat) (xs : Nat → Int32) (k : Nat) : Nat → Int32 → Int32 → Int32 → Int32 → Mem → Option (Int32 × Mem) := lpN (fun _ _ _ _ _ _ => none) (f_L_begins_b483_s N xs) k
theorem m_L_begins_b483 {N : Nat} {xs : Nat → Int32} (k : Nat) : (∀ (n2 : Nat) (x3 : Int32) (x4 : Int32) (x5 : Int32) (x6 : Int32) (M Z : Mem) (r : Int32), f_L_begins_b483 N xs k n2 x3 x4 x5 x6 M = some (r, Z) → GX M Z) :=
  lpN_ind (P := fun (f : Nat → Int32 → Int32 → Int32 → Int32 → Mem → Option (Int32 × Mem)) => (∀ (n2 : Nat) (x3 : Int32) (x4 : Int32) (x5 : Int32) (x6 : Int32) (M Z : Mem) (r : Int32), f n2 x3 x4 x5 x6 M = some (r, Z) → GX M Z)) (fun _ _ _ _ _ _ _ _ h => by cases h) (fun f hf _ _ _ _ _ _ _ _ h => m_L_begins_b483_s hf h) k
theorem b_L_begins_b483 {K : Kt} {X : Xt} (hp : St K) (hk : KC K) {N : Nat} {xs : Nat → Int32} (hq : KScr K N xs) {mc ms : Nat} (hB : Bx K X { frames := 9, cells := mc, slots := ms, locals := 200 } cL_begins 10 RL (some .boolean)) {r : Int32} {M1 : Mem} (k : Nat) : (∀ (n2 : Nat) (x3 : Int32) (x4 : Int32) (x5 : Int32) (x6 : Int32) (ce sl : Nat) (M : Mem), f_L_begins_b483 N xs k n2 x3 x4 x5 x6 M = some (r, M1) → mc + M.2.2.2 = ce + M1.2.2.2 → ms + szM M = sl + szM M1 → Wt K X (QM K X (some (vi r)) M1 mc ms) ce sl M 483 [(0, vr 64), (1, vr 61), (2, vr n2), (3, vi x3), (4, vi x4), (5, vi x5), (6, vi x6)] []) :=
  (lpN_ind (P := fun (f : Nat → Int32 → Int32 → Int32 → Int32 → Mem → Option (Int32 × Mem)) => (∀ (n2 : Nat) (x3 : Int32) (x4 : Int32) (x5 : Int32) (x6 : Int32) (M Z : Mem) (r : Int32), f n2 x3 x4 x5 x6 M = some (r, Z) → GX M Z) ∧ (∀ (n2 : Nat) (x3 : Int32) (x4 : Int32) (x5 : Int32) (x6 : Int32) (ce sl : Nat) (M : Mem), f n2 x3 x4 x5 x6 M = some (r, M1) → mc + M.2.2.2 = ce + M1.2.2.2 → ms + szM M = sl + szM M1 → Wt K X (QM K X (some (vi r)) M1 mc ms) ce sl M 483 [(0, vr 64), (1, vr 61), (2, vr n2), (3, vi x3), (4, vi x4), (5, vi x5), (6, vi x6)] [])) ⟨fun _ _ _ _ _ _ _ _ h => (by cases h), fun _ _ _ _ _ _ _ _ h _ _ => (by cases h)⟩ (fun f hf => ⟨fun _ _ _ _ _ _ _ _ h => m_L_begins_b483_s hf.1 h, fun _ _ _ _ _ _ _ _ hF hn hz => b_L_begins_b483_s hp hk hq hB hf.1 hf.2 hF hn hz⟩) k).2
def f_L_begins_b465 (N : Nat) (xs : Nat → Int32) (n2 : Nat) (x3 : Int32) (ns0 : Nat) (M : Mem) : Option (Int32 × Mem) :=
  cl (f_L_some N xs 33 2 M) fun r1 M1m =>
  bnd (3 + r1) fun a1 =>
  f_L_begins_b483 N xs fuel n2 x3 a1 0 0 M1m
set_option maxRecDepth 100000 in
set_option maxHeartbeats 4000000 in
theorem m_L_begins_b465 {N : Nat} {xs : Nat → Int32} {n2 : Nat} {x3 : Int32} {ns0 : Nat} {M Z : Mem} {r : Int32} (h : f_L_begins_b465 N xs n2 x3 ns0 M = some (r, Z)) : GX M Z := by
  unfold f_L_begins_b465 at h
  obtain ⟨r1, M1m, c_M1m, h⟩ := clS h
  have q_M1m : GX M M1m := GX.tr (GX.refl M) ((k_L_some c_M1m).gx)
  obtain ⟨a1, e_a1, h⟩ := bndS h
  exact GX.tr q_M1m (m_L_begins_b483 _ _ _ _ _ _ _ _ _ h)
set_option maxRecDepth 100000 in
set_option maxHeartbeats 4000000 in
theorem b_L_begins_b465 {K : Kt} {X : Xt} (hp : St K) (hk : KC K) {N : Nat} {xs : Nat → Int32} (hq : KScr K N xs) {mc ms : Nat} (hB : Bx K X { frames := 9, cells := mc, slots := ms, locals := 200 } cL_begins 10 RL (some .boolean)) {r : Int32} {M1 : Mem} {n2 : Nat} {x3 : Int32} {ns0 : Nat} {ce sl : Nat} {M : Mem} (hF : f_L_begins_b465 N xs n2 x3 ns0 M = some (r, M1)) (hn : mc + M.2.2.2 = ce + M1.2.2.2) (hz : ms + szM M = sl + szM M1) : Wt K X (QM K X (some (vi r)) M1 mc ms) ce sl M 465 [(0, vr 64), (1, vr 61), (2, vr n2), (3, vi x3)] [vr ns0] := by
  have hg := m_L_begins_b465 hF
  have hg1 := hg.1
  have hg2 := hg.2.1
  unfold f_L_begins_b465 at hF
  refine w_pop hB rfl dL_begins_465 ?_
  refine w_iconst hB 3 (by decide) dL_begins_466 ?_
  refine w_aload_n hB 1 dL_begins_467 rfl rfl ?_
  refine w_bipush hB 33 (by decide) dL_begins_468 ?_
  refine w_iconst hB 2 (by decide) dL_begins_470 ?_
  obtain ⟨r1, M1m, hc_M1m, hF⟩ := clS hF
  have q_M1m : EQ M M1m := k_L_some hc_M1m
  have x_M1m := q_M1m.gx
  have n_M1m := q_M1m.1
  have z_M1m := q_M1m.sz
  refine w_callS (M1 := M1m) hB (As := [vr 61, vi 33, vi 2]) (st := [vi 3]) cw_L_49 q_753 (c_L_some hp hq hc_M1m) ⟨rfl, rfl⟩ ⟨Nat.le_of_ble_eq_true rfl, Nat.le_of_ble_eq_true rfl⟩ ⟨show ce ≤ mc by omega, show sl ≤ ms by omega⟩ rfl (Nat.le_of_ble_eq_true rfl) dL_begins_471 rfl ?_ (Or.inl rfl)
  refine w_iadd hB dL_begins_474 ?_
  obtain ⟨a1, e_a1, hF⟩ := bndS hF
  refine w_istore hB (L' := [(4, vi a1), (0, vr 64), (1, vr 61), (2, vr n2), (3, vi x3)]) dL_begins_475 (by decide) e_a1 rfl ?_
  refine w_iconst hB 0 (by decide) dL_begins_477 ?_
  refine w_istore hB (L' := [(5, vi 0), (4, vi a1), (0, vr 64), (1, vr 61), (2, vr n2), (3, vi x3)]) dL_begins_478 (by decide) rfl rfl ?_
  refine w_iconst hB 0 (by decide) dL_begins_480 ?_
  refine w_istore hB (L' := [(6, vi 0), (5, vi 0), (4, vi a1), (0, vr 64), (1, vr 61), (2, vr n2), (3, vi x3)]) dL_begins_481 (by decide) rfl rfl ?_
  exact Wt.sub (L' := [(0, vr 64), (1, vr 61), (2, vr n2), (3, vi x3), (4, vi a1), (5, vi 0), (6, vi 0)]) [3, 4, 5, 6, 2, 1, 0] rfl (b_L_begins_b483 hp hk hq hB fuel _ _ _ _ _ _ _ M1m hF (by omega) (by omega))
def f_L_begins_b460 (N : Nat) (xs : Nat → Int32) (n2 : Nat) (x3 : Int32) (ns0 : Nat) (M : Mem) : Option (Int32 × Mem) :=
  gd (1000 ≤ ns0 ∧ dsc M ns0 = 11 ∧ ns0 - 753 < M.2.2.2) <|
  cl (f_J4_append_15ec4 ns0 414 M) fun o1 M1m =>
  f_L_begins_b465 N xs n2 x3 o1 M1m
set_option maxRecDepth 100000 in
set_option maxHeartbeats 4000000 in
theorem m_L_begins_b460 {N : Nat} {xs : Nat → Int32} {n2 : Nat} {x3 : Int32} {ns0 : Nat} {M Z : Mem} {r : Int32} (h : f_L_begins_b460 N xs n2 x3 ns0 M = some (r, Z)) : GX M Z := by
  unfold f_L_begins_b460 at h
  obtain ⟨gq0, h⟩ := gdS h
  obtain ⟨o1, M1m, c_M1m, h⟩ := clS h
  have q_M1m : GX M M1m := GX.tr (GX.refl M) (m_J4_append_15ec4 c_M1m)
  exact GX.tr q_M1m (m_L_begins_b465 h)
set_option maxRecDepth 100000 in
set_option maxHeartbeats 4000000 in
theorem b_L_begins_b460 {K : Kt} {X : Xt} (hp : St K) (hk : KC K) {N : Nat} {xs : Nat → Int32} (hq : KScr K N xs) {mc ms : Nat} (hB : Bx K X { frames := 9, cells := mc, slots := ms, locals := 200 } cL_begins 10 RL (some .boolean)) {r : Int32} {M1 : Mem} {n2 : Nat} {x3 : Int32} {ns0 : Nat} {ce sl : Nat} {M : Mem} (hF : f_L_begins_b460 N xs n2 x3 ns0 M = some (r, M1)) (hn : mc + M.2.2.2 = ce + M1.2.2.2) (hz : ms + szM M = sl + szM M1) : Wt K X (QM K X (some (vi r)) M1 mc ms) ce sl M 460 [(0, vr 64), (1, vr 61), (2, vr n2), (3, vi x3)] [vr ns0] := by
  have hg := m_L_begins_b460 hF
  have hg1 := hg.1
  have hg2 := hg.2.1
  unfold f_L_begins_b460 at hF
  refine w_ldcs hB hp 414 (by decide) dL_begins_460 ?_
  obtain ⟨g1, hF⟩ := gdS hF
  obtain ⟨o1, M1m, hc_M1m, hF⟩ := clS hF
  have x_M1m := m_J4_append_15ec4 hc_M1m
  have xa_M1m := x_M1m.1
  have xb_M1m := x_M1m.2.1
  have hg3 := m_L_begins_b465 hF
  have hg4 := hg3.1
  have hg5 := hg3.2.1
  refine w_callV (M1 := M1m) hB (ci := 10) (As := [vr 414]) (st := []) cw_L_40 q_612 q_613 rfl (dqM g1) (c_J4_append_15ec4 hp hk hc_M1m) ⟨rfl, rfl⟩ ⟨Nat.le_of_ble_eq_true rfl, Nat.le_of_ble_eq_true rfl⟩ ⟨show ce + (M1m.2.2.2 - M.2.2.2) ≤ mc by omega, show sl + (szM M1m - szM M) ≤ ms by omega⟩ rfl (Nat.le_of_ble_eq_true rfl) dL_begins_462 rfl ?_ (Or.inr (by omega))
  exact Wt.sub (L' := [(0, vr 64), (1, vr 61), (2, vr n2), (3, vi x3)]) [0, 1, 2, 3] rfl (b_L_begins_b465 hp hk hq hB hF (by omega) (by omega))
def f_L_begins_b448 (N : Nat) (xs : Nat → Int32) (n2 : Nat) (x3 : Int32) (ns0 : Nat) (M : Mem) : Option (Int32 × Mem) :=
  cl (f_L_some N xs 32 3 M) fun r1 M1m =>
  gd (1000 ≤ ns0 ∧ dsc M1m ns0 = 11 ∧ ns0 - 753 < M1m.2.2.2) <|
  cl (f_J4_append_bf812 ns0 (1 + r1) M1m) fun o1 M2m =>
  f_L_begins_b460 N xs n2 x3 o1 M2m
set_option maxRecDepth 100000 in
set_option maxHeartbeats 4000000 in
theorem m_L_begins_b448 {N : Nat} {xs : Nat → Int32} {n2 : Nat} {x3 : Int32} {ns0 : Nat} {M Z : Mem} {r : Int32} (h : f_L_begins_b448 N xs n2 x3 ns0 M = some (r, Z)) : GX M Z := by
  unfold f_L_begins_b448 at h
  obtain ⟨r1, M1m, c_M1m, h⟩ := clS h
  have q_M1m : GX M M1m := GX.tr (GX.refl M) ((k_L_some c_M1m).gx)
  obtain ⟨gq1, h⟩ := gdS h
  obtain ⟨o1, M2m, c_M2m, h⟩ := clS h
  have q_M2m : GX M M2m := GX.tr q_M1m (m_J4_append_bf812 c_M2m)
  exact GX.tr q_M2m (m_L_begins_b460 h)
set_option maxRecDepth 100000 in
set_option maxHeartbeats 4000000 in
theorem b_L_begins_b448 {K : Kt} {X : Xt} (hp : St K) (hk : KC K) {N : Nat} {xs : Nat → Int32} (hq : KScr K N xs) {mc ms : Nat} (hB : Bx K X { frames := 9, cells := mc, slots := ms, locals := 200 } cL_begins 10 RL (some .boolean)) {r : Int32} {M1 : Mem} {n2 : Nat} {x3 : Int32} {ns0 : Nat} {ce sl : Nat} {M : Mem} (hF : f_L_begins_b448 N xs n2 x3 ns0 M = some (r, M1)) (hn : mc + M.2.2.2 = ce + M1.2.2.2) (hz : ms + szM M = sl + szM M1) : Wt K X (QM K X (some (vi r)) M1 mc ms) ce sl M 448 [(0, vr 64), (1, vr 61), (2, vr n2), (3, vi x3)] [vr ns0] := by
  have hg := m_L_begins_b448 hF
  have hg1 := hg.1
  have hg2 := hg.2.1
  unfold f_L_begins_b448 at hF
  refine w_iconst hB 1 (by decide) dL_begins_448 ?_
  refine w_aload_n hB 1 dL_begins_449 rfl rfl ?_
  refine w_bipush hB 32 (by decide) dL_begins_450 ?_
  refine w_iconst hB 3 (by decide) dL_begins_452 ?_
  obtain ⟨r1, M1m, hc_M1m, hF⟩ := clS hF
  have q_M1m : EQ M M1m := k_L_some hc_M1m
  have x_M1m := q_M1m.gx
  have n_M1m := q_M1m.1
  have z_M1m := q_M1m.sz
  refine w_callS (M1 := M1m) hB (As := [vr 61, vi 32, vi 3]) (st := [vi 1, vr ns0]) cw_L_49 q_753 (c_L_some hp hq hc_M1m) ⟨rfl, rfl⟩ ⟨Nat.le_of_ble_eq_true rfl, Nat.le_of_ble_eq_true rfl⟩ ⟨show ce ≤ mc by omega, show sl ≤ ms by omega⟩ rfl (Nat.le_of_ble_eq_true rfl) dL_begins_453 rfl ?_ (Or.inl rfl)
  refine w_iadd hB dL_begins_456 ?_
  obtain ⟨g1, hF⟩ := gdS hF
  obtain ⟨o1, M2m, hc_M2m, hF⟩ := clS hF
  have x_M2m := m_J4_append_bf812 hc_M2m
  have xa_M2m := x_M2m.1
  have xb_M2m := x_M2m.2.1
  have hg3 := m_L_begins_b460 hF
  have hg4 := hg3.1
  have hg5 := hg3.2.1
  refine w_callV (M1 := M2m) hB (ci := 10) (As := [vi (1 + r1)]) (st := []) cw_L_53 q_761 q_762 rfl (dqM g1) (c_J4_append_bf812 hp hk hc_M2m) ⟨rfl, rfl⟩ ⟨Nat.le_of_ble_eq_true rfl, Nat.le_of_ble_eq_true rfl⟩ ⟨show ce + (M2m.2.2.2 - M1m.2.2.2) ≤ mc by omega, show sl + (szM M2m - szM M1m) ≤ ms by omega⟩ rfl (Nat.le_of_ble_eq_true rfl) dL_begins_457 rfl ?_ (Or.inr (by omega))
  exact Wt.sub (L' := [(0, vr 64), (1, vr 61), (2, vr n2), (3, vi x3)]) [0, 1, 2, 3] rfl (b_L_begins_b460 hp hk hq hB hF (by omega) (by omega))
def f_L_begins_b443 (N : Nat) (xs : Nat → Int32) (n2 : Nat) (x3 : Int32) (ns0 : Nat) (M : Mem) : Option (Int32 × Mem) :=
  gd (1000 ≤ ns0 ∧ dsc M ns0 = 11 ∧ ns0 - 753 < M.2.2.2) <|
  cl (f_J4_append_15ec4 ns0 413 M) fun o1 M1m =>
  f_L_begins_b448 N xs n2 x3 o1 M1m
set_option maxRecDepth 100000 in
set_option maxHeartbeats 4000000 in
theorem m_L_begins_b443 {N : Nat} {xs : Nat → Int32} {n2 : Nat} {x3 : Int32} {ns0 : Nat} {M Z : Mem} {r : Int32} (h : f_L_begins_b443 N xs n2 x3 ns0 M = some (r, Z)) : GX M Z := by
  unfold f_L_begins_b443 at h
  obtain ⟨gq0, h⟩ := gdS h
  obtain ⟨o1, M1m, c_M1m, h⟩ := clS h
  have q_M1m : GX M M1m := GX.tr (GX.refl M) (m_J4_append_15ec4 c_M1m)
  exact GX.tr q_M1m (m_L_begins_b448 h)
set_option maxRecDepth 100000 in
set_option maxHeartbeats 4000000 in
theorem b_L_begins_b443 {K : Kt} {X : Xt} (hp : St K) (hk : KC K) {N : Nat} {xs : Nat → Int32} (hq : KScr K N xs) {mc ms : Nat} (hB : Bx K X { frames := 9, cells := mc, slots := ms, locals := 200 } cL_begins 10 RL (some .boolean)) {r : Int32} {M1 : Mem} {n2 : Nat} {x3 : Int32} {ns0 : Nat} {ce sl : Nat} {M : Mem} (hF : f_L_begins_b443 N xs n2 x3 ns0 M = some (r, M1)) (hn : mc + M.2.2.2 = ce + M1.2.2.2) (hz : ms + szM M = sl + szM M1) : Wt K X (QM K X (some (vi r)) M1 mc ms) ce sl M 443 [(0, vr 64), (1, vr 61), (2, vr n2), (3, vi x3)] [vr ns0] := by
  have hg := m_L_begins_b443 hF
  have hg1 := hg.1
  have hg2 := hg.2.1
  unfold f_L_begins_b443 at hF
  refine w_ldcs hB hp 413 (by decide) dL_begins_443 ?_
  obtain ⟨g1, hF⟩ := gdS hF
  obtain ⟨o1, M1m, hc_M1m, hF⟩ := clS hF
  have x_M1m := m_J4_append_15ec4 hc_M1m
  have xa_M1m := x_M1m.1
  have xb_M1m := x_M1m.2.1
  have hg3 := m_L_begins_b448 hF
  have hg4 := hg3.1
  have hg5 := hg3.2.1
  refine w_callV (M1 := M1m) hB (ci := 10) (As := [vr 413]) (st := []) cw_L_40 q_612 q_613 rfl (dqM g1) (c_J4_append_15ec4 hp hk hc_M1m) ⟨rfl, rfl⟩ ⟨Nat.le_of_ble_eq_true rfl, Nat.le_of_ble_eq_true rfl⟩ ⟨show ce + (M1m.2.2.2 - M.2.2.2) ≤ mc by omega, show sl + (szM M1m - szM M) ≤ ms by omega⟩ rfl (Nat.le_of_ble_eq_true rfl) dL_begins_445 rfl ?_ (Or.inr (by omega))
  exact Wt.sub (L' := [(0, vr 64), (1, vr 61), (2, vr n2), (3, vi x3)]) [0, 1, 2, 3] rfl (b_L_begins_b448 hp hk hq hB hF (by omega) (by omega))
def f_L_begins_b431 (N : Nat) (xs : Nat → Int32) (n2 : Nat) (x3 : Int32) (ns0 : Nat) (M : Mem) : Option (Int32 × Mem) :=
  cl (f_L_some N xs 31 2 M) fun r1 M1m =>
  gd (1000 ≤ ns0 ∧ dsc M1m ns0 = 11 ∧ ns0 - 753 < M1m.2.2.2) <|
  cl (f_J4_append_bf812 ns0 (1 + r1) M1m) fun o1 M2m =>
  f_L_begins_b443 N xs n2 x3 o1 M2m
set_option maxRecDepth 100000 in
set_option maxHeartbeats 4000000 in
theorem m_L_begins_b431 {N : Nat} {xs : Nat → Int32} {n2 : Nat} {x3 : Int32} {ns0 : Nat} {M Z : Mem} {r : Int32} (h : f_L_begins_b431 N xs n2 x3 ns0 M = some (r, Z)) : GX M Z := by
  unfold f_L_begins_b431 at h
  obtain ⟨r1, M1m, c_M1m, h⟩ := clS h
  have q_M1m : GX M M1m := GX.tr (GX.refl M) ((k_L_some c_M1m).gx)
  obtain ⟨gq1, h⟩ := gdS h
  obtain ⟨o1, M2m, c_M2m, h⟩ := clS h
  have q_M2m : GX M M2m := GX.tr q_M1m (m_J4_append_bf812 c_M2m)
  exact GX.tr q_M2m (m_L_begins_b443 h)
set_option maxRecDepth 100000 in
set_option maxHeartbeats 4000000 in
theorem b_L_begins_b431 {K : Kt} {X : Xt} (hp : St K) (hk : KC K) {N : Nat} {xs : Nat → Int32} (hq : KScr K N xs) {mc ms : Nat} (hB : Bx K X { frames := 9, cells := mc, slots := ms, locals := 200 } cL_begins 10 RL (some .boolean)) {r : Int32} {M1 : Mem} {n2 : Nat} {x3 : Int32} {ns0 : Nat} {ce sl : Nat} {M : Mem} (hF : f_L_begins_b431 N xs n2 x3 ns0 M = some (r, M1)) (hn : mc + M.2.2.2 = ce + M1.2.2.2) (hz : ms + szM M = sl + szM M1) : Wt K X (QM K X (some (vi r)) M1 mc ms) ce sl M 431 [(0, vr 64), (1, vr 61), (2, vr n2), (3, vi x3)] [vr ns0] := by
  have hg := m_L_begins_b431 hF
  have hg1 := hg.1
  have hg2 := hg.2.1
  unfold f_L_begins_b431 at hF
  refine w_iconst hB 1 (by decide) dL_begins_431 ?_
  refine w_aload_n hB 1 dL_begins_432 rfl rfl ?_
  refine w_bipush hB 31 (by decide) dL_begins_433 ?_
  refine w_iconst hB 2 (by decide) dL_begins_435 ?_
  obtain ⟨r1, M1m, hc_M1m, hF⟩ := clS hF
  have q_M1m : EQ M M1m := k_L_some hc_M1m
  have x_M1m := q_M1m.gx
  have n_M1m := q_M1m.1
  have z_M1m := q_M1m.sz
  refine w_callS (M1 := M1m) hB (As := [vr 61, vi 31, vi 2]) (st := [vi 1, vr ns0]) cw_L_49 q_753 (c_L_some hp hq hc_M1m) ⟨rfl, rfl⟩ ⟨Nat.le_of_ble_eq_true rfl, Nat.le_of_ble_eq_true rfl⟩ ⟨show ce ≤ mc by omega, show sl ≤ ms by omega⟩ rfl (Nat.le_of_ble_eq_true rfl) dL_begins_436 rfl ?_ (Or.inl rfl)
  refine w_iadd hB dL_begins_439 ?_
  obtain ⟨g1, hF⟩ := gdS hF
  obtain ⟨o1, M2m, hc_M2m, hF⟩ := clS hF
  have x_M2m := m_J4_append_bf812 hc_M2m
  have xa_M2m := x_M2m.1
  have xb_M2m := x_M2m.2.1
  have hg3 := m_L_begins_b443 hF
  have hg4 := hg3.1
  have hg5 := hg3.2.1
  refine w_callV (M1 := M2m) hB (ci := 10) (As := [vi (1 + r1)]) (st := []) cw_L_53 q_761 q_762 rfl (dqM g1) (c_J4_append_bf812 hp hk hc_M2m) ⟨rfl, rfl⟩ ⟨Nat.le_of_ble_eq_true rfl, Nat.le_of_ble_eq_true rfl⟩ ⟨show ce + (M2m.2.2.2 - M1m.2.2.2) ≤ mc by omega, show sl + (szM M2m - szM M1m) ≤ ms by omega⟩ rfl (Nat.le_of_ble_eq_true rfl) dL_begins_440 rfl ?_ (Or.inr (by omega))
  exact Wt.sub (L' := [(0, vr 64), (1, vr 61), (2, vr n2), (3, vi x3)]) [0, 1, 2, 3] rfl (b_L_begins_b443 hp hk hq hB hF (by omega) (by omega))
def f_L_begins_b418 (N : Nat) (xs : Nat → Int32) (rec245 : Nat → Int32 → Int32 → Mem → Option (Int32 × Mem)) (n2 : Nat) (x3 : Int32) (x4 : Int32) (ns0 : Nat) (M : Mem) : Option (Int32 × Mem) :=
  bnd (x4 + 1) fun a1 =>
  rec245 n2 x3 a1 M
set_option maxRecDepth 100000 in
set_option maxHeartbeats 4000000 in
theorem m_L_begins_b418 {N : Nat} {xs : Nat → Int32} {rec245 : Nat → Int32 → Int32 → Mem → Option (Int32 × Mem)} (G245 : (∀ (n2 : Nat) (x3 : Int32) (x4 : Int32) (M Z : Mem) (r : Int32), rec245 n2 x3 x4 M = some (r, Z) → GX M Z)) {n2 : Nat} {x3 : Int32} {x4 : Int32} {ns0 : Nat} {M Z : Mem} {r : Int32} (h : f_L_begins_b418 N xs rec245 n2 x3 x4 ns0 M = some (r, Z)) : GX M Z := by
  unfold f_L_begins_b418 at h
  obtain ⟨a1, e_a1, h⟩ := bndS h
  exact GX.tr (GX.refl M) (G245 _ _ _ _ _ _ h)
set_option maxRecDepth 100000 in
set_option maxHeartbeats 4000000 in
theorem b_L_begins_b418 {K : Kt} {X : Xt} (hp : St K) (hk : KC K) {N : Nat} {xs : Nat → Int32} (hq : KScr K N xs) {mc ms : Nat} (hB : Bx K X { frames := 9, cells := mc, slots := ms, locals := 200 } cL_begins 10 RL (some .boolean)) {r : Int32} {M1 : Mem} {rec245 : Nat → Int32 → Int32 → Mem → Option (Int32 × Mem)}
    (G245 : (∀ (n2 : Nat) (x3 : Int32) (x4 : Int32) (M Z : Mem) (r : Int32), rec245 n2 x3 x4 M = some (r, Z) → GX M Z)) (h245 : (∀ (n2 : Nat) (x3 : Int32) (x4 : Int32) (ce sl : Nat) (M : Mem), rec245 n2 x3 x4 M = some (r, M1) → mc + M.2.2.2 = ce + M1.2.2.2 → ms + szM M = sl + szM M1 → Wt K X (QM K X (some (vi r)) M1 mc ms) ce sl M 245 [(0, vr 64), (1, vr 61), (2, vr n2), (3, vi x3), (4, vi x4)] [])) {n2 : Nat} {x3 : Int32} {x4 : Int32} {ns0 : Nat} {ce sl : Nat} {M : Mem} (hF : f_L_begins_b418 N xs rec245 n2 x3 x4 ns0 M = some (r, M1)) (hn : mc + M.2.2.2 = ce + M1.2.2.2) (hz : ms + szM M = sl + szM M1) : Wt K X (QM K X (some (vi r)) M1 mc ms) ce sl M 418 [(0, vr 64), (1, vr 61), (2, vr n2), (3, vi x3), (4, vi x4)] [vr ns0] := by
  have hg := m_L_begins_b418 G245 hF
  have hg1 := hg.1
  have hg2 := hg.2.1
  unfold f_L_begins_b418 at hF
  refine w_pop hB rfl dL_begins_418 ?_
  obtain ⟨a1, e_a1, hF⟩ := bndS hF
  refine w_iinc hB 4 (v := 1) (L' := [(4, vi a1), (0, vr 64), (1, vr 61), (2, vr n2), (3, vi x3)]) dL_begins_419 rfl (by decide) (by decide) e_a1 rfl ?_
  refine w_goto hB 245 dL_begins_422 (by decide) ?_
  exact Wt.sub (L' := [(0, vr 64), (1, vr 61), (2, vr n2), (3, vi x3), (4, vi a1)]) [1, 2, 3, 4, 0] rfl (h245 _ _ _ _ _ M hF (by omega) (by omega))
def f_L_begins_b412 (N : Nat) (xs : Nat → Int32) (rec245 : Nat → Int32 → Int32 → Mem → Option (Int32 × Mem)) (n2 : Nat) (x3 : Int32) (x4 : Int32) (M : Mem) : Option (Int32 × Mem) :=
  gd (1000 ≤ n2 ∧ dsc M n2 = 11 ∧ n2 - 753 < M.2.2.2) <|
  cl (f_J4_append_15ec4 n2 402 M) fun o1 M1m =>
  f_L_begins_b418 N xs rec245 n2 x3 x4 o1 M1m
set_option maxRecDepth 100000 in
set_option maxHeartbeats 4000000 in
theorem m_L_begins_b412 {N : Nat} {xs : Nat → Int32} {rec245 : Nat → Int32 → Int32 → Mem → Option (Int32 × Mem)} (G245 : (∀ (n2 : Nat) (x3 : Int32) (x4 : Int32) (M Z : Mem) (r : Int32), rec245 n2 x3 x4 M = some (r, Z) → GX M Z)) {n2 : Nat} {x3 : Int32} {x4 : Int32} {M Z : Mem} {r : Int32} (h : f_L_begins_b412 N xs rec245 n2 x3 x4 M = some (r, Z)) : GX M Z := by
  unfold f_L_begins_b412 at h
  obtain ⟨gq0, h⟩ := gdS h
  obtain ⟨o1, M1m, c_M1m, h⟩ := clS h
  have q_M1m : GX M M1m := GX.tr (GX.refl M) (m_J4_append_15ec4 c_M1m)
  exact GX.tr q_M1m (m_L_begins_b418 G245 h)
set_option maxRecDepth 100000 in
set_option maxHeartbeats 4000000 in
theorem b_L_begins_b412 {K : Kt} {X : Xt} (hp : St K) (hk : KC K) {N : Nat} {xs : Nat → Int32} (hq : KScr K N xs) {mc ms : Nat} (hB : Bx K X { frames := 9, cells := mc, slots := ms, locals := 200 } cL_begins 10 RL (some .boolean)) {r : Int32} {M1 : Mem} {rec245 : Nat → Int32 → Int32 → Mem → Option (Int32 × Mem)}
    (G245 : (∀ (n2 : Nat) (x3 : Int32) (x4 : Int32) (M Z : Mem) (r : Int32), rec245 n2 x3 x4 M = some (r, Z) → GX M Z)) (h245 : (∀ (n2 : Nat) (x3 : Int32) (x4 : Int32) (ce sl : Nat) (M : Mem), rec245 n2 x3 x4 M = some (r, M1) → mc + M.2.2.2 = ce + M1.2.2.2 → ms + szM M = sl + szM M1 → Wt K X (QM K X (some (vi r)) M1 mc ms) ce sl M 245 [(0, vr 64), (1, vr 61), (2, vr n2), (3, vi x3), (4, vi x4)] [])) {n2 : Nat} {x3 : Int32} {x4 : Int32} {ce sl : Nat} {M : Mem} (hF : f_L_begins_b412 N xs rec245 n2 x3 x4 M = some (r, M1)) (hn : mc + M.2.2.2 = ce + M1.2.2.2) (hz : ms + szM M = sl + szM M1) : Wt K X (QM K X (some (vi r)) M1 mc ms) ce sl M 412 [(0, vr 64), (1, vr 61), (2, vr n2), (3, vi x3), (4, vi x4)] [] := by
  have hg := m_L_begins_b412 G245 hF
  have hg1 := hg.1
  have hg2 := hg.2.1
  unfold f_L_begins_b412 at hF
  refine w_aload_n hB 2 dL_begins_412 rfl rfl ?_
  refine w_ldcs hB hp 402 (by decide) dL_begins_413 ?_
  obtain ⟨g1, hF⟩ := gdS hF
  obtain ⟨o1, M1m, hc_M1m, hF⟩ := clS hF
  have x_M1m := m_J4_append_15ec4 hc_M1m
  have xa_M1m := x_M1m.1
  have xb_M1m := x_M1m.2.1
  have hg3 := m_L_begins_b418 G245 hF
  have hg4 := hg3.1
  have hg5 := hg3.2.1
  refine w_callV (M1 := M1m) hB (ci := 10) (As := [vr 402]) (st := []) cw_L_40 q_612 q_613 rfl (dqM g1) (c_J4_append_15ec4 hp hk hc_M1m) ⟨rfl, rfl⟩ ⟨Nat.le_of_ble_eq_true rfl, Nat.le_of_ble_eq_true rfl⟩ ⟨show ce + (M1m.2.2.2 - M.2.2.2) ≤ mc by omega, show sl + (szM M1m - szM M) ≤ ms by omega⟩ rfl (Nat.le_of_ble_eq_true rfl) dL_begins_415 rfl ?_ (Or.inr (by omega))
  exact Wt.sub (L' := [(0, vr 64), (1, vr 61), (2, vr n2), (3, vi x3), (4, vi x4)]) [0, 1, 2, 3, 4] rfl (b_L_begins_b418 hp hk hq hB G245 h245 hF (by omega) (by omega))
def f_L_begins_b411 (N : Nat) (xs : Nat → Int32) (rec245 : Nat → Int32 → Int32 → Mem → Option (Int32 × Mem)) (n2 : Nat) (x3 : Int32) (x4 : Int32) (ns0 : Nat) (M : Mem) : Option (Int32 × Mem) :=
  f_L_begins_b412 N xs rec245 n2 x3 x4 M
set_option maxRecDepth 100000 in
set_option maxHeartbeats 4000000 in
theorem m_L_begins_b411 {N : Nat} {xs : Nat → Int32} {rec245 : Nat → Int32 → Int32 → Mem → Option (Int32 × Mem)} (G245 : (∀ (n2 : Nat) (x3 : Int32) (x4 : Int32) (M Z : Mem) (r : Int32), rec245 n2 x3 x4 M = some (r, Z) → GX M Z)) {n2 : Nat} {x3 : Int32} {x4 : Int32} {ns0 : Nat} {M Z : Mem} {r : Int32} (h : f_L_begins_b411 N xs rec245 n2 x3 x4 ns0 M = some (r, Z)) : GX M Z := by
  unfold f_L_begins_b411 at h
  exact GX.tr (GX.refl M) (m_L_begins_b412 G245 h)
set_option maxRecDepth 100000 in
set_option maxHeartbeats 4000000 in
theorem b_L_begins_b411 {K : Kt} {X : Xt} (hp : St K) (hk : KC K) {N : Nat} {xs : Nat → Int32} (hq : KScr K N xs) {mc ms : Nat} (hB : Bx K X { frames := 9, cells := mc, slots := ms, locals := 200 } cL_begins 10 RL (some .boolean)) {r : Int32} {M1 : Mem} {rec245 : Nat → Int32 → Int32 → Mem → Option (Int32 × Mem)}
    (G245 : (∀ (n2 : Nat) (x3 : Int32) (x4 : Int32) (M Z : Mem) (r : Int32), rec245 n2 x3 x4 M = some (r, Z) → GX M Z)) (h245 : (∀ (n2 : Nat) (x3 : Int32) (x4 : Int32) (ce sl : Nat) (M : Mem), rec245 n2 x3 x4 M = some (r, M1) → mc + M.2.2.2 = ce + M1.2.2.2 → ms + szM M = sl + szM M1 → Wt K X (QM K X (some (vi r)) M1 mc ms) ce sl M 245 [(0, vr 64), (1, vr 61), (2, vr n2), (3, vi x3), (4, vi x4)] [])) {n2 : Nat} {x3 : Int32} {x4 : Int32} {ns0 : Nat} {ce sl : Nat} {M : Mem} (hF : f_L_begins_b411 N xs rec245 n2 x3 x4 ns0 M = some (r, M1)) (hn : mc + M.2.2.2 = ce + M1.2.2.2) (hz : ms + szM M = sl + szM M1) : Wt K X (QM K X (some (vi r)) M1 mc ms) ce sl M 411 [(0, vr 64), (1, vr 61), (2, vr n2), (3, vi x3), (4, vi x4)] [vr ns0] := by
  have hg := m_L_begins_b411 G245 hF
  have hg1 := hg.1
  have hg2 := hg.2.1
  unfold f_L_begins_b411 at hF
  refine w_pop hB rfl dL_begins_411 ?_
  exact Wt.sub (L' := [(0, vr 64), (1, vr 61), (2, vr n2), (3, vi x3), (4, vi x4)]) [0, 1, 2, 3, 4] rfl (b_L_begins_b412 hp hk hq hB G245 h245 hF (by omega) (by omega))
def f_L_begins_b396 (N : Nat) (xs : Nat → Int32) (rec245 : Nat → Int32 → Int32 → Mem → Option (Int32 × Mem)) (n2 : Nat) (x3 : Int32) (x4 : Int32) (ns0 : Nat) (M : Mem) : Option (Int32 × Mem) :=
  cl (f_L_some N xs (29 + x4) 2 M) fun r1 M1m =>
  gd (1000 ≤ ns0 ∧ dsc M1m ns0 = 11 ∧ ns0 - 753 < M1m.2.2.2) <|
  cl (f_J4_append_bf812 ns0 (1 + r1) M1m) fun o1 M2m =>
  f_L_begins_b411 N xs rec245 n2 x3 x4 o1 M2m
set_option maxRecDepth 100000 in
set_option maxHeartbeats 4000000 in
theorem m_L_begins_b396 {N : Nat} {xs : Nat → Int32} {rec245 : Nat → Int32 → Int32 → Mem → Option (Int32 × Mem)} (G245 : (∀ (n2 : Nat) (x3 : Int32) (x4 : Int32) (M Z : Mem) (r : Int32), rec245 n2 x3 x4 M = some (r, Z) → GX M Z)) {n2 : Nat} {x3 : Int32} {x4 : Int32} {ns0 : Nat} {M Z : Mem} {r : Int32} (h : f_L_begins_b396 N xs rec245 n2 x3 x4 ns0 M = some (r, Z)) : GX M Z := by
  unfold f_L_begins_b396 at h
  obtain ⟨r1, M1m, c_M1m, h⟩ := clS h
  have q_M1m : GX M M1m := GX.tr (GX.refl M) ((k_L_some c_M1m).gx)
  obtain ⟨gq1, h⟩ := gdS h
  obtain ⟨o1, M2m, c_M2m, h⟩ := clS h
  have q_M2m : GX M M2m := GX.tr q_M1m (m_J4_append_bf812 c_M2m)
  exact GX.tr q_M2m (m_L_begins_b411 G245 h)
set_option maxRecDepth 100000 in
set_option maxHeartbeats 4000000 in
theorem b_L_begins_b396 {K : Kt} {X : Xt} (hp : St K) (hk : KC K) {N : Nat} {xs : Nat → Int32} (hq : KScr K N xs) {mc ms : Nat} (hB : Bx K X { frames := 9, cells := mc, slots := ms, locals := 200 } cL_begins 10 RL (some .boolean)) {r : Int32} {M1 : Mem} {rec245 : Nat → Int32 → Int32 → Mem → Option (Int32 × Mem)}
    (G245 : (∀ (n2 : Nat) (x3 : Int32) (x4 : Int32) (M Z : Mem) (r : Int32), rec245 n2 x3 x4 M = some (r, Z) → GX M Z)) (h245 : (∀ (n2 : Nat) (x3 : Int32) (x4 : Int32) (ce sl : Nat) (M : Mem), rec245 n2 x3 x4 M = some (r, M1) → mc + M.2.2.2 = ce + M1.2.2.2 → ms + szM M = sl + szM M1 → Wt K X (QM K X (some (vi r)) M1 mc ms) ce sl M 245 [(0, vr 64), (1, vr 61), (2, vr n2), (3, vi x3), (4, vi x4)] [])) {n2 : Nat} {x3 : Int32} {x4 : Int32} {ns0 : Nat} {ce sl : Nat} {M : Mem} (hF : f_L_begins_b396 N xs rec245 n2 x3 x4 ns0 M = some (r, M1)) (hn : mc + M.2.2.2 = ce + M1.2.2.2) (hz : ms + szM M = sl + szM M1) : Wt K X (QM K X (some (vi r)) M1 mc ms) ce sl M 396 [(0, vr 64), (1, vr 61), (2, vr n2), (3, vi x3), (4, vi x4)] [vr ns0] := by
  have hg := m_L_begins_b396 G245 hF
  have hg1 := hg.1
  have hg2 := hg.2.1
  unfold f_L_begins_b396 at hF
  refine w_iconst hB 1 (by decide) dL_begins_396 ?_
  refine w_aload_n hB 1 dL_begins_397 rfl rfl ?_
  refine w_bipush hB 29 (by decide) dL_begins_398 ?_
  refine w_iload hB 4 dL_begins_400 rfl ?_
  refine w_iadd hB dL_begins_402 ?_
  refine w_iconst hB 2 (by decide) dL_begins_403 ?_
  obtain ⟨r1, M1m, hc_M1m, hF⟩ := clS hF
  have q_M1m : EQ M M1m := k_L_some hc_M1m
  have x_M1m := q_M1m.gx
  have n_M1m := q_M1m.1
  have z_M1m := q_M1m.sz
  refine w_callS (M1 := M1m) hB (As := [vr 61, vi (29 + x4), vi 2]) (st := [vi 1, vr ns0]) cw_L_49 q_753 (c_L_some hp hq hc_M1m) ⟨rfl, rfl⟩ ⟨Nat.le_of_ble_eq_true rfl, Nat.le_of_ble_eq_true rfl⟩ ⟨show ce ≤ mc by omega, show sl ≤ ms by omega⟩ rfl (Nat.le_of_ble_eq_true rfl) dL_begins_404 rfl ?_ (Or.inl rfl)
  refine w_iadd hB dL_begins_407 ?_
  obtain ⟨g1, hF⟩ := gdS hF
  obtain ⟨o1, M2m, hc_M2m, hF⟩ := clS hF
  have x_M2m := m_J4_append_bf812 hc_M2m
  have xa_M2m := x_M2m.1
  have xb_M2m := x_M2m.2.1
  have hg3 := m_L_begins_b411 G245 hF
  have hg4 := hg3.1
  have hg5 := hg3.2.1
  refine w_callV (M1 := M2m) hB (ci := 10) (As := [vi (1 + r1)]) (st := []) cw_L_53 q_761 q_762 rfl (dqM g1) (c_J4_append_bf812 hp hk hc_M2m) ⟨rfl, rfl⟩ ⟨Nat.le_of_ble_eq_true rfl, Nat.le_of_ble_eq_true rfl⟩ ⟨show ce + (M2m.2.2.2 - M1m.2.2.2) ≤ mc by omega, show sl + (szM M2m - szM M1m) ≤ ms by omega⟩ rfl (Nat.le_of_ble_eq_true rfl) dL_begins_408 rfl ?_ (Or.inr (by omega))
  exact Wt.sub (L' := [(0, vr 64), (1, vr 61), (2, vr n2), (3, vi x3), (4, vi x4)]) [0, 1, 2, 3, 4] rfl (b_L_begins_b411 hp hk hq hB G245 h245 hF (by omega) (by omega))
def f_L_begins_b376 (N : Nat) (xs : Nat → Int32) (rec245 : Nat → Int32 → Int32 → Mem → Option (Int32 × Mem)) (n2 : Nat) (x3 : Int32) (x4 : Int32) (ns0 : Nat) (M : Mem) : Option (Int32 × Mem) :=
  cl (f_L_some N xs (27 + x4) 3 M) fun r1 M1m =>
  if r1 = 0 then
    gd (1000 ≤ n2 ∧ dsc M1m n2 = 11 ∧ n2 - 753 < M1m.2.2.2) <|
    cl (f_J4_append_15ec4 n2 411 M1m) fun o1 M2m =>
    f_L_begins_b396 N xs rec245 n2 x3 x4 o1 M2m
  else
    f_L_begins_b412 N xs rec245 n2 x3 x4 M1m
set_option maxRecDepth 100000 in
set_option maxHeartbeats 4000000 in
theorem m_L_begins_b376 {N : Nat} {xs : Nat → Int32} {rec245 : Nat → Int32 → Int32 → Mem → Option (Int32 × Mem)} (G245 : (∀ (n2 : Nat) (x3 : Int32) (x4 : Int32) (M Z : Mem) (r : Int32), rec245 n2 x3 x4 M = some (r, Z) → GX M Z)) {n2 : Nat} {x3 : Int32} {x4 : Int32} {ns0 : Nat} {M Z : Mem} {r : Int32} (h : f_L_begins_b376 N xs rec245 n2 x3 x4 ns0 M = some (r, Z)) : GX M Z := by
  unfold f_L_begins_b376 at h
  obtain ⟨r1, M1m, c_M1m, h⟩ := clS h
  have q_M1m : GX M M1m := GX.tr (GX.refl M) ((k_L_some c_M1m).gx)
  rcases ifS h with ⟨-, h⟩ | ⟨-, h⟩
  · obtain ⟨gq2, h⟩ := gdS h
    obtain ⟨o1, M2m, c_M2m, h⟩ := clS h
    have q_M2m : GX M M2m := GX.tr q_M1m (m_J4_append_15ec4 c_M2m)
    exact GX.tr q_M2m (m_L_begins_b396 G245 h)
  · exact GX.tr q_M1m (m_L_begins_b412 G245 h)
set_option maxRecDepth 100000 in
set_option maxHeartbeats 4000000 in
theorem b_L_begins_b376 {K : Kt} {X : Xt} (hp : St K) (hk : KC K) {N : Nat} {xs : Nat → Int32} (hq : KScr K N xs) {mc ms : Nat} (hB : Bx K X { frames := 9, cells := mc, slots := ms, locals := 200 } cL_begins 10 RL (some .boolean)) {r : Int32} {M1 : Mem} {rec245 : Nat → Int32 → Int32 → Mem → Option (Int32 × Mem)}
    (G245 : (∀ (n2 : Nat) (x3 : Int32) (x4 : Int32) (M Z : Mem) (r : Int32), rec245 n2 x3 x4 M = some (r, Z) → GX M Z)) (h245 : (∀ (n2 : Nat) (x3 : Int32) (x4 : Int32) (ce sl : Nat) (M : Mem), rec245 n2 x3 x4 M = some (r, M1) → mc + M.2.2.2 = ce + M1.2.2.2 → ms + szM M = sl + szM M1 → Wt K X (QM K X (some (vi r)) M1 mc ms) ce sl M 245 [(0, vr 64), (1, vr 61), (2, vr n2), (3, vi x3), (4, vi x4)] [])) {n2 : Nat} {x3 : Int32} {x4 : Int32} {ns0 : Nat} {ce sl : Nat} {M : Mem} (hF : f_L_begins_b376 N xs rec245 n2 x3 x4 ns0 M = some (r, M1)) (hn : mc + M.2.2.2 = ce + M1.2.2.2) (hz : ms + szM M = sl + szM M1) : Wt K X (QM K X (some (vi r)) M1 mc ms) ce sl M 376 [(0, vr 64), (1, vr 61), (2, vr n2), (3, vi x3), (4, vi x4)] [vr ns0] := by
  have hg := m_L_begins_b376 G245 hF
  have hg1 := hg.1
  have hg2 := hg.2.1
  unfold f_L_begins_b376 at hF
  refine w_pop hB rfl dL_begins_376 ?_
  refine w_aload_n hB 1 dL_begins_377 rfl rfl ?_
  refine w_bipush hB 27 (by decide) dL_begins_378 ?_
  refine w_iload hB 4 dL_begins_380 rfl ?_
  refine w_iadd hB dL_begins_382 ?_
  refine w_iconst hB 3 (by decide) dL_begins_383 ?_
  obtain ⟨r1, M1m, hc_M1m, hF⟩ := clS hF
  have q_M1m : EQ M M1m := k_L_some hc_M1m
  have x_M1m := q_M1m.gx
  have n_M1m := q_M1m.1
  have z_M1m := q_M1m.sz
  refine w_callS (M1 := M1m) hB (As := [vr 61, vi (27 + x4), vi 3]) (st := []) cw_L_49 q_753 (c_L_some hp hq hc_M1m) ⟨rfl, rfl⟩ ⟨Nat.le_of_ble_eq_true rfl, Nat.le_of_ble_eq_true rfl⟩ ⟨show ce ≤ mc by omega, show sl ≤ ms by omega⟩ rfl (Nat.le_of_ble_eq_true rfl) dL_begins_384 rfl ?_ (Or.inl rfl)
  refine w_if_ne hB 412 dL_begins_387 (by decide) (fun hc => ?_) (fun hc => ?_)
  · replace hF := ifF hc hF
    exact Wt.sub (L' := [(0, vr 64), (1, vr 61), (2, vr n2), (3, vi x3), (4, vi x4)]) [0, 1, 2, 3, 4] rfl (b_L_begins_b412 hp hk hq hB G245 h245 hF (by omega) (by omega))
  · replace hF := ifT hc hF
    refine w_aload_n hB 2 dL_begins_390 rfl rfl ?_
    refine w_ldcs hB hp 411 (by decide) dL_begins_391 ?_
    obtain ⟨g1, hF⟩ := gdS hF
    obtain ⟨o1, M2m, hc_M2m, hF⟩ := clS hF
    have x_M2m := m_J4_append_15ec4 hc_M2m
    have xa_M2m := x_M2m.1
    have xb_M2m := x_M2m.2.1
    have hg3 := m_L_begins_b396 G245 hF
    have hg4 := hg3.1
    have hg5 := hg3.2.1
    refine w_callV (M1 := M2m) hB (ci := 10) (As := [vr 411]) (st := []) cw_L_40 q_612 q_613 rfl (dqM g1) (c_J4_append_15ec4 hp hk hc_M2m) ⟨rfl, rfl⟩ ⟨Nat.le_of_ble_eq_true rfl, Nat.le_of_ble_eq_true rfl⟩ ⟨show ce + (M2m.2.2.2 - M1m.2.2.2) ≤ mc by omega, show sl + (szM M2m - szM M1m) ≤ ms by omega⟩ rfl (Nat.le_of_ble_eq_true rfl) dL_begins_393 rfl ?_ (Or.inr (by omega))
    exact Wt.sub (L' := [(0, vr 64), (1, vr 61), (2, vr n2), (3, vi x3), (4, vi x4)]) [0, 1, 2, 3, 4] rfl (b_L_begins_b396 hp hk hq hB G245 h245 hF (by omega) (by omega))
def f_L_begins_b356 (N : Nat) (xs : Nat → Int32) (rec245 : Nat → Int32 → Int32 → Mem → Option (Int32 × Mem)) (n2 : Nat) (x3 : Int32) (x4 : Int32) (x5 : Int32) (ns0 : Nat) (M : Mem) : Option (Int32 × Mem) :=
  cl (f_L_some N xs (25 + x4) 2 M) fun r1 M1m =>
  gd (1000 ≤ ns0 ∧ dsc M1m ns0 = 11 ∧ ns0 - 753 < M1m.2.2.2) <|
  cl (f_J4_append_bf812 ns0 (((x5 + 1) + r1) - ((x5 + 1) + r1) / 3 * 3) M1m) fun o1 M2m =>
  f_L_begins_b376 N xs rec245 n2 x3 x4 o1 M2m
set_option maxRecDepth 100000 in
set_option maxHeartbeats 4000000 in
theorem m_L_begins_b356 {N : Nat} {xs : Nat → Int32} {rec245 : Nat → Int32 → Int32 → Mem → Option (Int32 × Mem)} (G245 : (∀ (n2 : Nat) (x3 : Int32) (x4 : Int32) (M Z : Mem) (r : Int32), rec245 n2 x3 x4 M = some (r, Z) → GX M Z)) {n2 : Nat} {x3 : Int32} {x4 : Int32} {x5 : Int32} {ns0 : Nat} {M Z : Mem} {r : Int32} (h : f_L_begins_b356 N xs rec245 n2 x3 x4 x5 ns0 M = some (r, Z)) : GX M Z := by
  unfold f_L_begins_b356 at h
  obtain ⟨r1, M1m, c_M1m, h⟩ := clS h
  have q_M1m : GX M M1m := GX.tr (GX.refl M) ((k_L_some c_M1m).gx)
  obtain ⟨gq1, h⟩ := gdS h
  obtain ⟨o1, M2m, c_M2m, h⟩ := clS h
  have q_M2m : GX M M2m := GX.tr q_M1m (m_J4_append_bf812 c_M2m)
  exact GX.tr q_M2m (m_L_begins_b376 G245 h)
set_option maxRecDepth 100000 in
set_option maxHeartbeats 4000000 in
theorem b_L_begins_b356 {K : Kt} {X : Xt} (hp : St K) (hk : KC K) {N : Nat} {xs : Nat → Int32} (hq : KScr K N xs) {mc ms : Nat} (hB : Bx K X { frames := 9, cells := mc, slots := ms, locals := 200 } cL_begins 10 RL (some .boolean)) {r : Int32} {M1 : Mem} {rec245 : Nat → Int32 → Int32 → Mem → Option (Int32 × Mem)}
    (G245 : (∀ (n2 : Nat) (x3 : Int32) (x4 : Int32) (M Z : Mem) (r : Int32), rec245 n2 x3 x4 M = some (r, Z) → GX M Z)) (h245 : (∀ (n2 : Nat) (x3 : Int32) (x4 : Int32) (ce sl : Nat) (M : Mem), rec245 n2 x3 x4 M = some (r, M1) → mc + M.2.2.2 = ce + M1.2.2.2 → ms + szM M = sl + szM M1 → Wt K X (QM K X (some (vi r)) M1 mc ms) ce sl M 245 [(0, vr 64), (1, vr 61), (2, vr n2), (3, vi x3), (4, vi x4)] [])) {n2 : Nat} {x3 : Int32} {x4 : Int32} {x5 : Int32} {ns0 : Nat} {ce sl : Nat} {M : Mem} (hF : f_L_begins_b356 N xs rec245 n2 x3 x4 x5 ns0 M = some (r, M1)) (hn : mc + M.2.2.2 = ce + M1.2.2.2) (hz : ms + szM M = sl + szM M1) : Wt K X (QM K X (some (vi r)) M1 mc ms) ce sl M 356 [(0, vr 64), (1, vr 61), (2, vr n2), (3, vi x3), (4, vi x4), (5, vi x5)] [vr ns0] := by
  have hg := m_L_begins_b356 G245 hF
  have hg1 := hg.1
  have hg2 := hg.2.1
  unfold f_L_begins_b356 at hF
  refine w_iload hB 5 dL_begins_356 rfl ?_
  refine w_iconst hB 1 (by decide) dL_begins_358 ?_
  refine w_iadd hB dL_begins_359 ?_
  refine w_aload_n hB 1 dL_begins_360 rfl rfl ?_
  refine w_bipush hB 25 (by decide) dL_begins_361 ?_
  refine w_iload hB 4 dL_begins_363 rfl ?_
  refine w_iadd hB dL_begins_365 ?_
  refine w_iconst hB 2 (by decide) dL_begins_366 ?_
  obtain ⟨r1, M1m, hc_M1m, hF⟩ := clS hF
  have q_M1m : EQ M M1m := k_L_some hc_M1m
  have x_M1m := q_M1m.gx
  have n_M1m := q_M1m.1
  have z_M1m := q_M1m.sz
  refine w_callS (M1 := M1m) hB (As := [vr 61, vi (25 + x4), vi 2]) (st := [vi (x5 + 1), vr ns0]) cw_L_49 q_753 (c_L_some hp hq hc_M1m) ⟨rfl, rfl⟩ ⟨Nat.le_of_ble_eq_true rfl, Nat.le_of_ble_eq_true rfl⟩ ⟨show ce ≤ mc by omega, show sl ≤ ms by omega⟩ rfl (Nat.le_of_ble_eq_true rfl) dL_begins_367 rfl ?_ (Or.inl rfl)
  refine w_iadd hB dL_begins_370 ?_
  refine w_iconst hB 3 (by decide) dL_begins_371 ?_
  refine w_irem hB (by decide) dL_begins_372 ?_
  obtain ⟨g1, hF⟩ := gdS hF
  obtain ⟨o1, M2m, hc_M2m, hF⟩ := clS hF
  have x_M2m := m_J4_append_bf812 hc_M2m
  have xa_M2m := x_M2m.1
  have xb_M2m := x_M2m.2.1
  have hg3 := m_L_begins_b376 G245 hF
  have hg4 := hg3.1
  have hg5 := hg3.2.1
  refine w_callV (M1 := M2m) hB (ci := 10) (As := [vi (((x5 + 1) + r1) - ((x5 + 1) + r1) / 3 * 3)]) (st := []) cw_L_53 q_761 q_762 rfl (dqM g1) (c_J4_append_bf812 hp hk hc_M2m) ⟨rfl, rfl⟩ ⟨Nat.le_of_ble_eq_true rfl, Nat.le_of_ble_eq_true rfl⟩ ⟨show ce + (M2m.2.2.2 - M1m.2.2.2) ≤ mc by omega, show sl + (szM M2m - szM M1m) ≤ ms by omega⟩ rfl (Nat.le_of_ble_eq_true rfl) dL_begins_373 rfl ?_ (Or.inr (by omega))
  exact Wt.sub (L' := [(0, vr 64), (1, vr 61), (2, vr n2), (3, vi x3), (4, vi x4)]) [0, 1, 2, 3, 4] rfl (b_L_begins_b376 hp hk hq hB G245 h245 hF (by omega) (by omega))
def f_L_begins_b351 (N : Nat) (xs : Nat → Int32) (rec245 : Nat → Int32 → Int32 → Mem → Option (Int32 × Mem)) (n2 : Nat) (x3 : Int32) (x4 : Int32) (x5 : Int32) (ns0 : Nat) (M : Mem) : Option (Int32 × Mem) :=
  gd (1000 ≤ ns0 ∧ dsc M ns0 = 11 ∧ ns0 - 753 < M.2.2.2) <|
  cl (f_J4_append_15ec4 ns0 410 M) fun o1 M1m =>
  f_L_begins_b356 N xs rec245 n2 x3 x4 x5 o1 M1m
set_option maxRecDepth 100000 in
set_option maxHeartbeats 4000000 in
theorem m_L_begins_b351 {N : Nat} {xs : Nat → Int32} {rec245 : Nat → Int32 → Int32 → Mem → Option (Int32 × Mem)} (G245 : (∀ (n2 : Nat) (x3 : Int32) (x4 : Int32) (M Z : Mem) (r : Int32), rec245 n2 x3 x4 M = some (r, Z) → GX M Z)) {n2 : Nat} {x3 : Int32} {x4 : Int32} {x5 : Int32} {ns0 : Nat} {M Z : Mem} {r : Int32} (h : f_L_begins_b351 N xs rec245 n2 x3 x4 x5 ns0 M = some (r, Z)) : GX M Z := by
  unfold f_L_begins_b351 at h
  obtain ⟨gq0, h⟩ := gdS h
  obtain ⟨o1, M1m, c_M1m, h⟩ := clS h
  have q_M1m : GX M M1m := GX.tr (GX.refl M) (m_J4_append_15ec4 c_M1m)
  exact GX.tr q_M1m (m_L_begins_b356 G245 h)
set_option maxRecDepth 100000 in
set_option maxHeartbeats 4000000 in
theorem b_L_begins_b351 {K : Kt} {X : Xt} (hp : St K) (hk : KC K) {N : Nat} {xs : Nat → Int32} (hq : KScr K N xs) {mc ms : Nat} (hB : Bx K X { frames := 9, cells := mc, slots := ms, locals := 200 } cL_begins 10 RL (some .boolean)) {r : Int32} {M1 : Mem} {rec245 : Nat → Int32 → Int32 → Mem → Option (Int32 × Mem)}
    (G245 : (∀ (n2 : Nat) (x3 : Int32) (x4 : Int32) (M Z : Mem) (r : Int32), rec245 n2 x3 x4 M = some (r, Z) → GX M Z)) (h245 : (∀ (n2 : Nat) (x3 : Int32) (x4 : Int32) (ce sl : Nat) (M : Mem), rec245 n2 x3 x4 M = some (r, M1) → mc + M.2.2.2 = ce + M1.2.2.2 → ms + szM M = sl + szM M1 → Wt K X (QM K X (some (vi r)) M1 mc ms) ce sl M 245 [(0, vr 64), (1, vr 61), (2, vr n2), (3, vi x3), (4, vi x4)] [])) {n2 : Nat} {x3 : Int32} {x4 : Int32} {x5 : Int32} {ns0 : Nat} {ce sl : Nat} {M : Mem} (hF : f_L_begins_b351 N xs rec245 n2 x3 x4 x5 ns0 M = some (r, M1)) (hn : mc + M.2.2.2 = ce + M1.2.2.2) (hz : ms + szM M = sl + szM M1) : Wt K X (QM K X (some (vi r)) M1 mc ms) ce sl M 351 [(0, vr 64), (1, vr 61), (2, vr n2), (3, vi x3), (4, vi x4), (5, vi x5)] [vr ns0] := by
  have hg := m_L_begins_b351 G245 hF
  have hg1 := hg.1
  have hg2 := hg.2.1
  unfold f_L_begins_b351 at hF
  refine w_ldcs hB hp 410 (by decide) dL_begins_351 ?_
  obtain ⟨g1, hF⟩ := gdS hF
  obtain ⟨o1, M1m, hc_M1m, hF⟩ := clS hF
  have x_M1m := m_J4_append_15ec4 hc_M1m
  have xa_M1m := x_M1m.1
  have xb_M1m := x_M1m.2.1
  have hg3 := m_L_begins_b356 G245 hF
  have hg4 := hg3.1
  have hg5 := hg3.2.1
  refine w_callV (M1 := M1m) hB (ci := 10) (As := [vr 410]) (st := []) cw_L_40 q_612 q_613 rfl (dqM g1) (c_J4_append_15ec4 hp hk hc_M1m) ⟨rfl, rfl⟩ ⟨Nat.le_of_ble_eq_true rfl, Nat.le_of_ble_eq_true rfl⟩ ⟨show ce + (M1m.2.2.2 - M.2.2.2) ≤ mc by omega, show sl + (szM M1m - szM M) ≤ ms by omega⟩ rfl (Nat.le_of_ble_eq_true rfl) dL_begins_353 rfl ?_ (Or.inr (by omega))
  exact Wt.sub (L' := [(0, vr 64), (1, vr 61), (2, vr n2), (3, vi x3), (4, vi x4), (5, vi x5)]) [0, 1, 2, 3, 4, 5] rfl (b_L_begins_b356 hp hk hq hB G245 h245 hF (by omega) (by omega))
def f_L_begins_b346 (N : Nat) (xs : Nat → Int32) (rec245 : Nat → Int32 → Int32 → Mem → Option (Int32 × Mem)) (n2 : Nat) (x3 : Int32) (x4 : Int32) (x5 : Int32) (ns0 : Nat) (M : Mem) : Option (Int32 × Mem) :=
  gd (1000 ≤ ns0 ∧ dsc M ns0 = 11 ∧ ns0 - 753 < M.2.2.2) <|
  cl (f_J4_append_bf812 ns0 x5 M) fun o1 M1m =>
  f_L_begins_b351 N xs rec245 n2 x3 x4 x5 o1 M1m
set_option maxRecDepth 100000 in
set_option maxHeartbeats 4000000 in
theorem m_L_begins_b346 {N : Nat} {xs : Nat → Int32} {rec245 : Nat → Int32 → Int32 → Mem → Option (Int32 × Mem)} (G245 : (∀ (n2 : Nat) (x3 : Int32) (x4 : Int32) (M Z : Mem) (r : Int32), rec245 n2 x3 x4 M = some (r, Z) → GX M Z)) {n2 : Nat} {x3 : Int32} {x4 : Int32} {x5 : Int32} {ns0 : Nat} {M Z : Mem} {r : Int32} (h : f_L_begins_b346 N xs rec245 n2 x3 x4 x5 ns0 M = some (r, Z)) : GX M Z := by
  unfold f_L_begins_b346 at h
  obtain ⟨gq0, h⟩ := gdS h
  obtain ⟨o1, M1m, c_M1m, h⟩ := clS h
  have q_M1m : GX M M1m := GX.tr (GX.refl M) (m_J4_append_bf812 c_M1m)
  exact GX.tr q_M1m (m_L_begins_b351 G245 h)
set_option maxRecDepth 100000 in
set_option maxHeartbeats 4000000 in
theorem b_L_begins_b346 {K : Kt} {X : Xt} (hp : St K) (hk : KC K) {N : Nat} {xs : Nat → Int32} (hq : KScr K N xs) {mc ms : Nat} (hB : Bx K X { frames := 9, cells := mc, slots := ms, locals := 200 } cL_begins 10 RL (some .boolean)) {r : Int32} {M1 : Mem} {rec245 : Nat → Int32 → Int32 → Mem → Option (Int32 × Mem)}
    (G245 : (∀ (n2 : Nat) (x3 : Int32) (x4 : Int32) (M Z : Mem) (r : Int32), rec245 n2 x3 x4 M = some (r, Z) → GX M Z)) (h245 : (∀ (n2 : Nat) (x3 : Int32) (x4 : Int32) (ce sl : Nat) (M : Mem), rec245 n2 x3 x4 M = some (r, M1) → mc + M.2.2.2 = ce + M1.2.2.2 → ms + szM M = sl + szM M1 → Wt K X (QM K X (some (vi r)) M1 mc ms) ce sl M 245 [(0, vr 64), (1, vr 61), (2, vr n2), (3, vi x3), (4, vi x4)] [])) {n2 : Nat} {x3 : Int32} {x4 : Int32} {x5 : Int32} {ns0 : Nat} {ce sl : Nat} {M : Mem} (hF : f_L_begins_b346 N xs rec245 n2 x3 x4 x5 ns0 M = some (r, M1)) (hn : mc + M.2.2.2 = ce + M1.2.2.2) (hz : ms + szM M = sl + szM M1) : Wt K X (QM K X (some (vi r)) M1 mc ms) ce sl M 346 [(0, vr 64), (1, vr 61), (2, vr n2), (3, vi x3), (4, vi x4), (5, vi x5)] [vr ns0] := by
  have hg := m_L_begins_b346 G245 hF
  have hg1 := hg.1
  have hg2 := hg.2.1
  unfold f_L_begins_b346 at hF
  refine w_iload hB 5 dL_begins_346 rfl ?_
  obtain ⟨g1, hF⟩ := gdS hF
  obtain ⟨o1, M1m, hc_M1m, hF⟩ := clS hF
  have x_M1m := m_J4_append_bf812 hc_M1m
  have xa_M1m := x_M1m.1
  have xb_M1m := x_M1m.2.1
  have hg3 := m_L_begins_b351 G245 hF
  have hg4 := hg3.1
  have hg5 := hg3.2.1
  refine w_callV (M1 := M1m) hB (ci := 10) (As := [vi x5]) (st := []) cw_L_53 q_761 q_762 rfl (dqM g1) (c_J4_append_bf812 hp hk hc_M1m) ⟨rfl, rfl⟩ ⟨Nat.le_of_ble_eq_true rfl, Nat.le_of_ble_eq_true rfl⟩ ⟨show ce + (M1m.2.2.2 - M.2.2.2) ≤ mc by omega, show sl + (szM M1m - szM M) ≤ ms by omega⟩ rfl (Nat.le_of_ble_eq_true rfl) dL_begins_348 rfl ?_ (Or.inr (by omega))
  exact Wt.sub (L' := [(0, vr 64), (1, vr 61), (2, vr n2), (3, vi x3), (4, vi x4), (5, vi x5)]) [0, 1, 2, 3, 4, 5] rfl (b_L_begins_b351 hp hk hq hB G245 h245 hF (by omega) (by omega))
def f_L_begins_b340 (N : Nat) (xs : Nat → Int32) (rec245 : Nat → Int32 → Int32 → Mem → Option (Int32 × Mem)) (n2 : Nat) (x3 : Int32) (x4 : Int32) (x5 : Int32) (M : Mem) : Option (Int32 × Mem) :=
  gd (1000 ≤ n2 ∧ dsc M n2 = 11 ∧ n2 - 753 < M.2.2.2) <|
  cl (f_J4_append_15ec4 n2 401 M) fun o1 M1m =>
  f_L_begins_b346 N xs rec245 n2 x3 x4 x5 o1 M1m
set_option maxRecDepth 100000 in
set_option maxHeartbeats 4000000 in
theorem m_L_begins_b340 {N : Nat} {xs : Nat → Int32} {rec245 : Nat → Int32 → Int32 → Mem → Option (Int32 × Mem)} (G245 : (∀ (n2 : Nat) (x3 : Int32) (x4 : Int32) (M Z : Mem) (r : Int32), rec245 n2 x3 x4 M = some (r, Z) → GX M Z)) {n2 : Nat} {x3 : Int32} {x4 : Int32} {x5 : Int32} {M Z : Mem} {r : Int32} (h : f_L_begins_b340 N xs rec245 n2 x3 x4 x5 M = some (r, Z)) : GX M Z := by
  unfold f_L_begins_b340 at h
  obtain ⟨gq0, h⟩ := gdS h
  obtain ⟨o1, M1m, c_M1m, h⟩ := clS h
  have q_M1m : GX M M1m := GX.tr (GX.refl M) (m_J4_append_15ec4 c_M1m)
  exact GX.tr q_M1m (m_L_begins_b346 G245 h)
set_option maxRecDepth 100000 in
set_option maxHeartbeats 4000000 in
theorem b_L_begins_b340 {K : Kt} {X : Xt} (hp : St K) (hk : KC K) {N : Nat} {xs : Nat → Int32} (hq : KScr K N xs) {mc ms : Nat} (hB : Bx K X { frames := 9, cells := mc, slots := ms, locals := 200 } cL_begins 10 RL (some .boolean)) {r : Int32} {M1 : Mem} {rec245 : Nat → Int32 → Int32 → Mem → Option (Int32 × Mem)}
    (G245 : (∀ (n2 : Nat) (x3 : Int32) (x4 : Int32) (M Z : Mem) (r : Int32), rec245 n2 x3 x4 M = some (r, Z) → GX M Z)) (h245 : (∀ (n2 : Nat) (x3 : Int32) (x4 : Int32) (ce sl : Nat) (M : Mem), rec245 n2 x3 x4 M = some (r, M1) → mc + M.2.2.2 = ce + M1.2.2.2 → ms + szM M = sl + szM M1 → Wt K X (QM K X (some (vi r)) M1 mc ms) ce sl M 245 [(0, vr 64), (1, vr 61), (2, vr n2), (3, vi x3), (4, vi x4)] [])) {n2 : Nat} {x3 : Int32} {x4 : Int32} {x5 : Int32} {ce sl : Nat} {M : Mem} (hF : f_L_begins_b340 N xs rec245 n2 x3 x4 x5 M = some (r, M1)) (hn : mc + M.2.2.2 = ce + M1.2.2.2) (hz : ms + szM M = sl + szM M1) : Wt K X (QM K X (some (vi r)) M1 mc ms) ce sl M 340 [(0, vr 64), (1, vr 61), (2, vr n2), (3, vi x3), (4, vi x4), (5, vi x5)] [] := by
  have hg := m_L_begins_b340 G245 hF
  have hg1 := hg.1
  have hg2 := hg.2.1
  unfold f_L_begins_b340 at hF
  refine w_aload_n hB 2 dL_begins_340 rfl rfl ?_
  refine w_ldcs hB hp 401 (by decide) dL_begins_341 ?_
  obtain ⟨g1, hF⟩ := gdS hF
  obtain ⟨o1, M1m, hc_M1m, hF⟩ := clS hF
  have x_M1m := m_J4_append_15ec4 hc_M1m
  have xa_M1m := x_M1m.1
  have xb_M1m := x_M1m.2.1
  have hg3 := m_L_begins_b346 G245 hF
  have hg4 := hg3.1
  have hg5 := hg3.2.1
  refine w_callV (M1 := M1m) hB (ci := 10) (As := [vr 401]) (st := []) cw_L_40 q_612 q_613 rfl (dqM g1) (c_J4_append_15ec4 hp hk hc_M1m) ⟨rfl, rfl⟩ ⟨Nat.le_of_ble_eq_true rfl, Nat.le_of_ble_eq_true rfl⟩ ⟨show ce + (M1m.2.2.2 - M.2.2.2) ≤ mc by omega, show sl + (szM M1m - szM M) ≤ ms by omega⟩ rfl (Nat.le_of_ble_eq_true rfl) dL_begins_343 rfl ?_ (Or.inr (by omega))
  exact Wt.sub (L' := [(0, vr 64), (1, vr 61), (2, vr n2), (3, vi x3), (4, vi x4), (5, vi x5)]) [0, 1, 2, 3, 4, 5] rfl (b_L_begins_b346 hp hk hq hB G245 h245 hF (by omega) (by omega))
def f_L_begins_b339 (N : Nat) (xs : Nat → Int32) (rec245 : Nat → Int32 → Int32 → Mem → Option (Int32 × Mem)) (n2 : Nat) (x3 : Int32) (x4 : Int32) (x5 : Int32) (ns0 : Nat) (M : Mem) : Option (Int32 × Mem) :=
  f_L_begins_b340 N xs rec245 n2 x3 x4 x5 M
set_option maxRecDepth 100000 in
set_option maxHeartbeats 4000000 in
theorem m_L_begins_b339 {N : Nat} {xs : Nat → Int32} {rec245 : Nat → Int32 → Int32 → Mem → Option (Int32 × Mem)} (G245 : (∀ (n2 : Nat) (x3 : Int32) (x4 : Int32) (M Z : Mem) (r : Int32), rec245 n2 x3 x4 M = some (r, Z) → GX M Z)) {n2 : Nat} {x3 : Int32} {x4 : Int32} {x5 : Int32} {ns0 : Nat} {M Z : Mem} {r : Int32} (h : f_L_begins_b339 N xs rec245 n2 x3 x4 x5 ns0 M = some (r, Z)) : GX M Z := by
  unfold f_L_begins_b339 at h
  exact GX.tr (GX.refl M) (m_L_begins_b340 G245 h)
set_option maxRecDepth 100000 in
set_option maxHeartbeats 4000000 in
theorem b_L_begins_b339 {K : Kt} {X : Xt} (hp : St K) (hk : KC K) {N : Nat} {xs : Nat → Int32} (hq : KScr K N xs) {mc ms : Nat} (hB : Bx K X { frames := 9, cells := mc, slots := ms, locals := 200 } cL_begins 10 RL (some .boolean)) {r : Int32} {M1 : Mem} {rec245 : Nat → Int32 → Int32 → Mem → Option (Int32 × Mem)}
    (G245 : (∀ (n2 : Nat) (x3 : Int32) (x4 : Int32) (M Z : Mem) (r : Int32), rec245 n2 x3 x4 M = some (r, Z) → GX M Z)) (h245 : (∀ (n2 : Nat) (x3 : Int32) (x4 : Int32) (ce sl : Nat) (M : Mem), rec245 n2 x3 x4 M = some (r, M1) → mc + M.2.2.2 = ce + M1.2.2.2 → ms + szM M = sl + szM M1 → Wt K X (QM K X (some (vi r)) M1 mc ms) ce sl M 245 [(0, vr 64), (1, vr 61), (2, vr n2), (3, vi x3), (4, vi x4)] [])) {n2 : Nat} {x3 : Int32} {x4 : Int32} {x5 : Int32} {ns0 : Nat} {ce sl : Nat} {M : Mem} (hF : f_L_begins_b339 N xs rec245 n2 x3 x4 x5 ns0 M = some (r, M1)) (hn : mc + M.2.2.2 = ce + M1.2.2.2) (hz : ms + szM M = sl + szM M1) : Wt K X (QM K X (some (vi r)) M1 mc ms) ce sl M 339 [(0, vr 64), (1, vr 61), (2, vr n2), (3, vi x3), (4, vi x4), (5, vi x5)] [vr ns0] := by
  have hg := m_L_begins_b339 G245 hF
  have hg1 := hg.1
  have hg2 := hg.2.1
  unfold f_L_begins_b339 at hF
  refine w_pop hB rfl dL_begins_339 ?_
  exact Wt.sub (L' := [(0, vr 64), (1, vr 61), (2, vr n2), (3, vi x3), (4, vi x4), (5, vi x5)]) [0, 1, 2, 3, 4, 5] rfl (b_L_begins_b340 hp hk hq hB G245 h245 hF (by omega) (by omega))
def f_L_begins_b320 (N : Nat) (xs : Nat → Int32) (rec245 : Nat → Int32 → Int32 → Mem → Option (Int32 × Mem)) (n2 : Nat) (x3 : Int32) (x4 : Int32) (x5 : Int32) (M : Mem) : Option (Int32 × Mem) :=
  cl (f_L_some N xs (23 + x4) 2 M) fun r1 M1m =>
  if r1 = 0 then
    gd (1000 ≤ n2 ∧ dsc M1m n2 = 11 ∧ n2 - 753 < M1m.2.2.2) <|
    cl (f_J4_append_15ec4 n2 409 M1m) fun o1 M2m =>
    f_L_begins_b339 N xs rec245 n2 x3 x4 x5 o1 M2m
  else
    f_L_begins_b340 N xs rec245 n2 x3 x4 x5 M1m
set_option maxRecDepth 100000 in
set_option maxHeartbeats 4000000 in
theorem m_L_begins_b320 {N : Nat} {xs : Nat → Int32} {rec245 : Nat → Int32 → Int32 → Mem → Option (Int32 × Mem)} (G245 : (∀ (n2 : Nat) (x3 : Int32) (x4 : Int32) (M Z : Mem) (r : Int32), rec245 n2 x3 x4 M = some (r, Z) → GX M Z)) {n2 : Nat} {x3 : Int32} {x4 : Int32} {x5 : Int32} {M Z : Mem} {r : Int32} (h : f_L_begins_b320 N xs rec245 n2 x3 x4 x5 M = some (r, Z)) : GX M Z := by
  unfold f_L_begins_b320 at h
  obtain ⟨r1, M1m, c_M1m, h⟩ := clS h
  have q_M1m : GX M M1m := GX.tr (GX.refl M) ((k_L_some c_M1m).gx)
  rcases ifS h with ⟨-, h⟩ | ⟨-, h⟩
  · obtain ⟨gq2, h⟩ := gdS h
    obtain ⟨o1, M2m, c_M2m, h⟩ := clS h
    have q_M2m : GX M M2m := GX.tr q_M1m (m_J4_append_15ec4 c_M2m)
    exact GX.tr q_M2m (m_L_begins_b339 G245 h)
  · exact GX.tr q_M1m (m_L_begins_b340 G245 h)
set_option maxRecDepth 100000 in
set_option maxHeartbeats 4000000 in
theorem b_L_begins_b320 {K : Kt} {X : Xt} (hp : St K) (hk : KC K) {N : Nat} {xs : Nat → Int32} (hq : KScr K N xs) {mc ms : Nat} (hB : Bx K X { frames := 9, cells := mc, slots := ms, locals := 200 } cL_begins 10 RL (some .boolean)) {r : Int32} {M1 : Mem} {rec245 : Nat → Int32 → Int32 → Mem → Option (Int32 × Mem)}
    (G245 : (∀ (n2 : Nat) (x3 : Int32) (x4 : Int32) (M Z : Mem) (r : Int32), rec245 n2 x3 x4 M = some (r, Z) → GX M Z)) (h245 : (∀ (n2 : Nat) (x3 : Int32) (x4 : Int32) (ce sl : Nat) (M : Mem), rec245 n2 x3 x4 M = some (r, M1) → mc + M.2.2.2 = ce + M1.2.2.2 → ms + szM M = sl + szM M1 → Wt K X (QM K X (some (vi r)) M1 mc ms) ce sl M 245 [(0, vr 64), (1, vr 61), (2, vr n2), (3, vi x3), (4, vi x4)] [])) {n2 : Nat} {x3 : Int32} {x4 : Int32} {x5 : Int32} {ce sl : Nat} {M : Mem} (hF : f_L_begins_b320 N xs rec245 n2 x3 x4 x5 M = some (r, M1)) (hn : mc + M.2.2.2 = ce + M1.2.2.2) (hz : ms + szM M = sl + szM M1) : Wt K X (QM K X (some (vi r)) M1 mc ms) ce sl M 320 [(0, vr 64), (1, vr 61), (2, vr n2), (3, vi x3), (4, vi x4), (5, vi x5)] [] := by
  have hg := m_L_begins_b320 G245 hF
  have hg1 := hg.1
  have hg2 := hg.2.1
  unfold f_L_begins_b320 at hF
  refine w_aload_n hB 1 dL_begins_320 rfl rfl ?_
  refine w_bipush hB 23 (by decide) dL_begins_321 ?_
  refine w_iload hB 4 dL_begins_323 rfl ?_
  refine w_iadd hB dL_begins_325 ?_
  refine w_iconst hB 2 (by decide) dL_begins_326 ?_
  obtain ⟨r1, M1m, hc_M1m, hF⟩ := clS hF
  have q_M1m : EQ M M1m := k_L_some hc_M1m
  have x_M1m := q_M1m.gx
  have n_M1m := q_M1m.1
  have z_M1m := q_M1m.sz
  refine w_callS (M1 := M1m) hB (As := [vr 61, vi (23 + x4), vi 2]) (st := []) cw_L_49 q_753 (c_L_some hp hq hc_M1m) ⟨rfl, rfl⟩ ⟨Nat.le_of_ble_eq_true rfl, Nat.le_of_ble_eq_true rfl⟩ ⟨show ce ≤ mc by omega, show sl ≤ ms by omega⟩ rfl (Nat.le_of_ble_eq_true rfl) dL_begins_327 rfl ?_ (Or.inl rfl)
  refine w_if_ne hB 340 dL_begins_330 (by decide) (fun hc => ?_) (fun hc => ?_)
  · replace hF := ifF hc hF
    exact Wt.sub (L' := [(0, vr 64), (1, vr 61), (2, vr n2), (3, vi x3), (4, vi x4), (5, vi x5)]) [0, 1, 2, 3, 4, 5] rfl (b_L_begins_b340 hp hk hq hB G245 h245 hF (by omega) (by omega))
  · replace hF := ifT hc hF
    refine w_aload_n hB 2 dL_begins_333 rfl rfl ?_
    refine w_ldcs hB hp 409 (by decide) dL_begins_334 ?_
    obtain ⟨g1, hF⟩ := gdS hF
    obtain ⟨o1, M2m, hc_M2m, hF⟩ := clS hF
    have x_M2m := m_J4_append_15ec4 hc_M2m
    have xa_M2m := x_M2m.1
    have xb_M2m := x_M2m.2.1
    have hg3 := m_L_begins_b339 G245 hF
    have hg4 := hg3.1
    have hg5 := hg3.2.1
    refine w_callV (M1 := M2m) hB (ci := 10) (As := [vr 409]) (st := []) cw_L_40 q_612 q_613 rfl (dqM g1) (c_J4_append_15ec4 hp hk hc_M2m) ⟨rfl, rfl⟩ ⟨Nat.le_of_ble_eq_true rfl, Nat.le_of_ble_eq_true rfl⟩ ⟨show ce + (M2m.2.2.2 - M1m.2.2.2) ≤ mc by omega, show sl + (szM M2m - szM M1m) ≤ ms by omega⟩ rfl (Nat.le_of_ble_eq_true rfl) dL_begins_336 rfl ?_ (Or.inr (by omega))
    exact Wt.sub (L' := [(0, vr 64), (1, vr 61), (2, vr n2), (3, vi x3), (4, vi x4), (5, vi x5)]) [0, 1, 2, 3, 4, 5] rfl (b_L_begins_b339 hp hk hq hB G245 h245 hF (by omega) (by omega))
def f_L_begins_b319 (N : Nat) (xs : Nat → Int32) (rec245 : Nat → Int32 → Int32 → Mem → Option (Int32 × Mem)) (n2 : Nat) (x3 : Int32) (x4 : Int32) (x5 : Int32) (ns0 : Nat) (M : Mem) : Option (Int32 × Mem) :=
  f_L_begins_b320 N xs rec245 n2 x3 x4 x5 M
set_option maxRecDepth 100000 in
set_option maxHeartbeats 4000000 in
theorem m_L_begins_b319 {N : Nat} {xs : Nat → Int32} {rec245 : Nat → Int32 → Int32 → Mem → Option (Int32 × Mem)} (G245 : (∀ (n2 : Nat) (x3 : Int32) (x4 : Int32) (M Z : Mem) (r : Int32), rec245 n2 x3 x4 M = some (r, Z) → GX M Z)) {n2 : Nat} {x3 : Int32} {x4 : Int32} {x5 : Int32} {ns0 : Nat} {M Z : Mem} {r : Int32} (h : f_L_begins_b319 N xs rec245 n2 x3 x4 x5 ns0 M = some (r, Z)) : GX M Z := by
  unfold f_L_begins_b319 at h
  exact GX.tr (GX.refl M) (m_L_begins_b320 G245 h)
set_option maxRecDepth 100000 in
set_option maxHeartbeats 4000000 in
theorem b_L_begins_b319 {K : Kt} {X : Xt} (hp : St K) (hk : KC K) {N : Nat} {xs : Nat → Int32} (hq : KScr K N xs) {mc ms : Nat} (hB : Bx K X { frames := 9, cells := mc, slots := ms, locals := 200 } cL_begins 10 RL (some .boolean)) {r : Int32} {M1 : Mem} {rec245 : Nat → Int32 → Int32 → Mem → Option (Int32 × Mem)}
    (G245 : (∀ (n2 : Nat) (x3 : Int32) (x4 : Int32) (M Z : Mem) (r : Int32), rec245 n2 x3 x4 M = some (r, Z) → GX M Z)) (h245 : (∀ (n2 : Nat) (x3 : Int32) (x4 : Int32) (ce sl : Nat) (M : Mem), rec245 n2 x3 x4 M = some (r, M1) → mc + M.2.2.2 = ce + M1.2.2.2 → ms + szM M = sl + szM M1 → Wt K X (QM K X (some (vi r)) M1 mc ms) ce sl M 245 [(0, vr 64), (1, vr 61), (2, vr n2), (3, vi x3), (4, vi x4)] [])) {n2 : Nat} {x3 : Int32} {x4 : Int32} {x5 : Int32} {ns0 : Nat} {ce sl : Nat} {M : Mem} (hF : f_L_begins_b319 N xs rec245 n2 x3 x4 x5 ns0 M = some (r, M1)) (hn : mc + M.2.2.2 = ce + M1.2.2.2) (hz : ms + szM M = sl + szM M1) : Wt K X (QM K X (some (vi r)) M1 mc ms) ce sl M 319 [(0, vr 64), (1, vr 61), (2, vr n2), (3, vi x3), (4, vi x4), (5, vi x5)] [vr ns0] := by
  have hg := m_L_begins_b319 G245 hF
  have hg1 := hg.1
  have hg2 := hg.2.1
  unfold f_L_begins_b319 at hF
  refine w_pop hB rfl dL_begins_319 ?_
  exact Wt.sub (L' := [(0, vr 64), (1, vr 61), (2, vr n2), (3, vi x3), (4, vi x4), (5, vi x5)]) [0, 1, 2, 3, 4, 5] rfl (b_L_begins_b320 hp hk hq hB G245 h245 hF (by omega) (by omega))
def f_L_begins_b299 (N : Nat) (xs : Nat → Int32) (rec245 : Nat → Int32 → Int32 → Mem → Option (Int32 × Mem)) (n2 : Nat) (x3 : Int32) (x4 : Int32) (x5 : Int32) (ns0 : Nat) (M : Mem) : Option (Int32 × Mem) :=
  cl (f_L_some N xs (21 + x4) 3 M) fun r1 M1m =>
  if r1 = 0 then
    gd (1000 ≤ n2 ∧ dsc M1m n2 = 11 ∧ n2 - 753 < M1m.2.2.2) <|
    cl (f_J4_append_15ec4 n2 408 M1m) fun o1 M2m =>
    f_L_begins_b319 N xs rec245 n2 x3 x4 x5 o1 M2m
  else
    f_L_begins_b320 N xs rec245 n2 x3 x4 x5 M1m
set_option maxRecDepth 100000 in
set_option maxHeartbeats 4000000 in
theorem m_L_begins_b299 {N : Nat} {xs : Nat → Int32} {rec245 : Nat → Int32 → Int32 → Mem → Option (Int32 × Mem)} (G245 : (∀ (n2 : Nat) (x3 : Int32) (x4 : Int32) (M Z : Mem) (r : Int32), rec245 n2 x3 x4 M = some (r, Z) → GX M Z)) {n2 : Nat} {x3 : Int32} {x4 : Int32} {x5 : Int32} {ns0 : Nat} {M Z : Mem} {r : Int32} (h : f_L_begins_b299 N xs rec245 n2 x3 x4 x5 ns0 M = some (r, Z)) : GX M Z := by
  unfold f_L_begins_b299 at h
  obtain ⟨r1, M1m, c_M1m, h⟩ := clS h
  have q_M1m : GX M M1m := GX.tr (GX.refl M) ((k_L_some c_M1m).gx)
  rcases ifS h with ⟨-, h⟩ | ⟨-, h⟩
  · obtain ⟨gq2, h⟩ := gdS h
    obtain ⟨o1, M2m, c_M2m, h⟩ := clS h
    have q_M2m : GX M M2m := GX.tr q_M1m (m_J4_append_15ec4 c_M2m)
    exact GX.tr q_M2m (m_L_begins_b319 G245 h)
  · exact GX.tr q_M1m (m_L_begins_b320 G245 h)
set_option maxRecDepth 100000 in
set_option maxHeartbeats 4000000 in
theorem b_L_begins_b299 {K : Kt} {X : Xt} (hp : St K) (hk : KC K) {N : Nat} {xs : Nat → Int32} (hq : KScr K N xs) {mc ms : Nat} (hB : Bx K X { frames := 9, cells := mc, slots := ms, locals := 200 } cL_begins 10 RL (some .boolean)) {r : Int32} {M1 : Mem} {rec245 : Nat → Int32 → Int32 → Mem → Option (Int32 × Mem)}
    (G245 : (∀ (n2 : Nat) (x3 : Int32) (x4 : Int32) (M Z : Mem) (r : Int32), rec245 n2 x3 x4 M = some (r, Z) → GX M Z)) (h245 : (∀ (n2 : Nat) (x3 : Int32) (x4 : Int32) (ce sl : Nat) (M : Mem), rec245 n2 x3 x4 M = some (r, M1) → mc + M.2.2.2 = ce + M1.2.2.2 → ms + szM M = sl + szM M1 → Wt K X (QM K X (some (vi r)) M1 mc ms) ce sl M 245 [(0, vr 64), (1, vr 61), (2, vr n2), (3, vi x3), (4, vi x4)] [])) {n2 : Nat} {x3 : Int32} {x4 : Int32} {x5 : Int32} {ns0 : Nat} {ce sl : Nat} {M : Mem} (hF : f_L_begins_b299 N xs rec245 n2 x3 x4 x5 ns0 M = some (r, M1)) (hn : mc + M.2.2.2 = ce + M1.2.2.2) (hz : ms + szM M = sl + szM M1) : Wt K X (QM K X (some (vi r)) M1 mc ms) ce sl M 299 [(0, vr 64), (1, vr 61), (2, vr n2), (3, vi x3), (4, vi x4), (5, vi x5)] [vr ns0] := by
  have hg := m_L_begins_b299 G245 hF
  have hg1 := hg.1
  have hg2 := hg.2.1
  unfold f_L_begins_b299 at hF
  refine w_pop hB rfl dL_begins_299 ?_
  refine w_aload_n hB 1 dL_begins_300 rfl rfl ?_
  refine w_bipush hB 21 (by decide) dL_begins_301 ?_
  refine w_iload hB 4 dL_begins_303 rfl ?_
  refine w_iadd hB dL_begins_305 ?_
  refine w_iconst hB 3 (by decide) dL_begins_306 ?_
  obtain ⟨r1, M1m, hc_M1m, hF⟩ := clS hF
  have q_M1m : EQ M M1m := k_L_some hc_M1m
  have x_M1m := q_M1m.gx
  have n_M1m := q_M1m.1
  have z_M1m := q_M1m.sz
  refine w_callS (M1 := M1m) hB (As := [vr 61, vi (21 + x4), vi 3]) (st := []) cw_L_49 q_753 (c_L_some hp hq hc_M1m) ⟨rfl, rfl⟩ ⟨Nat.le_of_ble_eq_true rfl, Nat.le_of_ble_eq_true rfl⟩ ⟨show ce ≤ mc by omega, show sl ≤ ms by omega⟩ rfl (Nat.le_of_ble_eq_true rfl) dL_begins_307 rfl ?_ (Or.inl rfl)
  refine w_if_ne hB 320 dL_begins_310 (by decide) (fun hc => ?_) (fun hc => ?_)
  · replace hF := ifF hc hF
    exact Wt.sub (L' := [(0, vr 64), (1, vr 61), (2, vr n2), (3, vi x3), (4, vi x4), (5, vi x5)]) [0, 1, 2, 3, 4, 5] rfl (b_L_begins_b320 hp hk hq hB G245 h245 hF (by omega) (by omega))
  · replace hF := ifT hc hF
    refine w_aload_n hB 2 dL_begins_313 rfl rfl ?_
    refine w_ldcs hB hp 408 (by decide) dL_begins_314 ?_
    obtain ⟨g1, hF⟩ := gdS hF
    obtain ⟨o1, M2m, hc_M2m, hF⟩ := clS hF
    have x_M2m := m_J4_append_15ec4 hc_M2m
    have xa_M2m := x_M2m.1
    have xb_M2m := x_M2m.2.1
    have hg3 := m_L_begins_b319 G245 hF
    have hg4 := hg3.1
    have hg5 := hg3.2.1
    refine w_callV (M1 := M2m) hB (ci := 10) (As := [vr 408]) (st := []) cw_L_40 q_612 q_613 rfl (dqM g1) (c_J4_append_15ec4 hp hk hc_M2m) ⟨rfl, rfl⟩ ⟨Nat.le_of_ble_eq_true rfl, Nat.le_of_ble_eq_true rfl⟩ ⟨show ce + (M2m.2.2.2 - M1m.2.2.2) ≤ mc by omega, show sl + (szM M2m - szM M1m) ≤ ms by omega⟩ rfl (Nat.le_of_ble_eq_true rfl) dL_begins_316 rfl ?_ (Or.inr (by omega))
    exact Wt.sub (L' := [(0, vr 64), (1, vr 61), (2, vr n2), (3, vi x3), (4, vi x4), (5, vi x5)]) [0, 1, 2, 3, 4, 5] rfl (b_L_begins_b319 hp hk hq hB G245 h245 hF (by omega) (by omega))
def f_L_begins_b283 (N : Nat) (xs : Nat → Int32) (rec245 : Nat → Int32 → Int32 → Mem → Option (Int32 × Mem)) (n2 : Nat) (x3 : Int32) (x4 : Int32) (x5 : Int32) (ns0 : Nat) (M : Mem) : Option (Int32 × Mem) :=
  cl (f_L_some N xs (19 + x4) 40 M) fun r1 M1m =>
  gd (1000 ≤ ns0 ∧ dsc M1m ns0 = 11 ∧ ns0 - 753 < M1m.2.2.2) <|
  cl (f_J4_append_bf812 ns0 (1 + r1) M1m) fun o1 M2m =>
  f_L_begins_b299 N xs rec245 n2 x3 x4 x5 o1 M2m
set_option maxRecDepth 100000 in
set_option maxHeartbeats 4000000 in
theorem m_L_begins_b283 {N : Nat} {xs : Nat → Int32} {rec245 : Nat → Int32 → Int32 → Mem → Option (Int32 × Mem)} (G245 : (∀ (n2 : Nat) (x3 : Int32) (x4 : Int32) (M Z : Mem) (r : Int32), rec245 n2 x3 x4 M = some (r, Z) → GX M Z)) {n2 : Nat} {x3 : Int32} {x4 : Int32} {x5 : Int32} {ns0 : Nat} {M Z : Mem} {r : Int32} (h : f_L_begins_b283 N xs rec245 n2 x3 x4 x5 ns0 M = some (r, Z)) : GX M Z := by
  unfold f_L_begins_b283 at h
  obtain ⟨r1, M1m, c_M1m, h⟩ := clS h
  have q_M1m : GX M M1m := GX.tr (GX.refl M) ((k_L_some c_M1m).gx)
  obtain ⟨gq1, h⟩ := gdS h
  obtain ⟨o1, M2m, c_M2m, h⟩ := clS h
  have q_M2m : GX M M2m := GX.tr q_M1m (m_J4_append_bf812 c_M2m)
  exact GX.tr q_M2m (m_L_begins_b299 G245 h)
set_option maxRecDepth 100000 in
set_option maxHeartbeats 4000000 in
theorem b_L_begins_b283 {K : Kt} {X : Xt} (hp : St K) (hk : KC K) {N : Nat} {xs : Nat → Int32} (hq : KScr K N xs) {mc ms : Nat} (hB : Bx K X { frames := 9, cells := mc, slots := ms, locals := 200 } cL_begins 10 RL (some .boolean)) {r : Int32} {M1 : Mem} {rec245 : Nat → Int32 → Int32 → Mem → Option (Int32 × Mem)}
    (G245 : (∀ (n2 : Nat) (x3 : Int32) (x4 : Int32) (M Z : Mem) (r : Int32), rec245 n2 x3 x4 M = some (r, Z) → GX M Z)) (h245 : (∀ (n2 : Nat) (x3 : Int32) (x4 : Int32) (ce sl : Nat) (M : Mem), rec245 n2 x3 x4 M = some (r, M1) → mc + M.2.2.2 = ce + M1.2.2.2 → ms + szM M = sl + szM M1 → Wt K X (QM K X (some (vi r)) M1 mc ms) ce sl M 245 [(0, vr 64), (1, vr 61), (2, vr n2), (3, vi x3), (4, vi x4)] [])) {n2 : Nat} {x3 : Int32} {x4 : Int32} {x5 : Int32} {ns0 : Nat} {ce sl : Nat} {M : Mem} (hF : f_L_begins_b283 N xs rec245 n2 x3 x4 x5 ns0 M = some (r, M1)) (hn : mc + M.2.2.2 = ce + M1.2.2.2) (hz : ms + szM M = sl + szM M1) : Wt K X (QM K X (some (vi r)) M1 mc ms) ce sl M 283 [(0, vr 64), (1, vr 61), (2, vr n2), (3, vi x3), (4, vi x4), (5, vi x5)] [vr ns0] := by
  have hg := m_L_begins_b283 G245 hF
  have hg1 := hg.1
  have hg2 := hg.2.1
  unfold f_L_begins_b283 at hF
  refine w_iconst hB 1 (by decide) dL_begins_283 ?_
  refine w_aload_n hB 1 dL_begins_284 rfl rfl ?_
  refine w_bipush hB 19 (by decide) dL_begins_285 ?_
  refine w_iload hB 4 dL_begins_287 rfl ?_
  refine w_iadd hB dL_begins_289 ?_
  refine w_bipush hB 40 (by decide) dL_begins_290 ?_
  obtain ⟨r1, M1m, hc_M1m, hF⟩ := clS hF
  have q_M1m : EQ M M1m := k_L_some hc_M1m
  have x_M1m := q_M1m.gx
  have n_M1m := q_M1m.1
  have z_M1m := q_M1m.sz
  refine w_callS (M1 := M1m) hB (As := [vr 61, vi (19 + x4), vi 40]) (st := [vi 1, vr ns0]) cw_L_49 q_753 (c_L_some hp hq hc_M1m) ⟨rfl, rfl⟩ ⟨Nat.le_of_ble_eq_true rfl, Nat.le_of_ble_eq_true rfl⟩ ⟨show ce ≤ mc by omega, show sl ≤ ms by omega⟩ rfl (Nat.le_of_ble_eq_true rfl) dL_begins_292 rfl ?_ (Or.inl rfl)
  refine w_iadd hB dL_begins_295 ?_
  obtain ⟨g1, hF⟩ := gdS hF
  obtain ⟨o1, M2m, hc_M2m, hF⟩ := clS hF
  have x_M2m := m_J4_append_bf812 hc_M2m
  have xa_M2m := x_M2m.1
  have xb_M2m := x_M2m.2.1
  have hg3 := m_L_begins_b299 G245 hF
  have hg4 := hg3.1
  have hg5 := hg3.2.1
  refine w_callV (M1 := M2m) hB (ci := 10) (As := [vi (1 + r1)]) (st := []) cw_L_53 q_761 q_762 rfl (dqM g1) (c_J4_append_bf812 hp hk hc_M2m) ⟨rfl, rfl⟩ ⟨Nat.le_of_ble_eq_true rfl, Nat.le_of_ble_eq_true rfl⟩ ⟨show ce + (M2m.2.2.2 - M1m.2.2.2) ≤ mc by omega, show sl + (szM M2m - szM M1m) ≤ ms by omega⟩ rfl (Nat.le_of_ble_eq_true rfl) dL_begins_296 rfl ?_ (Or.inr (by omega))
  exact Wt.sub (L' := [(0, vr 64), (1, vr 61), (2, vr n2), (3, vi x3), (4, vi x4), (5, vi x5)]) [0, 1, 2, 3, 4, 5] rfl (b_L_begins_b299 hp hk hq hB G245 h245 hF (by omega) (by omega))
def f_L_begins_b278 (N : Nat) (xs : Nat → Int32) (rec245 : Nat → Int32 → Int32 → Mem → Option (Int32 × Mem)) (n2 : Nat) (x3 : Int32) (x4 : Int32) (x5 : Int32) (ns0 : Nat) (M : Mem) : Option (Int32 × Mem) :=
  gd (1000 ≤ ns0 ∧ dsc M ns0 = 11 ∧ ns0 - 753 < M.2.2.2) <|
  cl (f_J4_append_15ec4 ns0 401 M) fun o1 M1m =>
  f_L_begins_b283 N xs rec245 n2 x3 x4 x5 o1 M1m
set_option maxRecDepth 100000 in
set_option maxHeartbeats 4000000 in
theorem m_L_begins_b278 {N : Nat} {xs : Nat → Int32} {rec245 : Nat → Int32 → Int32 → Mem → Option (Int32 × Mem)} (G245 : (∀ (n2 : Nat) (x3 : Int32) (x4 : Int32) (M Z : Mem) (r : Int32), rec245 n2 x3 x4 M = some (r, Z) → GX M Z)) {n2 : Nat} {x3 : Int32} {x4 : Int32} {x5 : Int32} {ns0 : Nat} {M Z : Mem} {r : Int32} (h : f_L_begins_b278 N xs rec245 n2 x3 x4 x5 ns0 M = some (r, Z)) : GX M Z := by
  unfold f_L_begins_b278 at h
  obtain ⟨gq0, h⟩ := gdS h
  obtain ⟨o1, M1m, c_M1m, h⟩ := clS h
  have q_M1m : GX M M1m := GX.tr (GX.refl M) (m_J4_append_15ec4 c_M1m)
  exact GX.tr q_M1m (m_L_begins_b283 G245 h)
set_option maxRecDepth 100000 in
set_option maxHeartbeats 4000000 in
theorem b_L_begins_b278 {K : Kt} {X : Xt} (hp : St K) (hk : KC K) {N : Nat} {xs : Nat → Int32} (hq : KScr K N xs) {mc ms : Nat} (hB : Bx K X { frames := 9, cells := mc, slots := ms, locals := 200 } cL_begins 10 RL (some .boolean)) {r : Int32} {M1 : Mem} {rec245 : Nat → Int32 → Int32 → Mem → Option (Int32 × Mem)}
    (G245 : (∀ (n2 : Nat) (x3 : Int32) (x4 : Int32) (M Z : Mem) (r : Int32), rec245 n2 x3 x4 M = some (r, Z) → GX M Z)) (h245 : (∀ (n2 : Nat) (x3 : Int32) (x4 : Int32) (ce sl : Nat) (M : Mem), rec245 n2 x3 x4 M = some (r, M1) → mc + M.2.2.2 = ce + M1.2.2.2 → ms + szM M = sl + szM M1 → Wt K X (QM K X (some (vi r)) M1 mc ms) ce sl M 245 [(0, vr 64), (1, vr 61), (2, vr n2), (3, vi x3), (4, vi x4)] [])) {n2 : Nat} {x3 : Int32} {x4 : Int32} {x5 : Int32} {ns0 : Nat} {ce sl : Nat} {M : Mem} (hF : f_L_begins_b278 N xs rec245 n2 x3 x4 x5 ns0 M = some (r, M1)) (hn : mc + M.2.2.2 = ce + M1.2.2.2) (hz : ms + szM M = sl + szM M1) : Wt K X (QM K X (some (vi r)) M1 mc ms) ce sl M 278 [(0, vr 64), (1, vr 61), (2, vr n2), (3, vi x3), (4, vi x4), (5, vi x5)] [vr ns0] := by
  have hg := m_L_begins_b278 G245 hF
  have hg1 := hg.1
  have hg2 := hg.2.1
  unfold f_L_begins_b278 at hF
  refine w_ldcs hB hp 401 (by decide) dL_begins_278 ?_
  obtain ⟨g1, hF⟩ := gdS hF
  obtain ⟨o1, M1m, hc_M1m, hF⟩ := clS hF
  have x_M1m := m_J4_append_15ec4 hc_M1m
  have xa_M1m := x_M1m.1
  have xb_M1m := x_M1m.2.1
  have hg3 := m_L_begins_b283 G245 hF
  have hg4 := hg3.1
  have hg5 := hg3.2.1
  refine w_callV (M1 := M1m) hB (ci := 10) (As := [vr 401]) (st := []) cw_L_40 q_612 q_613 rfl (dqM g1) (c_J4_append_15ec4 hp hk hc_M1m) ⟨rfl, rfl⟩ ⟨Nat.le_of_ble_eq_true rfl, Nat.le_of_ble_eq_true rfl⟩ ⟨show ce + (M1m.2.2.2 - M.2.2.2) ≤ mc by omega, show sl + (szM M1m - szM M) ≤ ms by omega⟩ rfl (Nat.le_of_ble_eq_true rfl) dL_begins_280 rfl ?_ (Or.inr (by omega))
  exact Wt.sub (L' := [(0, vr 64), (1, vr 61), (2, vr n2), (3, vi x3), (4, vi x4), (5, vi x5)]) [0, 1, 2, 3, 4, 5] rfl (b_L_begins_b283 hp hk hq hB G245 h245 hF (by omega) (by omega))
def f_L_begins_b269 (N : Nat) (xs : Nat → Int32) (rec245 : Nat → Int32 → Int32 → Mem → Option (Int32 × Mem)) (n2 : Nat) (x3 : Int32) (x4 : Int32) (x5 : Int32) (ns0 : Nat) (M : Mem) : Option (Int32 × Mem) :=
  gd (1000 ≤ ns0 ∧ dsc M ns0 = 11 ∧ ns0 - 753 < M.2.2.2) <|
  cl (f_J4_append_cf468 ns0 (((97 + x4).toUInt32 % 65536).toInt32) M) fun o1 M1m =>
  f_L_begins_b278 N xs rec245 n2 x3 x4 x5 o1 M1m
set_option maxRecDepth 100000 in
set_option maxHeartbeats 4000000 in
theorem m_L_begins_b269 {N : Nat} {xs : Nat → Int32} {rec245 : Nat → Int32 → Int32 → Mem → Option (Int32 × Mem)} (G245 : (∀ (n2 : Nat) (x3 : Int32) (x4 : Int32) (M Z : Mem) (r : Int32), rec245 n2 x3 x4 M = some (r, Z) → GX M Z)) {n2 : Nat} {x3 : Int32} {x4 : Int32} {x5 : Int32} {ns0 : Nat} {M Z : Mem} {r : Int32} (h : f_L_begins_b269 N xs rec245 n2 x3 x4 x5 ns0 M = some (r, Z)) : GX M Z := by
  unfold f_L_begins_b269 at h
  obtain ⟨gq0, h⟩ := gdS h
  obtain ⟨o1, M1m, c_M1m, h⟩ := clS h
  have q_M1m : GX M M1m := GX.tr (GX.refl M) (m_J4_append_cf468 c_M1m)
  exact GX.tr q_M1m (m_L_begins_b278 G245 h)
set_option maxRecDepth 100000 in
set_option maxHeartbeats 4000000 in
theorem b_L_begins_b269 {K : Kt} {X : Xt} (hp : St K) (hk : KC K) {N : Nat} {xs : Nat → Int32} (hq : KScr K N xs) {mc ms : Nat} (hB : Bx K X { frames := 9, cells := mc, slots := ms, locals := 200 } cL_begins 10 RL (some .boolean)) {r : Int32} {M1 : Mem} {rec245 : Nat → Int32 → Int32 → Mem → Option (Int32 × Mem)}
    (G245 : (∀ (n2 : Nat) (x3 : Int32) (x4 : Int32) (M Z : Mem) (r : Int32), rec245 n2 x3 x4 M = some (r, Z) → GX M Z)) (h245 : (∀ (n2 : Nat) (x3 : Int32) (x4 : Int32) (ce sl : Nat) (M : Mem), rec245 n2 x3 x4 M = some (r, M1) → mc + M.2.2.2 = ce + M1.2.2.2 → ms + szM M = sl + szM M1 → Wt K X (QM K X (some (vi r)) M1 mc ms) ce sl M 245 [(0, vr 64), (1, vr 61), (2, vr n2), (3, vi x3), (4, vi x4)] [])) {n2 : Nat} {x3 : Int32} {x4 : Int32} {x5 : Int32} {ns0 : Nat} {ce sl : Nat} {M : Mem} (hF : f_L_begins_b269 N xs rec245 n2 x3 x4 x5 ns0 M = some (r, M1)) (hn : mc + M.2.2.2 = ce + M1.2.2.2) (hz : ms + szM M = sl + szM M1) : Wt K X (QM K X (some (vi r)) M1 mc ms) ce sl M 269 [(0, vr 64), (1, vr 61), (2, vr n2), (3, vi x3), (4, vi x4), (5, vi x5)] [vr ns0] := by
  have hg := m_L_begins_b269 G245 hF
  have hg1 := hg.1
  have hg2 := hg.2.1
  unfold f_L_begins_b269 at hF
  refine w_bipush hB 97 (by decide) dL_begins_269 ?_
  refine w_iload hB 4 dL_begins_271 rfl ?_
  refine w_iadd hB dL_begins_273 ?_
  refine w_i2c hB dL_begins_274 ?_
  obtain ⟨g1, hF⟩ := gdS hF
  obtain ⟨o1, M1m, hc_M1m, hF⟩ := clS hF
  have x_M1m := m_J4_append_cf468 hc_M1m
  have xa_M1m := x_M1m.1
  have xb_M1m := x_M1m.2.1
  have hg3 := m_L_begins_b278 G245 hF
  have hg4 := hg3.1
  have hg5 := hg3.2.1
  refine w_callV (M1 := M1m) hB (ci := 10) (As := [vi (((97 + x4).toUInt32 % 65536).toInt32)]) (st := []) cw_L_44 q_730 q_731 rfl (dqM g1) (c_J4_append_cf468 hp hk hc_M1m) ⟨rfl, rfl⟩ ⟨Nat.le_of_ble_eq_true rfl, Nat.le_of_ble_eq_true rfl⟩ ⟨show ce + (M1m.2.2.2 - M.2.2.2) ≤ mc by omega, show sl + (szM M1m - szM M) ≤ ms by omega⟩ rfl (Nat.le_of_ble_eq_true rfl) dL_begins_275 rfl ?_ (Or.inr (by omega))
  exact Wt.sub (L' := [(0, vr 64), (1, vr 61), (2, vr n2), (3, vi x3), (4, vi x4), (5, vi x5)]) [0, 1, 2, 3, 4, 5] rfl (b_L_begins_b278 hp hk hq hB G245 h245 hF (by omega) (by omega))
def f_L_begins_b245_s (N : Nat) (xs : Nat → Int32) (rec245 : Nat → Int32 → Int32 → Mem → Option (Int32 × Mem)) (n2 : Nat) (x3 : Int32) (x4 : Int32) (M : Mem) : Option (Int32 × Mem) :=
  if 2 ≤ x4 then
    gd (1000 ≤ n2 ∧ dsc M n2 = 11 ∧ n2 - 753 < M.2.2.2) <|
    cl (f_J4_append_15ec4 n2 412 M) fun o1 M1m =>
    f_L_begins_b431 N xs n2 x3 o1 M1m
  else
    cl (f_L_some N xs (17 + x4) 3 M) fun r1 M2m =>
    gd (1000 ≤ n2 ∧ dsc M2m n2 = 11 ∧ n2 - 753 < M2m.2.2.2) <|
    cl (f_J4_append_15ec4 n2 407 M2m) fun o2 M3m =>
    f_L_begins_b269 N xs rec245 n2 x3 x4 r1 o2 M3m
set_option maxRecDepth 100000 in
set_option maxHeartbeats 4000000 in
theorem m_L_begins_b245_s {N : Nat} {xs : Nat → Int32} {rec245 : Nat → Int32 → Int32 → Mem → Option (Int32 × Mem)} (G245 : (∀ (n2 : Nat) (x3 : Int32) (x4 : Int32) (M Z : Mem) (r : Int32), rec245 n2 x3 x4 M = some (r, Z) → GX M Z)) {n2 : Nat} {x3 : Int32} {x4 : Int32} {M Z : Mem} {r : Int32} (h : f_L_begins_b245_s N xs rec245 n2 x3 x4 M = some (r, Z)) : GX M Z := by
  unfold f_L_begins_b245_s at h
  rcases ifS h with ⟨-, h⟩ | ⟨-, h⟩
  · obtain ⟨gq1, h⟩ := gdS h
    obtain ⟨o1, M1m, c_M1m, h⟩ := clS h
    have q_M1m : GX M M1m := GX.tr (GX.refl M) (m_J4_append_15ec4 c_M1m)
    exact GX.tr q_M1m (m_L_begins_b431 h)
  · obtain ⟨r1, M2m, c_M2m, h⟩ := clS h
    have q_M2m : GX M M2m := GX.tr (GX.refl M) ((k_L_some c_M2m).gx)
    obtain ⟨gq6, h⟩ := gdS h
    obtain ⟨o2, M3m, c_M3m, h⟩ := clS h
    have q_M3m : GX M M3m := GX.tr q_M2m (m_J4_append_15ec4 c_M3m)
    exact GX.tr q_M3m (m_L_begins_b269 G245 h)
set_option maxRecDepth 100000 in
set_option maxHeartbeats 4000000 in
theorem b_L_begins_b245_s {K : Kt} {X : Xt} (hp : St K) (hk : KC K) {N : Nat} {xs : Nat → Int32} (hq : KScr K N xs) {mc ms : Nat} (hB : Bx K X { frames := 9, cells := mc, slots := ms, locals := 200 } cL_begins 10 RL (some .boolean)) {r : Int32} {M1 : Mem} {rec245 : Nat → Int32 → Int32 → Mem → Option (Int32 × Mem)}
    (G245 : (∀ (n2 : Nat) (x3 : Int32) (x4 : Int32) (M Z : Mem) (r : Int32), rec245 n2 x3 x4 M = some (r, Z) → GX M Z)) (h245 : (∀ (n2 : Nat) (x3 : Int32) (x4 : Int32) (ce sl : Nat) (M : Mem), rec245 n2 x3 x4 M = some (r, M1) → mc + M.2.2.2 = ce + M1.2.2.2 → ms + szM M = sl + szM M1 → Wt K X (QM K X (some (vi r)) M1 mc ms) ce sl M 245 [(0, vr 64), (1, vr 61), (2, vr n2), (3, vi x3), (4, vi x4)] [])) {n2 : Nat} {x3 : Int32} {x4 : Int32} {ce sl : Nat} {M : Mem} (hF : f_L_begins_b245_s N xs rec245 n2 x3 x4 M = some (r, M1)) (hn : mc + M.2.2.2 = ce + M1.2.2.2) (hz : ms + szM M = sl + szM M1) : Wt K X (QM K X (some (vi r)) M1 mc ms) ce sl M 245 [(0, vr 64), (1, vr 61), (2, vr n2), (3, vi x3), (4, vi x4)] [] := by
  have hg := m_L_begins_b245_s G245 hF
  have hg1 := hg.1
  have hg2 := hg.2.1
  unfold f_L_begins_b245_s at hF
  refine w_iload hB 4 dL_begins_245 rfl ?_
  refine w_iconst hB 2 (by decide) dL_begins_247 ?_
  refine w_icmp_ge hB 425 dL_begins_248 (by decide) (fun hc => ?_) (fun hc => ?_)
  · replace hF := ifT hc hF
    refine w_aload_n hB 2 dL_begins_425 rfl rfl ?_
    refine w_ldcs hB hp 412 (by decide) dL_begins_426 ?_
    obtain ⟨g1, hF⟩ := gdS hF
    obtain ⟨o1, M1m, hc_M1m, hF⟩ := clS hF
    have x_M1m := m_J4_append_15ec4 hc_M1m
    have xa_M1m := x_M1m.1
    have xb_M1m := x_M1m.2.1
    have hg3 := m_L_begins_b431 hF
    have hg4 := hg3.1
    have hg5 := hg3.2.1
    refine w_callV (M1 := M1m) hB (ci := 10) (As := [vr 412]) (st := []) cw_L_40 q_612 q_613 rfl (dqM g1) (c_J4_append_15ec4 hp hk hc_M1m) ⟨rfl, rfl⟩ ⟨Nat.le_of_ble_eq_true rfl, Nat.le_of_ble_eq_true rfl⟩ ⟨show ce + (M1m.2.2.2 - M.2.2.2) ≤ mc by omega, show sl + (szM M1m - szM M) ≤ ms by omega⟩ rfl (Nat.le_of_ble_eq_true rfl) dL_begins_428 rfl ?_ (Or.inr (by omega))
    exact Wt.sub (L' := [(0, vr 64), (1, vr 61), (2, vr n2), (3, vi x3)]) [0, 1, 2, 3] rfl (b_L_begins_b431 hp hk hq hB hF (by omega) (by omega))
  · replace hF := ifF hc hF
    refine w_aload_n hB 1 dL_begins_251 rfl rfl ?_
    refine w_bipush hB 17 (by decide) dL_begins_252 ?_
    refine w_iload hB 4 dL_begins_254 rfl ?_
    refine w_iadd hB dL_begins_256 ?_
    refine w_iconst hB 3 (by decide) dL_begins_257 ?_
    obtain ⟨r1, M2m, hc_M2m, hF⟩ := clS hF
    have q_M2m : EQ M M2m := k_L_some hc_M2m
    have x_M2m := q_M2m.gx
    have n_M2m := q_M2m.1
    have z_M2m := q_M2m.sz
    refine w_callS (M1 := M2m) hB (As := [vr 61, vi (17 + x4), vi 3]) (st := []) cw_L_49 q_753 (c_L_some hp hq hc_M2m) ⟨rfl, rfl⟩ ⟨Nat.le_of_ble_eq_true rfl, Nat.le_of_ble_eq_true rfl⟩ ⟨show ce ≤ mc by omega, show sl ≤ ms by omega⟩ rfl (Nat.le_of_ble_eq_true rfl) dL_begins_258 rfl ?_ (Or.inl rfl)
    refine w_istore hB (L' := [(5, vi r1), (0, vr 64), (1, vr 61), (2, vr n2), (3, vi x3), (4, vi x4)]) dL_begins_261 (by decide) rfl rfl ?_
    refine w_aload_n hB 3 dL_begins_263 rfl rfl ?_
    refine w_ldcs hB hp 407 (by decide) dL_begins_264 ?_
    obtain ⟨g2, hF⟩ := gdS hF
    obtain ⟨o2, M3m, hc_M3m, hF⟩ := clS hF
    have x_M3m := m_J4_append_15ec4 hc_M3m
    have xa_M3m := x_M3m.1
    have xb_M3m := x_M3m.2.1
    have hg3 := m_L_begins_b269 G245 hF
    have hg4 := hg3.1
    have hg5 := hg3.2.1
    refine w_callV (M1 := M3m) hB (ci := 10) (As := [vr 407]) (st := []) cw_L_40 q_612 q_613 rfl (dqM g2) (c_J4_append_15ec4 hp hk hc_M3m) ⟨rfl, rfl⟩ ⟨Nat.le_of_ble_eq_true rfl, Nat.le_of_ble_eq_true rfl⟩ ⟨show ce + (M3m.2.2.2 - M2m.2.2.2) ≤ mc by omega, show sl + (szM M3m - szM M2m) ≤ ms by omega⟩ rfl (Nat.le_of_ble_eq_true rfl) dL_begins_266 rfl ?_ (Or.inr (by omega))
    exact Wt.sub (L' := [(0, vr 64), (1, vr 61), (2, vr n2), (3, vi x3), (4, vi x4), (5, vi r1)]) [1, 2, 3, 4, 5, 0] rfl (b_L_begins_b269 hp hk hq hB G245 h245 hF (by omega) (by omega))
def f_L_begins_b245 (N : Nat) (xs : Nat → Int32) (k : Nat) : Nat → Int32 → Int32 → Mem → Option (Int32 × Mem) := lpN (fun _ _ _ _ => none) (f_L_begins_b245_s N xs) k
theorem m_L_begins_b245 {N : Nat} {xs : Nat → Int32} (k : Nat) : (∀ (n2 : Nat) (x3 : Int32) (x4 : Int32) (M Z : Mem) (r : Int32), f_L_begins_b245 N xs k n2 x3 x4 M = some (r, Z) → GX M Z) :=
  lpN_ind (P := fun (f : Nat → Int32 → Int32 → Mem → Option (Int32 × Mem)) => (∀ (n2 : Nat) (x3 : Int32) (x4 : Int32) (M Z : Mem) (r : Int32), f n2 x3 x4 M = some (r, Z) → GX M Z)) (fun _ _ _ _ _ _ h => by cases h) (fun f hf _ _ _ _ _ _ h => m_L_begins_b245_s hf h) k
theorem b_L_begins_b245 {K : Kt} {X : Xt} (hp : St K) (hk : KC K) {N : Nat} {xs : Nat → Int32} (hq : KScr K N xs) {mc ms : Nat} (hB : Bx K X { frames := 9, cells := mc, slots := ms, locals := 200 } cL_begins 10 RL (some .boolean)) {r : Int32} {M1 : Mem} (k : Nat) : (∀ (n2 : Nat) (x3 : Int32) (x4 : Int32) (ce sl : Nat) (M : Mem), f_L_begins_b245 N xs k n2 x3 x4 M = some (r, M1) → mc + M.2.2.2 = ce + M1.2.2.2 → ms + szM M = sl + szM M1 → Wt K X (QM K X (some (vi r)) M1 mc ms) ce sl M 245 [(0, vr 64), (1, vr 61), (2, vr n2), (3, vi x3), (4, vi x4)] []) :=
  (lpN_ind (P := fun (f : Nat → Int32 → Int32 → Mem → Option (Int32 × Mem)) => (∀ (n2 : Nat) (x3 : Int32) (x4 : Int32) (M Z : Mem) (r : Int32), f n2 x3 x4 M = some (r, Z) → GX M Z) ∧ (∀ (n2 : Nat) (x3 : Int32) (x4 : Int32) (ce sl : Nat) (M : Mem), f n2 x3 x4 M = some (r, M1) → mc + M.2.2.2 = ce + M1.2.2.2 → ms + szM M = sl + szM M1 → Wt K X (QM K X (some (vi r)) M1 mc ms) ce sl M 245 [(0, vr 64), (1, vr 61), (2, vr n2), (3, vi x3), (4, vi x4)] [])) ⟨fun _ _ _ _ _ _ h => (by cases h), fun _ _ _ _ _ _ h _ _ => (by cases h)⟩ (fun f hf => ⟨fun _ _ _ _ _ _ h => m_L_begins_b245_s hf.1 h, fun _ _ _ _ _ _ hF hn hz => b_L_begins_b245_s hp hk hq hB hf.1 hf.2 hF hn hz⟩) k).2
def f_L_begins_b241 (N : Nat) (xs : Nat → Int32) (n2 : Nat) (x3 : Int32) (ns0 : Nat) (M : Mem) : Option (Int32 × Mem) :=
  f_L_begins_b245 N xs fuel n2 x3 0 M
set_option maxRecDepth 100000 in
set_option maxHeartbeats 4000000 in
theorem m_L_begins_b241 {N : Nat} {xs : Nat → Int32} {n2 : Nat} {x3 : Int32} {ns0 : Nat} {M Z : Mem} {r : Int32} (h : f_L_begins_b241 N xs n2 x3 ns0 M = some (r, Z)) : GX M Z := by
  unfold f_L_begins_b241 at h
  exact GX.tr (GX.refl M) (m_L_begins_b245 _ _ _ _ _ _ _ h)
set_option maxRecDepth 100000 in
set_option maxHeartbeats 4000000 in
theorem b_L_begins_b241 {K : Kt} {X : Xt} (hp : St K) (hk : KC K) {N : Nat} {xs : Nat → Int32} (hq : KScr K N xs) {mc ms : Nat} (hB : Bx K X { frames := 9, cells := mc, slots := ms, locals := 200 } cL_begins 10 RL (some .boolean)) {r : Int32} {M1 : Mem} {n2 : Nat} {x3 : Int32} {ns0 : Nat} {ce sl : Nat} {M : Mem} (hF : f_L_begins_b241 N xs n2 x3 ns0 M = some (r, M1)) (hn : mc + M.2.2.2 = ce + M1.2.2.2) (hz : ms + szM M = sl + szM M1) : Wt K X (QM K X (some (vi r)) M1 mc ms) ce sl M 241 [(0, vr 64), (1, vr 61), (2, vr n2), (3, vi x3)] [vr ns0] := by
  have hg := m_L_begins_b241 hF
  have hg1 := hg.1
  have hg2 := hg.2.1
  unfold f_L_begins_b241 at hF
  refine w_pop hB rfl dL_begins_241 ?_
  refine w_iconst hB 0 (by decide) dL_begins_242 ?_
  refine w_istore hB (L' := [(4, vi 0), (0, vr 64), (1, vr 61), (2, vr n2), (3, vi x3)]) dL_begins_243 (by decide) rfl rfl ?_
  exact Wt.sub (L' := [(0, vr 64), (1, vr 61), (2, vr n2), (3, vi x3), (4, vi 0)]) [1, 2, 3, 4, 0] rfl (b_L_begins_b245 hp hk hq hB fuel _ _ _ _ _ M hF (by omega) (by omega))
def f_L_begins_b236 (N : Nat) (xs : Nat → Int32) (n2 : Nat) (x3 : Int32) (ns0 : Nat) (M : Mem) : Option (Int32 × Mem) :=
  gd (1000 ≤ ns0 ∧ dsc M ns0 = 11 ∧ ns0 - 753 < M.2.2.2) <|
  cl (f_J4_append_15ec4 ns0 402 M) fun o1 M1m =>
  f_L_begins_b241 N xs n2 x3 o1 M1m
set_option maxRecDepth 100000 in
set_option maxHeartbeats 4000000 in
theorem m_L_begins_b236 {N : Nat} {xs : Nat → Int32} {n2 : Nat} {x3 : Int32} {ns0 : Nat} {M Z : Mem} {r : Int32} (h : f_L_begins_b236 N xs n2 x3 ns0 M = some (r, Z)) : GX M Z := by
  unfold f_L_begins_b236 at h
  obtain ⟨gq0, h⟩ := gdS h
  obtain ⟨o1, M1m, c_M1m, h⟩ := clS h
  have q_M1m : GX M M1m := GX.tr (GX.refl M) (m_J4_append_15ec4 c_M1m)
  exact GX.tr q_M1m (m_L_begins_b241 h)
set_option maxRecDepth 100000 in
set_option maxHeartbeats 4000000 in
theorem b_L_begins_b236 {K : Kt} {X : Xt} (hp : St K) (hk : KC K) {N : Nat} {xs : Nat → Int32} (hq : KScr K N xs) {mc ms : Nat} (hB : Bx K X { frames := 9, cells := mc, slots := ms, locals := 200 } cL_begins 10 RL (some .boolean)) {r : Int32} {M1 : Mem} {n2 : Nat} {x3 : Int32} {ns0 : Nat} {ce sl : Nat} {M : Mem} (hF : f_L_begins_b236 N xs n2 x3 ns0 M = some (r, M1)) (hn : mc + M.2.2.2 = ce + M1.2.2.2) (hz : ms + szM M = sl + szM M1) : Wt K X (QM K X (some (vi r)) M1 mc ms) ce sl M 236 [(0, vr 64), (1, vr 61), (2, vr n2), (3, vi x3)] [vr ns0] := by
  have hg := m_L_begins_b236 hF
  have hg1 := hg.1
  have hg2 := hg.2.1
  unfold f_L_begins_b236 at hF
  refine w_ldcs hB hp 402 (by decide) dL_begins_236 ?_
  obtain ⟨g1, hF⟩ := gdS hF
  obtain ⟨o1, M1m, hc_M1m, hF⟩ := clS hF
  have x_M1m := m_J4_append_15ec4 hc_M1m
  have xa_M1m := x_M1m.1
  have xb_M1m := x_M1m.2.1
  have hg3 := m_L_begins_b241 hF
  have hg4 := hg3.1
  have hg5 := hg3.2.1
  refine w_callV (M1 := M1m) hB (ci := 10) (As := [vr 402]) (st := []) cw_L_40 q_612 q_613 rfl (dqM g1) (c_J4_append_15ec4 hp hk hc_M1m) ⟨rfl, rfl⟩ ⟨Nat.le_of_ble_eq_true rfl, Nat.le_of_ble_eq_true rfl⟩ ⟨show ce + (M1m.2.2.2 - M.2.2.2) ≤ mc by omega, show sl + (szM M1m - szM M) ≤ ms by omega⟩ rfl (Nat.le_of_ble_eq_true rfl) dL_begins_238 rfl ?_ (Or.inr (by omega))
  exact Wt.sub (L' := [(0, vr 64), (1, vr 61), (2, vr n2), (3, vi x3)]) [0, 1, 2, 3] rfl (b_L_begins_b241 hp hk hq hB hF (by omega) (by omega))
def f_L_begins_b226 (N : Nat) (xs : Nat → Int32) (n2 : Nat) (x3 : Int32) (ns0 : Nat) (M : Mem) : Option (Int32 × Mem) :=
  cl (f_L_some N xs 16 3 M) fun r1 M1m =>
  gd (1000 ≤ ns0 ∧ dsc M1m ns0 = 11 ∧ ns0 - 753 < M1m.2.2.2) <|
  cl (f_J4_append_bf812 ns0 r1 M1m) fun o1 M2m =>
  f_L_begins_b236 N xs n2 x3 o1 M2m
set_option maxRecDepth 100000 in
set_option maxHeartbeats 4000000 in
theorem m_L_begins_b226 {N : Nat} {xs : Nat → Int32} {n2 : Nat} {x3 : Int32} {ns0 : Nat} {M Z : Mem} {r : Int32} (h : f_L_begins_b226 N xs n2 x3 ns0 M = some (r, Z)) : GX M Z := by
  unfold f_L_begins_b226 at h
  obtain ⟨r1, M1m, c_M1m, h⟩ := clS h
  have q_M1m : GX M M1m := GX.tr (GX.refl M) ((k_L_some c_M1m).gx)
  obtain ⟨gq1, h⟩ := gdS h
  obtain ⟨o1, M2m, c_M2m, h⟩ := clS h
  have q_M2m : GX M M2m := GX.tr q_M1m (m_J4_append_bf812 c_M2m)
  exact GX.tr q_M2m (m_L_begins_b236 h)
set_option maxRecDepth 100000 in
set_option maxHeartbeats 4000000 in
theorem b_L_begins_b226 {K : Kt} {X : Xt} (hp : St K) (hk : KC K) {N : Nat} {xs : Nat → Int32} (hq : KScr K N xs) {mc ms : Nat} (hB : Bx K X { frames := 9, cells := mc, slots := ms, locals := 200 } cL_begins 10 RL (some .boolean)) {r : Int32} {M1 : Mem} {n2 : Nat} {x3 : Int32} {ns0 : Nat} {ce sl : Nat} {M : Mem} (hF : f_L_begins_b226 N xs n2 x3 ns0 M = some (r, M1)) (hn : mc + M.2.2.2 = ce + M1.2.2.2) (hz : ms + szM M = sl + szM M1) : Wt K X (QM K X (some (vi r)) M1 mc ms) ce sl M 226 [(0, vr 64), (1, vr 61), (2, vr n2), (3, vi x3)] [vr ns0] := by
  have hg := m_L_begins_b226 hF
  have hg1 := hg.1
  have hg2 := hg.2.1
  unfold f_L_begins_b226 at hF
  refine w_aload_n hB 1 dL_begins_226 rfl rfl ?_
  refine w_bipush hB 16 (by decide) dL_begins_227 ?_
  refine w_iconst hB 3 (by decide) dL_begins_229 ?_
  obtain ⟨r1, M1m, hc_M1m, hF⟩ := clS hF
  have q_M1m : EQ M M1m := k_L_some hc_M1m
  have x_M1m := q_M1m.gx
  have n_M1m := q_M1m.1
  have z_M1m := q_M1m.sz
  refine w_callS (M1 := M1m) hB (As := [vr 61, vi 16, vi 3]) (st := [vr ns0]) cw_L_49 q_753 (c_L_some hp hq hc_M1m) ⟨rfl, rfl⟩ ⟨Nat.le_of_ble_eq_true rfl, Nat.le_of_ble_eq_true rfl⟩ ⟨show ce ≤ mc by omega, show sl ≤ ms by omega⟩ rfl (Nat.le_of_ble_eq_true rfl) dL_begins_230 rfl ?_ (Or.inl rfl)
  obtain ⟨g1, hF⟩ := gdS hF
  obtain ⟨o1, M2m, hc_M2m, hF⟩ := clS hF
  have x_M2m := m_J4_append_bf812 hc_M2m
  have xa_M2m := x_M2m.1
  have xb_M2m := x_M2m.2.1
  have hg3 := m_L_begins_b236 hF
  have hg4 := hg3.1
  have hg5 := hg3.2.1
  refine w_callV (M1 := M2m) hB (ci := 10) (As := [vi r1]) (st := []) cw_L_53 q_761 q_762 rfl (dqM g1) (c_J4_append_bf812 hp hk hc_M2m) ⟨rfl, rfl⟩ ⟨Nat.le_of_ble_eq_true rfl, Nat.le_of_ble_eq_true rfl⟩ ⟨show ce + (M2m.2.2.2 - M1m.2.2.2) ≤ mc by omega, show sl + (szM M2m - szM M1m) ≤ ms by omega⟩ rfl (Nat.le_of_ble_eq_true rfl) dL_begins_233 rfl ?_ (Or.inr (by omega))
  exact Wt.sub (L' := [(0, vr 64), (1, vr 61), (2, vr n2), (3, vi x3)]) [0, 1, 2, 3] rfl (b_L_begins_b236 hp hk hq hB hF (by omega) (by omega))
def f_L_begins_b221 (N : Nat) (xs : Nat → Int32) (n2 : Nat) (x3 : Int32) (ns0 : Nat) (M : Mem) : Option (Int32 × Mem) :=
  gd (1000 ≤ ns0 ∧ dsc M ns0 = 11 ∧ ns0 - 753 < M.2.2.2) <|
  cl (f_J4_append_15ec4 ns0 406 M) fun o1 M1m =>
  f_L_begins_b226 N xs n2 x3 o1 M1m
set_option maxRecDepth 100000 in
set_option maxHeartbeats 4000000 in
theorem m_L_begins_b221 {N : Nat} {xs : Nat → Int32} {n2 : Nat} {x3 : Int32} {ns0 : Nat} {M Z : Mem} {r : Int32} (h : f_L_begins_b221 N xs n2 x3 ns0 M = some (r, Z)) : GX M Z := by
  unfold f_L_begins_b221 at h
  obtain ⟨gq0, h⟩ := gdS h
  obtain ⟨o1, M1m, c_M1m, h⟩ := clS h
  have q_M1m : GX M M1m := GX.tr (GX.refl M) (m_J4_append_15ec4 c_M1m)
  exact GX.tr q_M1m (m_L_begins_b226 h)
set_option maxRecDepth 100000 in
set_option maxHeartbeats 4000000 in
theorem b_L_begins_b221 {K : Kt} {X : Xt} (hp : St K) (hk : KC K) {N : Nat} {xs : Nat → Int32} (hq : KScr K N xs) {mc ms : Nat} (hB : Bx K X { frames := 9, cells := mc, slots := ms, locals := 200 } cL_begins 10 RL (some .boolean)) {r : Int32} {M1 : Mem} {n2 : Nat} {x3 : Int32} {ns0 : Nat} {ce sl : Nat} {M : Mem} (hF : f_L_begins_b221 N xs n2 x3 ns0 M = some (r, M1)) (hn : mc + M.2.2.2 = ce + M1.2.2.2) (hz : ms + szM M = sl + szM M1) : Wt K X (QM K X (some (vi r)) M1 mc ms) ce sl M 221 [(0, vr 64), (1, vr 61), (2, vr n2), (3, vi x3)] [vr ns0] := by
  have hg := m_L_begins_b221 hF
  have hg1 := hg.1
  have hg2 := hg.2.1
  unfold f_L_begins_b221 at hF
  refine w_ldcs hB hp 406 (by decide) dL_begins_221 ?_
  obtain ⟨g1, hF⟩ := gdS hF
  obtain ⟨o1, M1m, hc_M1m, hF⟩ := clS hF
  have x_M1m := m_J4_append_15ec4 hc_M1m
  have xa_M1m := x_M1m.1
  have xb_M1m := x_M1m.2.1
  have hg3 := m_L_begins_b226 hF
  have hg4 := hg3.1
  have hg5 := hg3.2.1
  refine w_callV (M1 := M1m) hB (ci := 10) (As := [vr 406]) (st := []) cw_L_40 q_612 q_613 rfl (dqM g1) (c_J4_append_15ec4 hp hk hc_M1m) ⟨rfl, rfl⟩ ⟨Nat.le_of_ble_eq_true rfl, Nat.le_of_ble_eq_true rfl⟩ ⟨show ce + (M1m.2.2.2 - M.2.2.2) ≤ mc by omega, show sl + (szM M1m - szM M) ≤ ms by omega⟩ rfl (Nat.le_of_ble_eq_true rfl) dL_begins_223 rfl ?_ (Or.inr (by omega))
  exact Wt.sub (L' := [(0, vr 64), (1, vr 61), (2, vr n2), (3, vi x3)]) [0, 1, 2, 3] rfl (b_L_begins_b226 hp hk hq hB hF (by omega) (by omega))
def f_L_begins_b211 (N : Nat) (xs : Nat → Int32) (n2 : Nat) (x3 : Int32) (ns0 : Nat) (M : Mem) : Option (Int32 × Mem) :=
  cl (f_L_some N xs 15 3 M) fun r1 M1m =>
  gd (1000 ≤ ns0 ∧ dsc M1m ns0 = 11 ∧ ns0 - 753 < M1m.2.2.2) <|
  cl (f_J4_append_bf812 ns0 r1 M1m) fun o1 M2m =>
  f_L_begins_b221 N xs n2 x3 o1 M2m
set_option maxRecDepth 100000 in
set_option maxHeartbeats 4000000 in
theorem m_L_begins_b211 {N : Nat} {xs : Nat → Int32} {n2 : Nat} {x3 : Int32} {ns0 : Nat} {M Z : Mem} {r : Int32} (h : f_L_begins_b211 N xs n2 x3 ns0 M = some (r, Z)) : GX M Z := by
  unfold f_L_begins_b211 at h
  obtain ⟨r1, M1m, c_M1m, h⟩ := clS h
  have q_M1m : GX M M1m := GX.tr (GX.refl M) ((k_L_some c_M1m).gx)
  obtain ⟨gq1, h⟩ := gdS h
  obtain ⟨o1, M2m, c_M2m, h⟩ := clS h
  have q_M2m : GX M M2m := GX.tr q_M1m (m_J4_append_bf812 c_M2m)
  exact GX.tr q_M2m (m_L_begins_b221 h)
set_option maxRecDepth 100000 in
set_option maxHeartbeats 4000000 in
theorem b_L_begins_b211 {K : Kt} {X : Xt} (hp : St K) (hk : KC K) {N : Nat} {xs : Nat → Int32} (hq : KScr K N xs) {mc ms : Nat} (hB : Bx K X { frames := 9, cells := mc, slots := ms, locals := 200 } cL_begins 10 RL (some .boolean)) {r : Int32} {M1 : Mem} {n2 : Nat} {x3 : Int32} {ns0 : Nat} {ce sl : Nat} {M : Mem} (hF : f_L_begins_b211 N xs n2 x3 ns0 M = some (r, M1)) (hn : mc + M.2.2.2 = ce + M1.2.2.2) (hz : ms + szM M = sl + szM M1) : Wt K X (QM K X (some (vi r)) M1 mc ms) ce sl M 211 [(0, vr 64), (1, vr 61), (2, vr n2), (3, vi x3)] [vr ns0] := by
  have hg := m_L_begins_b211 hF
  have hg1 := hg.1
  have hg2 := hg.2.1
  unfold f_L_begins_b211 at hF
  refine w_aload_n hB 1 dL_begins_211 rfl rfl ?_
  refine w_bipush hB 15 (by decide) dL_begins_212 ?_
  refine w_iconst hB 3 (by decide) dL_begins_214 ?_
  obtain ⟨r1, M1m, hc_M1m, hF⟩ := clS hF
  have q_M1m : EQ M M1m := k_L_some hc_M1m
  have x_M1m := q_M1m.gx
  have n_M1m := q_M1m.1
  have z_M1m := q_M1m.sz
  refine w_callS (M1 := M1m) hB (As := [vr 61, vi 15, vi 3]) (st := [vr ns0]) cw_L_49 q_753 (c_L_some hp hq hc_M1m) ⟨rfl, rfl⟩ ⟨Nat.le_of_ble_eq_true rfl, Nat.le_of_ble_eq_true rfl⟩ ⟨show ce ≤ mc by omega, show sl ≤ ms by omega⟩ rfl (Nat.le_of_ble_eq_true rfl) dL_begins_215 rfl ?_ (Or.inl rfl)
  obtain ⟨g1, hF⟩ := gdS hF
  obtain ⟨o1, M2m, hc_M2m, hF⟩ := clS hF
  have x_M2m := m_J4_append_bf812 hc_M2m
  have xa_M2m := x_M2m.1
  have xb_M2m := x_M2m.2.1
  have hg3 := m_L_begins_b221 hF
  have hg4 := hg3.1
  have hg5 := hg3.2.1
  refine w_callV (M1 := M2m) hB (ci := 10) (As := [vi r1]) (st := []) cw_L_53 q_761 q_762 rfl (dqM g1) (c_J4_append_bf812 hp hk hc_M2m) ⟨rfl, rfl⟩ ⟨Nat.le_of_ble_eq_true rfl, Nat.le_of_ble_eq_true rfl⟩ ⟨show ce + (M2m.2.2.2 - M1m.2.2.2) ≤ mc by omega, show sl + (szM M2m - szM M1m) ≤ ms by omega⟩ rfl (Nat.le_of_ble_eq_true rfl) dL_begins_218 rfl ?_ (Or.inr (by omega))
  exact Wt.sub (L' := [(0, vr 64), (1, vr 61), (2, vr n2), (3, vi x3)]) [0, 1, 2, 3] rfl (b_L_begins_b221 hp hk hq hB hF (by omega) (by omega))
def f_L_begins_b198 (N : Nat) (xs : Nat → Int32) (rec89 : Nat → Int32 → Int32 → Mem → Option (Int32 × Mem)) (n2 : Nat) (x3 : Int32) (x4 : Int32) (ns0 : Nat) (M : Mem) : Option (Int32 × Mem) :=
  bnd (x4 + 1) fun a1 =>
  rec89 n2 x3 a1 M
set_option maxRecDepth 100000 in
set_option maxHeartbeats 4000000 in
theorem m_L_begins_b198 {N : Nat} {xs : Nat → Int32} {rec89 : Nat → Int32 → Int32 → Mem → Option (Int32 × Mem)} (G89 : (∀ (n2 : Nat) (x3 : Int32) (x4 : Int32) (M Z : Mem) (r : Int32), rec89 n2 x3 x4 M = some (r, Z) → GX M Z)) {n2 : Nat} {x3 : Int32} {x4 : Int32} {ns0 : Nat} {M Z : Mem} {r : Int32} (h : f_L_begins_b198 N xs rec89 n2 x3 x4 ns0 M = some (r, Z)) : GX M Z := by
  unfold f_L_begins_b198 at h
  obtain ⟨a1, e_a1, h⟩ := bndS h
  exact GX.tr (GX.refl M) (G89 _ _ _ _ _ _ h)
set_option maxRecDepth 100000 in
set_option maxHeartbeats 4000000 in
theorem b_L_begins_b198 {K : Kt} {X : Xt} (hp : St K) (hk : KC K) {N : Nat} {xs : Nat → Int32} (hq : KScr K N xs) {mc ms : Nat} (hB : Bx K X { frames := 9, cells := mc, slots := ms, locals := 200 } cL_begins 10 RL (some .boolean)) {r : Int32} {M1 : Mem} {rec89 : Nat → Int32 → Int32 → Mem → Option (Int32 × Mem)}
    (G89 : (∀ (n2 : Nat) (x3 : Int32) (x4 : Int32) (M Z : Mem) (r : Int32), rec89 n2 x3 x4 M = some (r, Z) → GX M Z)) (h89 : (∀ (n2 : Nat) (x3 : Int32) (x4 : Int32) (ce sl : Nat) (M : Mem), rec89 n2 x3 x4 M = some (r, M1) → mc + M.2.2.2 = ce + M1.2.2.2 → ms + szM M = sl + szM M1 → Wt K X (QM K X (some (vi r)) M1 mc ms) ce sl M 89 [(0, vr 64), (1, vr 61), (2, vr n2), (3, vi x3), (4, vi x4)] [])) {n2 : Nat} {x3 : Int32} {x4 : Int32} {ns0 : Nat} {ce sl : Nat} {M : Mem} (hF : f_L_begins_b198 N xs rec89 n2 x3 x4 ns0 M = some (r, M1)) (hn : mc + M.2.2.2 = ce + M1.2.2.2) (hz : ms + szM M = sl + szM M1) : Wt K X (QM K X (some (vi r)) M1 mc ms) ce sl M 198 [(0, vr 64), (1, vr 61), (2, vr n2), (3, vi x3), (4, vi x4)] [vr ns0] := by
  have hg := m_L_begins_b198 G89 hF
  have hg1 := hg.1
  have hg2 := hg.2.1
  unfold f_L_begins_b198 at hF
  refine w_pop hB rfl dL_begins_198 ?_
  obtain ⟨a1, e_a1, hF⟩ := bndS hF
  refine w_iinc hB 4 (v := 1) (L' := [(4, vi a1), (0, vr 64), (1, vr 61), (2, vr n2), (3, vi x3)]) dL_begins_199 rfl (by decide) (by decide) e_a1 rfl ?_
  refine w_goto hB 89 dL_begins_202 (by decide) ?_
  exact Wt.sub (L' := [(0, vr 64), (1, vr 61), (2, vr n2), (3, vi x3), (4, vi a1)]) [1, 2, 3, 4, 0] rfl (h89 _ _ _ _ _ M hF (by omega) (by omega))
def f_L_begins_b193 (N : Nat) (xs : Nat → Int32) (rec89 : Nat → Int32 → Int32 → Mem → Option (Int32 × Mem)) (n2 : Nat) (x3 : Int32) (x4 : Int32) (ns0 : Nat) (M : Mem) : Option (Int32 × Mem) :=
  gd (1000 ≤ ns0 ∧ dsc M ns0 = 11 ∧ ns0 - 753 < M.2.2.2) <|
  cl (f_J4_append_15ec4 ns0 402 M) fun o1 M1m =>
  f_L_begins_b198 N xs rec89 n2 x3 x4 o1 M1m
set_option maxRecDepth 100000 in
set_option maxHeartbeats 4000000 in
theorem m_L_begins_b193 {N : Nat} {xs : Nat → Int32} {rec89 : Nat → Int32 → Int32 → Mem → Option (Int32 × Mem)} (G89 : (∀ (n2 : Nat) (x3 : Int32) (x4 : Int32) (M Z : Mem) (r : Int32), rec89 n2 x3 x4 M = some (r, Z) → GX M Z)) {n2 : Nat} {x3 : Int32} {x4 : Int32} {ns0 : Nat} {M Z : Mem} {r : Int32} (h : f_L_begins_b193 N xs rec89 n2 x3 x4 ns0 M = some (r, Z)) : GX M Z := by
  unfold f_L_begins_b193 at h
  obtain ⟨gq0, h⟩ := gdS h
  obtain ⟨o1, M1m, c_M1m, h⟩ := clS h
  have q_M1m : GX M M1m := GX.tr (GX.refl M) (m_J4_append_15ec4 c_M1m)
  exact GX.tr q_M1m (m_L_begins_b198 G89 h)
set_option maxRecDepth 100000 in
set_option maxHeartbeats 4000000 in
theorem b_L_begins_b193 {K : Kt} {X : Xt} (hp : St K) (hk : KC K) {N : Nat} {xs : Nat → Int32} (hq : KScr K N xs) {mc ms : Nat} (hB : Bx K X { frames := 9, cells := mc, slots := ms, locals := 200 } cL_begins 10 RL (some .boolean)) {r : Int32} {M1 : Mem} {rec89 : Nat → Int32 → Int32 → Mem → Option (Int32 × Mem)}
    (G89 : (∀ (n2 : Nat) (x3 : Int32) (x4 : Int32) (M Z : Mem) (r : Int32), rec89 n2 x3 x4 M = some (r, Z) → GX M Z)) (h89 : (∀ (n2 : Nat) (x3 : Int32) (x4 : Int32) (ce sl : Nat) (M : Mem), rec89 n2 x3 x4 M = some (r, M1) → mc + M.2.2.2 = ce + M1.2.2.2 → ms + szM M = sl + szM M1 → Wt K X (QM K X (some (vi r)) M1 mc ms) ce sl M 89 [(0, vr 64), (1, vr 61), (2, vr n2), (3, vi x3), (4, vi x4)] [])) {n2 : Nat} {x3 : Int32} {x4 : Int32} {ns0 : Nat} {ce sl : Nat} {M : Mem} (hF : f_L_begins_b193 N xs rec89 n2 x3 x4 ns0 M = some (r, M1)) (hn : mc + M.2.2.2 = ce + M1.2.2.2) (hz : ms + szM M = sl + szM M1) : Wt K X (QM K X (some (vi r)) M1 mc ms) ce sl M 193 [(0, vr 64), (1, vr 61), (2, vr n2), (3, vi x3), (4, vi x4)] [vr ns0] := by
  have hg := m_L_begins_b193 G89 hF
  have hg1 := hg.1
  have hg2 := hg.2.1
  unfold f_L_begins_b193 at hF
  refine w_ldcs hB hp 402 (by decide) dL_begins_193 ?_
  obtain ⟨g1, hF⟩ := gdS hF
  obtain ⟨o1, M1m, hc_M1m, hF⟩ := clS hF
  have x_M1m := m_J4_append_15ec4 hc_M1m
  have xa_M1m := x_M1m.1
  have xb_M1m := x_M1m.2.1
  have hg3 := m_L_begins_b198 G89 hF
  have hg4 := hg3.1
  have hg5 := hg3.2.1
  refine w_callV (M1 := M1m) hB (ci := 10) (As := [vr 402]) (st := []) cw_L_40 q_612 q_613 rfl (dqM g1) (c_J4_append_15ec4 hp hk hc_M1m) ⟨rfl, rfl⟩ ⟨Nat.le_of_ble_eq_true rfl, Nat.le_of_ble_eq_true rfl⟩ ⟨show ce + (M1m.2.2.2 - M.2.2.2) ≤ mc by omega, show sl + (szM M1m - szM M) ≤ ms by omega⟩ rfl (Nat.le_of_ble_eq_true rfl) dL_begins_195 rfl ?_ (Or.inr (by omega))
  exact Wt.sub (L' := [(0, vr 64), (1, vr 61), (2, vr n2), (3, vi x3), (4, vi x4)]) [0, 1, 2, 3, 4] rfl (b_L_begins_b198 hp hk hq hB G89 h89 hF (by omega) (by omega))
def f_L_begins_b177 (N : Nat) (xs : Nat → Int32) (rec89 : Nat → Int32 → Int32 → Mem → Option (Int32 × Mem)) (n2 : Nat) (x3 : Int32) (x4 : Int32) (ns0 : Nat) (M : Mem) : Option (Int32 × Mem) :=
  cl (f_L_some N xs (13 + x4) 4 M) fun r1 M1m =>
  gd (1000 ≤ ns0 ∧ dsc M1m ns0 = 11 ∧ ns0 - 753 < M1m.2.2.2) <|
  cl (f_J4_append_bf812 ns0 (10 + r1) M1m) fun o1 M2m =>
  f_L_begins_b193 N xs rec89 n2 x3 x4 o1 M2m
set_option maxRecDepth 100000 in
set_option maxHeartbeats 4000000 in
theorem m_L_begins_b177 {N : Nat} {xs : Nat → Int32} {rec89 : Nat → Int32 → Int32 → Mem → Option (Int32 × Mem)} (G89 : (∀ (n2 : Nat) (x3 : Int32) (x4 : Int32) (M Z : Mem) (r : Int32), rec89 n2 x3 x4 M = some (r, Z) → GX M Z)) {n2 : Nat} {x3 : Int32} {x4 : Int32} {ns0 : Nat} {M Z : Mem} {r : Int32} (h : f_L_begins_b177 N xs rec89 n2 x3 x4 ns0 M = some (r, Z)) : GX M Z := by
  unfold f_L_begins_b177 at h
  obtain ⟨r1, M1m, c_M1m, h⟩ := clS h
  have q_M1m : GX M M1m := GX.tr (GX.refl M) ((k_L_some c_M1m).gx)
  obtain ⟨gq1, h⟩ := gdS h
  obtain ⟨o1, M2m, c_M2m, h⟩ := clS h
  have q_M2m : GX M M2m := GX.tr q_M1m (m_J4_append_bf812 c_M2m)
  exact GX.tr q_M2m (m_L_begins_b193 G89 h)
set_option maxRecDepth 100000 in
set_option maxHeartbeats 4000000 in
theorem b_L_begins_b177 {K : Kt} {X : Xt} (hp : St K) (hk : KC K) {N : Nat} {xs : Nat → Int32} (hq : KScr K N xs) {mc ms : Nat} (hB : Bx K X { frames := 9, cells := mc, slots := ms, locals := 200 } cL_begins 10 RL (some .boolean)) {r : Int32} {M1 : Mem} {rec89 : Nat → Int32 → Int32 → Mem → Option (Int32 × Mem)}
    (G89 : (∀ (n2 : Nat) (x3 : Int32) (x4 : Int32) (M Z : Mem) (r : Int32), rec89 n2 x3 x4 M = some (r, Z) → GX M Z)) (h89 : (∀ (n2 : Nat) (x3 : Int32) (x4 : Int32) (ce sl : Nat) (M : Mem), rec89 n2 x3 x4 M = some (r, M1) → mc + M.2.2.2 = ce + M1.2.2.2 → ms + szM M = sl + szM M1 → Wt K X (QM K X (some (vi r)) M1 mc ms) ce sl M 89 [(0, vr 64), (1, vr 61), (2, vr n2), (3, vi x3), (4, vi x4)] [])) {n2 : Nat} {x3 : Int32} {x4 : Int32} {ns0 : Nat} {ce sl : Nat} {M : Mem} (hF : f_L_begins_b177 N xs rec89 n2 x3 x4 ns0 M = some (r, M1)) (hn : mc + M.2.2.2 = ce + M1.2.2.2) (hz : ms + szM M = sl + szM M1) : Wt K X (QM K X (some (vi r)) M1 mc ms) ce sl M 177 [(0, vr 64), (1, vr 61), (2, vr n2), (3, vi x3), (4, vi x4)] [vr ns0] := by
  have hg := m_L_begins_b177 G89 hF
  have hg1 := hg.1
  have hg2 := hg.2.1
  unfold f_L_begins_b177 at hF
  refine w_bipush hB 10 (by decide) dL_begins_177 ?_
  refine w_aload_n hB 1 dL_begins_179 rfl rfl ?_
  refine w_bipush hB 13 (by decide) dL_begins_180 ?_
  refine w_iload hB 4 dL_begins_182 rfl ?_
  refine w_iadd hB dL_begins_184 ?_
  refine w_iconst hB 4 (by decide) dL_begins_185 ?_
  obtain ⟨r1, M1m, hc_M1m, hF⟩ := clS hF
  have q_M1m : EQ M M1m := k_L_some hc_M1m
  have x_M1m := q_M1m.gx
  have n_M1m := q_M1m.1
  have z_M1m := q_M1m.sz
  refine w_callS (M1 := M1m) hB (As := [vr 61, vi (13 + x4), vi 4]) (st := [vi 10, vr ns0]) cw_L_49 q_753 (c_L_some hp hq hc_M1m) ⟨rfl, rfl⟩ ⟨Nat.le_of_ble_eq_true rfl, Nat.le_of_ble_eq_true rfl⟩ ⟨show ce ≤ mc by omega, show sl ≤ ms by omega⟩ rfl (Nat.le_of_ble_eq_true rfl) dL_begins_186 rfl ?_ (Or.inl rfl)
  refine w_iadd hB dL_begins_189 ?_
  obtain ⟨g1, hF⟩ := gdS hF
  obtain ⟨o1, M2m, hc_M2m, hF⟩ := clS hF
  have x_M2m := m_J4_append_bf812 hc_M2m
  have xa_M2m := x_M2m.1
  have xb_M2m := x_M2m.2.1
  have hg3 := m_L_begins_b193 G89 hF
  have hg4 := hg3.1
  have hg5 := hg3.2.1
  refine w_callV (M1 := M2m) hB (ci := 10) (As := [vi (10 + r1)]) (st := []) cw_L_53 q_761 q_762 rfl (dqM g1) (c_J4_append_bf812 hp hk hc_M2m) ⟨rfl, rfl⟩ ⟨Nat.le_of_ble_eq_true rfl, Nat.le_of_ble_eq_true rfl⟩ ⟨show ce + (M2m.2.2.2 - M1m.2.2.2) ≤ mc by omega, show sl + (szM M2m - szM M1m) ≤ ms by omega⟩ rfl (Nat.le_of_ble_eq_true rfl) dL_begins_190 rfl ?_ (Or.inr (by omega))
  exact Wt.sub (L' := [(0, vr 64), (1, vr 61), (2, vr n2), (3, vi x3), (4, vi x4)]) [0, 1, 2, 3, 4] rfl (b_L_begins_b193 hp hk hq hB G89 h89 hF (by omega) (by omega))
def f_L_begins_b172 (N : Nat) (xs : Nat → Int32) (rec89 : Nat → Int32 → Int32 → Mem → Option (Int32 × Mem)) (n2 : Nat) (x3 : Int32) (x4 : Int32) (ns0 : Nat) (M : Mem) : Option (Int32 × Mem) :=
  gd (1000 ≤ ns0 ∧ dsc M ns0 = 11 ∧ ns0 - 753 < M.2.2.2) <|
  cl (f_J4_append_15ec4 ns0 401 M) fun o1 M1m =>
  f_L_begins_b177 N xs rec89 n2 x3 x4 o1 M1m
set_option maxRecDepth 100000 in
set_option maxHeartbeats 4000000 in
theorem m_L_begins_b172 {N : Nat} {xs : Nat → Int32} {rec89 : Nat → Int32 → Int32 → Mem → Option (Int32 × Mem)} (G89 : (∀ (n2 : Nat) (x3 : Int32) (x4 : Int32) (M Z : Mem) (r : Int32), rec89 n2 x3 x4 M = some (r, Z) → GX M Z)) {n2 : Nat} {x3 : Int32} {x4 : Int32} {ns0 : Nat} {M Z : Mem} {r : Int32} (h : f_L_begins_b172 N xs rec89 n2 x3 x4 ns0 M = some (r, Z)) : GX M Z := by
  unfold f_L_begins_b172 at h
  obtain ⟨gq0, h⟩ := gdS h
  obtain ⟨o1, M1m, c_M1m, h⟩ := clS h
  have q_M1m : GX M M1m := GX.tr (GX.refl M) (m_J4_append_15ec4 c_M1m)
  exact GX.tr q_M1m (m_L_begins_b177 G89 h)
set_option maxRecDepth 100000 in
set_option maxHeartbeats 4000000 in
theorem b_L_begins_b172 {K : Kt} {X : Xt} (hp : St K) (hk : KC K) {N : Nat} {xs : Nat → Int32} (hq : KScr K N xs) {mc ms : Nat} (hB : Bx K X { frames := 9, cells := mc, slots := ms, locals := 200 } cL_begins 10 RL (some .boolean)) {r : Int32} {M1 : Mem} {rec89 : Nat → Int32 → Int32 → Mem → Option (Int32 × Mem)}
    (G89 : (∀ (n2 : Nat) (x3 : Int32) (x4 : Int32) (M Z : Mem) (r : Int32), rec89 n2 x3 x4 M = some (r, Z) → GX M Z)) (h89 : (∀ (n2 : Nat) (x3 : Int32) (x4 : Int32) (ce sl : Nat) (M : Mem), rec89 n2 x3 x4 M = some (r, M1) → mc + M.2.2.2 = ce + M1.2.2.2 → ms + szM M = sl + szM M1 → Wt K X (QM K X (some (vi r)) M1 mc ms) ce sl M 89 [(0, vr 64), (1, vr 61), (2, vr n2), (3, vi x3), (4, vi x4)] [])) {n2 : Nat} {x3 : Int32} {x4 : Int32} {ns0 : Nat} {ce sl : Nat} {M : Mem} (hF : f_L_begins_b172 N xs rec89 n2 x3 x4 ns0 M = some (r, M1)) (hn : mc + M.2.2.2 = ce + M1.2.2.2) (hz : ms + szM M = sl + szM M1) : Wt K X (QM K X (some (vi r)) M1 mc ms) ce sl M 172 [(0, vr 64), (1, vr 61), (2, vr n2), (3, vi x3), (4, vi x4)] [vr ns0] := by
  have hg := m_L_begins_b172 G89 hF
  have hg1 := hg.1
  have hg2 := hg.2.1
  unfold f_L_begins_b172 at hF
  refine w_ldcs hB hp 401 (by decide) dL_begins_172 ?_
  obtain ⟨g1, hF⟩ := gdS hF
  obtain ⟨o1, M1m, hc_M1m, hF⟩ := clS hF
  have x_M1m := m_J4_append_15ec4 hc_M1m
  have xa_M1m := x_M1m.1
  have xb_M1m := x_M1m.2.1
  have hg3 := m_L_begins_b177 G89 hF
  have hg4 := hg3.1
  have hg5 := hg3.2.1
  refine w_callV (M1 := M1m) hB (ci := 10) (As := [vr 401]) (st := []) cw_L_40 q_612 q_613 rfl (dqM g1) (c_J4_append_15ec4 hp hk hc_M1m) ⟨rfl, rfl⟩ ⟨Nat.le_of_ble_eq_true rfl, Nat.le_of_ble_eq_true rfl⟩ ⟨show ce + (M1m.2.2.2 - M.2.2.2) ≤ mc by omega, show sl + (szM M1m - szM M) ≤ ms by omega⟩ rfl (Nat.le_of_ble_eq_true rfl) dL_begins_174 rfl ?_ (Or.inr (by omega))
  exact Wt.sub (L' := [(0, vr 64), (1, vr 61), (2, vr n2), (3, vi x3), (4, vi x4)]) [0, 1, 2, 3, 4] rfl (b_L_begins_b177 hp hk hq hB G89 h89 hF (by omega) (by omega))
def f_L_begins_b148 (N : Nat) (xs : Nat → Int32) (rec89 : Nat → Int32 → Int32 → Mem → Option (Int32 × Mem)) (n2 : Nat) (x3 : Int32) (x4 : Int32) (x5 : Int32) (ns0 : Nat) (M : Mem) : Option (Int32 × Mem) :=
  cl (f_L_some N xs (11 + x4) 2 M) fun r1 M1m =>
  gd (1000 ≤ ns0 ∧ dsc M1m ns0 = 11 ∧ ns0 - 753 < M1m.2.2.2) <|
  cl (f_J4_append_cf468 ns0 (((97 + (((x5 + 1) + r1) - ((x5 + 1) + r1) / 3 * 3)).toUInt32 % 65536).toInt32) M1m) fun o1 M2m =>
  f_L_begins_b172 N xs rec89 n2 x3 x4 o1 M2m
set_option maxRecDepth 100000 in
set_option maxHeartbeats 4000000 in
theorem m_L_begins_b148 {N : Nat} {xs : Nat → Int32} {rec89 : Nat → Int32 → Int32 → Mem → Option (Int32 × Mem)} (G89 : (∀ (n2 : Nat) (x3 : Int32) (x4 : Int32) (M Z : Mem) (r : Int32), rec89 n2 x3 x4 M = some (r, Z) → GX M Z)) {n2 : Nat} {x3 : Int32} {x4 : Int32} {x5 : Int32} {ns0 : Nat} {M Z : Mem} {r : Int32} (h : f_L_begins_b148 N xs rec89 n2 x3 x4 x5 ns0 M = some (r, Z)) : GX M Z := by
  unfold f_L_begins_b148 at h
  obtain ⟨r1, M1m, c_M1m, h⟩ := clS h
  have q_M1m : GX M M1m := GX.tr (GX.refl M) ((k_L_some c_M1m).gx)
  obtain ⟨gq1, h⟩ := gdS h
  obtain ⟨o1, M2m, c_M2m, h⟩ := clS h
  have q_M2m : GX M M2m := GX.tr q_M1m (m_J4_append_cf468 c_M2m)
  exact GX.tr q_M2m (m_L_begins_b172 G89 h)
set_option maxRecDepth 100000 in
set_option maxHeartbeats 4000000 in
theorem b_L_begins_b148 {K : Kt} {X : Xt} (hp : St K) (hk : KC K) {N : Nat} {xs : Nat → Int32} (hq : KScr K N xs) {mc ms : Nat} (hB : Bx K X { frames := 9, cells := mc, slots := ms, locals := 200 } cL_begins 10 RL (some .boolean)) {r : Int32} {M1 : Mem} {rec89 : Nat → Int32 → Int32 → Mem → Option (Int32 × Mem)}
    (G89 : (∀ (n2 : Nat) (x3 : Int32) (x4 : Int32) (M Z : Mem) (r : Int32), rec89 n2 x3 x4 M = some (r, Z) → GX M Z)) (h89 : (∀ (n2 : Nat) (x3 : Int32) (x4 : Int32) (ce sl : Nat) (M : Mem), rec89 n2 x3 x4 M = some (r, M1) → mc + M.2.2.2 = ce + M1.2.2.2 → ms + szM M = sl + szM M1 → Wt K X (QM K X (some (vi r)) M1 mc ms) ce sl M 89 [(0, vr 64), (1, vr 61), (2, vr n2), (3, vi x3), (4, vi x4)] [])) {n2 : Nat} {x3 : Int32} {x4 : Int32} {x5 : Int32} {ns0 : Nat} {ce sl : Nat} {M : Mem} (hF : f_L_begins_b148 N xs rec89 n2 x3 x4 x5 ns0 M = some (r, M1)) (hn : mc + M.2.2.2 = ce + M1.2.2.2) (hz : ms + szM M = sl + szM M1) : Wt K X (QM K X (some (vi r)) M1 mc ms) ce sl M 148 [(0, vr 64), (1, vr 61), (2, vr n2), (3, vi x3), (4, vi x4), (5, vi x5)] [vr ns0] := by
  have hg := m_L_begins_b148 G89 hF
  have hg1 := hg.1
  have hg2 := hg.2.1
  unfold f_L_begins_b148 at hF
  refine w_bipush hB 97 (by decide) dL_begins_148 ?_
  refine w_iload hB 5 dL_begins_150 rfl ?_
  refine w_iconst hB 1 (by decide) dL_begins_152 ?_
  refine w_iadd hB dL_begins_153 ?_
  refine w_aload_n hB 1 dL_begins_154 rfl rfl ?_
  refine w_bipush hB 11 (by decide) dL_begins_155 ?_
  refine w_iload hB 4 dL_begins_157 rfl ?_
  refine w_iadd hB dL_begins_159 ?_
  refine w_iconst hB 2 (by decide) dL_begins_160 ?_
  obtain ⟨r1, M1m, hc_M1m, hF⟩ := clS hF
  have q_M1m : EQ M M1m := k_L_some hc_M1m
  have x_M1m := q_M1m.gx
  have n_M1m := q_M1m.1
  have z_M1m := q_M1m.sz
  refine w_callS (M1 := M1m) hB (As := [vr 61, vi (11 + x4), vi 2]) (st := [vi (x5 + 1), vi 97, vr ns0]) cw_L_49 q_753 (c_L_some hp hq hc_M1m) ⟨rfl, rfl⟩ ⟨Nat.le_of_ble_eq_true rfl, Nat.le_of_ble_eq_true rfl⟩ ⟨show ce ≤ mc by omega, show sl ≤ ms by omega⟩ rfl (Nat.le_of_ble_eq_true rfl) dL_begins_161 rfl ?_ (Or.inl rfl)
  refine w_iadd hB dL_begins_164 ?_
  refine w_iconst hB 3 (by decide) dL_begins_165 ?_
  refine w_irem hB (by decide) dL_begins_166 ?_
  refine w_iadd hB dL_begins_167 ?_
  refine w_i2c hB dL_begins_168 ?_
  obtain ⟨g1, hF⟩ := gdS hF
  obtain ⟨o1, M2m, hc_M2m, hF⟩ := clS hF
  have x_M2m := m_J4_append_cf468 hc_M2m
  have xa_M2m := x_M2m.1
  have xb_M2m := x_M2m.2.1
  have hg3 := m_L_begins_b172 G89 hF
  have hg4 := hg3.1
  have hg5 := hg3.2.1
  refine w_callV (M1 := M2m) hB (ci := 10) (As := [vi (((97 + (((x5 + 1) + r1) - ((x5 + 1) + r1) / 3 * 3)).toUInt32 % 65536).toInt32)]) (st := []) cw_L_44 q_730 q_731 rfl (dqM g1) (c_J4_append_cf468 hp hk hc_M2m) ⟨rfl, rfl⟩ ⟨Nat.le_of_ble_eq_true rfl, Nat.le_of_ble_eq_true rfl⟩ ⟨show ce + (M2m.2.2.2 - M1m.2.2.2) ≤ mc by omega, show sl + (szM M2m - szM M1m) ≤ ms by omega⟩ rfl (Nat.le_of_ble_eq_true rfl) dL_begins_169 rfl ?_ (Or.inr (by omega))
  exact Wt.sub (L' := [(0, vr 64), (1, vr 61), (2, vr n2), (3, vi x3), (4, vi x4)]) [0, 1, 2, 3, 4] rfl (b_L_begins_b172 hp hk hq hB G89 h89 hF (by omega) (by omega))
def f_L_begins_b143 (N : Nat) (xs : Nat → Int32) (rec89 : Nat → Int32 → Int32 → Mem → Option (Int32 × Mem)) (n2 : Nat) (x3 : Int32) (x4 : Int32) (x5 : Int32) (ns0 : Nat) (M : Mem) : Option (Int32 × Mem) :=
  gd (1000 ≤ ns0 ∧ dsc M ns0 = 11 ∧ ns0 - 753 < M.2.2.2) <|
  cl (f_J4_append_15ec4 ns0 404 M) fun o1 M1m =>
  f_L_begins_b148 N xs rec89 n2 x3 x4 x5 o1 M1m
set_option maxRecDepth 100000 in
set_option maxHeartbeats 4000000 in
theorem m_L_begins_b143 {N : Nat} {xs : Nat → Int32} {rec89 : Nat → Int32 → Int32 → Mem → Option (Int32 × Mem)} (G89 : (∀ (n2 : Nat) (x3 : Int32) (x4 : Int32) (M Z : Mem) (r : Int32), rec89 n2 x3 x4 M = some (r, Z) → GX M Z)) {n2 : Nat} {x3 : Int32} {x4 : Int32} {x5 : Int32} {ns0 : Nat} {M Z : Mem} {r : Int32} (h : f_L_begins_b143 N xs rec89 n2 x3 x4 x5 ns0 M = some (r, Z)) : GX M Z := by
  unfold f_L_begins_b143 at h
  obtain ⟨gq0, h⟩ := gdS h
  obtain ⟨o1, M1m, c_M1m, h⟩ := clS h
  have q_M1m : GX M M1m := GX.tr (GX.refl M) (m_J4_append_15ec4 c_M1m)
  exact GX.tr q_M1m (m_L_begins_b148 G89 h)
set_option maxRecDepth 100000 in
set_option maxHeartbeats 4000000 in
theorem b_L_begins_b143 {K : Kt} {X : Xt} (hp : St K) (hk : KC K) {N : Nat} {xs : Nat → Int32} (hq : KScr K N xs) {mc ms : Nat} (hB : Bx K X { frames := 9, cells := mc, slots := ms, locals := 200 } cL_begins 10 RL (some .boolean)) {r : Int32} {M1 : Mem} {rec89 : Nat → Int32 → Int32 → Mem → Option (Int32 × Mem)}
    (G89 : (∀ (n2 : Nat) (x3 : Int32) (x4 : Int32) (M Z : Mem) (r : Int32), rec89 n2 x3 x4 M = some (r, Z) → GX M Z)) (h89 : (∀ (n2 : Nat) (x3 : Int32) (x4 : Int32) (ce sl : Nat) (M : Mem), rec89 n2 x3 x4 M = some (r, M1) → mc + M.2.2.2 = ce + M1.2.2.2 → ms + szM M = sl + szM M1 → Wt K X (QM K X (some (vi r)) M1 mc ms) ce sl M 89 [(0, vr 64), (1, vr 61), (2, vr n2), (3, vi x3), (4, vi x4)] [])) {n2 : Nat} {x3 : Int32} {x4 : Int32} {x5 : Int32} {ns0 : Nat} {ce sl : Nat} {M : Mem} (hF : f_L_begins_b143 N xs rec89 n2 x3 x4 x5 ns0 M = some (r, M1)) (hn : mc + M.2.2.2 = ce + M1.2.2.2) (hz : ms + szM M = sl + szM M1) : Wt K X (QM K X (some (vi r)) M1 mc ms) ce sl M 143 [(0, vr 64), (1, vr 61), (2, vr n2), (3, vi x3), (4, vi x4), (5, vi x5)] [vr ns0] := by
  have hg := m_L_begins_b143 G89 hF
  have hg1 := hg.1
  have hg2 := hg.2.1
  unfold f_L_begins_b143 at hF
  refine w_ldcs hB hp 404 (by decide) dL_begins_143 ?_
  obtain ⟨g1, hF⟩ := gdS hF
  obtain ⟨o1, M1m, hc_M1m, hF⟩ := clS hF
  have x_M1m := m_J4_append_15ec4 hc_M1m
  have xa_M1m := x_M1m.1
  have xb_M1m := x_M1m.2.1
  have hg3 := m_L_begins_b148 G89 hF
  have hg4 := hg3.1
  have hg5 := hg3.2.1
  refine w_callV (M1 := M1m) hB (ci := 10) (As := [vr 404]) (st := []) cw_L_40 q_612 q_613 rfl (dqM g1) (c_J4_append_15ec4 hp hk hc_M1m) ⟨rfl, rfl⟩ ⟨Nat.le_of_ble_eq_true rfl, Nat.le_of_ble_eq_true rfl⟩ ⟨show ce + (M1m.2.2.2 - M.2.2.2) ≤ mc by omega, show sl + (szM M1m - szM M) ≤ ms by omega⟩ rfl (Nat.le_of_ble_eq_true rfl) dL_begins_145 rfl ?_ (Or.inr (by omega))
  exact Wt.sub (L' := [(0, vr 64), (1, vr 61), (2, vr n2), (3, vi x3), (4, vi x4), (5, vi x5)]) [0, 1, 2, 3, 4, 5] rfl (b_L_begins_b148 hp hk hq hB G89 h89 hF (by omega) (by omega))
def f_L_begins_b127 (N : Nat) (xs : Nat → Int32) (rec89 : Nat → Int32 → Int32 → Mem → Option (Int32 × Mem)) (n2 : Nat) (x3 : Int32) (x4 : Int32) (x5 : Int32) (ns0 : Nat) (M : Mem) : Option (Int32 × Mem) :=
  cl (f_L_some N xs (9 + x4) 4 M) fun r1 M1m =>
  gd (1000 ≤ ns0 ∧ dsc M1m ns0 = 11 ∧ ns0 - 753 < M1m.2.2.2) <|
  cl (f_J4_append_bf812 ns0 (10 + r1) M1m) fun o1 M2m =>
  f_L_begins_b143 N xs rec89 n2 x3 x4 x5 o1 M2m
set_option maxRecDepth 100000 in
set_option maxHeartbeats 4000000 in
theorem m_L_begins_b127 {N : Nat} {xs : Nat → Int32} {rec89 : Nat → Int32 → Int32 → Mem → Option (Int32 × Mem)} (G89 : (∀ (n2 : Nat) (x3 : Int32) (x4 : Int32) (M Z : Mem) (r : Int32), rec89 n2 x3 x4 M = some (r, Z) → GX M Z)) {n2 : Nat} {x3 : Int32} {x4 : Int32} {x5 : Int32} {ns0 : Nat} {M Z : Mem} {r : Int32} (h : f_L_begins_b127 N xs rec89 n2 x3 x4 x5 ns0 M = some (r, Z)) : GX M Z := by
  unfold f_L_begins_b127 at h
  obtain ⟨r1, M1m, c_M1m, h⟩ := clS h
  have q_M1m : GX M M1m := GX.tr (GX.refl M) ((k_L_some c_M1m).gx)
  obtain ⟨gq1, h⟩ := gdS h
  obtain ⟨o1, M2m, c_M2m, h⟩ := clS h
  have q_M2m : GX M M2m := GX.tr q_M1m (m_J4_append_bf812 c_M2m)
  exact GX.tr q_M2m (m_L_begins_b143 G89 h)
set_option maxRecDepth 100000 in
set_option maxHeartbeats 4000000 in
theorem b_L_begins_b127 {K : Kt} {X : Xt} (hp : St K) (hk : KC K) {N : Nat} {xs : Nat → Int32} (hq : KScr K N xs) {mc ms : Nat} (hB : Bx K X { frames := 9, cells := mc, slots := ms, locals := 200 } cL_begins 10 RL (some .boolean)) {r : Int32} {M1 : Mem} {rec89 : Nat → Int32 → Int32 → Mem → Option (Int32 × Mem)}
    (G89 : (∀ (n2 : Nat) (x3 : Int32) (x4 : Int32) (M Z : Mem) (r : Int32), rec89 n2 x3 x4 M = some (r, Z) → GX M Z)) (h89 : (∀ (n2 : Nat) (x3 : Int32) (x4 : Int32) (ce sl : Nat) (M : Mem), rec89 n2 x3 x4 M = some (r, M1) → mc + M.2.2.2 = ce + M1.2.2.2 → ms + szM M = sl + szM M1 → Wt K X (QM K X (some (vi r)) M1 mc ms) ce sl M 89 [(0, vr 64), (1, vr 61), (2, vr n2), (3, vi x3), (4, vi x4)] [])) {n2 : Nat} {x3 : Int32} {x4 : Int32} {x5 : Int32} {ns0 : Nat} {ce sl : Nat} {M : Mem} (hF : f_L_begins_b127 N xs rec89 n2 x3 x4 x5 ns0 M = some (r, M1)) (hn : mc + M.2.2.2 = ce + M1.2.2.2) (hz : ms + szM M = sl + szM M1) : Wt K X (QM K X (some (vi r)) M1 mc ms) ce sl M 127 [(0, vr 64), (1, vr 61), (2, vr n2), (3, vi x3), (4, vi x4), (5, vi x5)] [vr ns0] := by
  have hg := m_L_begins_b127 G89 hF
  have hg1 := hg.1
  have hg2 := hg.2.1
  unfold f_L_begins_b127 at hF
  refine w_bipush hB 10 (by decide) dL_begins_127 ?_
  refine w_aload_n hB 1 dL_begins_129 rfl rfl ?_
  refine w_bipush hB 9 (by decide) dL_begins_130 ?_
  refine w_iload hB 4 dL_begins_132 rfl ?_
  refine w_iadd hB dL_begins_134 ?_
  refine w_iconst hB 4 (by decide) dL_begins_135 ?_
  obtain ⟨r1, M1m, hc_M1m, hF⟩ := clS hF
  have q_M1m : EQ M M1m := k_L_some hc_M1m
  have x_M1m := q_M1m.gx
  have n_M1m := q_M1m.1
  have z_M1m := q_M1m.sz
  refine w_callS (M1 := M1m) hB (As := [vr 61, vi (9 + x4), vi 4]) (st := [vi 10, vr ns0]) cw_L_49 q_753 (c_L_some hp hq hc_M1m) ⟨rfl, rfl⟩ ⟨Nat.le_of_ble_eq_true rfl, Nat.le_of_ble_eq_true rfl⟩ ⟨show ce ≤ mc by omega, show sl ≤ ms by omega⟩ rfl (Nat.le_of_ble_eq_true rfl) dL_begins_136 rfl ?_ (Or.inl rfl)
  refine w_iadd hB dL_begins_139 ?_
  obtain ⟨g1, hF⟩ := gdS hF
  obtain ⟨o1, M2m, hc_M2m, hF⟩ := clS hF
  have x_M2m := m_J4_append_bf812 hc_M2m
  have xa_M2m := x_M2m.1
  have xb_M2m := x_M2m.2.1
  have hg3 := m_L_begins_b143 G89 hF
  have hg4 := hg3.1
  have hg5 := hg3.2.1
  refine w_callV (M1 := M2m) hB (ci := 10) (As := [vi (10 + r1)]) (st := []) cw_L_53 q_761 q_762 rfl (dqM g1) (c_J4_append_bf812 hp hk hc_M2m) ⟨rfl, rfl⟩ ⟨Nat.le_of_ble_eq_true rfl, Nat.le_of_ble_eq_true rfl⟩ ⟨show ce + (M2m.2.2.2 - M1m.2.2.2) ≤ mc by omega, show sl + (szM M2m - szM M1m) ≤ ms by omega⟩ rfl (Nat.le_of_ble_eq_true rfl) dL_begins_140 rfl ?_ (Or.inr (by omega))
  exact Wt.sub (L' := [(0, vr 64), (1, vr 61), (2, vr n2), (3, vi x3), (4, vi x4), (5, vi x5)]) [0, 1, 2, 3, 4, 5] rfl (b_L_begins_b143 hp hk hq hB G89 h89 hF (by omega) (by omega))
def f_L_begins_b122 (N : Nat) (xs : Nat → Int32) (rec89 : Nat → Int32 → Int32 → Mem → Option (Int32 × Mem)) (n2 : Nat) (x3 : Int32) (x4 : Int32) (x5 : Int32) (ns0 : Nat) (M : Mem) : Option (Int32 × Mem) :=
  gd (1000 ≤ ns0 ∧ dsc M ns0 = 11 ∧ ns0 - 753 < M.2.2.2) <|
  cl (f_J4_append_15ec4 ns0 401 M) fun o1 M1m =>
  f_L_begins_b127 N xs rec89 n2 x3 x4 x5 o1 M1m
set_option maxRecDepth 100000 in
set_option maxHeartbeats 4000000 in
theorem m_L_begins_b122 {N : Nat} {xs : Nat → Int32} {rec89 : Nat → Int32 → Int32 → Mem → Option (Int32 × Mem)} (G89 : (∀ (n2 : Nat) (x3 : Int32) (x4 : Int32) (M Z : Mem) (r : Int32), rec89 n2 x3 x4 M = some (r, Z) → GX M Z)) {n2 : Nat} {x3 : Int32} {x4 : Int32} {x5 : Int32} {ns0 : Nat} {M Z : Mem} {r : Int32} (h : f_L_begins_b122 N xs rec89 n2 x3 x4 x5 ns0 M = some (r, Z)) : GX M Z := by
  unfold f_L_begins_b122 at h
  obtain ⟨gq0, h⟩ := gdS h
  obtain ⟨o1, M1m, c_M1m, h⟩ := clS h
  have q_M1m : GX M M1m := GX.tr (GX.refl M) (m_J4_append_15ec4 c_M1m)
  exact GX.tr q_M1m (m_L_begins_b127 G89 h)
set_option maxRecDepth 100000 in
set_option maxHeartbeats 4000000 in
theorem b_L_begins_b122 {K : Kt} {X : Xt} (hp : St K) (hk : KC K) {N : Nat} {xs : Nat → Int32} (hq : KScr K N xs) {mc ms : Nat} (hB : Bx K X { frames := 9, cells := mc, slots := ms, locals := 200 } cL_begins 10 RL (some .boolean)) {r : Int32} {M1 : Mem} {rec89 : Nat → Int32 → Int32 → Mem → Option (Int32 × Mem)}
    (G89 : (∀ (n2 : Nat) (x3 : Int32) (x4 : Int32) (M Z : Mem) (r : Int32), rec89 n2 x3 x4 M = some (r, Z) → GX M Z)) (h89 : (∀ (n2 : Nat) (x3 : Int32) (x4 : Int32) (ce sl : Nat) (M : Mem), rec89 n2 x3 x4 M = some (r, M1) → mc + M.2.2.2 = ce + M1.2.2.2 → ms + szM M = sl + szM M1 → Wt K X (QM K X (some (vi r)) M1 mc ms) ce sl M 89 [(0, vr 64), (1, vr 61), (2, vr n2), (3, vi x3), (4, vi x4)] [])) {n2 : Nat} {x3 : Int32} {x4 : Int32} {x5 : Int32} {ns0 : Nat} {ce sl : Nat} {M : Mem} (hF : f_L_begins_b122 N xs rec89 n2 x3 x4 x5 ns0 M = some (r, M1)) (hn : mc + M.2.2.2 = ce + M1.2.2.2) (hz : ms + szM M = sl + szM M1) : Wt K X (QM K X (some (vi r)) M1 mc ms) ce sl M 122 [(0, vr 64), (1, vr 61), (2, vr n2), (3, vi x3), (4, vi x4), (5, vi x5)] [vr ns0] := by
  have hg := m_L_begins_b122 G89 hF
  have hg1 := hg.1
  have hg2 := hg.2.1
  unfold f_L_begins_b122 at hF
  refine w_ldcs hB hp 401 (by decide) dL_begins_122 ?_
  obtain ⟨g1, hF⟩ := gdS hF
  obtain ⟨o1, M1m, hc_M1m, hF⟩ := clS hF
  have x_M1m := m_J4_append_15ec4 hc_M1m
  have xa_M1m := x_M1m.1
  have xb_M1m := x_M1m.2.1
  have hg3 := m_L_begins_b127 G89 hF
  have hg4 := hg3.1
  have hg5 := hg3.2.1
  refine w_callV (M1 := M1m) hB (ci := 10) (As := [vr 401]) (st := []) cw_L_40 q_612 q_613 rfl (dqM g1) (c_J4_append_15ec4 hp hk hc_M1m) ⟨rfl, rfl⟩ ⟨Nat.le_of_ble_eq_true rfl, Nat.le_of_ble_eq_true rfl⟩ ⟨show ce + (M1m.2.2.2 - M.2.2.2) ≤ mc by omega, show sl + (szM M1m - szM M) ≤ ms by omega⟩ rfl (Nat.le_of_ble_eq_true rfl) dL_begins_124 rfl ?_ (Or.inr (by omega))
  exact Wt.sub (L' := [(0, vr 64), (1, vr 61), (2, vr n2), (3, vi x3), (4, vi x4), (5, vi x5)]) [0, 1, 2, 3, 4, 5] rfl (b_L_begins_b127 hp hk hq hB G89 h89 hF (by omega) (by omega))
def f_L_begins_b113 (N : Nat) (xs : Nat → Int32) (rec89 : Nat → Int32 → Int32 → Mem → Option (Int32 × Mem)) (n2 : Nat) (x3 : Int32) (x4 : Int32) (x5 : Int32) (ns0 : Nat) (M : Mem) : Option (Int32 × Mem) :=
  gd (1000 ≤ ns0 ∧ dsc M ns0 = 11 ∧ ns0 - 753 < M.2.2.2) <|
  cl (f_J4_append_cf468 ns0 (((97 + x5).toUInt32 % 65536).toInt32) M) fun o1 M1m =>
  f_L_begins_b122 N xs rec89 n2 x3 x4 x5 o1 M1m
set_option maxRecDepth 100000 in
set_option maxHeartbeats 4000000 in
theorem m_L_begins_b113 {N : Nat} {xs : Nat → Int32} {rec89 : Nat → Int32 → Int32 → Mem → Option (Int32 × Mem)} (G89 : (∀ (n2 : Nat) (x3 : Int32) (x4 : Int32) (M Z : Mem) (r : Int32), rec89 n2 x3 x4 M = some (r, Z) → GX M Z)) {n2 : Nat} {x3 : Int32} {x4 : Int32} {x5 : Int32} {ns0 : Nat} {M Z : Mem} {r : Int32} (h : f_L_begins_b113 N xs rec89 n2 x3 x4 x5 ns0 M = some (r, Z)) : GX M Z := by
  unfold f_L_begins_b113 at h
  obtain ⟨gq0, h⟩ := gdS h
  obtain ⟨o1, M1m, c_M1m, h⟩ := clS h
  have q_M1m : GX M M1m := GX.tr (GX.refl M) (m_J4_append_cf468 c_M1m)
  exact GX.tr q_M1m (m_L_begins_b122 G89 h)
set_option maxRecDepth 100000 in
set_option maxHeartbeats 4000000 in
theorem b_L_begins_b113 {K : Kt} {X : Xt} (hp : St K) (hk : KC K) {N : Nat} {xs : Nat → Int32} (hq : KScr K N xs) {mc ms : Nat} (hB : Bx K X { frames := 9, cells := mc, slots := ms, locals := 200 } cL_begins 10 RL (some .boolean)) {r : Int32} {M1 : Mem} {rec89 : Nat → Int32 → Int32 → Mem → Option (Int32 × Mem)}
    (G89 : (∀ (n2 : Nat) (x3 : Int32) (x4 : Int32) (M Z : Mem) (r : Int32), rec89 n2 x3 x4 M = some (r, Z) → GX M Z)) (h89 : (∀ (n2 : Nat) (x3 : Int32) (x4 : Int32) (ce sl : Nat) (M : Mem), rec89 n2 x3 x4 M = some (r, M1) → mc + M.2.2.2 = ce + M1.2.2.2 → ms + szM M = sl + szM M1 → Wt K X (QM K X (some (vi r)) M1 mc ms) ce sl M 89 [(0, vr 64), (1, vr 61), (2, vr n2), (3, vi x3), (4, vi x4)] [])) {n2 : Nat} {x3 : Int32} {x4 : Int32} {x5 : Int32} {ns0 : Nat} {ce sl : Nat} {M : Mem} (hF : f_L_begins_b113 N xs rec89 n2 x3 x4 x5 ns0 M = some (r, M1)) (hn : mc + M.2.2.2 = ce + M1.2.2.2) (hz : ms + szM M = sl + szM M1) : Wt K X (QM K X (some (vi r)) M1 mc ms) ce sl M 113 [(0, vr 64), (1, vr 61), (2, vr n2), (3, vi x3), (4, vi x4), (5, vi x5)] [vr ns0] := by
  have hg := m_L_begins_b113 G89 hF
  have hg1 := hg.1
  have hg2 := hg.2.1
  unfold f_L_begins_b113 at hF
  refine w_bipush hB 97 (by decide) dL_begins_113 ?_
  refine w_iload hB 5 dL_begins_115 rfl ?_
  refine w_iadd hB dL_begins_117 ?_
  refine w_i2c hB dL_begins_118 ?_
  obtain ⟨g1, hF⟩ := gdS hF
  obtain ⟨o1, M1m, hc_M1m, hF⟩ := clS hF
  have x_M1m := m_J4_append_cf468 hc_M1m
  have xa_M1m := x_M1m.1
  have xb_M1m := x_M1m.2.1
  have hg3 := m_L_begins_b122 G89 hF
  have hg4 := hg3.1
  have hg5 := hg3.2.1
  refine w_callV (M1 := M1m) hB (ci := 10) (As := [vi (((97 + x5).toUInt32 % 65536).toInt32)]) (st := []) cw_L_44 q_730 q_731 rfl (dqM g1) (c_J4_append_cf468 hp hk hc_M1m) ⟨rfl, rfl⟩ ⟨Nat.le_of_ble_eq_true rfl, Nat.le_of_ble_eq_true rfl⟩ ⟨show ce + (M1m.2.2.2 - M.2.2.2) ≤ mc by omega, show sl + (szM M1m - szM M) ≤ ms by omega⟩ rfl (Nat.le_of_ble_eq_true rfl) dL_begins_119 rfl ?_ (Or.inr (by omega))
  exact Wt.sub (L' := [(0, vr 64), (1, vr 61), (2, vr n2), (3, vi x3), (4, vi x4), (5, vi x5)]) [0, 1, 2, 3, 4, 5] rfl (b_L_begins_b122 hp hk hq hB G89 h89 hF (by omega) (by omega))
def f_L_begins_b89_s (N : Nat) (xs : Nat → Int32) (rec89 : Nat → Int32 → Int32 → Mem → Option (Int32 × Mem)) (n2 : Nat) (x3 : Int32) (x4 : Int32) (M : Mem) : Option (Int32 × Mem) :=
  if x3 ≤ x4 then
    gd (1000 ≤ n2 ∧ dsc M n2 = 11 ∧ n2 - 753 < M.2.2.2) <|
    cl (f_J4_append_15ec4 n2 405 M) fun o1 M1m =>
    f_L_begins_b211 N xs n2 x3 o1 M1m
  else
    cl (f_L_some N xs (7 + x4) 3 M) fun r1 M2m =>
    gd (1000 ≤ n2 ∧ dsc M2m n2 = 11 ∧ n2 - 753 < M2m.2.2.2) <|
    cl (f_J4_append_15ec4 n2 403 M2m) fun o2 M3m =>
    f_L_begins_b113 N xs rec89 n2 x3 x4 r1 o2 M3m
set_option maxRecDepth 100000 in
set_option maxHeartbeats 4000000 in
theorem m_L_begins_b89_s {N : Nat} {xs : Nat → Int32} {rec89 : Nat → Int32 → Int32 → Mem → Option (Int32 × Mem)} (G89 : (∀ (n2 : Nat) (x3 : Int32) (x4 : Int32) (M Z : Mem) (r : Int32), rec89 n2 x3 x4 M = some (r, Z) → GX M Z)) {n2 : Nat} {x3 : Int32} {x4 : Int32} {M Z : Mem} {r : Int32} (h : f_L_begins_b89_s N xs rec89 n2 x3 x4 M = some (r, Z)) : GX M Z := by
  unfold f_L_begins_b89_s at h
  rcases ifS h with ⟨-, h⟩ | ⟨-, h⟩
  · obtain ⟨gq1, h⟩ := gdS h
    obtain ⟨o1, M1m, c_M1m, h⟩ := clS h
    have q_M1m : GX M M1m := GX.tr (GX.refl M) (m_J4_append_15ec4 c_M1m)
    exact GX.tr q_M1m (m_L_begins_b211 h)
  · obtain ⟨r1, M2m, c_M2m, h⟩ := clS h
    have q_M2m : GX M M2m := GX.tr (GX.refl M) ((k_L_some c_M2m).gx)
    obtain ⟨gq6, h⟩ := gdS h
    obtain ⟨o2, M3m, c_M3m, h⟩ := clS h
    have q_M3m : GX M M3m := GX.tr q_M2m (m_J4_append_15ec4 c_M3m)
    exact GX.tr q_M3m (m_L_begins_b113 G89 h)
set_option maxRecDepth 100000 in
set_option maxHeartbeats 4000000 in
theorem b_L_begins_b89_s {K : Kt} {X : Xt} (hp : St K) (hk : KC K) {N : Nat} {xs : Nat → Int32} (hq : KScr K N xs) {mc ms : Nat} (hB : Bx K X { frames := 9, cells := mc, slots := ms, locals := 200 } cL_begins 10 RL (some .boolean)) {r : Int32} {M1 : Mem} {rec89 : Nat → Int32 → Int32 → Mem → Option (Int32 × Mem)}
    (G89 : (∀ (n2 : Nat) (x3 : Int32) (x4 : Int32) (M Z : Mem) (r : Int32), rec89 n2 x3 x4 M = some (r, Z) → GX M Z)) (h89 : (∀ (n2 : Nat) (x3 : Int32) (x4 : Int32) (ce sl : Nat) (M : Mem), rec89 n2 x3 x4 M = some (r, M1) → mc + M.2.2.2 = ce + M1.2.2.2 → ms + szM M = sl + szM M1 → Wt K X (QM K X (some (vi r)) M1 mc ms) ce sl M 89 [(0, vr 64), (1, vr 61), (2, vr n2), (3, vi x3), (4, vi x4)] [])) {n2 : Nat} {x3 : Int32} {x4 : Int32} {ce sl : Nat} {M : Mem} (hF : f_L_begins_b89_s N xs rec89 n2 x3 x4 M = some (r, M1)) (hn : mc + M.2.2.2 = ce + M1.2.2.2) (hz : ms + szM M = sl + szM M1) : Wt K X (QM K X (some (vi r)) M1 mc ms) ce sl M 89 [(0, vr 64), (1, vr 61), (2, vr n2), (3, vi x3), (4, vi x4)] [] := by
  have hg := m_L_begins_b89_s G89 hF
  have hg1 := hg.1
  have hg2 := hg.2.1
  unfold f_L_begins_b89_s at hF
  refine w_iload hB 4 dL_begins_89 rfl ?_
  refine w_iload_n hB 3 dL_begins_91 rfl rfl ?_
  refine w_icmp_ge hB 205 dL_begins_92 (by decide) (fun hc => ?_) (fun hc => ?_)
  · replace hF := ifT hc hF
    refine w_aload_n hB 2 dL_begins_205 rfl rfl ?_
    refine w_ldcs hB hp 405 (by decide) dL_begins_206 ?_
    obtain ⟨g1, hF⟩ := gdS hF
    obtain ⟨o1, M1m, hc_M1m, hF⟩ := clS hF
    have x_M1m := m_J4_append_15ec4 hc_M1m
    have xa_M1m := x_M1m.1
    have xb_M1m := x_M1m.2.1
    have hg3 := m_L_begins_b211 hF
    have hg4 := hg3.1
    have hg5 := hg3.2.1
    refine w_callV (M1 := M1m) hB (ci := 10) (As := [vr 405]) (st := []) cw_L_40 q_612 q_613 rfl (dqM g1) (c_J4_append_15ec4 hp hk hc_M1m) ⟨rfl, rfl⟩ ⟨Nat.le_of_ble_eq_true rfl, Nat.le_of_ble_eq_true rfl⟩ ⟨show ce + (M1m.2.2.2 - M.2.2.2) ≤ mc by omega, show sl + (szM M1m - szM M) ≤ ms by omega⟩ rfl (Nat.le_of_ble_eq_true rfl) dL_begins_208 rfl ?_ (Or.inr (by omega))
    exact Wt.sub (L' := [(0, vr 64), (1, vr 61), (2, vr n2), (3, vi x3)]) [0, 1, 2, 3] rfl (b_L_begins_b211 hp hk hq hB hF (by omega) (by omega))
  · replace hF := ifF hc hF
    refine w_aload_n hB 1 dL_begins_95 rfl rfl ?_
    refine w_bipush hB 7 (by decide) dL_begins_96 ?_
    refine w_iload hB 4 dL_begins_98 rfl ?_
    refine w_iadd hB dL_begins_100 ?_
    refine w_iconst hB 3 (by decide) dL_begins_101 ?_
    obtain ⟨r1, M2m, hc_M2m, hF⟩ := clS hF
    have q_M2m : EQ M M2m := k_L_some hc_M2m
    have x_M2m := q_M2m.gx
    have n_M2m := q_M2m.1
    have z_M2m := q_M2m.sz
    refine w_callS (M1 := M2m) hB (As := [vr 61, vi (7 + x4), vi 3]) (st := []) cw_L_49 q_753 (c_L_some hp hq hc_M2m) ⟨rfl, rfl⟩ ⟨Nat.le_of_ble_eq_true rfl, Nat.le_of_ble_eq_true rfl⟩ ⟨show ce ≤ mc by omega, show sl ≤ ms by omega⟩ rfl (Nat.le_of_ble_eq_true rfl) dL_begins_102 rfl ?_ (Or.inl rfl)
    refine w_istore hB (L' := [(5, vi r1), (0, vr 64), (1, vr 61), (2, vr n2), (3, vi x3), (4, vi x4)]) dL_begins_105 (by decide) rfl rfl ?_
    refine w_aload_n hB 3 dL_begins_107 rfl rfl ?_
    refine w_ldcs hB hp 403 (by decide) dL_begins_108 ?_
    obtain ⟨g2, hF⟩ := gdS hF
    obtain ⟨o2, M3m, hc_M3m, hF⟩ := clS hF
    have x_M3m := m_J4_append_15ec4 hc_M3m
    have xa_M3m := x_M3m.1
    have xb_M3m := x_M3m.2.1
    have hg3 := m_L_begins_b113 G89 hF
    have hg4 := hg3.1
    have hg5 := hg3.2.1
    refine w_callV (M1 := M3m) hB (ci := 10) (As := [vr 403]) (st := []) cw_L_40 q_612 q_613 rfl (dqM g2) (c_J4_append_15ec4 hp hk hc_M3m) ⟨rfl, rfl⟩ ⟨Nat.le_of_ble_eq_true rfl, Nat.le_of_ble_eq_true rfl⟩ ⟨show ce + (M3m.2.2.2 - M2m.2.2.2) ≤ mc by omega, show sl + (szM M3m - szM M2m) ≤ ms by omega⟩ rfl (Nat.le_of_ble_eq_true rfl) dL_begins_110 rfl ?_ (Or.inr (by omega))
    exact Wt.sub (L' := [(0, vr 64), (1, vr 61), (2, vr n2), (3, vi x3), (4, vi x4), (5, vi r1)]) [1, 2, 3, 4, 5, 0] rfl (b_L_begins_b113 hp hk hq hB G89 h89 hF (by omega) (by omega))
def f_L_begins_b89 (N : Nat) (xs : Nat → Int32) (k : Nat) : Nat → Int32 → Int32 → Mem → Option (Int32 × Mem) := lpN (fun _ _ _ _ => none) (f_L_begins_b89_s N xs) k
theorem m_L_begins_b89 {N : Nat} {xs : Nat → Int32} (k : Nat) : (∀ (n2 : Nat) (x3 : Int32) (x4 : Int32) (M Z : Mem) (r : Int32), f_L_begins_b89 N xs k n2 x3 x4 M = some (r, Z) → GX M Z) :=
  lpN_ind (P := fun (f : Nat → Int32 → Int32 → Mem → Option (Int32 × Mem)) => (∀ (n2 : Nat) (x3 : Int32) (x4 : Int32) (M Z : Mem) (r : Int32), f n2 x3 x4 M = some (r, Z) → GX M Z)) (fun _ _ _ _ _ _ h => by cases h) (fun f hf _ _ _ _ _ _ h => m_L_begins_b89_s hf h) k
theorem b_L_begins_b89 {K : Kt} {X : Xt} (hp : St K) (hk : KC K) {N : Nat} {xs : Nat → Int32} (hq : KScr K N xs) {mc ms : Nat} (hB : Bx K X { frames := 9, cells := mc, slots := ms, locals := 200 } cL_begins 10 RL (some .boolean)) {r : Int32} {M1 : Mem} (k : Nat) : (∀ (n2 : Nat) (x3 : Int32) (x4 : Int32) (ce sl : Nat) (M : Mem), f_L_begins_b89 N xs k n2 x3 x4 M = some (r, M1) → mc + M.2.2.2 = ce + M1.2.2.2 → ms + szM M = sl + szM M1 → Wt K X (QM K X (some (vi r)) M1 mc ms) ce sl M 89 [(0, vr 64), (1, vr 61), (2, vr n2), (3, vi x3), (4, vi x4)] []) :=
  (lpN_ind (P := fun (f : Nat → Int32 → Int32 → Mem → Option (Int32 × Mem)) => (∀ (n2 : Nat) (x3 : Int32) (x4 : Int32) (M Z : Mem) (r : Int32), f n2 x3 x4 M = some (r, Z) → GX M Z) ∧ (∀ (n2 : Nat) (x3 : Int32) (x4 : Int32) (ce sl : Nat) (M : Mem), f n2 x3 x4 M = some (r, M1) → mc + M.2.2.2 = ce + M1.2.2.2 → ms + szM M = sl + szM M1 → Wt K X (QM K X (some (vi r)) M1 mc ms) ce sl M 89 [(0, vr 64), (1, vr 61), (2, vr n2), (3, vi x3), (4, vi x4)] [])) ⟨fun _ _ _ _ _ _ h => (by cases h), fun _ _ _ _ _ _ h _ _ => (by cases h)⟩ (fun f hf => ⟨fun _ _ _ _ _ _ h => m_L_begins_b89_s hf.1 h, fun _ _ _ _ _ _ hF hn hz => b_L_begins_b89_s hp hk hq hB hf.1 hf.2 hF hn hz⟩) k).2
def f_L_begins_b71 (N : Nat) (xs : Nat → Int32) (rec10 : Nat → Int32 → Mem → Option (Int32 × Mem)) (n2 : Nat) (x3 : Int32) (ns0 : Nat) (M : Mem) : Option (Int32 × Mem) :=
  bnd (x3 + 1) fun a1 =>
  rec10 n2 a1 M
set_option maxRecDepth 100000 in
set_option maxHeartbeats 4000000 in
theorem m_L_begins_b71 {N : Nat} {xs : Nat → Int32} {rec10 : Nat → Int32 → Mem → Option (Int32 × Mem)} (G10 : (∀ (n2 : Nat) (x3 : Int32) (M Z : Mem) (r : Int32), rec10 n2 x3 M = some (r, Z) → GX M Z)) {n2 : Nat} {x3 : Int32} {ns0 : Nat} {M Z : Mem} {r : Int32} (h : f_L_begins_b71 N xs rec10 n2 x3 ns0 M = some (r, Z)) : GX M Z := by
  unfold f_L_begins_b71 at h
  obtain ⟨a1, e_a1, h⟩ := bndS h
  exact GX.tr (GX.refl M) (G10 _ _ _ _ _ h)
set_option maxRecDepth 100000 in
set_option maxHeartbeats 4000000 in
theorem b_L_begins_b71 {K : Kt} {X : Xt} (hp : St K) (hk : KC K) {N : Nat} {xs : Nat → Int32} (hq : KScr K N xs) {mc ms : Nat} (hB : Bx K X { frames := 9, cells := mc, slots := ms, locals := 200 } cL_begins 10 RL (some .boolean)) {r : Int32} {M1 : Mem} {rec10 : Nat → Int32 → Mem → Option (Int32 × Mem)}
    (G10 : (∀ (n2 : Nat) (x3 : Int32) (M Z : Mem) (r : Int32), rec10 n2 x3 M = some (r, Z) → GX M Z)) (h10 : (∀ (n2 : Nat) (x3 : Int32) (ce sl : Nat) (M : Mem), rec10 n2 x3 M = some (r, M1) → mc + M.2.2.2 = ce + M1.2.2.2 → ms + szM M = sl + szM M1 → Wt K X (QM K X (some (vi r)) M1 mc ms) ce sl M 10 [(0, vr 64), (1, vr 61), (2, vr n2), (3, vi x3)] [])) {n2 : Nat} {x3 : Int32} {ns0 : Nat} {ce sl : Nat} {M : Mem} (hF : f_L_begins_b71 N xs rec10 n2 x3 ns0 M = some (r, M1)) (hn : mc + M.2.2.2 = ce + M1.2.2.2) (hz : ms + szM M = sl + szM M1) : Wt K X (QM K X (some (vi r)) M1 mc ms) ce sl M 71 [(0, vr 64), (1, vr 61), (2, vr n2), (3, vi x3)] [vr ns0] := by
  have hg := m_L_begins_b71 G10 hF
  have hg1 := hg.1
  have hg2 := hg.2.1
  unfold f_L_begins_b71 at hF
  refine w_pop hB rfl dL_begins_71 ?_
  obtain ⟨a1, e_a1, hF⟩ := bndS hF
  refine w_iinc hB 3 (v := 1) (L' := [(3, vi a1), (0, vr 64), (1, vr 61), (2, vr n2)]) dL_begins_72 rfl (by decide) (by decide) e_a1 rfl ?_
  refine w_goto hB 10 dL_begins_75 (by decide) ?_
  exact Wt.sub (L' := [(0, vr 64), (1, vr 61), (2, vr n2), (3, vi a1)]) [1, 2, 3, 0] rfl (h10 _ _ _ _ M hF (by omega) (by omega))
def f_L_begins_b66 (N : Nat) (xs : Nat → Int32) (rec10 : Nat → Int32 → Mem → Option (Int32 × Mem)) (n2 : Nat) (x3 : Int32) (ns0 : Nat) (M : Mem) : Option (Int32 × Mem) :=
  gd (1000 ≤ ns0 ∧ dsc M ns0 = 11 ∧ ns0 - 753 < M.2.2.2) <|
  cl (f_J4_append_15ec4 ns0 402 M) fun o1 M1m =>
  f_L_begins_b71 N xs rec10 n2 x3 o1 M1m
set_option maxRecDepth 100000 in
set_option maxHeartbeats 4000000 in
theorem m_L_begins_b66 {N : Nat} {xs : Nat → Int32} {rec10 : Nat → Int32 → Mem → Option (Int32 × Mem)} (G10 : (∀ (n2 : Nat) (x3 : Int32) (M Z : Mem) (r : Int32), rec10 n2 x3 M = some (r, Z) → GX M Z)) {n2 : Nat} {x3 : Int32} {ns0 : Nat} {M Z : Mem} {r : Int32} (h : f_L_begins_b66 N xs rec10 n2 x3 ns0 M = some (r, Z)) : GX M Z := by
  unfold f_L_begins_b66 at h
  obtain ⟨gq0, h⟩ := gdS h
  obtain ⟨o1, M1m, c_M1m, h⟩ := clS h
  have q_M1m : GX M M1m := GX.tr (GX.refl M) (m_J4_append_15ec4 c_M1m)
  exact GX.tr q_M1m (m_L_begins_b71 G10 h)
set_option maxRecDepth 100000 in
set_option maxHeartbeats 4000000 in
theorem b_L_begins_b66 {K : Kt} {X : Xt} (hp : St K) (hk : KC K) {N : Nat} {xs : Nat → Int32} (hq : KScr K N xs) {mc ms : Nat} (hB : Bx K X { frames := 9, cells := mc, slots := ms, locals := 200 } cL_begins 10 RL (some .boolean)) {r : Int32} {M1 : Mem} {rec10 : Nat → Int32 → Mem → Option (Int32 × Mem)}
    (G10 : (∀ (n2 : Nat) (x3 : Int32) (M Z : Mem) (r : Int32), rec10 n2 x3 M = some (r, Z) → GX M Z)) (h10 : (∀ (n2 : Nat) (x3 : Int32) (ce sl : Nat) (M : Mem), rec10 n2 x3 M = some (r, M1) → mc + M.2.2.2 = ce + M1.2.2.2 → ms + szM M = sl + szM M1 → Wt K X (QM K X (some (vi r)) M1 mc ms) ce sl M 10 [(0, vr 64), (1, vr 61), (2, vr n2), (3, vi x3)] [])) {n2 : Nat} {x3 : Int32} {ns0 : Nat} {ce sl : Nat} {M : Mem} (hF : f_L_begins_b66 N xs rec10 n2 x3 ns0 M = some (r, M1)) (hn : mc + M.2.2.2 = ce + M1.2.2.2) (hz : ms + szM M = sl + szM M1) : Wt K X (QM K X (some (vi r)) M1 mc ms) ce sl M 66 [(0, vr 64), (1, vr 61), (2, vr n2), (3, vi x3)] [vr ns0] := by
  have hg := m_L_begins_b66 G10 hF
  have hg1 := hg.1
  have hg2 := hg.2.1
  unfold f_L_begins_b66 at hF
  refine w_ldcs hB hp 402 (by decide) dL_begins_66 ?_
  obtain ⟨g1, hF⟩ := gdS hF
  obtain ⟨o1, M1m, hc_M1m, hF⟩ := clS hF
  have x_M1m := m_J4_append_15ec4 hc_M1m
  have xa_M1m := x_M1m.1
  have xb_M1m := x_M1m.2.1
  have hg3 := m_L_begins_b71 G10 hF
  have hg4 := hg3.1
  have hg5 := hg3.2.1
  refine w_callV (M1 := M1m) hB (ci := 10) (As := [vr 402]) (st := []) cw_L_40 q_612 q_613 rfl (dqM g1) (c_J4_append_15ec4 hp hk hc_M1m) ⟨rfl, rfl⟩ ⟨Nat.le_of_ble_eq_true rfl, Nat.le_of_ble_eq_true rfl⟩ ⟨show ce + (M1m.2.2.2 - M.2.2.2) ≤ mc by omega, show sl + (szM M1m - szM M) ≤ ms by omega⟩ rfl (Nat.le_of_ble_eq_true rfl) dL_begins_68 rfl ?_ (Or.inr (by omega))
  exact Wt.sub (L' := [(0, vr 64), (1, vr 61), (2, vr n2), (3, vi x3)]) [0, 1, 2, 3] rfl (b_L_begins_b71 hp hk hq hB G10 h10 hF (by omega) (by omega))
def f_L_begins_b48 (N : Nat) (xs : Nat → Int32) (rec10 : Nat → Int32 → Mem → Option (Int32 × Mem)) (n2 : Nat) (x3 : Int32) (ns0 : Nat) (M : Mem) : Option (Int32 × Mem) :=
  cl (f_L_some N xs x3 3 M) fun r1 M1m =>
  cl (f_L_some N xs (3 + x3) 4 M1m) fun r2 M2m =>
  gd (1000 ≤ ns0 ∧ dsc M2m ns0 = 11 ∧ ns0 - 753 < M2m.2.2.2) <|
  cl (f_J4_append_bf812 ns0 (r1 + r2) M2m) fun o1 M3m =>
  f_L_begins_b66 N xs rec10 n2 x3 o1 M3m
set_option maxRecDepth 100000 in
set_option maxHeartbeats 4000000 in
theorem m_L_begins_b48 {N : Nat} {xs : Nat → Int32} {rec10 : Nat → Int32 → Mem → Option (Int32 × Mem)} (G10 : (∀ (n2 : Nat) (x3 : Int32) (M Z : Mem) (r : Int32), rec10 n2 x3 M = some (r, Z) → GX M Z)) {n2 : Nat} {x3 : Int32} {ns0 : Nat} {M Z : Mem} {r : Int32} (h : f_L_begins_b48 N xs rec10 n2 x3 ns0 M = some (r, Z)) : GX M Z := by
  unfold f_L_begins_b48 at h
  obtain ⟨r1, M1m, c_M1m, h⟩ := clS h
  have q_M1m : GX M M1m := GX.tr (GX.refl M) ((k_L_some c_M1m).gx)
  obtain ⟨r2, M2m, c_M2m, h⟩ := clS h
  have q_M2m : GX M M2m := GX.tr q_M1m ((k_L_some c_M2m).gx)
  obtain ⟨gq2, h⟩ := gdS h
  obtain ⟨o1, M3m, c_M3m, h⟩ := clS h
  have q_M3m : GX M M3m := GX.tr q_M2m (m_J4_append_bf812 c_M3m)
  exact GX.tr q_M3m (m_L_begins_b66 G10 h)
set_option maxRecDepth 100000 in
set_option maxHeartbeats 4000000 in
theorem b_L_begins_b48 {K : Kt} {X : Xt} (hp : St K) (hk : KC K) {N : Nat} {xs : Nat → Int32} (hq : KScr K N xs) {mc ms : Nat} (hB : Bx K X { frames := 9, cells := mc, slots := ms, locals := 200 } cL_begins 10 RL (some .boolean)) {r : Int32} {M1 : Mem} {rec10 : Nat → Int32 → Mem → Option (Int32 × Mem)}
    (G10 : (∀ (n2 : Nat) (x3 : Int32) (M Z : Mem) (r : Int32), rec10 n2 x3 M = some (r, Z) → GX M Z)) (h10 : (∀ (n2 : Nat) (x3 : Int32) (ce sl : Nat) (M : Mem), rec10 n2 x3 M = some (r, M1) → mc + M.2.2.2 = ce + M1.2.2.2 → ms + szM M = sl + szM M1 → Wt K X (QM K X (some (vi r)) M1 mc ms) ce sl M 10 [(0, vr 64), (1, vr 61), (2, vr n2), (3, vi x3)] [])) {n2 : Nat} {x3 : Int32} {ns0 : Nat} {ce sl : Nat} {M : Mem} (hF : f_L_begins_b48 N xs rec10 n2 x3 ns0 M = some (r, M1)) (hn : mc + M.2.2.2 = ce + M1.2.2.2) (hz : ms + szM M = sl + szM M1) : Wt K X (QM K X (some (vi r)) M1 mc ms) ce sl M 48 [(0, vr 64), (1, vr 61), (2, vr n2), (3, vi x3)] [vr ns0] := by
  have hg := m_L_begins_b48 G10 hF
  have hg1 := hg.1
  have hg2 := hg.2.1
  unfold f_L_begins_b48 at hF
  refine w_aload_n hB 1 dL_begins_48 rfl rfl ?_
  refine w_iload_n hB 3 dL_begins_49 rfl rfl ?_
  refine w_iconst hB 3 (by decide) dL_begins_50 ?_
  obtain ⟨r1, M1m, hc_M1m, hF⟩ := clS hF
  have q_M1m : EQ M M1m := k_L_some hc_M1m
  have x_M1m := q_M1m.gx
  have n_M1m := q_M1m.1
  have z_M1m := q_M1m.sz
  refine w_callS (M1 := M1m) hB (As := [vr 61, vi x3, vi 3]) (st := [vr ns0]) cw_L_49 q_753 (c_L_some hp hq hc_M1m) ⟨rfl, rfl⟩ ⟨Nat.le_of_ble_eq_true rfl, Nat.le_of_ble_eq_true rfl⟩ ⟨show ce ≤ mc by omega, show sl ≤ ms by omega⟩ rfl (Nat.le_of_ble_eq_true rfl) dL_begins_51 rfl ?_ (Or.inl rfl)
  refine w_aload_n hB 1 dL_begins_54 rfl rfl ?_
  refine w_iconst hB 3 (by decide) dL_begins_55 ?_
  refine w_iload_n hB 3 dL_begins_56 rfl rfl ?_
  refine w_iadd hB dL_begins_57 ?_
  refine w_iconst hB 4 (by decide) dL_begins_58 ?_
  obtain ⟨r2, M2m, hc_M2m, hF⟩ := clS hF
  have q_M2m : EQ M1m M2m := k_L_some hc_M2m
  have x_M2m := q_M2m.gx
  have n_M2m := q_M2m.1
  have z_M2m := q_M2m.sz
  refine w_callS (M1 := M2m) hB (As := [vr 61, vi (3 + x3), vi 4]) (st := [vi r1, vr ns0]) cw_L_49 q_753 (c_L_some hp hq hc_M2m) ⟨rfl, rfl⟩ ⟨Nat.le_of_ble_eq_true rfl, Nat.le_of_ble_eq_true rfl⟩ ⟨show ce ≤ mc by omega, show sl ≤ ms by omega⟩ rfl (Nat.le_of_ble_eq_true rfl) dL_begins_59 rfl ?_ (Or.inl rfl)
  refine w_iadd hB dL_begins_62 ?_
  obtain ⟨g1, hF⟩ := gdS hF
  obtain ⟨o1, M3m, hc_M3m, hF⟩ := clS hF
  have x_M3m := m_J4_append_bf812 hc_M3m
  have xa_M3m := x_M3m.1
  have xb_M3m := x_M3m.2.1
  have hg3 := m_L_begins_b66 G10 hF
  have hg4 := hg3.1
  have hg5 := hg3.2.1
  refine w_callV (M1 := M3m) hB (ci := 10) (As := [vi (r1 + r2)]) (st := []) cw_L_53 q_761 q_762 rfl (dqM g1) (c_J4_append_bf812 hp hk hc_M3m) ⟨rfl, rfl⟩ ⟨Nat.le_of_ble_eq_true rfl, Nat.le_of_ble_eq_true rfl⟩ ⟨show ce + (M3m.2.2.2 - M2m.2.2.2) ≤ mc by omega, show sl + (szM M3m - szM M2m) ≤ ms by omega⟩ rfl (Nat.le_of_ble_eq_true rfl) dL_begins_63 rfl ?_ (Or.inr (by omega))
  exact Wt.sub (L' := [(0, vr 64), (1, vr 61), (2, vr n2), (3, vi x3)]) [0, 1, 2, 3] rfl (b_L_begins_b66 hp hk hq hB G10 h10 hF (by omega) (by omega))
def f_L_begins_b43 (N : Nat) (xs : Nat → Int32) (rec10 : Nat → Int32 → Mem → Option (Int32 × Mem)) (n2 : Nat) (x3 : Int32) (ns0 : Nat) (M : Mem) : Option (Int32 × Mem) :=
  gd (1000 ≤ ns0 ∧ dsc M ns0 = 11 ∧ ns0 - 753 < M.2.2.2) <|
  cl (f_J4_append_15ec4 ns0 401 M) fun o1 M1m =>
  f_L_begins_b48 N xs rec10 n2 x3 o1 M1m
set_option maxRecDepth 100000 in
set_option maxHeartbeats 4000000 in
theorem m_L_begins_b43 {N : Nat} {xs : Nat → Int32} {rec10 : Nat → Int32 → Mem → Option (Int32 × Mem)} (G10 : (∀ (n2 : Nat) (x3 : Int32) (M Z : Mem) (r : Int32), rec10 n2 x3 M = some (r, Z) → GX M Z)) {n2 : Nat} {x3 : Int32} {ns0 : Nat} {M Z : Mem} {r : Int32} (h : f_L_begins_b43 N xs rec10 n2 x3 ns0 M = some (r, Z)) : GX M Z := by
  unfold f_L_begins_b43 at h
  obtain ⟨gq0, h⟩ := gdS h
  obtain ⟨o1, M1m, c_M1m, h⟩ := clS h
  have q_M1m : GX M M1m := GX.tr (GX.refl M) (m_J4_append_15ec4 c_M1m)
  exact GX.tr q_M1m (m_L_begins_b48 G10 h)
set_option maxRecDepth 100000 in
set_option maxHeartbeats 4000000 in
theorem b_L_begins_b43 {K : Kt} {X : Xt} (hp : St K) (hk : KC K) {N : Nat} {xs : Nat → Int32} (hq : KScr K N xs) {mc ms : Nat} (hB : Bx K X { frames := 9, cells := mc, slots := ms, locals := 200 } cL_begins 10 RL (some .boolean)) {r : Int32} {M1 : Mem} {rec10 : Nat → Int32 → Mem → Option (Int32 × Mem)}
    (G10 : (∀ (n2 : Nat) (x3 : Int32) (M Z : Mem) (r : Int32), rec10 n2 x3 M = some (r, Z) → GX M Z)) (h10 : (∀ (n2 : Nat) (x3 : Int32) (ce sl : Nat) (M : Mem), rec10 n2 x3 M = some (r, M1) → mc + M.2.2.2 = ce + M1.2.2.2 → ms + szM M = sl + szM M1 → Wt K X (QM K X (some (vi r)) M1 mc ms) ce sl M 10 [(0, vr 64), (1, vr 61), (2, vr n2), (3, vi x3)] [])) {n2 : Nat} {x3 : Int32} {ns0 : Nat} {ce sl : Nat} {M : Mem} (hF : f_L_begins_b43 N xs rec10 n2 x3 ns0 M = some (r, M1)) (hn : mc + M.2.2.2 = ce + M1.2.2.2) (hz : ms + szM M = sl + szM M1) : Wt K X (QM K X (some (vi r)) M1 mc ms) ce sl M 43 [(0, vr 64), (1, vr 61), (2, vr n2), (3, vi x3)] [vr ns0] := by
  have hg := m_L_begins_b43 G10 hF
  have hg1 := hg.1
  have hg2 := hg.2.1
  unfold f_L_begins_b43 at hF
  refine w_ldcs hB hp 401 (by decide) dL_begins_43 ?_
  obtain ⟨g1, hF⟩ := gdS hF
  obtain ⟨o1, M1m, hc_M1m, hF⟩ := clS hF
  have x_M1m := m_J4_append_15ec4 hc_M1m
  have xa_M1m := x_M1m.1
  have xb_M1m := x_M1m.2.1
  have hg3 := m_L_begins_b48 G10 hF
  have hg4 := hg3.1
  have hg5 := hg3.2.1
  refine w_callV (M1 := M1m) hB (ci := 10) (As := [vr 401]) (st := []) cw_L_40 q_612 q_613 rfl (dqM g1) (c_J4_append_15ec4 hp hk hc_M1m) ⟨rfl, rfl⟩ ⟨Nat.le_of_ble_eq_true rfl, Nat.le_of_ble_eq_true rfl⟩ ⟨show ce + (M1m.2.2.2 - M.2.2.2) ≤ mc by omega, show sl + (szM M1m - szM M) ≤ ms by omega⟩ rfl (Nat.le_of_ble_eq_true rfl) dL_begins_45 rfl ?_ (Or.inr (by omega))
  exact Wt.sub (L' := [(0, vr 64), (1, vr 61), (2, vr n2), (3, vi x3)]) [0, 1, 2, 3] rfl (b_L_begins_b48 hp hk hq hB G10 h10 hF (by omega) (by omega))
def f_L_begins_b34 (N : Nat) (xs : Nat → Int32) (rec10 : Nat → Int32 → Mem → Option (Int32 × Mem)) (n2 : Nat) (x3 : Int32) (ns0 : Nat) (M : Mem) : Option (Int32 × Mem) :=
  cl (f_L_some N xs x3 3 M) fun r1 M1m =>
  gd (1000 ≤ ns0 ∧ dsc M1m ns0 = 11 ∧ ns0 - 753 < M1m.2.2.2) <|
  cl (f_J4_append_bf812 ns0 r1 M1m) fun o1 M2m =>
  f_L_begins_b43 N xs rec10 n2 x3 o1 M2m
set_option maxRecDepth 100000 in
set_option maxHeartbeats 4000000 in
theorem m_L_begins_b34 {N : Nat} {xs : Nat → Int32} {rec10 : Nat → Int32 → Mem → Option (Int32 × Mem)} (G10 : (∀ (n2 : Nat) (x3 : Int32) (M Z : Mem) (r : Int32), rec10 n2 x3 M = some (r, Z) → GX M Z)) {n2 : Nat} {x3 : Int32} {ns0 : Nat} {M Z : Mem} {r : Int32} (h : f_L_begins_b34 N xs rec10 n2 x3 ns0 M = some (r, Z)) : GX M Z := by
  unfold f_L_begins_b34 at h
  obtain ⟨r1, M1m, c_M1m, h⟩ := clS h
  have q_M1m : GX M M1m := GX.tr (GX.refl M) ((k_L_some c_M1m).gx)
  obtain ⟨gq1, h⟩ := gdS h
  obtain ⟨o1, M2m, c_M2m, h⟩ := clS h
  have q_M2m : GX M M2m := GX.tr q_M1m (m_J4_append_bf812 c_M2m)
  exact GX.tr q_M2m (m_L_begins_b43 G10 h)
set_option maxRecDepth 100000 in
set_option maxHeartbeats 4000000 in
theorem b_L_begins_b34 {K : Kt} {X : Xt} (hp : St K) (hk : KC K) {N : Nat} {xs : Nat → Int32} (hq : KScr K N xs) {mc ms : Nat} (hB : Bx K X { frames := 9, cells := mc, slots := ms, locals := 200 } cL_begins 10 RL (some .boolean)) {r : Int32} {M1 : Mem} {rec10 : Nat → Int32 → Mem → Option (Int32 × Mem)}
    (G10 : (∀ (n2 : Nat) (x3 : Int32) (M Z : Mem) (r : Int32), rec10 n2 x3 M = some (r, Z) → GX M Z)) (h10 : (∀ (n2 : Nat) (x3 : Int32) (ce sl : Nat) (M : Mem), rec10 n2 x3 M = some (r, M1) → mc + M.2.2.2 = ce + M1.2.2.2 → ms + szM M = sl + szM M1 → Wt K X (QM K X (some (vi r)) M1 mc ms) ce sl M 10 [(0, vr 64), (1, vr 61), (2, vr n2), (3, vi x3)] [])) {n2 : Nat} {x3 : Int32} {ns0 : Nat} {ce sl : Nat} {M : Mem} (hF : f_L_begins_b34 N xs rec10 n2 x3 ns0 M = some (r, M1)) (hn : mc + M.2.2.2 = ce + M1.2.2.2) (hz : ms + szM M = sl + szM M1) : Wt K X (QM K X (some (vi r)) M1 mc ms) ce sl M 34 [(0, vr 64), (1, vr 61), (2, vr n2), (3, vi x3)] [vr ns0] := by
  have hg := m_L_begins_b34 G10 hF
  have hg1 := hg.1
  have hg2 := hg.2.1
  unfold f_L_begins_b34 at hF
  refine w_aload_n hB 1 dL_begins_34 rfl rfl ?_
  refine w_iload_n hB 3 dL_begins_35 rfl rfl ?_
  refine w_iconst hB 3 (by decide) dL_begins_36 ?_
  obtain ⟨r1, M1m, hc_M1m, hF⟩ := clS hF
  have q_M1m : EQ M M1m := k_L_some hc_M1m
  have x_M1m := q_M1m.gx
  have n_M1m := q_M1m.1
  have z_M1m := q_M1m.sz
  refine w_callS (M1 := M1m) hB (As := [vr 61, vi x3, vi 3]) (st := [vr ns0]) cw_L_49 q_753 (c_L_some hp hq hc_M1m) ⟨rfl, rfl⟩ ⟨Nat.le_of_ble_eq_true rfl, Nat.le_of_ble_eq_true rfl⟩ ⟨show ce ≤ mc by omega, show sl ≤ ms by omega⟩ rfl (Nat.le_of_ble_eq_true rfl) dL_begins_37 rfl ?_ (Or.inl rfl)
  obtain ⟨g1, hF⟩ := gdS hF
  obtain ⟨o1, M2m, hc_M2m, hF⟩ := clS hF
  have x_M2m := m_J4_append_bf812 hc_M2m
  have xa_M2m := x_M2m.1
  have xb_M2m := x_M2m.2.1
  have hg3 := m_L_begins_b43 G10 hF
  have hg4 := hg3.1
  have hg5 := hg3.2.1
  refine w_callV (M1 := M2m) hB (ci := 10) (As := [vi r1]) (st := []) cw_L_53 q_761 q_762 rfl (dqM g1) (c_J4_append_bf812 hp hk hc_M2m) ⟨rfl, rfl⟩ ⟨Nat.le_of_ble_eq_true rfl, Nat.le_of_ble_eq_true rfl⟩ ⟨show ce + (M2m.2.2.2 - M1m.2.2.2) ≤ mc by omega, show sl + (szM M2m - szM M1m) ≤ ms by omega⟩ rfl (Nat.le_of_ble_eq_true rfl) dL_begins_40 rfl ?_ (Or.inr (by omega))
  exact Wt.sub (L' := [(0, vr 64), (1, vr 61), (2, vr n2), (3, vi x3)]) [0, 1, 2, 3] rfl (b_L_begins_b43 hp hk hq hB G10 h10 hF (by omega) (by omega))
def f_L_begins_b29 (N : Nat) (xs : Nat → Int32) (rec10 : Nat → Int32 → Mem → Option (Int32 × Mem)) (n2 : Nat) (x3 : Int32) (ns0 : Nat) (M : Mem) : Option (Int32 × Mem) :=
  gd (1000 ≤ ns0 ∧ dsc M ns0 = 11 ∧ ns0 - 753 < M.2.2.2) <|
  cl (f_J4_append_15ec4 ns0 401 M) fun o1 M1m =>
  f_L_begins_b34 N xs rec10 n2 x3 o1 M1m
set_option maxRecDepth 100000 in
set_option maxHeartbeats 4000000 in
theorem m_L_begins_b29 {N : Nat} {xs : Nat → Int32} {rec10 : Nat → Int32 → Mem → Option (Int32 × Mem)} (G10 : (∀ (n2 : Nat) (x3 : Int32) (M Z : Mem) (r : Int32), rec10 n2 x3 M = some (r, Z) → GX M Z)) {n2 : Nat} {x3 : Int32} {ns0 : Nat} {M Z : Mem} {r : Int32} (h : f_L_begins_b29 N xs rec10 n2 x3 ns0 M = some (r, Z)) : GX M Z := by
  unfold f_L_begins_b29 at h
  obtain ⟨gq0, h⟩ := gdS h
  obtain ⟨o1, M1m, c_M1m, h⟩ := clS h
  have q_M1m : GX M M1m := GX.tr (GX.refl M) (m_J4_append_15ec4 c_M1m)
  exact GX.tr q_M1m (m_L_begins_b34 G10 h)
set_option maxRecDepth 100000 in
set_option maxHeartbeats 4000000 in
theorem b_L_begins_b29 {K : Kt} {X : Xt} (hp : St K) (hk : KC K) {N : Nat} {xs : Nat → Int32} (hq : KScr K N xs) {mc ms : Nat} (hB : Bx K X { frames := 9, cells := mc, slots := ms, locals := 200 } cL_begins 10 RL (some .boolean)) {r : Int32} {M1 : Mem} {rec10 : Nat → Int32 → Mem → Option (Int32 × Mem)}
    (G10 : (∀ (n2 : Nat) (x3 : Int32) (M Z : Mem) (r : Int32), rec10 n2 x3 M = some (r, Z) → GX M Z)) (h10 : (∀ (n2 : Nat) (x3 : Int32) (ce sl : Nat) (M : Mem), rec10 n2 x3 M = some (r, M1) → mc + M.2.2.2 = ce + M1.2.2.2 → ms + szM M = sl + szM M1 → Wt K X (QM K X (some (vi r)) M1 mc ms) ce sl M 10 [(0, vr 64), (1, vr 61), (2, vr n2), (3, vi x3)] [])) {n2 : Nat} {x3 : Int32} {ns0 : Nat} {ce sl : Nat} {M : Mem} (hF : f_L_begins_b29 N xs rec10 n2 x3 ns0 M = some (r, M1)) (hn : mc + M.2.2.2 = ce + M1.2.2.2) (hz : ms + szM M = sl + szM M1) : Wt K X (QM K X (some (vi r)) M1 mc ms) ce sl M 29 [(0, vr 64), (1, vr 61), (2, vr n2), (3, vi x3)] [vr ns0] := by
  have hg := m_L_begins_b29 G10 hF
  have hg1 := hg.1
  have hg2 := hg.2.1
  unfold f_L_begins_b29 at hF
  refine w_ldcs hB hp 401 (by decide) dL_begins_29 ?_
  obtain ⟨g1, hF⟩ := gdS hF
  obtain ⟨o1, M1m, hc_M1m, hF⟩ := clS hF
  have x_M1m := m_J4_append_15ec4 hc_M1m
  have xa_M1m := x_M1m.1
  have xb_M1m := x_M1m.2.1
  have hg3 := m_L_begins_b34 G10 hF
  have hg4 := hg3.1
  have hg5 := hg3.2.1
  refine w_callV (M1 := M1m) hB (ci := 10) (As := [vr 401]) (st := []) cw_L_40 q_612 q_613 rfl (dqM g1) (c_J4_append_15ec4 hp hk hc_M1m) ⟨rfl, rfl⟩ ⟨Nat.le_of_ble_eq_true rfl, Nat.le_of_ble_eq_true rfl⟩ ⟨show ce + (M1m.2.2.2 - M.2.2.2) ≤ mc by omega, show sl + (szM M1m - szM M) ≤ ms by omega⟩ rfl (Nat.le_of_ble_eq_true rfl) dL_begins_31 rfl ?_ (Or.inr (by omega))
  exact Wt.sub (L' := [(0, vr 64), (1, vr 61), (2, vr n2), (3, vi x3)]) [0, 1, 2, 3] rfl (b_L_begins_b34 hp hk hq hB G10 h10 hF (by omega) (by omega))
def f_L_begins_b21 (N : Nat) (xs : Nat → Int32) (rec10 : Nat → Int32 → Mem → Option (Int32 × Mem)) (n2 : Nat) (x3 : Int32) (ns0 : Nat) (M : Mem) : Option (Int32 × Mem) :=
  gd (1000 ≤ ns0 ∧ dsc M ns0 = 11 ∧ ns0 - 753 < M.2.2.2) <|
  cl (f_J4_append_cf468 ns0 (((97 + x3).toUInt32 % 65536).toInt32) M) fun o1 M1m =>
  f_L_begins_b29 N xs rec10 n2 x3 o1 M1m
set_option maxRecDepth 100000 in
set_option maxHeartbeats 4000000 in
theorem m_L_begins_b21 {N : Nat} {xs : Nat → Int32} {rec10 : Nat → Int32 → Mem → Option (Int32 × Mem)} (G10 : (∀ (n2 : Nat) (x3 : Int32) (M Z : Mem) (r : Int32), rec10 n2 x3 M = some (r, Z) → GX M Z)) {n2 : Nat} {x3 : Int32} {ns0 : Nat} {M Z : Mem} {r : Int32} (h : f_L_begins_b21 N xs rec10 n2 x3 ns0 M = some (r, Z)) : GX M Z := by
  unfold f_L_begins_b21 at h
  obtain ⟨gq0, h⟩ := gdS h
  obtain ⟨o1, M1m, c_M1m, h⟩ := clS h
  have q_M1m : GX M M1m := GX.tr (GX.refl M) (m_J4_append_cf468 c_M1m)
  exact GX.tr q_M1m (m_L_begins_b29 G10 h)
set_option maxRecDepth 100000 in
set_option maxHeartbeats 4000000 in
theorem b_L_begins_b21 {K : Kt} {X : Xt} (hp : St K) (hk : KC K) {N : Nat} {xs : Nat → Int32} (hq : KScr K N xs) {mc ms : Nat} (hB : Bx K X { frames := 9, cells := mc, slots := ms, locals := 200 } cL_begins 10 RL (some .boolean)) {r : Int32} {M1 : Mem} {rec10 : Nat → Int32 → Mem → Option (Int32 × Mem)}
    (G10 : (∀ (n2 : Nat) (x3 : Int32) (M Z : Mem) (r : Int32), rec10 n2 x3 M = some (r, Z) → GX M Z)) (h10 : (∀ (n2 : Nat) (x3 : Int32) (ce sl : Nat) (M : Mem), rec10 n2 x3 M = some (r, M1) → mc + M.2.2.2 = ce + M1.2.2.2 → ms + szM M = sl + szM M1 → Wt K X (QM K X (some (vi r)) M1 mc ms) ce sl M 10 [(0, vr 64), (1, vr 61), (2, vr n2), (3, vi x3)] [])) {n2 : Nat} {x3 : Int32} {ns0 : Nat} {ce sl : Nat} {M : Mem} (hF : f_L_begins_b21 N xs rec10 n2 x3 ns0 M = some (r, M1)) (hn : mc + M.2.2.2 = ce + M1.2.2.2) (hz : ms + szM M = sl + szM M1) : Wt K X (QM K X (some (vi r)) M1 mc ms) ce sl M 21 [(0, vr 64), (1, vr 61), (2, vr n2), (3, vi x3)] [vr ns0] := by
  have hg := m_L_begins_b21 G10 hF
  have hg1 := hg.1
  have hg2 := hg.2.1
  unfold f_L_begins_b21 at hF
  refine w_bipush hB 97 (by decide) dL_begins_21 ?_
  refine w_iload_n hB 3 dL_begins_23 rfl rfl ?_
  refine w_iadd hB dL_begins_24 ?_
  refine w_i2c hB dL_begins_25 ?_
  obtain ⟨g1, hF⟩ := gdS hF
  obtain ⟨o1, M1m, hc_M1m, hF⟩ := clS hF
  have x_M1m := m_J4_append_cf468 hc_M1m
  have xa_M1m := x_M1m.1
  have xb_M1m := x_M1m.2.1
  have hg3 := m_L_begins_b29 G10 hF
  have hg4 := hg3.1
  have hg5 := hg3.2.1
  refine w_callV (M1 := M1m) hB (ci := 10) (As := [vi (((97 + x3).toUInt32 % 65536).toInt32)]) (st := []) cw_L_44 q_730 q_731 rfl (dqM g1) (c_J4_append_cf468 hp hk hc_M1m) ⟨rfl, rfl⟩ ⟨Nat.le_of_ble_eq_true rfl, Nat.le_of_ble_eq_true rfl⟩ ⟨show ce + (M1m.2.2.2 - M.2.2.2) ≤ mc by omega, show sl + (szM M1m - szM M) ≤ ms by omega⟩ rfl (Nat.le_of_ble_eq_true rfl) dL_begins_26 rfl ?_ (Or.inr (by omega))
  exact Wt.sub (L' := [(0, vr 64), (1, vr 61), (2, vr n2), (3, vi x3)]) [0, 1, 2, 3] rfl (b_L_begins_b29 hp hk hq hB G10 h10 hF (by omega) (by omega))
def f_L_begins_b10_s (N : Nat) (xs : Nat → Int32) (rec10 : Nat → Int32 → Mem → Option (Int32 × Mem)) (n2 : Nat) (x3 : Int32) (M : Mem) : Option (Int32 × Mem) :=
  if 3 ≤ x3 then
    cl (f_L_some N xs 6 3 M) fun r1 M1m =>
    f_L_begins_b89 N xs fuel n2 r1 0 M1m
  else
    gd (1000 ≤ n2 ∧ dsc M n2 = 11 ∧ n2 - 753 < M.2.2.2) <|
    cl (f_J4_append_15ec4 n2 400 M) fun o1 M2m =>
    f_L_begins_b21 N xs rec10 n2 x3 o1 M2m
set_option maxRecDepth 100000 in
set_option maxHeartbeats 4000000 in
theorem m_L_begins_b10_s {N : Nat} {xs : Nat → Int32} {rec10 : Nat → Int32 → Mem → Option (Int32 × Mem)} (G10 : (∀ (n2 : Nat) (x3 : Int32) (M Z : Mem) (r : Int32), rec10 n2 x3 M = some (r, Z) → GX M Z)) {n2 : Nat} {x3 : Int32} {M Z : Mem} {r : Int32} (h : f_L_begins_b10_s N xs rec10 n2 x3 M = some (r, Z)) : GX M Z := by
  unfold f_L_begins_b10_s at h
  rcases ifS h with ⟨-, h⟩ | ⟨-, h⟩
  · obtain ⟨r1, M1m, c_M1m, h⟩ := clS h
    have q_M1m : GX M M1m := GX.tr (GX.refl M) ((k_L_some c_M1m).gx)
    exact GX.tr q_M1m (m_L_begins_b89 _ _ _ _ _ _ _ h)
  · obtain ⟨gq4, h⟩ := gdS h
    obtain ⟨o1, M2m, c_M2m, h⟩ := clS h
    have q_M2m : GX M M2m := GX.tr (GX.refl M) (m_J4_append_15ec4 c_M2m)
    exact GX.tr q_M2m (m_L_begins_b21 G10 h)
set_option maxRecDepth 100000 in
set_option maxHeartbeats 4000000 in
theorem b_L_begins_b10_s {K : Kt} {X : Xt} (hp : St K) (hk : KC K) {N : Nat} {xs : Nat → Int32} (hq : KScr K N xs) {mc ms : Nat} (hB : Bx K X { frames := 9, cells := mc, slots := ms, locals := 200 } cL_begins 10 RL (some .boolean)) {r : Int32} {M1 : Mem} {rec10 : Nat → Int32 → Mem → Option (Int32 × Mem)}
    (G10 : (∀ (n2 : Nat) (x3 : Int32) (M Z : Mem) (r : Int32), rec10 n2 x3 M = some (r, Z) → GX M Z)) (h10 : (∀ (n2 : Nat) (x3 : Int32) (ce sl : Nat) (M : Mem), rec10 n2 x3 M = some (r, M1) → mc + M.2.2.2 = ce + M1.2.2.2 → ms + szM M = sl + szM M1 → Wt K X (QM K X (some (vi r)) M1 mc ms) ce sl M 10 [(0, vr 64), (1, vr 61), (2, vr n2), (3, vi x3)] [])) {n2 : Nat} {x3 : Int32} {ce sl : Nat} {M : Mem} (hF : f_L_begins_b10_s N xs rec10 n2 x3 M = some (r, M1)) (hn : mc + M.2.2.2 = ce + M1.2.2.2) (hz : ms + szM M = sl + szM M1) : Wt K X (QM K X (some (vi r)) M1 mc ms) ce sl M 10 [(0, vr 64), (1, vr 61), (2, vr n2), (3, vi x3)] [] := by
  have hg := m_L_begins_b10_s G10 hF
  have hg1 := hg.1
  have hg2 := hg.2.1
  unfold f_L_begins_b10_s at hF
  refine w_iload_n hB 3 dL_begins_10 rfl rfl ?_
  refine w_iconst hB 3 (by decide) dL_begins_11 ?_
  refine w_icmp_ge hB 78 dL_begins_12 (by decide) (fun hc => ?_) (fun hc => ?_)
  · replace hF := ifT hc hF
    refine w_aload_n hB 1 dL_begins_78 rfl rfl ?_
    refine w_bipush hB 6 (by decide) dL_begins_79 ?_
    refine w_iconst hB 3 (by decide) dL_begins_81 ?_
    obtain ⟨r1, M1m, hc_M1m, hF⟩ := clS hF
    have q_M1m : EQ M M1m := k_L_some hc_M1m
    have x_M1m := q_M1m.gx
    have n_M1m := q_M1m.1
    have z_M1m := q_M1m.sz
    refine w_callS (M1 := M1m) hB (As := [vr 61, vi 6, vi 3]) (st := []) cw_L_49 q_753 (c_L_some hp hq hc_M1m) ⟨rfl, rfl⟩ ⟨Nat.le_of_ble_eq_true rfl, Nat.le_of_ble_eq_true rfl⟩ ⟨show ce ≤ mc by omega, show sl ≤ ms by omega⟩ rfl (Nat.le_of_ble_eq_true rfl) dL_begins_82 rfl ?_ (Or.inl rfl)
    refine w_istore_n hB (L' := [(3, vi r1), (0, vr 64), (1, vr 61), (2, vr n2)]) dL_begins_85 rfl (by decide) rfl rfl ?_
    refine w_iconst hB 0 (by decide) dL_begins_86 ?_
    refine w_istore hB (L' := [(4, vi 0), (3, vi r1), (0, vr 64), (1, vr 61), (2, vr n2)]) dL_begins_87 (by decide) rfl rfl ?_
    exact Wt.sub (L' := [(0, vr 64), (1, vr 61), (2, vr n2), (3, vi r1), (4, vi 0)]) [2, 3, 4, 1, 0] rfl (b_L_begins_b89 hp hk hq hB fuel _ _ _ _ _ M1m hF (by omega) (by omega))
  · replace hF := ifF hc hF
    refine w_aload_n hB 2 dL_begins_15 rfl rfl ?_
    refine w_ldcs hB hp 400 (by decide) dL_begins_16 ?_
    obtain ⟨g1, hF⟩ := gdS hF
    obtain ⟨o1, M2m, hc_M2m, hF⟩ := clS hF
    have x_M2m := m_J4_append_15ec4 hc_M2m
    have xa_M2m := x_M2m.1
    have xb_M2m := x_M2m.2.1
    have hg3 := m_L_begins_b21 G10 hF
    have hg4 := hg3.1
    have hg5 := hg3.2.1
    refine w_callV (M1 := M2m) hB (ci := 10) (As := [vr 400]) (st := []) cw_L_40 q_612 q_613 rfl (dqM g1) (c_J4_append_15ec4 hp hk hc_M2m) ⟨rfl, rfl⟩ ⟨Nat.le_of_ble_eq_true rfl, Nat.le_of_ble_eq_true rfl⟩ ⟨show ce + (M2m.2.2.2 - M.2.2.2) ≤ mc by omega, show sl + (szM M2m - szM M) ≤ ms by omega⟩ rfl (Nat.le_of_ble_eq_true rfl) dL_begins_18 rfl ?_ (Or.inr (by omega))
    exact Wt.sub (L' := [(0, vr 64), (1, vr 61), (2, vr n2), (3, vi x3)]) [0, 1, 2, 3] rfl (b_L_begins_b21 hp hk hq hB G10 h10 hF (by omega) (by omega))
def f_L_begins_b10 (N : Nat) (xs : Nat → Int32) (k : Nat) : Nat → Int32 → Mem → Option (Int32 × Mem) := lpN (fun _ _ _ => none) (f_L_begins_b10_s N xs) k
theorem m_L_begins_b10 {N : Nat} {xs : Nat → Int32} (k : Nat) : (∀ (n2 : Nat) (x3 : Int32) (M Z : Mem) (r : Int32), f_L_begins_b10 N xs k n2 x3 M = some (r, Z) → GX M Z) :=
  lpN_ind (P := fun (f : Nat → Int32 → Mem → Option (Int32 × Mem)) => (∀ (n2 : Nat) (x3 : Int32) (M Z : Mem) (r : Int32), f n2 x3 M = some (r, Z) → GX M Z)) (fun _ _ _ _ _ h => by cases h) (fun f hf _ _ _ _ _ h => m_L_begins_b10_s hf h) k
theorem b_L_begins_b10 {K : Kt} {X : Xt} (hp : St K) (hk : KC K) {N : Nat} {xs : Nat → Int32} (hq : KScr K N xs) {mc ms : Nat} (hB : Bx K X { frames := 9, cells := mc, slots := ms, locals := 200 } cL_begins 10 RL (some .boolean)) {r : Int32} {M1 : Mem} (k : Nat) : (∀ (n2 : Nat) (x3 : Int32) (ce sl : Nat) (M : Mem), f_L_begins_b10 N xs k n2 x3 M = some (r, M1) → mc + M.2.2.2 = ce + M1.2.2.2 → ms + szM M = sl + szM M1 → Wt K X (QM K X (some (vi r)) M1 mc ms) ce sl M 10 [(0, vr 64), (1, vr 61), (2, vr n2), (3, vi x3)] []) :=
  (lpN_ind (P := fun (f : Nat → Int32 → Mem → Option (Int32 × Mem)) => (∀ (n2 : Nat) (x3 : Int32) (M Z : Mem) (r : Int32), f n2 x3 M = some (r, Z) → GX M Z) ∧ (∀ (n2 : Nat) (x3 : Int32) (ce sl : Nat) (M : Mem), f n2 x3 M = some (r, M1) → mc + M.2.2.2 = ce + M1.2.2.2 → ms + szM M = sl + szM M1 → Wt K X (QM K X (some (vi r)) M1 mc ms) ce sl M 10 [(0, vr 64), (1, vr 61), (2, vr n2), (3, vi x3)] [])) ⟨fun _ _ _ _ _ h => (by cases h), fun _ _ _ _ _ h _ _ => (by cases h)⟩ (fun f hf => ⟨fun _ _ _ _ _ h => m_L_begins_b10_s hf.1 h, fun _ _ _ _ _ hF hn hz => b_L_begins_b10_s hp hk hq hB hf.1 hf.2 hF hn hz⟩) k).2
def f_L_begins_b7 (N : Nat) (xs : Nat → Int32) (ns0 : Nat) (M : Mem) : Option (Int32 × Mem) :=
  f_L_begins_b10 N xs fuel ns0 0 M
set_option maxRecDepth 100000 in
set_option maxHeartbeats 4000000 in
theorem m_L_begins_b7 {N : Nat} {xs : Nat → Int32} {ns0 : Nat} {M Z : Mem} {r : Int32} (h : f_L_begins_b7 N xs ns0 M = some (r, Z)) : GX M Z := by
  unfold f_L_begins_b7 at h
  exact GX.tr (GX.refl M) (m_L_begins_b10 _ _ _ _ _ _ h)
set_option maxRecDepth 100000 in
set_option maxHeartbeats 4000000 in
theorem b_L_begins_b7 {K : Kt} {X : Xt} (hp : St K) (hk : KC K) {N : Nat} {xs : Nat → Int32} (hq : KScr K N xs) {mc ms : Nat} (hB : Bx K X { frames := 9, cells := mc, slots := ms, locals := 200 } cL_begins 10 RL (some .boolean)) {r : Int32} {M1 : Mem} {ns0 : Nat} {ce sl : Nat} {M : Mem} (hF : f_L_begins_b7 N xs ns0 M = some (r, M1)) (hn : mc + M.2.2.2 = ce + M1.2.2.2) (hz : ms + szM M = sl + szM M1) : Wt K X (QM K X (some (vi r)) M1 mc ms) ce sl M 7 [(0, vr 64), (1, vr 61)] [vr ns0] := by
  have hg := m_L_begins_b7 hF
  have hg1 := hg.1
  have hg2 := hg.2.1
  unfold f_L_begins_b7 at hF
  refine w_astore_n hB (L' := [(2, vr ns0), (0, vr 64), (1, vr 61)]) dL_begins_7 rfl (by decide) rfl ?_
  refine w_iconst hB 0 (by decide) dL_begins_8 ?_
  refine w_istore_n hB (L' := [(3, vi 0), (2, vr ns0), (0, vr 64), (1, vr 61)]) dL_begins_9 rfl (by decide) rfl rfl ?_
  exact Wt.sub (L' := [(0, vr 64), (1, vr 61), (2, vr ns0), (3, vi 0)]) [2, 3, 1, 0] rfl (b_L_begins_b10 hp hk hq hB fuel _ _ _ _ M hF (by omega) (by omega))
def f_L_begins_b3 (N : Nat) (xs : Nat → Int32) (ns0 : Nat) (M : Mem) : Option (Int32 × Mem) :=
  gd (1000 ≤ ns0 ∧ dsc M ns0 = 11 ∧ ns0 - 753 < M.2.2.2) <|
  clv (f_J4_init_da8c8 ns0 M) fun M1m =>
  f_L_begins_b7 N xs ns0 M1m
set_option maxRecDepth 100000 in
set_option maxHeartbeats 4000000 in
theorem m_L_begins_b3 {N : Nat} {xs : Nat → Int32} {ns0 : Nat} {M Z : Mem} {r : Int32} (h : f_L_begins_b3 N xs ns0 M = some (r, Z)) : GX M Z := by
  unfold f_L_begins_b3 at h
  obtain ⟨gq0, h⟩ := gdS h
  obtain ⟨M1m, c_M1m, h⟩ := clvS h
  have q_M1m : GX M M1m := GX.tr (GX.refl M) (m_J4_init_da8c8 c_M1m)
  exact GX.tr q_M1m (m_L_begins_b7 h)
set_option maxRecDepth 100000 in
set_option maxHeartbeats 4000000 in
theorem b_L_begins_b3 {K : Kt} {X : Xt} (hp : St K) (hk : KC K) {N : Nat} {xs : Nat → Int32} (hq : KScr K N xs) {mc ms : Nat} (hB : Bx K X { frames := 9, cells := mc, slots := ms, locals := 200 } cL_begins 10 RL (some .boolean)) {r : Int32} {M1 : Mem} {ns0 : Nat} {ce sl : Nat} {M : Mem} (hF : f_L_begins_b3 N xs ns0 M = some (r, M1)) (hn : mc + M.2.2.2 = ce + M1.2.2.2) (hz : ms + szM M = sl + szM M1) : Wt K X (QM K X (some (vi r)) M1 mc ms) ce sl M 3 [(0, vr 64), (1, vr 61)] [vr ns0] := by
  have hg := m_L_begins_b3 hF
  have hg1 := hg.1
  have hg2 := hg.2.1
  unfold f_L_begins_b3 at hF
  refine w_dup hB rfl dL_begins_3 ?_
  obtain ⟨g1, hF⟩ := gdS hF
  obtain ⟨M1m, hc_M1m, hF⟩ := clvS hF
  have x_M1m := m_J4_init_da8c8 hc_M1m
  have xa_M1m := x_M1m.1
  have xb_M1m := x_M1m.2.1
  have hg3 := m_L_begins_b7 hF
  have hg4 := hg3.1
  have hg5 := hg3.2.1
  refine w_callI (M1 := M1m) hB (As := []) (st := [vr ns0]) cw_L_37 rfl q_582 (Or.inr g1.1) (c_J4_init_da8c8 hp hk hc_M1m) ⟨rfl, rfl⟩ ⟨Nat.le_of_ble_eq_true rfl, Nat.le_of_ble_eq_true rfl⟩ ⟨show ce + (M1m.2.2.2 - M.2.2.2) ≤ mc by omega, show sl + (szM M1m - szM M) ≤ ms by omega⟩ rfl (Nat.le_of_ble_eq_true rfl) dL_begins_4 rfl ?_ (Or.inr (by omega))
  exact Wt.sub (L' := [(0, vr 64), (1, vr 61)]) [0, 1] rfl (b_L_begins_b7 hp hk hq hB hF (by omega) (by omega))
def f_L_begins (N : Nat) (xs : Nat → Int32) (M : Mem) : Option (Int32 × Mem) :=
  bnd (nwA 11 0 4 M) fun M1m =>
  f_L_begins_b3 N xs (nn M) M1m
set_option maxRecDepth 100000 in
set_option maxHeartbeats 4000000 in
theorem m_L_begins {N : Nat} {xs : Nat → Int32} {M Z : Mem} {r : Int32} (h : f_L_begins N xs M = some (r, Z)) : GX M Z := by
  unfold f_L_begins at h
  obtain ⟨M1m, e_M1m, h⟩ := bndS h
  have q_M1m : GX M M1m := GX.tr (GX.refl M) (by rw [e_M1m]; exact GX_nw _ _ _ _)
  exact GX.tr q_M1m (m_L_begins_b3 h)
set_option maxRecDepth 100000 in
set_option maxHeartbeats 4000000 in
theorem b_L_begins {K : Kt} {X : Xt} (hp : St K) (hk : KC K) {N : Nat} {xs : Nat → Int32} (hq : KScr K N xs) {mc ms : Nat} (hB : Bx K X { frames := 9, cells := mc, slots := ms, locals := 200 } cL_begins 10 RL (some .boolean)) {r : Int32} {M1 : Mem} {ce sl : Nat} {M : Mem} (hF : f_L_begins N xs M = some (r, M1)) (hn : mc + M.2.2.2 = ce + M1.2.2.2) (hz : ms + szM M = sl + szM M1) : Wt K X (QM K X (some (vi r)) M1 mc ms) ce sl M 0 [(0, vr 64), (1, vr 61)] [] := by
  have hg := m_L_begins hF
  have hg1 := hg.1
  have hg2 := hg.2.1
  unfold f_L_begins at hF
  obtain ⟨M1m, e_M1m, hF⟩ := bndS hF
  have x_M1m : GX M M1m := by rw [e_M1m]; exact GX_nw _ _ _ _
  have n_M1m : M1m.2.2.2 = M.2.2.2 + 1 := by rw [e_M1m]; exact nwA_cn
  have z_M1m : szM M1m = szM M + 4 := by rw [e_M1m]; exact nwA_sz
  have hg3 := m_L_begins_b3 hF
  have hg4 := hg3.1
  have hg5 := hg3.2.1
  refine w_nwo hB hp.1 (ci := 10) (N := 4) tyJ4 e_M1m rfl inG_J4 tyJ4_ok dz_J4 q_579 q_580 q_23 (by decide) ⟨show ce + 1 ≤ mc by omega, show sl + 4 ≤ ms by omega⟩ dL_begins_0 ?_
  exact Wt.sub (L' := [(0, vr 64), (1, vr 61)]) [0, 1] rfl (b_L_begins_b3 hp hk hq hB hF (by omega) (by omega))
theorem c_L_begins {K : Kt} {l : Launch} (hp : St K) (hk : KC K) {N : Nat} {xs : Nat → Int32} (hq : KScr K N xs) {r : Int32} {M1 : Mem} {M : Mem} (hF : f_L_begins N xs M = some (r, M1)) : MT K l yL_begins cL_begins 10 (some .boolean) { frames := 9, cells := M1.2.2.2 - M.2.2.2, slots := szM M1 - szM M, locals := 200 } [vr 64, vr 61] M (some (vi r)) M1 (M1.2.2.2 - M.2.2.2) (szM M1 - szM M) := by
  have hg := m_L_begins hF
  have hg1 := hg.1
  have hg2 := hg.2.1
  exact MT_of (by decide) rfl (Nat.le_of_ble_eq_true rfl) (fun X _ hB _ => b_L_begins hp hk hq hB hF (by omega) (by omega))
