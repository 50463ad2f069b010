/-! the string builder and what it calls -/
set_option maxRecDepth 100000 in
set_option maxHeartbeats 4000000 in
theorem b_J3_checkIndex_8e157_b9 {K : Kt} {X : Xt} (hp : St K) (hB : Bx K X { frames := 0, cells := 0, slots := 0, locals := 0 } cJ3_checkIndex_8e157 3 RJ3 (some .int)) {r : Int32} {M1 : Mem} {x0 : Int32} {x1 : Int32} {n2 : Nat} {M : Mem} (hF : f_J3_checkIndex_8e157_b9 x0 x1 n2 M = some (r, M1)) : Wt K X (QM K X (some (vi r)) M1 0 0) 0 0 M 9 [(0, vi x0), (1, vi x1), (2, vr n2)] [] := by
  unfold f_J3_checkIndex_8e157_b9 at hF
  refine w_aload_n hB 2 dJ3_checkIndex_8e157_9 rfl rfl ?_
  refine w_iload_n hB 0 dJ3_checkIndex_8e157_10 rfl rfl ?_
  refine w_iload_n hB 1 dJ3_checkIndex_8e157_11 rfl rfl ?_
  cases hF
set_option maxRecDepth 100000 in
set_option maxHeartbeats 4000000 in
theorem b_J3_checkIndex_8e157 {K : Kt} {X : Xt} (hp : St K) (hB : Bx K X { frames := 0, cells := 0, slots := 0, locals := 0 } cJ3_checkIndex_8e157 3 RJ3 (some .int)) {r : Int32} {M1 : Mem} {x0 : Int32} {x1 : Int32} {n2 : Nat} {M : Mem} (hF : f_J3_checkIndex_8e157 x0 x1 n2 M = some (r, M1)) : Wt K X (QM K X (some (vi r)) M1 0 0) 0 0 M 0 [(0, vi x0), (1, vi x1), (2, vr n2)] [] := by
  unfold f_J3_checkIndex_8e157 at hF
  refine w_iload_n hB 0 dJ3_checkIndex_8e157_0 rfl rfl ?_
  refine w_if_lt hB 9 dJ3_checkIndex_8e157_1 (by decide) (fun hc => ?_) (fun hc => ?_)
  · replace hF := ifT hc hF
    exact Wt.sub (L' := [(0, vi x0), (1, vi x1), (2, vr n2)]) [0, 1, 2] rfl (b_J3_checkIndex_8e157_b9 hp hB hF)
  · replace hF := ifF hc hF
    refine w_iload_n hB 0 dJ3_checkIndex_8e157_4 rfl rfl ?_
    refine w_iload_n hB 1 dJ3_checkIndex_8e157_5 rfl rfl ?_
    refine w_icmp_lt hB 16 dJ3_checkIndex_8e157_6 (by decide) (fun hc => ?_) (fun hc => ?_)
    · replace hF := ifT hc hF
      refine w_iload_n hB 0 dJ3_checkIndex_8e157_16 rfl rfl ?_
      obtain ⟨e1, e2⟩ := retS hF
      subst e2
      exact w_iret hB dJ3_checkIndex_8e157_17 e1
    · replace hF := ifF hc hF
      exact Wt.sub (L' := [(0, vi x0), (1, vi x1), (2, vr n2)]) [0, 1, 2] rfl (b_J3_checkIndex_8e157_b9 hp hB hF)
theorem c_J3_checkIndex_8e157 {K : Kt} {l : Launch} (hp : St K) {r : Int32} {M1 : Mem} {x0 : Int32} {x1 : Int32} {n2 : Nat} {M : Mem} (hF : f_J3_checkIndex_8e157 x0 x1 n2 M = some (r, M1)) : MT K l yJ3_checkIndex_8e157 cJ3_checkIndex_8e157 3 (some .int) { frames := 0, cells := 0, slots := 0, locals := 0 } [vi x0, vi x1, vr n2] M (some (vi r)) M1 0 0 :=
  MT_of (by decide) rfl (Nat.le_of_ble_eq_true rfl) (fun X _ hB _ => b_J3_checkIndex_8e157 hp hB hF)
set_option maxRecDepth 100000 in
set_option maxHeartbeats 4000000 in
theorem b_J0_checkIndex_df160 {K : Kt} {X : Xt} (hp : St K) (hB : Bx K X { frames := 1, cells := 0, slots := 0, locals := 22 } cJ0_checkIndex_df160 2 RJ0 none) {M1 : Mem} {x0 : Int32} {x1 : Int32} {M : Mem} (hF : f_J0_checkIndex_df160 x0 x1 M = some M1) : Wt K X (QM K X none M1 0 0) 0 0 M 0 [(0, vi x0), (1, vi x1)] [] := by
  unfold f_J0_checkIndex_df160 at hF
  refine w_iload_n hB 0 dJ0_checkIndex_df160_0 rfl rfl ?_
  refine w_iload_n hB 1 dJ0_checkIndex_df160_1 rfl rfl ?_
  refine w_getfmt hB hp q_672 dJ0_checkIndex_df160_2 ?_
  obtain ⟨r1, M1m, hc_M1m, hF⟩ := clS hF
  have q_M1m : EQ M M1m := k_J3_checkIndex_8e157 hc_M1m
  have x_M1m := q_M1m.gx
  refine w_callS (M1 := M1m) hB (As := [vi x0, vi x1, vr 60]) (st := []) cw_J0_1059 q_749 (c_J3_checkIndex_8e157 hp hc_M1m) ⟨rfl, rfl⟩ ⟨Nat.le_of_ble_eq_true rfl, Nat.le_of_ble_eq_true rfl⟩ (by decide) rfl (Nat.le_of_ble_eq_true rfl) dJ0_checkIndex_df160_5 rfl ?_ (Or.inl rfl)
  refine w_pop hB rfl dJ0_checkIndex_df160_8 ?_
  cases hF
  exact w_vret hB dJ0_checkIndex_df160_9
theorem c_J0_checkIndex_df160 {K : Kt} {l : Launch} (hp : St K) {M1 : Mem} {x0 : Int32} {x1 : Int32} {M : Mem} (hF : f_J0_checkIndex_df160 x0 x1 M = some M1) : MT K l yJ0_checkIndex_df160 cJ0_checkIndex_df160 2 none { frames := 1, cells := 0, slots := 0, locals := 22 } [vi x0, vi x1] M none M1 0 0 :=
  MT_of (by decide) rfl (Nat.le_of_ble_eq_true rfl) (fun X _ hB _ => b_J0_checkIndex_df160 hp hB hF)
def f_J0_coder_7d493K (n0 : Nat) (M : Mem) : Option (Int32 × Mem) :=
  if (1 : Int32) = 0 then
    some (1, M)
  else
    gd (400 ≤ n0 ∧ n0 < 426) <|
    some (0, M)
theorem k_J0_coder_7d493K {n0 : Nat} {M Z : Mem} {r : Int32} (h : f_J0_coder_7d493K n0 M = some (r, Z)) : EQ M Z := by
  unfold f_J0_coder_7d493K at h
  rcases ifS h with ⟨-, h⟩ | ⟨-, h⟩
  · obtain ⟨-, e⟩ := retS h
    rw [← e]
    exact (EQ.refl M)
  · obtain ⟨gq3, h⟩ := gdS h
    obtain ⟨-, e⟩ := retS h
    rw [← e]
    exact (EQ.refl M)
set_option maxRecDepth 100000 in
set_option maxHeartbeats 4000000 in
theorem b_J0_coder_7d493K {K : Kt} {X : Xt} (hp : St K) (hB : Bx K X { frames := 0, cells := 0, slots := 0, locals := 0 } cJ0_coder_7d493 1 RJ0 (some .byte)) {r : Int32} {M1 : Mem} {n0 : Nat} {M : Mem} (hF : f_J0_coder_7d493K n0 M = some (r, M1)) : Wt K X (QM K X (some (vi r)) M1 0 0) 0 0 M 0 [(0, vr n0)] [] := by
  unfold f_J0_coder_7d493K at hF
  refine w_getcomp hB hp q_694 dJ0_coder_7d493_0 ?_
  refine w_if_eq hB 13 dJ0_coder_7d493_3 (by decide) (fun hc => ?_) (fun hc => ?_)
  · replace hF := ifT hc hF
    refine w_iconst hB 1 (by decide) dJ0_coder_7d493_13 ?_
    obtain ⟨e1, e2⟩ := retS hF
    subst e2
    exact w_sret hB rfl dJ0_coder_7d493_14 e1
  · replace hF := ifF hc hF
    refine w_aload_n hB 0 dJ0_coder_7d493_6 rfl rfl ?_
    obtain ⟨g1, hF⟩ := gdS hF
    refine w_strcoder hB hp g1 q_859 dJ0_coder_7d493_7 ?_
    refine w_goto hB 14 dJ0_coder_7d493_10 (by decide) ?_
    obtain ⟨e1, e2⟩ := retS hF
    subst e2
    exact w_sret hB rfl dJ0_coder_7d493_14 e1
theorem c_J0_coder_7d493K {K : Kt} {l : Launch} (hp : St K) {r : Int32} {M1 : Mem} {n0 : Nat} {M : Mem} (hF : f_J0_coder_7d493K n0 M = some (r, M1)) : MT K l yJ0_coder_7d493 cJ0_coder_7d493 1 (some .byte) { frames := 0, cells := 0, slots := 0, locals := 0 } [vr n0] M (some (vi r)) M1 0 0 :=
  MT_of (by decide) rfl (Nat.le_of_ble_eq_true rfl) (fun X _ hB _ => b_J0_coder_7d493K hp hB hF)
def f_J0_coder_7d493D (n0 : Nat) (M : Mem) : Option (Int32 × Mem) :=
  if (1 : Int32) = 0 then
    some (1, M)
  else
    gd (1000 ≤ n0 ∧ dsc M n0 = 10 ∧ n0 - 753 < M.2.2.2) <|
    gd (vp_nar .byte (M.1 n0 1) = (M.1 n0 1)) <|
    some (M.1 n0 1, M)
theorem k_J0_coder_7d493D {n0 : Nat} {M Z : Mem} {r : Int32} (h : f_J0_coder_7d493D n0 M = some (r, Z)) : EQ M Z := by
  unfold f_J0_coder_7d493D at h
  rcases ifS h with ⟨-, h⟩ | ⟨-, h⟩
  · obtain ⟨-, e⟩ := retS h
    rw [← e]
    exact (EQ.refl M)
  · obtain ⟨gq3, h⟩ := gdS h
    obtain ⟨gq4, h⟩ := gdS h
    obtain ⟨-, e⟩ := retS h
    rw [← e]
    exact (EQ.refl M)
set_option maxRecDepth 100000 in
set_option maxHeartbeats 4000000 in
theorem b_J0_coder_7d493D {K : Kt} {X : Xt} (hp : St K) (hB : Bx K X { frames := 0, cells := 0, slots := 0, locals := 0 } cJ0_coder_7d493 1 RJ0 (some .byte)) {r : Int32} {M1 : Mem} {n0 : Nat} {M : Mem} (hF : f_J0_coder_7d493D n0 M = some (r, M1)) : Wt K X (QM K X (some (vi r)) M1 0 0) 0 0 M 0 [(0, vr n0)] [] := by
  unfold f_J0_coder_7d493D at hF
  refine w_getcomp hB hp q_694 dJ0_coder_7d493_0 ?_
  refine w_if_eq hB 13 dJ0_coder_7d493_3 (by decide) (fun hc => ?_) (fun hc => ?_)
  · replace hF := ifT hc hF
    refine w_iconst hB 1 (by decide) dJ0_coder_7d493_13 ?_
    obtain ⟨e1, e2⟩ := retS hF
    subst e2
    exact w_sret hB rfl dJ0_coder_7d493_14 e1
  · replace hF := ifF hc hF
    refine w_aload_n hB 0 dJ0_coder_7d493_6 rfl rfl ?_
    obtain ⟨g1, hF⟩ := gdS hF
    refine w_getI hB ff_J0_1 (dqM g1) q_859 dJ0_coder_7d493_7 ?_
    refine w_goto hB 14 dJ0_coder_7d493_10 (by decide) ?_
    obtain ⟨g2, hF⟩ := gdS hF
    obtain ⟨e1, e2⟩ := retS hF
    subst e2
    exact w_sret hB (congrArg Value.int g2) dJ0_coder_7d493_14 e1
theorem c_J0_coder_7d493D {K : Kt} {l : Launch} (hp : St K) {r : Int32} {M1 : Mem} {n0 : Nat} {M : Mem} (hF : f_J0_coder_7d493D n0 M = some (r, M1)) : MT K l yJ0_coder_7d493 cJ0_coder_7d493 1 (some .byte) { frames := 0, cells := 0, slots := 0, locals := 0 } [vr n0] M (some (vi r)) M1 0 0 :=
  MT_of (by decide) rfl (Nat.le_of_ble_eq_true rfl) (fun X _ hB _ => b_J0_coder_7d493D hp hB hF)
def f_J0_length_8abf5K (n0 : Nat) (M : Mem) : Option (Int32 × Mem) :=
  gd (400 ≤ n0 ∧ n0 < 426) <|
  cl (f_J0_coder_7d493K n0 M) fun r1 M1m =>
  some ((Int32.ofNat (lsL.getD ((n0 + 50) - 450) 0)) >>> (r1 &&& 31), M1m)
theorem k_J0_length_8abf5K {n0 : Nat} {M Z : Mem} {r : Int32} (h : f_J0_length_8abf5K n0 M = some (r, Z)) : EQ M Z := by
  unfold f_J0_length_8abf5K at h
  obtain ⟨gq0, h⟩ := gdS h
  obtain ⟨r1, M1m, c_M1m, h⟩ := clS h
  have q_M1m : EQ M M1m := EQ.tr (EQ.refl M) (k_J0_coder_7d493K c_M1m)
  obtain ⟨-, e⟩ := retS h
  rw [← e]
  exact q_M1m
set_option maxRecDepth 100000 in
set_option maxHeartbeats 4000000 in
theorem b_J0_length_8abf5K {K : Kt} {X : Xt} (hp : St K) (hB : Bx K X { frames := 1, cells := 0, slots := 0, locals := 20 } cJ0_length_8abf5 1 RJ0 (some .int)) {r : Int32} {M1 : Mem} {n0 : Nat} {M : Mem} (hF : f_J0_length_8abf5K n0 M = some (r, M1)) : Wt K X (QM K X (some (vi r)) M1 0 0) 0 0 M 0 [(0, vr n0)] [] := by
  unfold f_J0_length_8abf5K at hF
  refine w_aload_n hB 0 dJ0_length_8abf5_0 rfl rfl ?_
  obtain ⟨g1, hF⟩ := gdS hF
  refine w_strval hB hp g1 q_858 dJ0_length_8abf5_1 ?_
  refine w_salen hB hp (by omega) dJ0_length_8abf5_4 ?_
  refine w_aload_n hB 0 dJ0_length_8abf5_5 rfl rfl ?_
  obtain ⟨r1, M1m, hc_M1m, hF⟩ := clS hF
  have q_M1m : EQ M M1m := k_J0_coder_7d493K hc_M1m
  have x_M1m := q_M1m.gx
  refine w_callStr (M1 := M1m) hB hp g1 (As := []) (st := [vi (Int32.ofNat (lsL.getD ((n0 + 50) - 450) 0))]) cw_J0_335 q_691 q_692 (c_J0_coder_7d493K hp hc_M1m) ⟨rfl, rfl⟩ ⟨Nat.le_of_ble_eq_true rfl, Nat.le_of_ble_eq_true rfl⟩ (by decide) rfl (Nat.le_of_ble_eq_true rfl) dJ0_length_8abf5_6 rfl ?_ (Or.inl rfl)
  refine w_ishr hB dJ0_length_8abf5_9 ?_
  obtain ⟨e1, e2⟩ := retS hF
  subst e2
  exact w_iret hB dJ0_length_8abf5_10 e1
theorem c_J0_length_8abf5K {K : Kt} {l : Launch} (hp : St K) {r : Int32} {M1 : Mem} {n0 : Nat} {M : Mem} (hF : f_J0_length_8abf5K n0 M = some (r, M1)) : MT K l yJ0_length_8abf5 cJ0_length_8abf5 1 (some .int) { frames := 1, cells := 0, slots := 0, locals := 20 } [vr n0] M (some (vi r)) M1 0 0 :=
  MT_of (by decide) rfl (Nat.le_of_ble_eq_true rfl) (fun X _ hB _ => b_J0_length_8abf5K hp hB hF)
def f_J0_length_8abf5D (n0 : Nat) (M : Mem) : Option (Int32 × Mem) :=
  gd (1000 ≤ n0 ∧ dsc M n0 = 10 ∧ n0 - 753 < M.2.2.2) <|
  gd (1000 ≤ (M.2.2.1 n0 0) ∧ dsc M (M.2.2.1 n0 0) = 22 ∧ (M.2.2.1 n0 0) - 753 < M.2.2.2) <|
  cl (f_J0_coder_7d493D n0 M) fun r1 M1m =>
  some ((Int32.ofNat (dln M (M.2.2.1 n0 0))) >>> (r1 &&& 31), M1m)
theorem k_J0_length_8abf5D {n0 : Nat} {M Z : Mem} {r : Int32} (h : f_J0_length_8abf5D n0 M = some (r, Z)) : EQ M Z := by
  unfold f_J0_length_8abf5D at h
  obtain ⟨gq0, h⟩ := gdS h
  obtain ⟨gq1, h⟩ := gdS h
  obtain ⟨r1, M1m, c_M1m, h⟩ := clS h
  have q_M1m : EQ M M1m := EQ.tr (EQ.refl M) (k_J0_coder_7d493D c_M1m)
  obtain ⟨-, e⟩ := retS h
  rw [← e]
  exact q_M1m
set_option maxRecDepth 100000 in
set_option maxHeartbeats 4000000 in
theorem b_J0_length_8abf5D {K : Kt} {X : Xt} (hp : St K) (hB : Bx K X { frames := 1, cells := 0, slots := 0, locals := 20 } cJ0_length_8abf5 1 RJ0 (some .int)) {r : Int32} {M1 : Mem} {n0 : Nat} {M : Mem} (hF : f_J0_length_8abf5D n0 M = some (r, M1)) : Wt K X (QM K X (some (vi r)) M1 0 0) 0 0 M 0 [(0, vr n0)] [] := by
  unfold f_J0_length_8abf5D at hF
  refine w_aload_n hB 0 dJ0_length_8abf5_0 rfl rfl ?_
  obtain ⟨g1, hF⟩ := gdS hF
  refine w_getR hB ff_J0_0 (dqM g1) q_858 dJ0_length_8abf5_1 ?_
  obtain ⟨g2, hF⟩ := gdS hF
  refine w_alen hB (v := Int32.ofNat (dln M (M.2.2.1 n0 0))) (c := 2) (dqM g2) (by decide) (sl_d g2.1 rfl) rfl dJ0_length_8abf5_4 ?_
  refine w_aload_n hB 0 dJ0_length_8abf5_5 rfl rfl ?_
  obtain ⟨r1, M1m, hc_M1m, hF⟩ := clS hF
  have q_M1m : EQ M M1m := k_J0_coder_7d493D hc_M1m
  have x_M1m := q_M1m.gx
  refine w_callV (M1 := M1m) hB (ci := 9) (As := []) (st := [vi (Int32.ofNat (dln M (M.2.2.1 n0 0)))]) cw_J0_335 q_691 q_692 rfl (dqM g1) (c_J0_coder_7d493D hp hc_M1m) ⟨rfl, rfl⟩ ⟨Nat.le_of_ble_eq_true rfl, Nat.le_of_ble_eq_true rfl⟩ (by decide) rfl (Nat.le_of_ble_eq_true rfl) dJ0_length_8abf5_6 rfl ?_ (Or.inl rfl)
  refine w_ishr hB dJ0_length_8abf5_9 ?_
  obtain ⟨e1, e2⟩ := retS hF
  subst e2
  exact w_iret hB dJ0_length_8abf5_10 e1
theorem c_J0_length_8abf5D {K : Kt} {l : Launch} (hp : St K) {r : Int32} {M1 : Mem} {n0 : Nat} {M : Mem} (hF : f_J0_length_8abf5D n0 M = some (r, M1)) : MT K l yJ0_length_8abf5 cJ0_length_8abf5 1 (some .int) { frames := 1, cells := 0, slots := 0, locals := 20 } [vr n0] M (some (vi r)) M1 0 0 :=
  MT_of (by decide) rfl (Nat.le_of_ble_eq_true rfl) (fun X _ hB _ => b_J0_length_8abf5D hp hB hF)
def f_J0_isLatin1_aae02D (n0 : Nat) (M : Mem) : Option (Int32 × Mem) :=
  if (1 : Int32) = 0 then
    some (0, M)
  else
    gd (1000 ≤ n0 ∧ dsc M n0 = 10 ∧ n0 - 753 < M.2.2.2) <|
    if (M.1 n0 1) = 0 then
      some (1, M)
    else
      some (0, M)
theorem k_J0_isLatin1_aae02D {n0 : Nat} {M Z : Mem} {r : Int32} (h : f_J0_isLatin1_aae02D n0 M = some (r, Z)) : EQ M Z := by
  unfold f_J0_isLatin1_aae02D at h
  rcases ifS h with ⟨-, h⟩ | ⟨-, h⟩
  · obtain ⟨-, e⟩ := retS h
    rw [← e]
    exact (EQ.refl M)
  · obtain ⟨gq3, h⟩ := gdS h
    rcases ifS h with ⟨-, h⟩ | ⟨-, h⟩
    · obtain ⟨-, e⟩ := retS h
      rw [← e]
      exact (EQ.refl M)
    · obtain ⟨-, e⟩ := retS h
      rw [← e]
      exact (EQ.refl M)
set_option maxRecDepth 100000 in
set_option maxHeartbeats 4000000 in
theorem b_J0_isLatin1_aae02D {K : Kt} {X : Xt} (hp : St K) (hB : Bx K X { frames := 0, cells := 0, slots := 0, locals := 0 } cJ0_isLatin1_aae02 1 RJ0 (some .boolean)) {r : Int32} {M1 : Mem} {n0 : Nat} {M : Mem} (hF : f_J0_isLatin1_aae02D n0 M = some (r, M1)) : Wt K X (QM K X (some (vi r)) M1 0 0) 0 0 M 0 [(0, vr n0)] [] := by
  unfold f_J0_isLatin1_aae02D at hF
  refine w_getcomp hB hp q_694 dJ0_isLatin1_aae02_0 ?_
  refine w_if_eq hB 17 dJ0_isLatin1_aae02_3 (by decide) (fun hc => ?_) (fun hc => ?_)
  · replace hF := ifT hc hF
    refine w_iconst hB 0 (by decide) dJ0_isLatin1_aae02_17 ?_
    obtain ⟨e1, e2⟩ := retS hF
    subst e2
    exact w_zret hB (by decide) dJ0_isLatin1_aae02_18 e1
  · replace hF := ifF hc hF
    refine w_aload_n hB 0 dJ0_isLatin1_aae02_6 rfl rfl ?_
    obtain ⟨g1, hF⟩ := gdS hF
    refine w_getI hB ff_J0_1 (dqM g1) q_859 dJ0_isLatin1_aae02_7 ?_
    refine w_if_ne hB 17 dJ0_isLatin1_aae02_10 (by decide) (fun hc => ?_) (fun hc => ?_)
    · replace hF := ifF hc hF
      refine w_iconst hB 0 (by decide) dJ0_isLatin1_aae02_17 ?_
      obtain ⟨e1, e2⟩ := retS hF
      subst e2
      exact w_zret hB (by decide) dJ0_isLatin1_aae02_18 e1
    · replace hF := ifT hc hF
      refine w_iconst hB 1 (by decide) dJ0_isLatin1_aae02_13 ?_
      refine w_goto hB 18 dJ0_isLatin1_aae02_14 (by decide) ?_
      obtain ⟨e1, e2⟩ := retS hF
      subst e2
      exact w_zret hB (by decide) dJ0_isLatin1_aae02_18 e1
theorem c_J0_isLatin1_aae02D {K : Kt} {l : Launch} (hp : St K) {r : Int32} {M1 : Mem} {n0 : Nat} {M : Mem} (hF : f_J0_isLatin1_aae02D n0 M = some (r, M1)) : MT K l yJ0_isLatin1_aae02 cJ0_isLatin1_aae02 1 (some .boolean) { frames := 0, cells := 0, slots := 0, locals := 0 } [vr n0] M (some (vi r)) M1 0 0 :=
  MT_of (by decide) rfl (Nat.le_of_ble_eq_true rfl) (fun X _ hB _ => b_J0_isLatin1_aae02D hp hB hF)
def f_J1_charAt_3b067D (n0 : Nat) (x1 : Int32) (M : Mem) : Option (Int32 × Mem) :=
  gd (1000 ≤ n0 ∧ dsc M n0 = 22 ∧ n0 - 753 < M.2.2.2) <|
  clv (f_J0_checkIndex_df160 x1 (Int32.ofNat (dln M n0)) M) fun M1m =>
  gd (inb x1 (dln M n0)) <|
  gd (vp_nar .char ((((M1m.1 n0 x1.toNatClampNeg) &&& 255).toUInt32 % 65536).toInt32) = ((((M1m.1 n0 x1.toNatClampNeg) &&& 255).toUInt32 % 65536).toInt32)) <|
  some ((((M1m.1 n0 x1.toNatClampNeg) &&& 255).toUInt32 % 65536).toInt32, M1m)
theorem k_J1_charAt_3b067D {n0 : Nat} {x1 : Int32} {M Z : Mem} {r : Int32} (h : f_J1_charAt_3b067D n0 x1 M = some (r, Z)) : EQ M Z := by
  unfold f_J1_charAt_3b067D at h
  obtain ⟨gq0, h⟩ := gdS h
  obtain ⟨M1m, c_M1m, h⟩ := clvS h
  have q_M1m : EQ M M1m := EQ.tr (EQ.refl M) (k_J0_checkIndex_df160 c_M1m)
  obtain ⟨gq2, h⟩ := gdS h
  obtain ⟨gq3, h⟩ := gdS h
  obtain ⟨-, e⟩ := retS h
  rw [← e]
  exact q_M1m
set_option maxRecDepth 100000 in
set_option maxHeartbeats 4000000 in
theorem b_J1_charAt_3b067D {K : Kt} {X : Xt} (hp : St K) (hB : Bx K X { frames := 2, cells := 0, slots := 0, locals := 43 } cJ1_charAt_3b067 2 RJ1 (some .char)) {r : Int32} {M1 : Mem} {n0 : Nat} {x1 : Int32} {M : Mem} (hF : f_J1_charAt_3b067D n0 x1 M = some (r, M1)) : Wt K X (QM K X (some (vi r)) M1 0 0) 0 0 M 0 [(0, vr n0), (1, vi x1)] [] := by
  unfold f_J1_charAt_3b067D at hF
  refine w_iload_n hB 1 dJ1_charAt_3b067_0 rfl rfl ?_
  refine w_aload_n hB 0 dJ1_charAt_3b067_1 rfl rfl ?_
  obtain ⟨g1, hF⟩ := gdS hF
  refine w_alen hB (v := Int32.ofNat (dln M n0)) (c := 2) (dqM g1) (by decide) (sl_d g1.1 rfl) rfl dJ1_charAt_3b067_2 ?_
  obtain ⟨M1m, hc_M1m, hF⟩ := clvS hF
  have q_M1m : EQ M M1m := k_J0_checkIndex_df160 hc_M1m
  have x_M1m := q_M1m.gx
  refine w_callS (M1 := M1m) hB (As := [vi x1, vi (Int32.ofNat (dln M n0))]) (st := []) cw_J1_9 q_746 (c_J0_checkIndex_df160 hp hc_M1m) ⟨rfl, rfl⟩ ⟨Nat.le_of_ble_eq_true rfl, Nat.le_of_ble_eq_true rfl⟩ (by decide) rfl (Nat.le_of_ble_eq_true rfl) dJ1_charAt_3b067_3 rfl ?_ (Or.inl rfl)
  refine w_aload_n hB 0 dJ1_charAt_3b067_6 rfl rfl ?_
  refine w_iload_n hB 1 dJ1_charAt_3b067_7 rfl rfl ?_
  obtain ⟨g2, hF⟩ := gdS hF
  refine w_bald hB (dqM (GX.dyo x_M1m g1)) (sl_d (GX.dyo x_M1m g1).1 (GX.dl x_M1m g1 rfl)) g2 dJ1_charAt_3b067_8 ?_
  refine w_sipush hB 255 (by decide) dJ1_charAt_3b067_9 ?_
  refine w_iand hB dJ1_charAt_3b067_12 ?_
  refine w_i2c hB dJ1_charAt_3b067_13 ?_
  obtain ⟨g3, hF⟩ := gdS hF
  obtain ⟨e1, e2⟩ := retS hF
  subst e2
  exact w_sret hB (congrArg Value.int g3) dJ1_charAt_3b067_14 e1
theorem c_J1_charAt_3b067D {K : Kt} {l : Launch} (hp : St K) {r : Int32} {M1 : Mem} {n0 : Nat} {x1 : Int32} {M : Mem} (hF : f_J1_charAt_3b067D n0 x1 M = some (r, M1)) : MT K l yJ1_charAt_3b067 cJ1_charAt_3b067 2 (some .char) { frames := 2, cells := 0, slots := 0, locals := 43 } [vr n0, vi x1] M (some (vi r)) M1 0 0 :=
  MT_of (by decide) rfl (Nat.le_of_ble_eq_true rfl) (fun X _ hB _ => b_J1_charAt_3b067D hp hB hF)
def f_J0_charAt_5068eD (n0 : Nat) (x1 : Int32) (M : Mem) : Option (Int32 × Mem) :=
  gd (1000 ≤ n0 ∧ dsc M n0 = 10 ∧ n0 - 753 < M.2.2.2) <|
  cl (f_J0_isLatin1_aae02D n0 M) fun r1 M1m =>
  if r1 = 0 then
    none
  else
    cl (f_J1_charAt_3b067D (M1m.2.2.1 n0 0) x1 M1m) fun r2 M2m =>
    gd (vp_nar .char r2 = r2) <|
    some (r2, M2m)
theorem k_J0_charAt_5068eD {n0 : Nat} {x1 : Int32} {M Z : Mem} {r : Int32} (h : f_J0_charAt_5068eD n0 x1 M = some (r, Z)) : EQ M Z := by
  unfold f_J0_charAt_5068eD at h
  obtain ⟨gq0, h⟩ := gdS h
  obtain ⟨r1, M1m, c_M1m, h⟩ := clS h
  have q_M1m : EQ M M1m := EQ.tr (EQ.refl M) (k_J0_isLatin1_aae02D c_M1m)
  rcases ifS h with ⟨-, h⟩ | ⟨-, h⟩
  · cases h
  · obtain ⟨r2, M2m, c_M2m, h⟩ := clS h
    have q_M2m : EQ M M2m := EQ.tr q_M1m (k_J1_charAt_3b067D c_M2m)
    obtain ⟨gq6, h⟩ := gdS h
    obtain ⟨-, e⟩ := retS h
    rw [← e]
    exact q_M2m
set_option maxRecDepth 100000 in
set_option maxHeartbeats 4000000 in
theorem b_J0_charAt_5068eD {K : Kt} {X : Xt} (hp : St K) (hB : Bx K X { frames := 3, cells := 0, slots := 0, locals := 64 } cJ0_charAt_5068e 2 RJ0 (some .char)) {r : Int32} {M1 : Mem} {n0 : Nat} {x1 : Int32} {M : Mem} (hF : f_J0_charAt_5068eD n0 x1 M = some (r, M1)) : Wt K X (QM K X (some (vi r)) M1 0 0) 0 0 M 0 [(0, vr n0), (1, vi x1)] [] := by
  unfold f_J0_charAt_5068eD at hF
  refine w_aload_n hB 0 dJ0_charAt_5068e_0 rfl rfl ?_
  obtain ⟨g1, hF⟩ := gdS hF
  obtain ⟨r1, M1m, hc_M1m, hF⟩ := clS hF
  have q_M1m : EQ M M1m := k_J0_isLatin1_aae02D hc_M1m
  have x_M1m := q_M1m.gx
  refine w_callV (M1 := M1m) hB (ci := 9) (As := []) (st := []) cw_J0_492 q_878 q_879 rfl (dqM g1) (c_J0_isLatin1_aae02D hp hc_M1m) ⟨rfl, rfl⟩ ⟨Nat.le_of_ble_eq_true rfl, Nat.le_of_ble_eq_true rfl⟩ (by decide) rfl (Nat.le_of_ble_eq_true rfl) dJ0_charAt_5068e_1 rfl ?_ (Or.inl rfl)
  refine w_if_eq hB 16 dJ0_charAt_5068e_4 (by decide) (fun hc => ?_) (fun hc => ?_)
  · replace hF := ifT hc hF
    refine w_aload_n hB 0 dJ0_charAt_5068e_16 rfl rfl ?_
    refine w_getR hB ff_J0_0 (dqM (GX.dyo x_M1m g1)) q_858 dJ0_charAt_5068e_17 ?_
    refine w_iload_n hB 1 dJ0_charAt_5068e_20 rfl rfl ?_
    cases hF
  · replace hF := ifF hc hF
    refine w_aload_n hB 0 dJ0_charAt_5068e_7 rfl rfl ?_
    refine w_getR hB ff_J0_0 (dqM (GX.dyo x_M1m g1)) q_858 dJ0_charAt_5068e_8 ?_
    refine w_iload_n hB 1 dJ0_charAt_5068e_11 rfl rfl ?_
    obtain ⟨r2, M2m, hc_M2m, hF⟩ := clS hF
    have q_M2m : EQ M1m M2m := k_J1_charAt_3b067D hc_M2m
    have x_M2m := q_M2m.gx
    refine w_callS (M1 := M2m) hB (As := [vr (M1m.2.2.1 n0 0), vi x1]) (st := []) cw_J0_495 q_882 (c_J1_charAt_3b067D hp hc_M2m) ⟨rfl, rfl⟩ ⟨Nat.le_of_ble_eq_true rfl, Nat.le_of_ble_eq_true rfl⟩ (by decide) rfl (Nat.le_of_ble_eq_true rfl) dJ0_charAt_5068e_12 rfl ?_ (Or.inl rfl)
    obtain ⟨g2, hF⟩ := gdS hF
    obtain ⟨e1, e2⟩ := retS hF
    subst e2
    exact w_sret hB (congrArg Value.int g2) dJ0_charAt_5068e_15 e1
theorem c_J0_charAt_5068eD {K : Kt} {l : Launch} (hp : St K) {r : Int32} {M1 : Mem} {n0 : Nat} {x1 : Int32} {M : Mem} (hF : f_J0_charAt_5068eD n0 x1 M = some (r, M1)) : MT K l yJ0_charAt_5068e cJ0_charAt_5068e 2 (some .char) { frames := 3, cells := 0, slots := 0, locals := 64 } [vr n0, vi x1] M (some (vi r)) M1 0 0 :=
  MT_of (by decide) rfl (Nat.le_of_ble_eq_true rfl) (fun X _ hB _ => b_J0_charAt_5068eD hp hB hF)
def f_J1_canEncode_fc78d (x0 : Int32) (M : Mem) : Option (Int32 × Mem) :=
  if 255 < x0 then
    some (0, M)
  else
    some (1, M)
theorem k_J1_canEncode_fc78d {x0 : Int32} {M Z : Mem} {r : Int32} (h : f_J1_canEncode_fc78d x0 M = some (r, Z)) : EQ M Z := by
  unfold f_J1_canEncode_fc78d at h
  rcases ifS h with ⟨-, h⟩ | ⟨-, h⟩
  · obtain ⟨-, e⟩ := retS h
    rw [← e]
    exact (EQ.refl M)
  · obtain ⟨-, e⟩ := retS h
    rw [← e]
    exact (EQ.refl M)
set_option maxRecDepth 100000 in
set_option maxHeartbeats 4000000 in
theorem b_J1_canEncode_fc78d {K : Kt} {X : Xt} (hp : St K) (hB : Bx K X { frames := 0, cells := 0, slots := 0, locals := 0 } cJ1_canEncode_fc78d 1 RJ1 (some .boolean)) {r : Int32} {M1 : Mem} {x0 : Int32} {M : Mem} (hF : f_J1_canEncode_fc78d x0 M = some (r, M1)) : Wt K X (QM K X (some (vi r)) M1 0 0) 0 0 M 0 [(0, vi x0)] [] := by
  unfold f_J1_canEncode_fc78d at hF
  refine w_iload_n hB 0 dJ1_canEncode_fc78d_0 rfl rfl ?_
  refine w_sipush hB 255 (by decide) dJ1_canEncode_fc78d_1 ?_
  refine w_icmp_gt hB 11 dJ1_canEncode_fc78d_4 (by decide) (fun hc => ?_) (fun hc => ?_)
  · replace hF := ifT hc hF
    refine w_iconst hB 0 (by decide) dJ1_canEncode_fc78d_11 ?_
    obtain ⟨e1, e2⟩ := retS hF
    subst e2
    exact w_zret hB (by decide) dJ1_canEncode_fc78d_12 e1
  · replace hF := ifF hc hF
    refine w_iconst hB 1 (by decide) dJ1_canEncode_fc78d_7 ?_
    refine w_goto hB 12 dJ1_canEncode_fc78d_8 (by decide) ?_
    obtain ⟨e1, e2⟩ := retS hF
    subst e2
    exact w_zret hB (by decide) dJ1_canEncode_fc78d_12 e1
theorem c_J1_canEncode_fc78d {K : Kt} {l : Launch} (hp : St K) {r : Int32} {M1 : Mem} {x0 : Int32} {M : Mem} (hF : f_J1_canEncode_fc78d x0 M = some (r, M1)) : MT K l yJ1_canEncode_fc78d cJ1_canEncode_fc78d 1 (some .boolean) { frames := 0, cells := 0, slots := 0, locals := 0 } [vi x0] M (some (vi r)) M1 0 0 :=
  MT_of (by decide) rfl (Nat.le_of_ble_eq_true rfl) (fun X _ hB _ => b_J1_canEncode_fc78d hp hB hF)
def f_J5_isLatin1_aae02 (n0 : Nat) (M : Mem) : Option (Int32 × Mem) :=
  if (1 : Int32) = 0 then
    some (0, M)
  else
    gd (1000 ≤ n0 ∧ dsc M n0 = 11 ∧ n0 - 753 < M.2.2.2) <|
    if (M.1 n0 1) = 0 then
      some (1, M)
    else
      some (0, M)
theorem k_J5_isLatin1_aae02 {n0 : Nat} {M Z : Mem} {r : Int32} (h : f_J5_isLatin1_aae02 n0 M = some (r, Z)) : EQ M Z := by
  unfold f_J5_isLatin1_aae02 at h
  rcases ifS h with ⟨-, h⟩ | ⟨-, h⟩
  · obtain ⟨-, e⟩ := retS h
    rw [← e]
    exact (EQ.refl M)
  · obtain ⟨gq3, h⟩ := gdS h
    rcases ifS h with ⟨-, h⟩ | ⟨-, h⟩
    · obtain ⟨-, e⟩ := retS h
      rw [← e]
      exact (EQ.refl M)
    · obtain ⟨-, e⟩ := retS h
      rw [← e]
      exact (EQ.refl M)
set_option maxRecDepth 100000 in
set_option maxHeartbeats 4000000 in
theorem b_J5_isLatin1_aae02 {K : Kt} {X : Xt} (hp : St K) (hB : Bx K X { frames := 0, cells := 0, slots := 0, locals := 0 } cJ5_isLatin1_aae02 1 RJ5 (some .boolean)) {r : Int32} {M1 : Mem} {n0 : Nat} {M : Mem} (hF : f_J5_isLatin1_aae02 n0 M = some (r, M1)) : Wt K X (QM K X (some (vi r)) M1 0 0) 0 0 M 0 [(0, vr n0)] [] := by
  unfold f_J5_isLatin1_aae02 at hF
  refine w_getcomp hB hp q_588 dJ5_isLatin1_aae02_0 ?_
  refine w_if_eq hB 17 dJ5_isLatin1_aae02_3 (by decide) (fun hc => ?_) (fun hc => ?_)
  · replace hF := ifT hc hF
    refine w_iconst hB 0 (by decide) dJ5_isLatin1_aae02_17 ?_
    obtain ⟨e1, e2⟩ := retS hF
    subst e2
    exact w_zret hB (by decide) dJ5_isLatin1_aae02_18 e1
  · replace hF := ifF hc hF
    refine w_aload_n hB 0 dJ5_isLatin1_aae02_6 rfl rfl ?_
    obtain ⟨g1, hF⟩ := gdS hF
    refine w_getI hB ff_J4_1 (dqM g1) q_598 dJ5_isLatin1_aae02_7 ?_
    refine w_if_ne hB 17 dJ5_isLatin1_aae02_10 (by decide) (fun hc => ?_) (fun hc => ?_)
    · replace hF := ifF hc hF
      refine w_iconst hB 0 (by decide) dJ5_isLatin1_aae02_17 ?_
      obtain ⟨e1, e2⟩ := retS hF
      subst e2
      exact w_zret hB (by decide) dJ5_isLatin1_aae02_18 e1
    · replace hF := ifT hc hF
      refine w_iconst hB 1 (by decide) dJ5_isLatin1_aae02_13 ?_
      refine w_goto hB 18 dJ5_isLatin1_aae02_14 (by decide) ?_
      obtain ⟨e1, e2⟩ := retS hF
      subst e2
      exact w_zret hB (by decide) dJ5_isLatin1_aae02_18 e1
theorem c_J5_isLatin1_aae02 {K : Kt} {l : Launch} (hp : St K) {r : Int32} {M1 : Mem} {n0 : Nat} {M : Mem} (hF : f_J5_isLatin1_aae02 n0 M = some (r, M1)) : MT K l yJ5_isLatin1_aae02 cJ5_isLatin1_aae02 1 (some .boolean) { frames := 0, cells := 0, slots := 0, locals := 0 } [vr n0] M (some (vi r)) M1 0 0 :=
  MT_of (by decide) rfl (Nat.le_of_ble_eq_true rfl) (fun X _ hB _ => b_J5_isLatin1_aae02 hp hB hF)
def f_J5_getValue_6d5f1 (n0 : Nat) (M : Mem) : Option (Nat × Mem) :=
  gd (1000 ≤ n0 ∧ dsc M n0 = 11 ∧ n0 - 753 < M.2.2.2) <|
  some (M.2.2.1 n0 0, M)
theorem k_J5_getValue_6d5f1 {n0 : Nat} {M Z : Mem} {r : Nat} (h : f_J5_getValue_6d5f1 n0 M = some (r, Z)) : EQ M Z := by
  unfold f_J5_getValue_6d5f1 at h
  obtain ⟨gq0, h⟩ := gdS h
  obtain ⟨-, e⟩ := retS h
  rw [← e]
  exact (EQ.refl M)
set_option maxRecDepth 100000 in
set_option maxHeartbeats 4000000 in
theorem b_J5_getValue_6d5f1 {K : Kt} {X : Xt} (hp : St K) (hB : Bx K X { frames := 0, cells := 0, slots := 0, locals := 0 } cJ5_getValue_6d5f1 1 RJ5 (some (.array .byte))) {r : Nat} {M1 : Mem} {n0 : Nat} {M : Mem} (hF : f_J5_getValue_6d5f1 n0 M = some (r, M1)) : Wt K X (QM K X (some (vr r)) M1 0 0) 0 0 M 0 [(0, vr n0)] [] := by
  unfold f_J5_getValue_6d5f1 at hF
  refine w_aload_n hB 0 dJ5_getValue_6d5f1_0 rfl rfl ?_
  obtain ⟨g1, hF⟩ := gdS hF
  refine w_getR hB ff_J4_0 (dqM g1) q_597 dJ5_getValue_6d5f1_1 ?_
  obtain ⟨e1, e2⟩ := retS hF
  subst e2
  exact w_areta hB dJ5_getValue_6d5f1_4 e1
theorem c_J5_getValue_6d5f1 {K : Kt} {l : Launch} (hp : St K) {r : Nat} {M1 : Mem} {n0 : Nat} {M : Mem} (hF : f_J5_getValue_6d5f1 n0 M = some (r, M1)) : MT K l yJ5_getValue_6d5f1 cJ5_getValue_6d5f1 1 (some (.array .byte)) { frames := 0, cells := 0, slots := 0, locals := 0 } [vr n0] M (some (vr r)) M1 0 0 :=
  MT_of (by decide) rfl (Nat.le_of_ble_eq_true rfl) (fun X _ hB _ => b_J5_getValue_6d5f1 hp hB hF)
def f_J5_length_8abf5 (n0 : Nat) (M : Mem) : Option (Int32 × Mem) :=
  gd (1000 ≤ n0 ∧ dsc M n0 = 11 ∧ n0 - 753 < M.2.2.2) <|
  some (M.1 n0 3, M)
theorem k_J5_length_8abf5 {n0 : Nat} {M Z : Mem} {r : Int32} (h : f_J5_length_8abf5 n0 M = some (r, Z)) : EQ M Z := by
  unfold f_J5_length_8abf5 at h
  obtain ⟨gq0, h⟩ := gdS h
  obtain ⟨-, e⟩ := retS h
  rw [← e]
  exact (EQ.refl M)
set_option maxRecDepth 100000 in
set_option maxHeartbeats 4000000 in
theorem b_J5_length_8abf5 {K : Kt} {X : Xt} (hp : St K) (hB : Bx K X { frames := 0, cells := 0, slots := 0, locals := 0 } cJ5_length_8abf5 1 RJ5 (some .int)) {r : Int32} {M1 : Mem} {n0 : Nat} {M : Mem} (hF : f_J5_length_8abf5 n0 M = some (r, M1)) : Wt K X (QM K X (some (vi r)) M1 0 0) 0 0 M 0 [(0, vr n0)] [] := by
  unfold f_J5_length_8abf5 at hF
  refine w_aload_n hB 0 dJ5_length_8abf5_0 rfl rfl ?_
  obtain ⟨g1, hF⟩ := gdS hF
  refine w_getI hB ff_J4_3 (dqM g1) q_600 dJ5_length_8abf5_1 ?_
  obtain ⟨e1, e2⟩ := retS hF
  subst e2
  exact w_iret hB dJ5_length_8abf5_4 e1
theorem c_J5_length_8abf5 {K : Kt} {l : Launch} (hp : St K) {r : Int32} {M1 : Mem} {n0 : Nat} {M : Mem} (hF : f_J5_length_8abf5 n0 M = some (r, M1)) : MT K l yJ5_length_8abf5 cJ5_length_8abf5 1 (some .int) { frames := 0, cells := 0, slots := 0, locals := 0 } [vr n0] M (some (vi r)) M1 0 0 :=
  MT_of (by decide) rfl (Nat.le_of_ble_eq_true rfl) (fun X _ hB _ => b_J5_length_8abf5 hp hB hF)
def f_J4_length_8abf5 (n0 : Nat) (M : Mem) : Option (Int32 × Mem) :=
  gd (1000 ≤ n0 ∧ dsc M n0 = 11 ∧ n0 - 753 < M.2.2.2) <|
  cl (f_J5_length_8abf5 n0 M) fun r1 M1m =>
  some (r1, M1m)
theorem k_J4_length_8abf5 {n0 : Nat} {M Z : Mem} {r : Int32} (h : f_J4_length_8abf5 n0 M = some (r, Z)) : EQ M Z := by
  unfold f_J4_length_8abf5 at h
  obtain ⟨gq0, h⟩ := gdS h
  obtain ⟨r1, M1m, c_M1m, h⟩ := clS h
  have q_M1m : EQ M M1m := EQ.tr (EQ.refl M) (k_J5_length_8abf5 c_M1m)
  obtain ⟨-, e⟩ := retS h
  rw [← e]
  exact q_M1m
set_option maxRecDepth 100000 in
set_option maxHeartbeats 4000000 in
theorem b_J4_length_8abf5 {K : Kt} {X : Xt} (hp : St K) (hB : Bx K X { frames := 1, cells := 0, slots := 0, locals := 20 } cJ4_length_8abf5 1 RJ4 (some .int)) {r : Int32} {M1 : Mem} {n0 : Nat} {M : Mem} (hF : f_J4_length_8abf5 n0 M = some (r, M1)) : Wt K X (QM K X (some (vi r)) M1 0 0) 0 0 M 0 [(0, vr n0)] [] := by
  unfold f_J4_length_8abf5 at hF
  refine w_aload_n hB 0 dJ4_length_8abf5_0 rfl rfl ?_
  obtain ⟨g1, hF⟩ := gdS hF
  obtain ⟨r1, M1m, hc_M1m, hF⟩ := clS hF
  have q_M1m : EQ M M1m := k_J5_length_8abf5 hc_M1m
  have x_M1m := q_M1m.gx
  refine w_callSU (M1 := M1m) (na := 0) (y := yJ5_length_8abf5) hB (As := []) (st := []) (mem5 q_833 q_829 q_609 q_828 q_22) q_834 ⟨by decide, by decide +kernel⟩ (ci := 10) rfl (dqM g1) (c_J5_length_8abf5 hp hc_M1m) ⟨rfl, rfl⟩ ⟨Nat.le_of_ble_eq_true rfl, Nat.le_of_ble_eq_true rfl⟩ (by decide) rfl (Nat.le_of_ble_eq_true rfl) dJ4_length_8abf5_1 rfl ?_ (Or.inl rfl)
  obtain ⟨e1, e2⟩ := retS hF
  subst e2
  exact w_iret hB dJ4_length_8abf5_4 e1
theorem c_J4_length_8abf5 {K : Kt} {l : Launch} (hp : St K) {r : Int32} {M1 : Mem} {n0 : Nat} {M : Mem} (hF : f_J4_length_8abf5 n0 M = some (r, M1)) : MT K l yJ4_length_8abf5 cJ4_length_8abf5 1 (some .int) { frames := 1, cells := 0, slots := 0, locals := 20 } [vr n0] M (some (vi r)) M1 0 0 :=
  MT_of (by decide) rfl (Nat.le_of_ble_eq_true rfl) (fun X _ hB _ => b_J4_length_8abf5 hp hB hF)
def f_J5_newCapacity_0f7a4 (n0 : Nat) (x1 : Int32) (M : Mem) : Option (Int32 × Mem) :=
  gd (1000 ≤ n0 ∧ dsc M n0 = 11 ∧ n0 - 753 < M.2.2.2) <|
  gd (1000 ≤ (M.2.2.1 n0 0) ∧ dsc M (M.2.2.1 n0 0) = 22 ∧ (M.2.2.1 n0 0) - 753 < M.2.2.2) <|
  bnd (Int32.ofNat (dln M (M.2.2.1 n0 0))) fun a1 =>
  bnd (x1 <<< ((M.1 n0 1) &&& 31)) fun a2 =>
  bnd (a2 - a1) fun a3 =>
  cl (f_J8_newLength_cabcc a1 a3 (a1 + ((2 : Int32) <<< ((M.1 n0 1) &&& 31))) M) fun r1 M1m =>
  if r1 = 2147483647 then
    none
  else
    some (r1 >>> ((M1m.1 n0 1) &&& 31), M1m)
theorem k_J5_newCapacity_0f7a4 {n0 : Nat} {x1 : Int32} {M Z : Mem} {r : Int32} (h : f_J5_newCapacity_0f7a4 n0 x1 M = some (r, Z)) : EQ M Z := by
  unfold f_J5_newCapacity_0f7a4 at h
  obtain ⟨gq0, h⟩ := gdS h
  obtain ⟨gq1, h⟩ := gdS h
  obtain ⟨a1, e_a1, h⟩ := bndS h
  obtain ⟨a2, e_a2, h⟩ := bndS h
  obtain ⟨a3, e_a3, h⟩ := bndS h
  obtain ⟨r1, M1m, c_M1m, h⟩ := clS h
  have q_M1m : EQ M M1m := EQ.tr (EQ.refl M) (k_J8_newLength_cabcc c_M1m)
  rcases ifS h with ⟨-, h⟩ | ⟨-, h⟩
  · cases h
  · obtain ⟨-, e⟩ := retS h
    rw [← e]
    exact q_M1m
set_option maxRecDepth 100000 in
set_option maxHeartbeats 4000000 in
theorem b_J5_newCapacity_0f7a4 {K : Kt} {X : Xt} (hp : St K) (hB : Bx K X { frames := 2, cells := 0, slots := 0, locals := 45 } cJ5_newCapacity_0f7a4 6 RJ5 (some .int)) {r : Int32} {M1 : Mem} {n0 : Nat} {x1 : Int32} {M : Mem} (hF : f_J5_newCapacity_0f7a4 n0 x1 M = some (r, M1)) : Wt K X (QM K X (some (vi r)) M1 0 0) 0 0 M 0 [(0, vr n0), (1, vi x1)] [] := by
  unfold f_J5_newCapacity_0f7a4 at hF
  refine w_aload_n hB 0 dJ5_newCapacity_0f7a4_0 rfl rfl ?_
  obtain ⟨g1, hF⟩ := gdS hF
  refine w_getR hB ff_J4_0 (dqM g1) q_597 dJ5_newCapacity_0f7a4_1 ?_
  obtain ⟨g2, hF⟩ := gdS hF
  refine w_alen hB (v := Int32.ofNat (dln M (M.2.2.1 n0 0))) (c := 2) (dqM g2) (by decide) (sl_d g2.1 rfl) rfl dJ5_newCapacity_0f7a4_4 ?_
  obtain ⟨a1, e_a1, hF⟩ := bndS hF
  refine w_istore_n hB (L' := [(2, vi a1), (0, vr n0), (1, vi x1)]) dJ5_newCapacity_0f7a4_5 rfl (by decide) e_a1 rfl ?_
  refine w_iload_n hB 2 dJ5_newCapacity_0f7a4_6 rfl rfl ?_
  refine w_aload_n hB 1 dJ5_newCapacity_0f7a4_7 rfl rfl ?_
  refine w_getI hB ff_J4_1 (dqM g1) q_598 dJ5_newCapacity_0f7a4_8 ?_
  refine w_ishl hB dJ5_newCapacity_0f7a4_11 ?_
  obtain ⟨a2, e_a2, hF⟩ := bndS hF
  refine w_istore_n hB (L' := [(3, vi a2), (2, vi a1), (0, vr n0), (1, vi x1)]) dJ5_newCapacity_0f7a4_12 rfl (by decide) e_a2 rfl ?_
  refine w_iload_n hB 0 dJ5_newCapacity_0f7a4_13 rfl rfl ?_
  refine w_iload_n hB 1 dJ5_newCapacity_0f7a4_14 rfl rfl ?_
  refine w_isub hB dJ5_newCapacity_0f7a4_15 ?_
  obtain ⟨a3, e_a3, hF⟩ := bndS hF
  refine w_istore hB (L' := [(4, vi a3), (3, vi a2), (2, vi a1), (0, vr n0), (1, vi x1)]) dJ5_newCapacity_0f7a4_16 (by decide) e_a3 rfl ?_
  refine w_iload_n hB 2 dJ5_newCapacity_0f7a4_18 rfl rfl ?_
  refine w_iload hB 0 dJ5_newCapacity_0f7a4_19 rfl ?_
  refine w_iload_n hB 2 dJ5_newCapacity_0f7a4_21 rfl rfl ?_
  refine w_iconst hB 2 (by decide) dJ5_newCapacity_0f7a4_22 ?_
  refine w_aload_n hB 3 dJ5_newCapacity_0f7a4_23 rfl rfl ?_
  refine w_getI hB ff_J4_1 (dqM g1) q_598 dJ5_newCapacity_0f7a4_24 ?_
  refine w_ishl hB dJ5_newCapacity_0f7a4_27 ?_
  refine w_iadd hB dJ5_newCapacity_0f7a4_28 ?_
  obtain ⟨r1, M1m, hc_M1m, hF⟩ := clS hF
  have q_M1m : EQ M M1m := k_J8_newLength_cabcc hc_M1m
  have x_M1m := q_M1m.gx
  refine w_callS (M1 := M1m) hB (As := [vi a1, vi a3, vi (a1 + ((2 : Int32) <<< ((M.1 n0 1) &&& 31)))]) (st := []) cw_J5_114 q_631 (c_J8_newLength_cabcc hp hc_M1m) ⟨rfl, rfl⟩ ⟨Nat.le_of_ble_eq_true rfl, Nat.le_of_ble_eq_true rfl⟩ (by decide) rfl (Nat.le_of_ble_eq_true rfl) dJ5_newCapacity_0f7a4_29 rfl ?_ (Or.inl rfl)
  refine w_istore hB (L' := [(5, vi r1), (4, vi a3), (3, vi a2), (2, vi a1), (0, vr n0), (1, vi x1)]) dJ5_newCapacity_0f7a4_32 (by decide) rfl rfl ?_
  refine w_iload hB 0 dJ5_newCapacity_0f7a4_34 rfl ?_
  refine w_ldc hB (v := 2147483647) q_640 dJ5_newCapacity_0f7a4_36 ?_
  refine w_icmp_ne hB 51 dJ5_newCapacity_0f7a4_38 (by decide) (fun hc => ?_) (fun hc => ?_)
  · replace hF := ifF hc hF
    refine w_iload hB 0 dJ5_newCapacity_0f7a4_51 rfl ?_
    refine w_aload_n hB 4 dJ5_newCapacity_0f7a4_53 rfl rfl ?_
    refine w_getI hB ff_J4_1 (dqM (GX.dyo x_M1m g1)) q_598 dJ5_newCapacity_0f7a4_54 ?_
    refine w_ishr hB dJ5_newCapacity_0f7a4_57 ?_
    obtain ⟨e1, e2⟩ := retS hF
    subst e2
    exact w_iret hB dJ5_newCapacity_0f7a4_58 e1
  · replace hF := ifT hc hF
    cases hF
theorem c_J5_newCapacity_0f7a4 {K : Kt} {l : Launch} (hp : St K) {r : Int32} {M1 : Mem} {n0 : Nat} {x1 : Int32} {M : Mem} (hF : f_J5_newCapacity_0f7a4 n0 x1 M = some (r, M1)) : MT K l yJ5_newCapacity_0f7a4 cJ5_newCapacity_0f7a4 6 (some .int) { frames := 2, cells := 0, slots := 0, locals := 45 } [vr n0, vi x1] M (some (vi r)) M1 0 0 :=
  MT_of (by decide) rfl (Nat.le_of_ble_eq_true rfl) (fun X _ hB _ => b_J5_newCapacity_0f7a4 hp hB hF)
def f_J5_inflateIfNeededFor_a7421 (n0 : Nat) (n1 : Nat) (M : Mem) : Option Mem :=
  if (1 : Int32) = 0 then
    some M
  else
    gd (1000 ≤ n0 ∧ dsc M n0 = 11 ∧ n0 - 753 < M.2.2.2) <|
    gd (400 ≤ n1 ∧ n1 < 426) <|
    cl (f_J0_coder_7d493K n1 M) fun r1 M1m =>
    if (M.1 n0 1) = r1 then
      some M1m
    else
      none
theorem k_J5_inflateIfNeededFor_a7421 {n0 : Nat} {n1 : Nat} {M Z : Mem} (h : f_J5_inflateIfNeededFor_a7421 n0 n1 M = some Z) : EQ M Z := by
  unfold f_J5_inflateIfNeededFor_a7421 at h
  rcases ifS h with ⟨-, h⟩ | ⟨-, h⟩
  · rw [← Option.some.inj h]
    exact (EQ.refl M)
  · obtain ⟨gq3, h⟩ := gdS h
    obtain ⟨gq4, h⟩ := gdS h
    obtain ⟨r1, M1m, c_M1m, h⟩ := clS h
    have q_M1m : EQ M M1m := EQ.tr (EQ.refl M) (k_J0_coder_7d493K c_M1m)
    rcases ifS h with ⟨-, h⟩ | ⟨-, h⟩
    · rw [← Option.some.inj h]
      exact q_M1m
    · cases h
set_option maxRecDepth 100000 in
set_option maxHeartbeats 4000000 in
theorem b_J5_inflateIfNeededFor_a7421 {K : Kt} {X : Xt} (hp : St K) (hB : Bx K X { frames := 1, cells := 0, slots := 0, locals := 20 } cJ5_inflateIfNeededFor_a7421 2 RJ5 none) {M1 : Mem} {n0 : Nat} {n1 : Nat} {M : Mem} (hF : f_J5_inflateIfNeededFor_a7421 n0 n1 M = some M1) : Wt K X (QM K X none M1 0 0) 0 0 M 0 [(0, vr n0), (1, vr n1)] [] := by
  unfold f_J5_inflateIfNeededFor_a7421 at hF
  refine w_getcomp hB hp q_588 dJ5_inflateIfNeededFor_a7421_0 ?_
  refine w_if_eq hB 21 dJ5_inflateIfNeededFor_a7421_3 (by decide) (fun hc => ?_) (fun hc => ?_)
  · replace hF := ifT hc hF
    cases hF
    exact w_vret hB dJ5_inflateIfNeededFor_a7421_21
  · replace hF := ifF hc hF
    refine w_aload_n hB 0 dJ5_inflateIfNeededFor_a7421_6 rfl rfl ?_
    obtain ⟨g1, hF⟩ := gdS hF
    refine w_getI hB ff_J4_1 (dqM g1) q_598 dJ5_inflateIfNeededFor_a7421_7 ?_
    refine w_aload_n hB 1 dJ5_inflateIfNeededFor_a7421_10 rfl rfl ?_
    obtain ⟨g2, hF⟩ := gdS hF
    obtain ⟨r1, M1m, hc_M1m, hF⟩ := clS hF
    have q_M1m : EQ M M1m := k_J0_coder_7d493K hc_M1m
    have x_M1m := q_M1m.gx
    refine w_callStr (M1 := M1m) hB hp g2 (As := []) (st := [vi (M.1 n0 1)]) cw_J5_40 q_691 q_692 (c_J0_coder_7d493K hp hc_M1m) ⟨rfl, rfl⟩ ⟨Nat.le_of_ble_eq_true rfl, Nat.le_of_ble_eq_true rfl⟩ (by decide) rfl (Nat.le_of_ble_eq_true rfl) dJ5_inflateIfNeededFor_a7421_11 rfl ?_ (Or.inl rfl)
    refine w_icmp_eq hB 21 dJ5_inflateIfNeededFor_a7421_14 (by decide) (fun hc => ?_) (fun hc => ?_)
    · replace hF := ifT hc hF
      cases hF
      exact w_vret hB dJ5_inflateIfNeededFor_a7421_21
    · replace hF := ifF hc hF
      refine w_aload_n hB 0 dJ5_inflateIfNeededFor_a7421_17 rfl rfl ?_
      cases hF
theorem c_J5_inflateIfNeededFor_a7421 {K : Kt} {l : Launch} (hp : St K) {M1 : Mem} {n0 : Nat} {n1 : Nat} {M : Mem} (hF : f_J5_inflateIfNeededFor_a7421 n0 n1 M = some M1) : MT K l yJ5_inflateIfNeededFor_a7421 cJ5_inflateIfNeededFor_a7421 2 none { frames := 1, cells := 0, slots := 0, locals := 20 } [vr n0, vr n1] M none M1 0 0 :=
  MT_of (by decide) rfl (Nat.le_of_ble_eq_true rfl) (fun X _ hB _ => b_J5_inflateIfNeededFor_a7421 hp hB hF)
def f_J0_getBytes_840e7K (n0 : Nat) (n1 : Nat) (x2 : Int32) (x3 : Int32) (M : Mem) : Option Mem :=
  gd (400 ≤ n0 ∧ n0 < 426) <|
  cl (f_J0_coder_7d493K n0 M) fun r1 M1m =>
  if r1 = x3 then
    gd (1000 ≤ n1 ∧ dsc M1m n1 = 22 ∧ n1 - 753 < M1m.2.2.2) <|
    gd (¬ (x2 <<< (x3 &&& 31)) < 0) <|
    gd (¬ (Int32.ofNat (lsL.getD ((n0 + 50) - 450) 0)) < 0) <|
    gd ((0 : Int32).toNatClampNeg + (Int32.ofNat (lsL.getD ((n0 + 50) - 450) 0)).toNatClampNeg ≤ lsL.getD (n0 - 400) 0) <|
    gd ((x2 <<< (x3 &&& 31)).toNatClampNeg + (Int32.ofNat (lsL.getD ((n0 + 50) - 450) 0)).toNatClampNeg ≤ dln M1m n1) <|
    bnd (cpK (fun j => (lsBy.getD (n0 - 400) []).getD j 0) n1 ((0 : Int32).toNatClampNeg) ((x2 <<< (x3 &&& 31)).toNatClampNeg) ((Int32.ofNat (lsL.getD ((n0 + 50) - 450) 0)).toNatClampNeg) M1m) fun M2m =>
    some M2m
  else
    none
theorem k_J0_getBytes_840e7K {n0 : Nat} {n1 : Nat} {x2 : Int32} {x3 : Int32} {M Z : Mem} (h : f_J0_getBytes_840e7K n0 n1 x2 x3 M = some Z) : EQ M Z := by
  unfold f_J0_getBytes_840e7K at h
  obtain ⟨gq0, h⟩ := gdS h
  obtain ⟨r1, M1m, c_M1m, h⟩ := clS h
  have q_M1m : EQ M M1m := EQ.tr (EQ.refl M) (k_J0_coder_7d493K c_M1m)
  rcases ifS h with ⟨-, h⟩ | ⟨-, h⟩
  · obtain ⟨gq3, h⟩ := gdS h
    obtain ⟨gq4, h⟩ := gdS h
    obtain ⟨gq5, h⟩ := gdS h
    obtain ⟨gq6, h⟩ := gdS h
    obtain ⟨gq7, h⟩ := gdS h
    obtain ⟨M2m, e_M2m, h⟩ := bndS h
    have q_M2m : EQ M M2m := EQ.tr q_M1m (by rw [e_M2m]; exact (EQ_cpK _ _ _ _ _ _))
    rw [← Option.some.inj h]
    exact q_M2m
  · cases h
set_option maxRecDepth 100000 in
set_option maxHeartbeats 4000000 in
theorem b_J0_getBytes_840e7K {K : Kt} {X : Xt} (hp : St K) (hB : Bx K X { frames := 1, cells := 0, slots := 0, locals := 26 } cJ0_getBytes_840e7 4 RJ0 none) {M1 : Mem} {n0 : Nat} {n1 : Nat} {x2 : Int32} {x3 : Int32} {M : Mem} (hF : f_J0_getBytes_840e7K n0 n1 x2 x3 M = some M1) : Wt K X (QM K X none M1 0 0) 0 0 M 0 [(0, vr n0), (1, vr n1), (2, vi x2), (3, vi x3)] [] := by
  unfold f_J0_getBytes_840e7K at hF
  refine w_aload_n hB 0 dJ0_getBytes_840e7_0 rfl rfl ?_
  obtain ⟨g1, hF⟩ := gdS hF
  obtain ⟨r1, M1m, hc_M1m, hF⟩ := clS hF
  have q_M1m : EQ M M1m := k_J0_coder_7d493K hc_M1m
  have x_M1m := q_M1m.gx
  refine w_callStr (M1 := M1m) hB hp g1 (As := []) (st := []) cw_J0_335 q_691 q_692 (c_J0_coder_7d493K hp hc_M1m) ⟨rfl, rfl⟩ ⟨Nat.le_of_ble_eq_true rfl, Nat.le_of_ble_eq_true rfl⟩ (by decide) rfl (Nat.le_of_ble_eq_true rfl) dJ0_getBytes_840e7_1 rfl ?_ (Or.inl rfl)
  refine w_iload_n hB 3 dJ0_getBytes_840e7_4 rfl rfl ?_
  refine w_icmp_ne hB 28 dJ0_getBytes_840e7_5 (by decide) (fun hc => ?_) (fun hc => ?_)
  · replace hF := ifF hc hF
    refine w_aload_n hB 0 dJ0_getBytes_840e7_28 rfl rfl ?_
    refine w_strval hB hp g1 q_858 dJ0_getBytes_840e7_29 ?_
    refine w_iconst hB 0 (by decide) dJ0_getBytes_840e7_32 ?_
    refine w_aload_n hB 1 dJ0_getBytes_840e7_33 rfl rfl ?_
    refine w_iload_n hB 2 dJ0_getBytes_840e7_34 rfl rfl ?_
    refine w_aload_n hB 0 dJ0_getBytes_840e7_35 rfl rfl ?_
    refine w_strval hB hp g1 q_858 dJ0_getBytes_840e7_36 ?_
    refine w_salen hB hp (by omega) dJ0_getBytes_840e7_39 ?_
    cases hF
  · replace hF := ifT hc hF
    refine w_aload_n hB 0 dJ0_getBytes_840e7_8 rfl rfl ?_
    refine w_strval hB hp g1 q_858 dJ0_getBytes_840e7_9 ?_
    refine w_iconst hB 0 (by decide) dJ0_getBytes_840e7_12 ?_
    refine w_aload_n hB 1 dJ0_getBytes_840e7_13 rfl rfl ?_
    refine w_iload_n hB 2 dJ0_getBytes_840e7_14 rfl rfl ?_
    refine w_iload_n hB 3 dJ0_getBytes_840e7_15 rfl rfl ?_
    refine w_ishl hB dJ0_getBytes_840e7_16 ?_
    refine w_aload_n hB 0 dJ0_getBytes_840e7_17 rfl rfl ?_
    refine w_strval hB hp g1 q_858 dJ0_getBytes_840e7_18 ?_
    refine w_salen hB hp (by omega) dJ0_getBytes_840e7_21 ?_
    obtain ⟨g2, hF⟩ := gdS hF
    obtain ⟨g3, hF⟩ := gdS hF
    obtain ⟨g4, hF⟩ := gdS hF
    obtain ⟨g5, hF⟩ := gdS hF
    obtain ⟨g6, hF⟩ := gdS hF
    obtain ⟨M2m, e_M2m, hF⟩ := bndS hF
    have q_M2m : EQ M1m M2m := by rw [e_M2m]; exact EQ_cpK _ _ _ _ _ _
    have x_M2m := q_M2m.gx
    refine w_cpS hB hp (n := n0) g1 (dqM g2) (sl_d g2.1 rfl) (by decide) g3 g4 g5 g6 q_727 e_M2m dJ0_getBytes_840e7_22 (Nat.le_of_ble_eq_true rfl) (Nat.le_of_ble_eq_true rfl) ?_
    refine w_goto hB 43 dJ0_getBytes_840e7_25 (by decide) ?_
    cases hF
    exact w_vret hB dJ0_getBytes_840e7_43
theorem c_J0_getBytes_840e7K {K : Kt} {l : Launch} (hp : St K) {M1 : Mem} {n0 : Nat} {n1 : Nat} {x2 : Int32} {x3 : Int32} {M : Mem} (hF : f_J0_getBytes_840e7K n0 n1 x2 x3 M = some M1) : MT K l yJ0_getBytes_840e7 cJ0_getBytes_840e7 4 none { frames := 1, cells := 0, slots := 0, locals := 26 } [vr n0, vr n1, vi x2, vi x3] M none M1 0 0 :=
  MT_of (by decide) rfl (Nat.le_of_ble_eq_true rfl) (fun X _ hB _ => b_J0_getBytes_840e7K hp hB hF)
def f_J7_checkLength_df160 (x0 : Int32) (x1 : Int32) (M : Mem) : Option Mem :=
  if x0 ≤ x1 then
    some M
  else
    none
theorem k_J7_checkLength_df160 {x0 : Int32} {x1 : Int32} {M Z : Mem} (h : f_J7_checkLength_df160 x0 x1 M = some Z) : EQ M Z := by
  unfold f_J7_checkLength_df160 at h
  rcases ifS h with ⟨-, h⟩ | ⟨-, h⟩
  · rw [← Option.some.inj h]
    exact (EQ.refl M)
  · cases h
set_option maxRecDepth 100000 in
set_option maxHeartbeats 4000000 in
theorem b_J7_checkLength_df160 {K : Kt} {X : Xt} (hp : St K) (hB : Bx K X { frames := 0, cells := 0, slots := 0, locals := 0 } cJ7_checkLength_df160 2 RJ7 none) {M1 : Mem} {x0 : Int32} {x1 : Int32} {M : Mem} (hF : f_J7_checkLength_df160 x0 x1 M = some M1) : Wt K X (QM K X none M1 0 0) 0 0 M 0 [(0, vi x0), (1, vi x1)] [] := by
  unfold f_J7_checkLength_df160 at hF
  refine w_iload_n hB 1 dJ7_checkLength_df160_0 rfl rfl ?_
  refine w_iload_n hB 0 dJ7_checkLength_df160_1 rfl rfl ?_
  refine w_icmp_ge hB 37 dJ7_checkLength_df160_2 (by decide) (fun hc => ?_) (fun hc => ?_)
  · replace hF := ifT hc hF
    cases hF
    exact w_vret hB dJ7_checkLength_df160_37
  · replace hF := ifF hc hF
    cases hF
theorem c_J7_checkLength_df160 {K : Kt} {l : Launch} (hp : St K) {M1 : Mem} {x0 : Int32} {x1 : Int32} {M : Mem} (hF : f_J7_checkLength_df160 x0 x1 M = some M1) : MT K l yJ7_checkLength_df160 cJ7_checkLength_df160 2 none { frames := 0, cells := 0, slots := 0, locals := 0 } [vi x0, vi x1] M none M1 0 0 :=
  MT_of (by decide) rfl (Nat.le_of_ble_eq_true rfl) (fun X _ hB _ => b_J7_checkLength_df160 hp hB hF)
def f_J5_init_d00df_b14 (n0 : Nat) (ns0 : Nat) (ns1 : Nat) (M : Mem) : Option Mem :=
  gd (1000 ≤ ns0 ∧ dsc M ns0 = 11 ∧ ns0 - 753 < M.2.2.2) <|
  bnd (setR M ns0 0 ns1) fun M1m =>
  gd (1000 ≤ n0 ∧ dsc M1m n0 = 11 ∧ n0 - 753 < M1m.2.2.2) <|
  bnd (setI M1m n0 1 0) fun M2m =>
  some M2m
set_option maxRecDepth 100000 in
set_option maxHeartbeats 4000000 in
theorem m_J5_init_d00df_b14 {n0 : Nat} {ns0 : Nat} {ns1 : Nat} {M Z : Mem} (h : f_J5_init_d00df_b14 n0 ns0 ns1 M = some Z) : GX M Z := by
  unfold f_J5_init_d00df_b14 at h
  obtain ⟨gq0, h⟩ := gdS h
  obtain ⟨M1m, e_M1m, h⟩ := bndS h
  have q_M1m : GX M M1m := GX.tr (GX.refl M) (by rw [e_M1m]; exact (EQ_R _ _ _ (by omega)).gx)
  obtain ⟨gq2, h⟩ := gdS h
  obtain ⟨M2m, e_M2m, h⟩ := bndS h
  have q_M2m : GX M M2m := GX.tr q_M1m (by rw [e_M2m]; exact (EQ_I _ _ _ _).gx)
  rw [← Option.some.inj h]
  exact q_M2m
set_option maxRecDepth 100000 in
set_option maxHeartbeats 4000000 in
theorem b_J5_init_d00df_b14 {K : Kt} {X : Xt} (hp : St K) (hk : KC K) {mc ms : Nat} (hB : Bx K X { frames := 1, cells := mc, slots := ms, locals := 20 } cJ5_init_d00df 2 RJ5 none) {M1 : Mem} {n0 : Nat} {ns0 : Nat} {ns1 : Nat} {ce sl : Nat} {M : Mem} (hF : f_J5_init_d00df_b14 n0 ns0 ns1 M = some M1) (hn : mc + M.2.2.2 = ce + M1.2.2.2) (hz : ms + szM M = sl + szM M1) : Wt K X (QM K X none M1 mc ms) ce sl M 14 [(0, vr n0)] [vr ns1, vr ns0] := by
  have hg := m_J5_init_d00df_b14 hF
  have hg1 := hg.1
  have hg2 := hg.2.1
  unfold f_J5_init_d00df_b14 at hF
  obtain ⟨g1, hF⟩ := gdS hF
  obtain ⟨M1m, e_M1m, hF⟩ := bndS hF
  have q_M1m : EQ M M1m := by rw [e_M1m]; exact EQ_R _ _ _ (by omega)
  have x_M1m := q_M1m.gx
  have n_M1m := q_M1m.1
  have z_M1m := q_M1m.sz
  refine w_putRd hB ff_J4_0 (dqM g1) g1.1 q_597 (ty := .array .byte) rfl (nar_arr _ _) (fit_arr _ _) e_M1m dJ5_init_d00df_14 ?_
  refine w_aload_n hB 0 dJ5_init_d00df_17 rfl rfl ?_
  refine w_iconst hB 0 (by decide) dJ5_init_d00df_18 ?_
  obtain ⟨g2, hF⟩ := gdS hF
  obtain ⟨M2m, e_M2m, hF⟩ := bndS hF
  have q_M2m : EQ M1m M2m := by rw [e_M2m]; exact EQ_I _ _ _ _
  have x_M2m := q_M2m.gx
  have n_M2m := q_M2m.1
  have z_M2m := q_M2m.sz
  refine w_putIN hB ff_J4_1 (dqM g2) q_598 (ty := .byte) rfl rfl rfl e_M2m dJ5_init_d00df_19 ?_
  refine w_goto hB 38 dJ5_init_d00df_22 (by decide) ?_
  cases hF
  have hmc : mc = ce := by omega
  have hms : ms = sl := by omega
  subst hmc
  subst hms
  exact w_vret hB dJ5_init_d00df_38
def f_J5_init_d00df (n0 : Nat) (x1 : Int32) (M : Mem) : Option Mem :=
  gd (1000 ≤ n0 ∧ dsc M n0 = 11 ∧ n0 - 753 < M.2.2.2) <|
  if (1 : Int32) = 0 then
    none
  else
    gd (¬ x1 < 0 ∧ x1.toNatClampNeg ≤ 100000) <|
    bnd (nwA 22 (x1.toNatClampNeg) (x1.toNatClampNeg) M) fun M1m =>
    f_J5_init_d00df_b14 n0 n0 (nn M) M1m
set_option maxRecDepth 100000 in
set_option maxHeartbeats 4000000 in
theorem m_J5_init_d00df {n0 : Nat} {x1 : Int32} {M Z : Mem} (h : f_J5_init_d00df n0 x1 M = some Z) : GX M Z := by
  unfold f_J5_init_d00df at h
  obtain ⟨gq0, h⟩ := gdS h
  rcases ifS h with ⟨-, h⟩ | ⟨-, h⟩
  · cases h
  · obtain ⟨gq4, h⟩ := gdS h
    obtain ⟨M1m, e_M1m, h⟩ := bndS h
    have q_M1m : GX M M1m := GX.tr (GX.refl M) (by rw [e_M1m]; exact GX_nw _ _ _ _)
    exact GX.tr q_M1m (m_J5_init_d00df_b14 h)
set_option maxRecDepth 100000 in
set_option maxHeartbeats 4000000 in
theorem b_J5_init_d00df {K : Kt} {X : Xt} (hp : St K) (hk : KC K) {mc ms : Nat} (hB : Bx K X { frames := 1, cells := mc, slots := ms, locals := 20 } cJ5_init_d00df 2 RJ5 none) {M1 : Mem} {n0 : Nat} {x1 : Int32} {ce sl : Nat} {M : Mem} (hF : f_J5_init_d00df n0 x1 M = some M1) (hn : mc + M.2.2.2 = ce + M1.2.2.2) (hz : ms + szM M = sl + szM M1) : Wt K X (QM K X none M1 mc ms) ce sl M 0 [(0, vr n0), (1, vi x1)] [] := by
  have hg := m_J5_init_d00df hF
  have hg1 := hg.1
  have hg2 := hg.2.1
  unfold f_J5_init_d00df at hF
  refine w_aload_n hB 0 dJ5_init_d00df_0 rfl rfl ?_
  obtain ⟨g1, hF⟩ := gdS hF
  refine w_objinit hB (Or.inr g1.1) q_587 q_43 q_oc ⟨Nat.le_of_ble_eq_true rfl, Nat.le_of_ble_eq_true rfl⟩ dJ5_init_d00df_1 ?_
  refine w_getcomp hB hp q_588 dJ5_init_d00df_4 ?_
  refine w_if_eq hB 25 dJ5_init_d00df_7 (by decide) (fun hc => ?_) (fun hc => ?_)
  · replace hF := ifT hc hF
    refine w_aload_n hB 0 dJ5_init_d00df_25 rfl rfl ?_
    refine w_iload_n hB 1 dJ5_init_d00df_26 rfl rfl ?_
    cases hF
  · replace hF := ifF hc hF
    refine w_aload_n hB 0 dJ5_init_d00df_10 rfl rfl ?_
    refine w_iload_n hB 1 dJ5_init_d00df_11 rfl rfl ?_
    obtain ⟨g2, hF⟩ := gdS hF
    obtain ⟨M1m, e_M1m, hF⟩ := bndS hF
    have x_M1m : GX M M1m := by rw [e_M1m]; exact GX_nw _ _ _ _
    have n_M1m : M1m.2.2.2 = M.2.2.2 + 1 := by rw [e_M1m]; exact nwA_cn
    have z_M1m : szM M1m = szM M + (x1.toNatClampNeg) := by rw [e_M1m]; exact nwA_sz
    have hg3 := m_J5_init_d00df_b14 hF
    have hg4 := hg3.1
    have hg5 := hg3.2.1
    refine w_nwY hB hp.1 (N := (x1.toNatClampNeg)) e_M1m ⟨g2.1, rfl⟩ g2.2 ⟨show ce + 1 ≤ mc by omega, show sl + (x1.toNatClampNeg) ≤ ms by omega⟩ dJ5_init_d00df_12 ?_
    exact Wt.sub (L' := [(0, vr n0)]) [0] rfl (b_J5_init_d00df_b14 hp hk hB hF (by omega) (by omega))
theorem c_J5_init_d00df {K : Kt} {l : Launch} (hp : St K) (hk : KC K) {M1 : Mem} {n0 : Nat} {x1 : Int32} {M : Mem} (hF : f_J5_init_d00df n0 x1 M = some M1) : MT K l yJ5_init_d00df cJ5_init_d00df 2 none { frames := 1, cells := M1.2.2.2 - M.2.2.2, slots := szM M1 - szM M, locals := 20 } [vr n0, vi x1] M none M1 (M1.2.2.2 - M.2.2.2) (szM M1 - szM M) := by
  have hg := m_J5_init_d00df hF
  have hg1 := hg.1
  have hg2 := hg.2.1
  exact MT_of (by decide) rfl (Nat.le_of_ble_eq_true rfl) (fun X _ hB _ => b_J5_init_d00df hp hk hB hF (by omega) (by omega))
def f_J4_init_da8c8_b6 (M : Mem) : Option Mem :=
  some M
set_option maxRecDepth 100000 in
set_option maxHeartbeats 4000000 in
theorem m_J4_init_da8c8_b6 {M Z : Mem} (h : f_J4_init_da8c8_b6 M = some Z) : GX M Z := by
  unfold f_J4_init_da8c8_b6 at h
  rw [← Option.some.inj h]
  exact (GX.refl M)
set_option maxRecDepth 100000 in
set_option maxHeartbeats 4000000 in
theorem b_J4_init_da8c8_b6 {K : Kt} {X : Xt} (hp : St K) (hk : KC K) {mc ms : Nat} (hB : Bx K X { frames := 2, cells := mc, slots := ms, locals := 41 } cJ4_init_da8c8 1 RJ4 none) {M1 : Mem} {ce sl : Nat} {M : Mem} (hF : f_J4_init_da8c8_b6 M = some M1) (hn : mc + M.2.2.2 = ce + M1.2.2.2) (hz : ms + szM M = sl + szM M1) : Wt K X (QM K X none M1 mc ms) ce sl M 6 [] [] := by
  have hg := m_J4_init_da8c8_b6 hF
  have hg1 := hg.1
  have hg2 := hg.2.1
  unfold f_J4_init_da8c8_b6 at hF
  cases hF
  have hmc : mc = ce := by omega
  have hms : ms = sl := by omega
  subst hmc
  subst hms
  exact w_vret hB dJ4_init_da8c8_6
def f_J4_init_da8c8 (n0 : Nat) (M : Mem) : Option Mem :=
  gd (1000 ≤ n0 ∧ dsc M n0 = 11 ∧ n0 - 753 < M.2.2.2) <|
  clv (f_J5_init_d00df n0 16 M) fun M1m =>
  f_J4_init_da8c8_b6 M1m
set_option maxRecDepth 100000 in
set_option maxHeartbeats 4000000 in
theorem m_J4_init_da8c8 {n0 : Nat} {M Z : Mem} (h : f_J4_init_da8c8 n0 M = some Z) : GX M Z := by
  unfold f_J4_init_da8c8 at h
  obtain ⟨gq0, h⟩ := gdS h
  obtain ⟨M1m, c_M1m, h⟩ := clvS h
  have q_M1m : GX M M1m := GX.tr (GX.refl M) (m_J5_init_d00df c_M1m)
  exact GX.tr q_M1m (m_J4_init_da8c8_b6 h)
set_option maxRecDepth 100000 in
set_option maxHeartbeats 4000000 in
theorem b_J4_init_da8c8 {K : Kt} {X : Xt} (hp : St K) (hk : KC K) {mc ms : Nat} (hB : Bx K X { frames := 2, cells := mc, slots := ms, locals := 41 } cJ4_init_da8c8 1 RJ4 none) {M1 : Mem} {n0 : Nat} {ce sl : Nat} {M : Mem} (hF : f_J4_init_da8c8 n0 M = some M1) (hn : mc + M.2.2.2 = ce + M1.2.2.2) (hz : ms + szM M = sl + szM M1) : Wt K X (QM K X none M1 mc ms) ce sl M 0 [(0, vr n0)] [] := by
  have hg := m_J4_init_da8c8 hF
  have hg1 := hg.1
  have hg2 := hg.2.1
  unfold f_J4_init_da8c8 at hF
  refine w_aload_n hB 0 dJ4_init_da8c8_0 rfl rfl ?_
  refine w_bipush hB 16 (by decide) dJ4_init_da8c8_1 ?_
  obtain ⟨g1, hF⟩ := gdS hF
  obtain ⟨M1m, hc_M1m, hF⟩ := clvS hF
  have x_M1m := m_J5_init_d00df hc_M1m
  have xa_M1m := x_M1m.1
  have xb_M1m := x_M1m.2.1
  have hg3 := m_J4_init_da8c8_b6 hF
  have hg4 := hg3.1
  have hg5 := hg3.2.1
  refine w_callI (M1 := M1m) hB (As := [vi 16]) (st := []) cw_J4_1 rfl q_585 (Or.inr g1.1) (c_J5_init_d00df hp hk hc_M1m) ⟨rfl, rfl⟩ ⟨Nat.le_of_ble_eq_true rfl, Nat.le_of_ble_eq_true rfl⟩ ⟨show ce + (M1m.2.2.2 - M.2.2.2) ≤ mc by omega, show sl + (szM M1m - szM M) ≤ ms by omega⟩ rfl (Nat.le_of_ble_eq_true rfl) dJ4_init_da8c8_3 rfl ?_ (Or.inr (by omega))
  exact Wt.sub (L' := []) [] rfl (b_J4_init_da8c8_b6 hp hk hB hF (by omega) (by omega))
theorem c_J4_init_da8c8 {K : Kt} {l : Launch} (hp : St K) (hk : KC K) {M1 : Mem} {n0 : Nat} {M : Mem} (hF : f_J4_init_da8c8 n0 M = some M1) : MT K l yJ4_init_da8c8 cJ4_init_da8c8 1 none { frames := 2, cells := M1.2.2.2 - M.2.2.2, slots := szM M1 - szM M, locals := 41 } [vr n0] M none M1 (M1.2.2.2 - M.2.2.2) (szM M1 - szM M) := by
  have hg := m_J4_init_da8c8 hF
  have hg1 := hg.1
  have hg2 := hg.2.1
  exact MT_of (by decide) rfl (Nat.le_of_ble_eq_true rfl) (fun X _ hB _ => b_J4_init_da8c8 hp hk hB hF (by omega) (by omega))
def f_J7_copyOf_9075b_b17 (n0 : Nat) (x1 : Int32) (ns0 : Nat) (M : Mem) : Option (Nat × Mem) :=
  gd (1000 ≤ n0 ∧ dsc M n0 = 22 ∧ n0 - 753 < M.2.2.2) <|
  gd (1000 ≤ ns0 ∧ dsc M ns0 = 22 ∧ ns0 - 753 < M.2.2.2) <|
  gd (¬ (min32 (Int32.ofNat (dln M n0)) x1) < 0) <|
  gd ((0 : Int32).toNatClampNeg + (min32 (Int32.ofNat (dln M n0)) x1).toNatClampNeg ≤ dln M n0) <|
  gd ((0 : Int32).toNatClampNeg + (min32 (Int32.ofNat (dln M n0)) x1).toNatClampNeg ≤ dln M ns0) <|
  gd (∀ i, i < (min32 (Int32.ofNat (dln M n0)) x1).toNatClampNeg → (-128 : Int32) ≤ M.1 n0 ((0 : Int32).toNatClampNeg + i) ∧ M.1 n0 ((0 : Int32).toNatClampNeg + i) ≤ 127) <|
  bnd (cpG M n0 ns0 ((0 : Int32).toNatClampNeg) ((0 : Int32).toNatClampNeg) ((min32 (Int32.ofNat (dln M n0)) x1).toNatClampNeg)) fun M1m =>
  some (ns0, M1m)
set_option maxRecDepth 100000 in
set_option maxHeartbeats 4000000 in
theorem m_J7_copyOf_9075b_b17 {n0 : Nat} {x1 : Int32} {ns0 : Nat} {M Z : Mem} {r : Nat} (h : f_J7_copyOf_9075b_b17 n0 x1 ns0 M = some (r, Z)) : GX M Z := by
  unfold f_J7_copyOf_9075b_b17 at h
  obtain ⟨gq0, h⟩ := gdS h
  obtain ⟨gq1, h⟩ := gdS h
  obtain ⟨gq2, h⟩ := gdS h
  obtain ⟨gq3, h⟩ := gdS h
  obtain ⟨gq4, h⟩ := gdS h
  obtain ⟨gq5, h⟩ := gdS h
  obtain ⟨M1m, e_M1m, h⟩ := bndS h
  have q_M1m : GX M M1m := GX.tr (GX.refl M) (by rw [e_M1m]; exact (EQ_cpG _ _ _ _ _ _).gx)
  obtain ⟨-, e⟩ := retS h
  rw [← e]
  exact q_M1m
set_option maxRecDepth 100000 in
set_option maxHeartbeats 4000000 in
theorem b_J7_copyOf_9075b_b17 {K : Kt} {X : Xt} (hp : St K) (hk : KC K) {mc ms : Nat} (hB : Bx K X { frames := 1, cells := mc, slots := ms, locals := 26 } cJ7_copyOf_9075b 3 RJ7 (some (.array .byte))) {r : Nat} {M1 : Mem} {n0 : Nat} {x1 : Int32} {ns0 : Nat} {ce sl : Nat} {M : Mem} (hF : f_J7_copyOf_9075b_b17 n0 x1 ns0 M = some (r, M1)) (hn : mc + M.2.2.2 = ce + M1.2.2.2) (hz : ms + szM M = sl + szM M1) : Wt K X (QM K X (some (vr r)) M1 mc ms) ce sl M 17 [(0, vr n0), (1, vi x1)] [vr ns0] := by
  have hg := m_J7_copyOf_9075b_b17 hF
  have hg1 := hg.1
  have hg2 := hg.2.1
  unfold f_J7_copyOf_9075b_b17 at hF
  refine w_astore_n hB (L' := [(2, vr ns0), (0, vr n0), (1, vi x1)]) dJ7_copyOf_9075b_17 rfl (by decide) rfl ?_
  refine w_aload_n hB 1 dJ7_copyOf_9075b_18 rfl rfl ?_
  refine w_iconst hB 0 (by decide) dJ7_copyOf_9075b_19 ?_
  refine w_aload_n hB 0 dJ7_copyOf_9075b_20 rfl rfl ?_
  refine w_iconst hB 0 (by decide) dJ7_copyOf_9075b_21 ?_
  refine w_aload_n hB 1 dJ7_copyOf_9075b_22 rfl rfl ?_
  obtain ⟨g1, hF⟩ := gdS hF
  refine w_alen hB (v := Int32.ofNat (dln M n0)) (c := 2) (dqM g1) (by decide) (sl_d g1.1 rfl) rfl dJ7_copyOf_9075b_23 ?_
  refine w_iload_n hB 2 dJ7_copyOf_9075b_24 rfl rfl ?_
  refine w_min hB q_651 (Nat.le_of_ble_eq_true rfl) (Nat.le_of_ble_eq_true rfl) ⟨show ce ≤ mc by omega, show sl ≤ ms by omega⟩ dJ7_copyOf_9075b_25 ?_
  obtain ⟨g2, hF⟩ := gdS hF
  obtain ⟨g3, hF⟩ := gdS hF
  obtain ⟨g4, hF⟩ := gdS hF
  obtain ⟨g5, hF⟩ := gdS hF
  obtain ⟨g6, hF⟩ := gdS hF
  obtain ⟨M1m, e_M1m, hF⟩ := bndS hF
  have q_M1m : EQ M M1m := by rw [e_M1m]; exact EQ_cpG _ _ _ _ _ _
  have x_M1m := q_M1m.gx
  have n_M1m := q_M1m.1
  have z_M1m := q_M1m.sz
  refine w_cpy (c := 2) (ty := .byte) hB (by decide) rfl rfl (dqM g1) (dqM g2) (sl_d g1.1 rfl) (sl_d g2.1 rfl) (by decide) (by decide) g3 g4 g5 (fun i hi9 => fitB (g6 i hi9)) q_654 e_M1m dJ7_copyOf_9075b_28 (Nat.le_of_ble_eq_true rfl) (Nat.le_of_ble_eq_true rfl) ?_
  refine w_aload_n hB 0 dJ7_copyOf_9075b_31 rfl rfl ?_
  obtain ⟨e1, e2⟩ := retS hF
  subst e2
  have hmc : mc = ce := by omega
  have hms : ms = sl := by omega
  subst hmc
  subst hms
  exact w_areta hB dJ7_copyOf_9075b_32 e1
def f_J7_copyOf_9075b_b10 (ns0 : Nat) (M : Mem) : Option (Nat × Mem) :=
  gd (1000 ≤ ns0 ∧ dsc M ns0 = 22 ∧ ns0 - 753 < M.2.2.2) <|
  some (ns0, M)
set_option maxRecDepth 100000 in
set_option maxHeartbeats 4000000 in
theorem m_J7_copyOf_9075b_b10 {ns0 : Nat} {M Z : Mem} {r : Nat} (h : f_J7_copyOf_9075b_b10 ns0 M = some (r, Z)) : GX M Z := by
  unfold f_J7_copyOf_9075b_b10 at h
  obtain ⟨gq0, h⟩ := gdS h
  obtain ⟨-, e⟩ := retS h
  rw [← e]
  exact (GX.refl M)
set_option maxRecDepth 100000 in
set_option maxHeartbeats 4000000 in
theorem b_J7_copyOf_9075b_b10 {K : Kt} {X : Xt} (hp : St K) (hk : KC K) {mc ms : Nat} (hB : Bx K X { frames := 1, cells := mc, slots := ms, locals := 26 } cJ7_copyOf_9075b 3 RJ7 (some (.array .byte))) {r : Nat} {M1 : Mem} {ns0 : Nat} {ce sl : Nat} {M : Mem} (hF : f_J7_copyOf_9075b_b10 ns0 M = some (r, M1)) (hn : mc + M.2.2.2 = ce + M1.2.2.2) (hz : ms + szM M = sl + szM M1) : Wt K X (QM K X (some (vr r)) M1 mc ms) ce sl M 10 [] [vr ns0] := by
  have hg := m_J7_copyOf_9075b_b10 hF
  have hg1 := hg.1
  have hg2 := hg.2.1
  unfold f_J7_copyOf_9075b_b10 at hF
  obtain ⟨g1, hF⟩ := gdS hF
  refine w_castA hB (c := 2) (by decide) (dqM g1) q_650 ((hB.2.2.2.2.2.1).K.2 2 _ rfl).2 dJ7_copyOf_9075b_10 ?_
  obtain ⟨e1, e2⟩ := retS hF
  subst e2
  have hmc : mc = ce := by omega
  have hms : ms = sl := by omega
  subst hmc
  subst hms
  exact w_areta hB dJ7_copyOf_9075b_13 e1
def f_J7_copyOf_9075b (n0 : Nat) (x1 : Int32) (M : Mem) : Option (Nat × Mem) :=
  gd (1000 ≤ n0 ∧ dsc M n0 = 22 ∧ n0 - 753 < M.2.2.2) <|
  if x1 = (Int32.ofNat (dln M n0)) then
    gd (∀ i, i < dln M n0 → (-128 : Int32) ≤ M.1 n0 i ∧ M.1 n0 i ≤ 127) <|
    bnd (cpRow n0 (nn M) (nwA 22 (dln M n0) (dln M n0) M)) fun M1m =>
    f_J7_copyOf_9075b_b10 (nn M) M1m
  else
    gd (¬ x1 < 0 ∧ x1.toNatClampNeg ≤ 100000) <|
    bnd (nwA 22 (x1.toNatClampNeg) (x1.toNatClampNeg) M) fun M2m =>
    f_J7_copyOf_9075b_b17 n0 x1 (nn M) M2m
set_option maxRecDepth 100000 in
set_option maxHeartbeats 4000000 in
theorem m_J7_copyOf_9075b {n0 : Nat} {x1 : Int32} {M Z : Mem} {r : Nat} (h : f_J7_copyOf_9075b n0 x1 M = some (r, Z)) : GX M Z := by
  unfold f_J7_copyOf_9075b at h
  obtain ⟨gq0, h⟩ := gdS h
  rcases ifS h with ⟨-, h⟩ | ⟨-, h⟩
  · obtain ⟨gq2, h⟩ := gdS h
    obtain ⟨M1m, e_M1m, h⟩ := bndS h
    have q_M1m : GX M M1m := GX.tr (GX.refl M) (by rw [e_M1m]; exact GX_cl _ _ _ _ _)
    exact GX.tr q_M1m (m_J7_copyOf_9075b_b10 h)
  · obtain ⟨gq6, h⟩ := gdS h
    obtain ⟨M2m, e_M2m, h⟩ := bndS h
    have q_M2m : GX M M2m := GX.tr (GX.refl M) (by rw [e_M2m]; exact GX_nw _ _ _ _)
    exact GX.tr q_M2m (m_J7_copyOf_9075b_b17 h)
set_option maxRecDepth 100000 in
set_option maxHeartbeats 4000000 in
theorem b_J7_copyOf_9075b {K : Kt} {X : Xt} (hp : St K) (hk : KC K) {mc ms : Nat} (hB : Bx K X { frames := 1, cells := mc, slots := ms, locals := 26 } cJ7_copyOf_9075b 3 RJ7 (some (.array .byte))) {r : Nat} {M1 : Mem} {n0 : Nat} {x1 : Int32} {ce sl : Nat} {M : Mem} (hF : f_J7_copyOf_9075b n0 x1 M = some (r, M1)) (hn : mc + M.2.2.2 = ce + M1.2.2.2) (hz : ms + szM M = sl + szM M1) : Wt K X (QM K X (some (vr r)) M1 mc ms) ce sl M 0 [(0, vr n0), (1, vi x1)] [] := by
  have hg := m_J7_copyOf_9075b hF
  have hg1 := hg.1
  have hg2 := hg.2.1
  unfold f_J7_copyOf_9075b at hF
  refine w_iload_n hB 1 dJ7_copyOf_9075b_0 rfl rfl ?_
  refine w_aload_n hB 0 dJ7_copyOf_9075b_1 rfl rfl ?_
  obtain ⟨g1, hF⟩ := gdS hF
  refine w_alen hB (v := Int32.ofNat (dln M n0)) (c := 2) (dqM g1) (by decide) (sl_d g1.1 rfl) rfl dJ7_copyOf_9075b_2 ?_
  refine w_icmp_ne hB 14 dJ7_copyOf_9075b_3 (by decide) (fun hc => ?_) (fun hc => ?_)
  · replace hF := ifF hc hF
    refine w_iload_n hB 1 dJ7_copyOf_9075b_14 rfl rfl ?_
    obtain ⟨g3, hF⟩ := gdS hF
    obtain ⟨M2m, e_M2m, hF⟩ := bndS hF
    have x_M2m : GX M M2m := by rw [e_M2m]; exact GX_nw _ _ _ _
    have n_M2m : M2m.2.2.2 = M.2.2.2 + 1 := by rw [e_M2m]; exact nwA_cn
    have z_M2m : szM M2m = szM M + (x1.toNatClampNeg) := by rw [e_M2m]; exact nwA_sz
    have hg3 := m_J7_copyOf_9075b_b17 hF
    have hg4 := hg3.1
    have hg5 := hg3.2.1
    refine w_nwY hB hp.1 (N := (x1.toNatClampNeg)) e_M2m ⟨g3.1, rfl⟩ g3.2 ⟨show ce + 1 ≤ mc by omega, show sl + (x1.toNatClampNeg) ≤ ms by omega⟩ dJ7_copyOf_9075b_15 ?_
    exact Wt.sub (L' := [(0, vr n0), (1, vi x1)]) [0, 1] rfl (b_J7_copyOf_9075b_b17 hp hk hB hF (by omega) (by omega))
  · replace hF := ifT hc hF
    refine w_aload_n hB 0 dJ7_copyOf_9075b_6 rfl rfl ?_
    obtain ⟨g2, hF⟩ := gdS hF
    obtain ⟨M1m, e_M1m, hF⟩ := bndS hF
    have x_M1m : GX M M1m := by rw [e_M1m]; exact GX_cl _ _ _ _ _
    have n_M1m : M1m.2.2.2 = M.2.2.2 + 1 := by rw [e_M1m]; exact (EQ_cpRow _ _ _).1.trans nwA_cn
    have z_M1m : szM M1m = szM M + (dln M n0) := by rw [e_M1m]; exact (EQ_cpRow _ _ _).sz.trans nwA_sz
    have hg3 := m_J7_copyOf_9075b_b10 hF
    have hg4 := hg3.1
    have hg5 := hg3.2.1
    refine w_clone hB hp.1 (c := 2) (ty := .byte) (len := dln M n0) (by decide) rfl (dqM g1) (sl_d g1.1 rfl) e_M1m (fun i hi9 => fitB (g2 i hi9)) ((hB.2.2.2.2.2.1).K.2 2 _ rfl).2 q_644 q_645 q_646 q_647 q_648 (va_Nw.warmC hB.2.2.2.2.2.1.1 hk.1) (Nat.le_of_ble_eq_true rfl) (Nat.le_of_ble_eq_true rfl) ⟨show ce + 1 ≤ mc by omega, show sl + (dln M n0) ≤ ms by omega⟩ dJ7_copyOf_9075b_7 ?_
    exact Wt.sub (L' := []) [] rfl (b_J7_copyOf_9075b_b10 hp hk hB hF (by omega) (by omega))
theorem c_J7_copyOf_9075b {K : Kt} {l : Launch} (hp : St K) (hk : KC K) {r : Nat} {M1 : Mem} {n0 : Nat} {x1 : Int32} {M : Mem} (hF : f_J7_copyOf_9075b n0 x1 M = some (r, M1)) : MT K l yJ7_copyOf_9075b cJ7_copyOf_9075b 3 (some (.array .byte)) { frames := 1, cells := M1.2.2.2 - M.2.2.2, slots := szM M1 - szM M, locals := 26 } [vr n0, vi x1] M (some (vr r)) M1 (M1.2.2.2 - M.2.2.2) (szM M1 - szM M) := by
  have hg := m_J7_copyOf_9075b hF
  have hg1 := hg.1
  have hg2 := hg.2.1
  exact MT_of (by decide) rfl (Nat.le_of_ble_eq_true rfl) (fun X _ hB _ => b_J7_copyOf_9075b hp hk hB hF (by omega) (by omega))
def f_J7_copyOfRangeByte_39247_b12 (n0 : Nat) (x1 : Int32) (x3 : Int32) (ns0 : Nat) (M : Mem) : Option (Nat × Mem) :=
  gd (1000 ≤ n0 ∧ dsc M n0 = 22 ∧ n0 - 753 < M.2.2.2) <|
  gd (1000 ≤ ns0 ∧ dsc M ns0 = 22 ∧ ns0 - 753 < M.2.2.2) <|
  gd (¬ x1 < 0) <|
  gd (¬ (min32 ((Int32.ofNat (dln M n0)) - x1) x3) < 0) <|
  gd (x1.toNatClampNeg + (min32 ((Int32.ofNat (dln M n0)) - x1) x3).toNatClampNeg ≤ dln M n0) <|
  gd ((0 : Int32).toNatClampNeg + (min32 ((Int32.ofNat (dln M n0)) - x1) x3).toNatClampNeg ≤ dln M ns0) <|
  gd (∀ i, i < (min32 ((Int32.ofNat (dln M n0)) - x1) x3).toNatClampNeg → (-128 : Int32) ≤ M.1 n0 (x1.toNatClampNeg + i) ∧ M.1 n0 (x1.toNatClampNeg + i) ≤ 127) <|
  bnd (cpG M n0 ns0 (x1.toNatClampNeg) ((0 : Int32).toNatClampNeg) ((min32 ((Int32.ofNat (dln M n0)) - x1) x3).toNatClampNeg)) fun M1m =>
  some (ns0, M1m)
set_option maxRecDepth 100000 in
set_option maxHeartbeats 4000000 in
theorem m_J7_copyOfRangeByte_39247_b12 {n0 : Nat} {x1 : Int32} {x3 : Int32} {ns0 : Nat} {M Z : Mem} {r : Nat} (h : f_J7_copyOfRangeByte_39247_b12 n0 x1 x3 ns0 M = some (r, Z)) : GX M Z := by
  unfold f_J7_copyOfRangeByte_39247_b12 at h
  obtain ⟨gq0, h⟩ := gdS h
  obtain ⟨gq1, h⟩ := gdS h
  obtain ⟨gq2, h⟩ := gdS h
  obtain ⟨gq3, h⟩ := gdS h
  obtain ⟨gq4, h⟩ := gdS h
  obtain ⟨gq5, h⟩ := gdS h
  obtain ⟨gq6, h⟩ := gdS h
  obtain ⟨M1m, e_M1m, h⟩ := bndS h
  have q_M1m : GX M M1m := GX.tr (GX.refl M) (by rw [e_M1m]; exact (EQ_cpG _ _ _ _ _ _).gx)
  obtain ⟨-, e⟩ := retS h
  rw [← e]
  exact q_M1m
set_option maxRecDepth 100000 in
set_option maxHeartbeats 4000000 in
theorem b_J7_copyOfRangeByte_39247_b12 {K : Kt} {X : Xt} (hp : St K) (hk : KC K) {mc ms : Nat} (hB : Bx K X { frames := 1, cells := mc, slots := ms, locals := 26 } cJ7_copyOfRangeByte_39247 5 RJ7 (some (.array .byte))) {r : Nat} {M1 : Mem} {n0 : Nat} {x1 : Int32} {x3 : Int32} {ns0 : Nat} {ce sl : Nat} {M : Mem} (hF : f_J7_copyOfRangeByte_39247_b12 n0 x1 x3 ns0 M = some (r, M1)) (hn : mc + M.2.2.2 = ce + M1.2.2.2) (hz : ms + szM M = sl + szM M1) : Wt K X (QM K X (some (vr r)) M1 mc ms) ce sl M 12 [(0, vr n0), (1, vi x1), (3, vi x3)] [vr ns0] := by
  have hg := m_J7_copyOfRangeByte_39247_b12 hF
  have hg1 := hg.1
  have hg2 := hg.2.1
  unfold f_J7_copyOfRangeByte_39247_b12 at hF
  refine w_astore hB (L' := [(4, vr ns0), (0, vr n0), (1, vi x1), (3, vi x3)]) dJ7_copyOfRangeByte_39247_12 (by decide) rfl ?_
  refine w_aload_n hB 1 dJ7_copyOfRangeByte_39247_14 rfl rfl ?_
  refine w_iload_n hB 2 dJ7_copyOfRangeByte_39247_15 rfl rfl ?_
  refine w_aload hB 0 dJ7_copyOfRangeByte_39247_16 rfl ?_
  refine w_iconst hB 0 (by decide) dJ7_copyOfRangeByte_39247_18 ?_
  refine w_aload_n hB 1 dJ7_copyOfRangeByte_39247_19 rfl rfl ?_
  obtain ⟨g1, hF⟩ := gdS hF
  refine w_alen hB (v := Int32.ofNat (dln M n0)) (c := 2) (dqM g1) (by decide) (sl_d g1.1 rfl) rfl dJ7_copyOfRangeByte_39247_20 ?_
  refine w_iload_n hB 2 dJ7_copyOfRangeByte_39247_21 rfl rfl ?_
  refine w_isub hB dJ7_copyOfRangeByte_39247_22 ?_
  refine w_iload_n hB 3 dJ7_copyOfRangeByte_39247_23 rfl rfl ?_
  refine w_min hB q_651 (Nat.le_of_ble_eq_true rfl) (Nat.le_of_ble_eq_true rfl) ⟨show ce ≤ mc by omega, show sl ≤ ms by omega⟩ dJ7_copyOfRangeByte_39247_24 ?_
  obtain ⟨g2, hF⟩ := gdS hF
  obtain ⟨g3, hF⟩ := gdS hF
  obtain ⟨g4, hF⟩ := gdS hF
  obtain ⟨g5, hF⟩ := gdS hF
  obtain ⟨g6, hF⟩ := gdS hF
  obtain ⟨g7, hF⟩ := gdS hF
  obtain ⟨M1m, e_M1m, hF⟩ := bndS hF
  have q_M1m : EQ M M1m := by rw [e_M1m]; exact EQ_cpG _ _ _ _ _ _
  have x_M1m := q_M1m.gx
  have n_M1m := q_M1m.1
  have z_M1m := q_M1m.sz
  refine w_cpy (c := 2) (ty := .byte) hB (by decide) rfl rfl (dqM g1) (dqM g2) (sl_d g1.1 rfl) (sl_d g2.1 rfl) g3 (by decide) g4 g5 g6 (fun i hi9 => fitB (g7 i hi9)) q_654 e_M1m dJ7_copyOfRangeByte_39247_27 (Nat.le_of_ble_eq_true rfl) (Nat.le_of_ble_eq_true rfl) ?_
  refine w_aload hB 0 dJ7_copyOfRangeByte_39247_30 rfl ?_
  obtain ⟨e1, e2⟩ := retS hF
  subst e2
  have hmc : mc = ce := by omega
  have hms : ms = sl := by omega
  subst hmc
  subst hms
  exact w_areta hB dJ7_copyOfRangeByte_39247_32 e1
def f_J7_copyOfRangeByte_39247 (n0 : Nat) (x1 : Int32) (x2 : Int32) (M : Mem) : Option (Nat × Mem) :=
  clv (f_J7_checkLength_df160 x1 x2 M) fun M1m =>
  bnd (x2 - x1) fun a1 =>
  gd (¬ a1 < 0 ∧ a1.toNatClampNeg ≤ 100000) <|
  bnd (nwA 22 (a1.toNatClampNeg) (a1.toNatClampNeg) M1m) fun M2m =>
  f_J7_copyOfRangeByte_39247_b12 n0 x1 a1 (nn M1m) M2m
set_option maxRecDepth 100000 in
set_option maxHeartbeats 4000000 in
theorem m_J7_copyOfRangeByte_39247 {n0 : Nat} {x1 : Int32} {x2 : Int32} {M Z : Mem} {r : Nat} (h : f_J7_copyOfRangeByte_39247 n0 x1 x2 M = some (r, Z)) : GX M Z := by
  unfold f_J7_copyOfRangeByte_39247 at h
  obtain ⟨M1m, c_M1m, h⟩ := clvS h
  have q_M1m : GX M M1m := GX.tr (GX.refl M) ((k_J7_checkLength_df160 c_M1m).gx)
  obtain ⟨a1, e_a1, h⟩ := bndS h
  obtain ⟨gq2, h⟩ := gdS h
  obtain ⟨M2m, e_M2m, h⟩ := bndS h
  have q_M2m : GX M M2m := GX.tr q_M1m (by rw [e_M2m]; exact GX_nw _ _ _ _)
  exact GX.tr q_M2m (m_J7_copyOfRangeByte_39247_b12 h)
set_option maxRecDepth 100000 in
set_option maxHeartbeats 4000000 in
theorem b_J7_copyOfRangeByte_39247 {K : Kt} {X : Xt} (hp : St K) (hk : KC K) {mc ms : Nat} (hB : Bx K X { frames := 1, cells := mc, slots := ms, locals := 26 } cJ7_copyOfRangeByte_39247 5 RJ7 (some (.array .byte))) {r : Nat} {M1 : Mem} {n0 : Nat} {x1 : Int32} {x2 : Int32} {ce sl : Nat} {M : Mem} (hF : f_J7_copyOfRangeByte_39247 n0 x1 x2 M = some (r, M1)) (hn : mc + M.2.2.2 = ce + M1.2.2.2) (hz : ms + szM M = sl + szM M1) : Wt K X (QM K X (some (vr r)) M1 mc ms) ce sl M 0 [(0, vr n0), (1, vi x1), (2, vi x2)] [] := by
  have hg := m_J7_copyOfRangeByte_39247 hF
  have hg1 := hg.1
  have hg2 := hg.2.1
  unfold f_J7_copyOfRangeByte_39247 at hF
  refine w_iload_n hB 1 dJ7_copyOfRangeByte_39247_0 rfl rfl ?_
  refine w_iload_n hB 2 dJ7_copyOfRangeByte_39247_1 rfl rfl ?_
  obtain ⟨M1m, hc_M1m, hF⟩ := clvS hF
  have q_M1m : EQ M M1m := k_J7_checkLength_df160 hc_M1m
  have x_M1m := q_M1m.gx
  have n_M1m := q_M1m.1
  have z_M1m := q_M1m.sz
  refine w_callS (M1 := M1m) hB (As := [vi x1, vi x2]) (st := []) cw_J7_343 q_843 (c_J7_checkLength_df160 hp hc_M1m) ⟨rfl, rfl⟩ ⟨Nat.le_of_ble_eq_true rfl, Nat.le_of_ble_eq_true rfl⟩ ⟨show ce ≤ mc by omega, show sl ≤ ms by omega⟩ rfl (Nat.le_of_ble_eq_true rfl) dJ7_copyOfRangeByte_39247_2 rfl ?_ (Or.inl rfl)
  refine w_iload_n hB 2 dJ7_copyOfRangeByte_39247_5 rfl rfl ?_
  refine w_iload_n hB 1 dJ7_copyOfRangeByte_39247_6 rfl rfl ?_
  refine w_isub hB dJ7_copyOfRangeByte_39247_7 ?_
  obtain ⟨a1, e_a1, hF⟩ := bndS hF
  refine w_istore_n hB (L' := [(3, vi a1), (0, vr n0), (1, vi x1), (2, vi x2)]) dJ7_copyOfRangeByte_39247_8 rfl (by decide) e_a1 rfl ?_
  refine w_iload_n hB 0 dJ7_copyOfRangeByte_39247_9 rfl rfl ?_
  obtain ⟨g1, hF⟩ := gdS hF
  obtain ⟨M2m, e_M2m, hF⟩ := bndS hF
  have x_M2m : GX M1m M2m := by rw [e_M2m]; exact GX_nw _ _ _ _
  have n_M2m : M2m.2.2.2 = M1m.2.2.2 + 1 := by rw [e_M2m]; exact nwA_cn
  have z_M2m : szM M2m = szM M1m + (a1.toNatClampNeg) := by rw [e_M2m]; exact nwA_sz
  have hg3 := m_J7_copyOfRangeByte_39247_b12 hF
  have hg4 := hg3.1
  have hg5 := hg3.2.1
  refine w_nwY hB hp.1 (N := (a1.toNatClampNeg)) e_M2m ⟨g1.1, rfl⟩ g1.2 ⟨show ce + 1 ≤ mc by omega, show sl + (a1.toNatClampNeg) ≤ ms by omega⟩ dJ7_copyOfRangeByte_39247_10 ?_
  exact Wt.sub (L' := [(0, vr n0), (1, vi x1), (3, vi a1)]) [1, 2, 0] rfl (b_J7_copyOfRangeByte_39247_b12 hp hk hB hF (by omega) (by omega))
theorem c_J7_copyOfRangeByte_39247 {K : Kt} {l : Launch} (hp : St K) (hk : KC K) {r : Nat} {M1 : Mem} {n0 : Nat} {x1 : Int32} {x2 : Int32} {M : Mem} (hF : f_J7_copyOfRangeByte_39247 n0 x1 x2 M = some (r, M1)) : MT K l yJ7_copyOfRangeByte_39247 cJ7_copyOfRangeByte_39247 5 (some (.array .byte)) { frames := 1, cells := M1.2.2.2 - M.2.2.2, slots := szM M1 - szM M, locals := 26 } [vr n0, vi x1, vi x2] M (some (vr r)) M1 (M1.2.2.2 - M.2.2.2) (szM M1 - szM M) := by
  have hg := m_J7_copyOfRangeByte_39247 hF
  have hg1 := hg.1
  have hg2 := hg.2.1
  exact MT_of (by decide) rfl (Nat.le_of_ble_eq_true rfl) (fun X _ hB _ => b_J7_copyOfRangeByte_39247 hp hk hB hF (by omega) (by omega))
def f_J7_copyOfRange_39247_b16 (ns0 : Nat) (M : Mem) : Option (Nat × Mem) :=
  some (ns0, M)
set_option maxRecDepth 100000 in
set_option maxHeartbeats 4000000 in
theorem m_J7_copyOfRange_39247_b16 {ns0 : Nat} {M Z : Mem} {r : Nat} (h : f_J7_copyOfRange_39247_b16 ns0 M = some (r, Z)) : GX M Z := by
  unfold f_J7_copyOfRange_39247_b16 at h
  obtain ⟨-, e⟩ := retS h
  rw [← e]
  exact (GX.refl M)
set_option maxRecDepth 100000 in
set_option maxHeartbeats 4000000 in
theorem b_J7_copyOfRange_39247_b16 {K : Kt} {X : Xt} (hp : St K) (hk : KC K) {mc ms : Nat} (hB : Bx K X { frames := 2, cells := mc, slots := ms, locals := 50 } cJ7_copyOfRange_39247 3 RJ7 (some (.array .byte))) {r : Nat} {M1 : Mem} {ns0 : Nat} {ce sl : Nat} {M : Mem} (hF : f_J7_copyOfRange_39247_b16 ns0 M = some (r, M1)) (hn : mc + M.2.2.2 = ce + M1.2.2.2) (hz : ms + szM M = sl + szM M1) : Wt K X (QM K X (some (vr r)) M1 mc ms) ce sl M 16 [] [vr ns0] := by
  have hg := m_J7_copyOfRange_39247_b16 hF
  have hg1 := hg.1
  have hg2 := hg.2.1
  unfold f_J7_copyOfRange_39247_b16 at hF
  obtain ⟨e1, e2⟩ := retS hF
  subst e2
  have hmc : mc = ce := by omega
  have hms : ms = sl := by omega
  subst hmc
  subst hms
  exact w_areta hB dJ7_copyOfRange_39247_16 e1
def f_J7_copyOfRange_39247_b10 (n0 : Nat) (x1 : Int32) (x2 : Int32) (M : Mem) : Option (Nat × Mem) :=
  cl (f_J7_copyOfRangeByte_39247 n0 x1 x2 M) fun o1 M1m =>
  f_J7_copyOfRange_39247_b16 o1 M1m
set_option maxRecDepth 100000 in
set_option maxHeartbeats 4000000 in
theorem m_J7_copyOfRange_39247_b10 {n0 : Nat} {x1 : Int32} {x2 : Int32} {M Z : Mem} {r : Nat} (h : f_J7_copyOfRange_39247_b10 n0 x1 x2 M = some (r, Z)) : GX M Z := by
  unfold f_J7_copyOfRange_39247_b10 at h
  obtain ⟨o1, M1m, c_M1m, h⟩ := clS h
  have q_M1m : GX M M1m := GX.tr (GX.refl M) (m_J7_copyOfRangeByte_39247 c_M1m)
  exact GX.tr q_M1m (m_J7_copyOfRange_39247_b16 h)
set_option maxRecDepth 100000 in
set_option maxHeartbeats 4000000 in
theorem b_J7_copyOfRange_39247_b10 {K : Kt} {X : Xt} (hp : St K) (hk : KC K) {mc ms : Nat} (hB : Bx K X { frames := 2, cells := mc, slots := ms, locals := 50 } cJ7_copyOfRange_39247 3 RJ7 (some (.array .byte))) {r : Nat} {M1 : Mem} {n0 : Nat} {x1 : Int32} {x2 : Int32} {ce sl : Nat} {M : Mem} (hF : f_J7_copyOfRange_39247_b10 n0 x1 x2 M = some (r, M1)) (hn : mc + M.2.2.2 = ce + M1.2.2.2) (hz : ms + szM M = sl + szM M1) : Wt K X (QM K X (some (vr r)) M1 mc ms) ce sl M 10 [(0, vr n0), (1, vi x1), (2, vi x2)] [] := by
  have hg := m_J7_copyOfRange_39247_b10 hF
  have hg1 := hg.1
  have hg2 := hg.2.1
  unfold f_J7_copyOfRange_39247_b10 at hF
  refine w_aload_n hB 0 dJ7_copyOfRange_39247_10 rfl rfl ?_
  refine w_iload_n hB 1 dJ7_copyOfRange_39247_11 rfl rfl ?_
  refine w_iload_n hB 2 dJ7_copyOfRange_39247_12 rfl rfl ?_
  obtain ⟨o1, M1m, hc_M1m, hF⟩ := clS hF
  have x_M1m := m_J7_copyOfRangeByte_39247 hc_M1m
  have xa_M1m := x_M1m.1
  have xb_M1m := x_M1m.2.1
  have hg3 := m_J7_copyOfRange_39247_b16 hF
  have hg4 := hg3.1
  have hg5 := hg3.2.1
  refine w_callS (M1 := M1m) hB (As := [vr n0, vi x1, vi x2]) (st := []) cw_J7_339 q_840 (c_J7_copyOfRangeByte_39247 hp hk hc_M1m) ⟨rfl, rfl⟩ ⟨Nat.le_of_ble_eq_true rfl, Nat.le_of_ble_eq_true rfl⟩ ⟨show ce + (M1m.2.2.2 - M.2.2.2) ≤ mc by omega, show sl + (szM M1m - szM M) ≤ ms by omega⟩ rfl (Nat.le_of_ble_eq_true rfl) dJ7_copyOfRange_39247_13 rfl ?_ (Or.inr (by omega))
  exact Wt.sub (L' := []) [] rfl (b_J7_copyOfRange_39247_b16 hp hk hB hF (by omega) (by omega))
def f_J7_copyOfRange_39247_b21 (ns0 : Nat) (M : Mem) : Option (Nat × Mem) :=
  gd (1000 ≤ ns0 ∧ dsc M ns0 = 22 ∧ ns0 - 753 < M.2.2.2) <|
  some (ns0, M)
set_option maxRecDepth 100000 in
set_option maxHeartbeats 4000000 in
theorem m_J7_copyOfRange_39247_b21 {ns0 : Nat} {M Z : Mem} {r : Nat} (h : f_J7_copyOfRange_39247_b21 ns0 M = some (r, Z)) : GX M Z := by
  unfold f_J7_copyOfRange_39247_b21 at h
  obtain ⟨gq0, h⟩ := gdS h
  obtain ⟨-, e⟩ := retS h
  rw [← e]
  exact (GX.refl M)
set_option maxRecDepth 100000 in
set_option maxHeartbeats 4000000 in
theorem b_J7_copyOfRange_39247_b21 {K : Kt} {X : Xt} (hp : St K) (hk : KC K) {mc ms : Nat} (hB : Bx K X { frames := 2, cells := mc, slots := ms, locals := 50 } cJ7_copyOfRange_39247 3 RJ7 (some (.array .byte))) {r : Nat} {M1 : Mem} {ns0 : Nat} {ce sl : Nat} {M : Mem} (hF : f_J7_copyOfRange_39247_b21 ns0 M = some (r, M1)) (hn : mc + M.2.2.2 = ce + M1.2.2.2) (hz : ms + szM M = sl + szM M1) : Wt K X (QM K X (some (vr r)) M1 mc ms) ce sl M 21 [] [vr ns0] := by
  have hg := m_J7_copyOfRange_39247_b21 hF
  have hg1 := hg.1
  have hg2 := hg.2.1
  unfold f_J7_copyOfRange_39247_b21 at hF
  obtain ⟨g1, hF⟩ := gdS hF
  refine w_castA hB (c := 2) (by decide) (dqM g1) q_650 ((hB.2.2.2.2.2.1).K.2 2 _ rfl).2 dJ7_copyOfRange_39247_21 ?_
  obtain ⟨e1, e2⟩ := retS hF
  subst e2
  have hmc : mc = ce := by omega
  have hms : ms = sl := by omega
  subst hmc
  subst hms
  exact w_areta hB dJ7_copyOfRange_39247_24 e1
def f_J7_copyOfRange_39247 (n0 : Nat) (x1 : Int32) (x2 : Int32) (M : Mem) : Option (Nat × Mem) :=
  if x1 = 0 then
    gd (1000 ≤ n0 ∧ dsc M n0 = 22 ∧ n0 - 753 < M.2.2.2) <|
    if x2 = (Int32.ofNat (dln M n0)) then
      gd (∀ i, i < dln M n0 → (-128 : Int32) ≤ M.1 n0 i ∧ M.1 n0 i ≤ 127) <|
      bnd (cpRow n0 (nn M) (nwA 22 (dln M n0) (dln M n0) M)) fun M1m =>
      f_J7_copyOfRange_39247_b21 (nn M) M1m
    else
      f_J7_copyOfRange_39247_b10 n0 x1 x2 M
  else
    f_J7_copyOfRange_39247_b10 n0 x1 x2 M
set_option maxRecDepth 100000 in
set_option maxHeartbeats 4000000 in
theorem m_J7_copyOfRange_39247 {n0 : Nat} {x1 : Int32} {x2 : Int32} {M Z : Mem} {r : Nat} (h : f_J7_copyOfRange_39247 n0 x1 x2 M = some (r, Z)) : GX M Z := by
  unfold f_J7_copyOfRange_39247 at h
  rcases ifS h with ⟨-, h⟩ | ⟨-, h⟩
  · obtain ⟨gq1, h⟩ := gdS h
    rcases ifS h with ⟨-, h⟩ | ⟨-, h⟩
    · obtain ⟨gq3, h⟩ := gdS h
      obtain ⟨M1m, e_M1m, h⟩ := bndS h
      have q_M1m : GX M M1m := GX.tr (GX.refl M) (by rw [e_M1m]; exact GX_cl _ _ _ _ _)
      exact GX.tr q_M1m (m_J7_copyOfRange_39247_b21 h)
    · exact GX.tr (GX.refl M) (m_J7_copyOfRange_39247_b10 h)
  · exact GX.tr (GX.refl M) (m_J7_copyOfRange_39247_b10 h)
set_option maxRecDepth 100000 in
set_option maxHeartbeats 4000000 in
theorem b_J7_copyOfRange_39247 {K : Kt} {X : Xt} (hp : St K) (hk : KC K) {mc ms : Nat} (hB : Bx K X { frames := 2, cells := mc, slots := ms, locals := 50 } cJ7_copyOfRange_39247 3 RJ7 (some (.array .byte))) {r : Nat} {M1 : Mem} {n0 : Nat} {x1 : Int32} {x2 : Int32} {ce sl : Nat} {M : Mem} (hF : f_J7_copyOfRange_39247 n0 x1 x2 M = some (r, M1)) (hn : mc + M.2.2.2 = ce + M1.2.2.2) (hz : ms + szM M = sl + szM M1) : Wt K X (QM K X (some (vr r)) M1 mc ms) ce sl M 0 [(0, vr n0), (1, vi x1), (2, vi x2)] [] := by
  have hg := m_J7_copyOfRange_39247 hF
  have hg1 := hg.1
  have hg2 := hg.2.1
  unfold f_J7_copyOfRange_39247 at hF
  refine w_iload_n hB 1 dJ7_copyOfRange_39247_0 rfl rfl ?_
  refine w_if_ne hB 10 dJ7_copyOfRange_39247_1 (by decide) (fun hc => ?_) (fun hc => ?_)
  · replace hF := ifF hc hF
    exact Wt.sub (L' := [(0, vr n0), (1, vi x1), (2, vi x2)]) [0, 1, 2] rfl (b_J7_copyOfRange_39247_b10 hp hk hB hF (by omega) (by omega))
  · replace hF := ifT hc hF
    refine w_iload_n hB 2 dJ7_copyOfRange_39247_4 rfl rfl ?_
    refine w_aload_n hB 0 dJ7_copyOfRange_39247_5 rfl rfl ?_
    obtain ⟨g1, hF⟩ := gdS hF
    refine w_alen hB (v := Int32.ofNat (dln M n0)) (c := 2) (dqM g1) (by decide) (sl_d g1.1 rfl) rfl dJ7_copyOfRange_39247_6 ?_
    refine w_icmp_eq hB 17 dJ7_copyOfRange_39247_7 (by decide) (fun hc => ?_) (fun hc => ?_)
    · replace hF := ifT hc hF
      refine w_aload_n hB 0 dJ7_copyOfRange_39247_17 rfl rfl ?_
      obtain ⟨g2, hF⟩ := gdS hF
      obtain ⟨M1m, e_M1m, hF⟩ := bndS hF
      have x_M1m : GX M M1m := by rw [e_M1m]; exact GX_cl _ _ _ _ _
      have n_M1m : M1m.2.2.2 = M.2.2.2 + 1 := by rw [e_M1m]; exact (EQ_cpRow _ _ _).1.trans nwA_cn
      have z_M1m : szM M1m = szM M + (dln M n0) := by rw [e_M1m]; exact (EQ_cpRow _ _ _).sz.trans nwA_sz
      have hg3 := m_J7_copyOfRange_39247_b21 hF
      have hg4 := hg3.1
      have hg5 := hg3.2.1
      refine w_clone hB hp.1 (c := 2) (ty := .byte) (len := dln M n0) (by decide) rfl (dqM g1) (sl_d g1.1 rfl) e_M1m (fun i hi9 => fitB (g2 i hi9)) ((hB.2.2.2.2.2.1).K.2 2 _ rfl).2 q_644 q_645 q_646 q_647 q_648 (va_Nw.warmC hB.2.2.2.2.2.1.1 hk.1) (Nat.le_of_ble_eq_true rfl) (Nat.le_of_ble_eq_true rfl) ⟨show ce + 1 ≤ mc by omega, show sl + (dln M n0) ≤ ms by omega⟩ dJ7_copyOfRange_39247_18 ?_
      exact Wt.sub (L' := []) [] rfl (b_J7_copyOfRange_39247_b21 hp hk hB hF (by omega) (by omega))
    · replace hF := ifF hc hF
      exact Wt.sub (L' := [(0, vr n0), (1, vi x1), (2, vi x2)]) [0, 1, 2] rfl (b_J7_copyOfRange_39247_b10 hp hk hB hF (by omega) (by omega))
theorem c_J7_copyOfRange_39247 {K : Kt} {l : Launch} (hp : St K) (hk : KC K) {r : Nat} {M1 : Mem} {n0 : Nat} {x1 : Int32} {x2 : Int32} {M : Mem} (hF : f_J7_copyOfRange_39247 n0 x1 x2 M = some (r, M1)) : MT K l yJ7_copyOfRange_39247 cJ7_copyOfRange_39247 3 (some (.array .byte)) { frames := 2, cells := M1.2.2.2 - M.2.2.2, slots := szM M1 - szM M, locals := 50 } [vr n0, vi x1, vi x2] M (some (vr r)) M1 (M1.2.2.2 - M.2.2.2) (szM M1 - szM M) := by
  have hg := m_J7_copyOfRange_39247 hF
  have hg1 := hg.1
  have hg2 := hg.2.1
  exact MT_of (by decide) rfl (Nat.le_of_ble_eq_true rfl) (fun X _ hB _ => b_J7_copyOfRange_39247 hp hk hB hF (by omega) (by omega))
def f_J5_ensureCapacityInternal_d00df_b35 (ns0 : Nat) (ns1 : Nat) (M : Mem) : Option Mem :=
  gd (1000 ≤ ns0 ∧ dsc M ns0 = 11 ∧ ns0 - 753 < M.2.2.2) <|
  bnd (setR M ns0 0 ns1) fun M1m =>
  some M1m
set_option maxRecDepth 100000 in
set_option maxHeartbeats 4000000 in
theorem m_J5_ensureCapacityInternal_d00df_b35 {ns0 : Nat} {ns1 : Nat} {M Z : Mem} (h : f_J5_ensureCapacityInternal_d00df_b35 ns0 ns1 M = some Z) : GX M Z := by
  unfold f_J5_ensureCapacityInternal_d00df_b35 at h
  obtain ⟨gq0, h⟩ := gdS h
  obtain ⟨M1m, e_M1m, h⟩ := bndS h
  have q_M1m : GX M M1m := GX.tr (GX.refl M) (by rw [e_M1m]; exact (EQ_R _ _ _ (by omega)).gx)
  rw [← Option.some.inj h]
  exact q_M1m
set_option maxRecDepth 100000 in
set_option maxHeartbeats 4000000 in
theorem b_J5_ensureCapacityInternal_d00df_b35 {K : Kt} {X : Xt} (hp : St K) (hk : KC K) {mc ms : Nat} (hB : Bx K X { frames := 3, cells := mc, slots := ms, locals := 70 } cJ5_ensureCapacityInternal_d00df 3 RJ5 none) {M1 : Mem} {ns0 : Nat} {ns1 : Nat} {ce sl : Nat} {M : Mem} (hF : f_J5_ensureCapacityInternal_d00df_b35 ns0 ns1 M = some M1) (hn : mc + M.2.2.2 = ce + M1.2.2.2) (hz : ms + szM M = sl + szM M1) : Wt K X (QM K X none M1 mc ms) ce sl M 35 [] [vr ns1, vr ns0] := by
  have hg := m_J5_ensureCapacityInternal_d00df_b35 hF
  have hg1 := hg.1
  have hg2 := hg.2.1
  unfold f_J5_ensureCapacityInternal_d00df_b35 at hF
  obtain ⟨g1, hF⟩ := gdS hF
  obtain ⟨M1m, e_M1m, hF⟩ := bndS hF
  have q_M1m : EQ M M1m := by rw [e_M1m]; exact EQ_R _ _ _ (by omega)
  have x_M1m := q_M1m.gx
  have n_M1m := q_M1m.1
  have z_M1m := q_M1m.sz
  refine w_putRd hB ff_J4_0 (dqM g1) g1.1 q_597 (ty := .array .byte) rfl (nar_arr _ _) (fit_arr _ _) e_M1m dJ5_ensureCapacityInternal_d00df_35 ?_
  cases hF
  have hmc : mc = ce := by omega
  have hms : ms = sl := by omega
  subst hmc
  subst hms
  exact w_vret hB dJ5_ensureCapacityInternal_d00df_38
def f_J5_ensureCapacityInternal_d00df (n0 : Nat) (x1 : Int32) (M : Mem) : Option Mem :=
  gd (1000 ≤ n0 ∧ dsc M n0 = 11 ∧ n0 - 753 < M.2.2.2) <|
  gd (1000 ≤ (M.2.2.1 n0 0) ∧ dsc M (M.2.2.1 n0 0) = 22 ∧ (M.2.2.1 n0 0) - 753 < M.2.2.2) <|
  bnd ((Int32.ofNat (dln M (M.2.2.1 n0 0))) >>> ((M.1 n0 1) &&& 31)) fun a1 =>
  if (x1 - a1) ≤ 0 then
    some M
  else
    cl (f_J5_newCapacity_0f7a4 n0 x1 M) fun r1 M1m =>
    cl (f_J7_copyOf_9075b (M.2.2.1 n0 0) (r1 <<< ((M1m.1 n0 1) &&& 31)) M1m) fun o1 M2m =>
    f_J5_ensureCapacityInternal_d00df_b35 n0 o1 M2m
set_option maxRecDepth 100000 in
set_option maxHeartbeats 4000000 in
theorem m_J5_ensureCapacityInternal_d00df {n0 : Nat} {x1 : Int32} {M Z : Mem} (h : f_J5_ensureCapacityInternal_d00df n0 x1 M = some Z) : GX M Z := by
  unfold f_J5_ensureCapacityInternal_d00df at h
  obtain ⟨gq0, h⟩ := gdS h
  obtain ⟨gq1, h⟩ := gdS h
  obtain ⟨a1, e_a1, h⟩ := bndS h
  rcases ifS h with ⟨-, h⟩ | ⟨-, h⟩
  · rw [← Option.some.inj h]
    exact (GX.refl M)
  · obtain ⟨r1, M1m, c_M1m, h⟩ := clS h
    have q_M1m : GX M M1m := GX.tr (GX.refl M) ((k_J5_newCapacity_0f7a4 c_M1m).gx)
    obtain ⟨o1, M2m, c_M2m, h⟩ := clS h
    have q_M2m : GX M M2m := GX.tr q_M1m (m_J7_copyOf_9075b c_M2m)
    exact GX.tr q_M2m (m_J5_ensureCapacityInternal_d00df_b35 h)
set_option maxRecDepth 100000 in
set_option maxHeartbeats 4000000 in
theorem b_J5_ensureCapacityInternal_d00df {K : Kt} {X : Xt} (hp : St K) (hk : KC K) {mc ms : Nat} (hB : Bx K X { frames := 3, cells := mc, slots := ms, locals := 70 } cJ5_ensureCapacityInternal_d00df 3 RJ5 none) {M1 : Mem} {n0 : Nat} {x1 : Int32} {ce sl : Nat} {M : Mem} (hF : f_J5_ensureCapacityInternal_d00df n0 x1 M = some M1) (hn : mc + M.2.2.2 = ce + M1.2.2.2) (hz : ms + szM M = sl + szM M1) : Wt K X (QM K X none M1 mc ms) ce sl M 0 [(0, vr n0), (1, vi x1)] [] := by
  have hg := m_J5_ensureCapacityInternal_d00df hF
  have hg1 := hg.1
  have hg2 := hg.2.1
  unfold f_J5_ensureCapacityInternal_d00df at hF
  refine w_aload_n hB 0 dJ5_ensureCapacityInternal_d00df_0 rfl rfl ?_
  obtain ⟨g1, hF⟩ := gdS hF
  refine w_getR hB ff_J4_0 (dqM g1) q_597 dJ5_ensureCapacityInternal_d00df_1 ?_
  obtain ⟨g2, hF⟩ := gdS hF
  refine w_alen hB (v := Int32.ofNat (dln M (M.2.2.1 n0 0))) (c := 2) (dqM g2) (by decide) (sl_d g2.1 rfl) rfl dJ5_ensureCapacityInternal_d00df_4 ?_
  refine w_aload_n hB 0 dJ5_ensureCapacityInternal_d00df_5 rfl rfl ?_
  refine w_getI hB ff_J4_1 (dqM g1) q_598 dJ5_ensureCapacityInternal_d00df_6 ?_
  refine w_ishr hB dJ5_ensureCapacityInternal_d00df_9 ?_
  obtain ⟨a1, e_a1, hF⟩ := bndS hF
  refine w_istore_n hB (L' := [(2, vi a1), (0, vr n0), (1, vi x1)]) dJ5_ensureCapacityInternal_d00df_10 rfl (by decide) e_a1 rfl ?_
  refine w_iload_n hB 2 dJ5_ensureCapacityInternal_d00df_11 rfl rfl ?_
  refine w_iload_n hB 0 dJ5_ensureCapacityInternal_d00df_12 rfl rfl ?_
  refine w_isub hB dJ5_ensureCapacityInternal_d00df_13 ?_
  refine w_if_le hB 38 dJ5_ensureCapacityInternal_d00df_14 (by decide) (fun hc => ?_) (fun hc => ?_)
  · replace hF := ifT hc hF
    cases hF
    have hmc : mc = ce := by omega
    have hms : ms = sl := by omega
    subst hmc
    subst hms
    exact w_vret hB dJ5_ensureCapacityInternal_d00df_38
  · replace hF := ifF hc hF
    refine w_aload_n hB 1 dJ5_ensureCapacityInternal_d00df_17 rfl rfl ?_
    refine w_aload_n hB 1 dJ5_ensureCapacityInternal_d00df_18 rfl rfl ?_
    refine w_getR hB ff_J4_0 (dqM g1) q_597 dJ5_ensureCapacityInternal_d00df_19 ?_
    refine w_aload_n hB 1 dJ5_ensureCapacityInternal_d00df_22 rfl rfl ?_
    refine w_iload_n hB 2 dJ5_ensureCapacityInternal_d00df_23 rfl rfl ?_
    obtain ⟨r1, M1m, hc_M1m, hF⟩ := clS hF
    have q_M1m : EQ M M1m := k_J5_newCapacity_0f7a4 hc_M1m
    have x_M1m := q_M1m.gx
    have n_M1m := q_M1m.1
    have z_M1m := q_M1m.sz
    refine w_callP (M1 := M1m) hB (As := [vi x1]) (st := [vr (M.2.2.1 n0 0), vr n0]) cw_J5_104 q_628 (selW hB hk.2.2.2.1) (ci := 10) rfl (dqM g1) (c_J5_newCapacity_0f7a4 hp hc_M1m) ⟨rfl, rfl⟩ ⟨Nat.le_of_ble_eq_true rfl, Nat.le_of_ble_eq_true rfl⟩ ⟨show ce ≤ mc by omega, show sl ≤ ms by omega⟩ rfl (Nat.le_of_ble_eq_true rfl) dJ5_ensureCapacityInternal_d00df_24 rfl ?_ (Or.inl rfl)
    refine w_aload_n hB 1 dJ5_ensureCapacityInternal_d00df_27 rfl rfl ?_
    refine w_getI hB ff_J4_1 (dqM (GX.dyo x_M1m g1)) q_598 dJ5_ensureCapacityInternal_d00df_28 ?_
    refine w_ishl hB dJ5_ensureCapacityInternal_d00df_31 ?_
    obtain ⟨o1, M2m, hc_M2m, hF⟩ := clS hF
    have x_M2m := m_J7_copyOf_9075b hc_M2m
    have xa_M2m := x_M2m.1
    have xb_M2m := x_M2m.2.1
    have hg3 := m_J5_ensureCapacityInternal_d00df_b35 hF
    have hg4 := hg3.1
    have hg5 := hg3.2.1
    refine w_callS (M1 := M2m) hB (As := [vr (M.2.2.1 n0 0), vi (r1 <<< ((M1m.1 n0 1) &&& 31))]) (st := [vr n0]) cw_J5_108 q_642 (c_J7_copyOf_9075b hp hk hc_M2m) ⟨rfl, rfl⟩ ⟨Nat.le_of_ble_eq_true rfl, Nat.le_of_ble_eq_true rfl⟩ ⟨show ce + (M2m.2.2.2 - M1m.2.2.2) ≤ mc by omega, show sl + (szM M2m - szM M1m) ≤ ms by omega⟩ rfl (Nat.le_of_ble_eq_true rfl) dJ5_ensureCapacityInternal_d00df_32 rfl ?_ (Or.inr (by omega))
    exact Wt.sub (L' := []) [] rfl (b_J5_ensureCapacityInternal_d00df_b35 hp hk hB hF (by omega) (by omega))
theorem c_J5_ensureCapacityInternal_d00df {K : Kt} {l : Launch} (hp : St K) (hk : KC K) {M1 : Mem} {n0 : Nat} {x1 : Int32} {M : Mem} (hF : f_J5_ensureCapacityInternal_d00df n0 x1 M = some M1) : MT K l yJ5_ensureCapacityInternal_d00df cJ5_ensureCapacityInternal_d00df 3 none { frames := 3, cells := M1.2.2.2 - M.2.2.2, slots := szM M1 - szM M, locals := 70 } [vr n0, vi x1] M none M1 (M1.2.2.2 - M.2.2.2) (szM M1 - szM M) := by
  have hg := m_J5_ensureCapacityInternal_d00df hF
  have hg1 := hg.1
  have hg2 := hg.2.1
  exact MT_of (by decide) rfl (Nat.le_of_ble_eq_true rfl) (fun X _ hB _ => b_J5_ensureCapacityInternal_d00df hp hk hB hF (by omega) (by omega))
def f_J5_putStringAt_47b60 (n0 : Nat) (x1 : Int32) (n2 : Nat) (M : Mem) : Option Mem :=
  gd (1000 ≤ n0 ∧ dsc M n0 = 11 ∧ n0 - 753 < M.2.2.2) <|
  clv (f_J5_inflateIfNeededFor_a7421 n0 n2 M) fun M1m =>
  gd (400 ≤ n2 ∧ n2 < 426) <|
  clv (f_J0_getBytes_840e7K n2 (M1m.2.2.1 n0 0) x1 (M1m.1 n0 1) M1m) fun M2m =>
  some M2m
set_option maxRecDepth 100000 in
set_option maxHeartbeats 4000000 in
theorem m_J5_putStringAt_47b60 {n0 : Nat} {x1 : Int32} {n2 : Nat} {M Z : Mem} (h : f_J5_putStringAt_47b60 n0 x1 n2 M = some Z) : GX M Z := by
  unfold f_J5_putStringAt_47b60 at h
  obtain ⟨gq0, h⟩ := gdS h
  obtain ⟨M1m, c_M1m, h⟩ := clvS h
  have q_M1m : GX M M1m := GX.tr (GX.refl M) ((k_J5_inflateIfNeededFor_a7421 c_M1m).gx)
  obtain ⟨gq2, h⟩ := gdS h
  obtain ⟨M2m, c_M2m, h⟩ := clvS h
  have q_M2m : GX M M2m := GX.tr q_M1m ((k_J0_getBytes_840e7K c_M2m).gx)
  rw [← Option.some.inj h]
  exact q_M2m
set_option maxRecDepth 100000 in
set_option maxHeartbeats 4000000 in
theorem b_J5_putStringAt_47b60 {K : Kt} {X : Xt} (hp : St K) (hk : KC K) {mc ms : Nat} (hB : Bx K X { frames := 2, cells := mc, slots := ms, locals := 49 } cJ5_putStringAt_47b60 3 RJ5 none) {M1 : Mem} {n0 : Nat} {x1 : Int32} {n2 : Nat} {ce sl : Nat} {M : Mem} (hF : f_J5_putStringAt_47b60 n0 x1 n2 M = some M1) (hn : mc + M.2.2.2 = ce + M1.2.2.2) (hz : ms + szM M = sl + szM M1) : Wt K X (QM K X none M1 mc ms) ce sl M 0 [(0, vr n0), (1, vi x1), (2, vr n2)] [] := by
  have hg := m_J5_putStringAt_47b60 hF
  have hg1 := hg.1
  have hg2 := hg.2.1
  unfold f_J5_putStringAt_47b60 at hF
  refine w_aload_n hB 0 dJ5_putStringAt_47b60_0 rfl rfl ?_
  refine w_aload_n hB 2 dJ5_putStringAt_47b60_1 rfl rfl ?_
  obtain ⟨g1, hF⟩ := gdS hF
  obtain ⟨M1m, hc_M1m, hF⟩ := clvS hF
  have q_M1m : EQ M M1m := k_J5_inflateIfNeededFor_a7421 hc_M1m
  have x_M1m := q_M1m.gx
  have n_M1m := q_M1m.1
  have z_M1m := q_M1m.sz
  refine w_callP (M1 := M1m) hB (As := [vr n2]) (st := []) cw_J5_397 q_701 (selW hB hk.2.2.2.2.2) (ci := 10) rfl (dqM g1) (c_J5_inflateIfNeededFor_a7421 hp hc_M1m) ⟨rfl, rfl⟩ ⟨Nat.le_of_ble_eq_true rfl, Nat.le_of_ble_eq_true rfl⟩ ⟨show ce ≤ mc by omega, show sl ≤ ms by omega⟩ rfl (Nat.le_of_ble_eq_true rfl) dJ5_putStringAt_47b60_2 rfl ?_ (Or.inl rfl)
  refine w_aload_n hB 2 dJ5_putStringAt_47b60_5 rfl rfl ?_
  refine w_aload_n hB 0 dJ5_putStringAt_47b60_6 rfl rfl ?_
  refine w_getR hB ff_J4_0 (dqM (GX.dyo x_M1m g1)) q_597 dJ5_putStringAt_47b60_7 ?_
  refine w_iload_n hB 1 dJ5_putStringAt_47b60_10 rfl rfl ?_
  refine w_aload_n hB 0 dJ5_putStringAt_47b60_11 rfl rfl ?_
  refine w_getI hB ff_J4_1 (dqM (GX.dyo x_M1m g1)) q_598 dJ5_putStringAt_47b60_12 ?_
  obtain ⟨g2, hF⟩ := gdS hF
  obtain ⟨M2m, hc_M2m, hF⟩ := clvS hF
  have q_M2m : EQ M1m M2m := k_J0_getBytes_840e7K hc_M2m
  have x_M2m := q_M2m.gx
  have n_M2m := q_M2m.1
  have z_M2m := q_M2m.sz
  refine w_callStr (M1 := M2m) hB hp g2 (As := [vr (M1m.2.2.1 n0 0), vi x1, vi (M1m.1 n0 1)]) (st := []) cw_J5_399 q_724 q_725 (c_J0_getBytes_840e7K hp hc_M2m) ⟨rfl, rfl⟩ ⟨Nat.le_of_ble_eq_true rfl, Nat.le_of_ble_eq_true rfl⟩ ⟨show ce ≤ mc by omega, show sl ≤ ms by omega⟩ rfl (Nat.le_of_ble_eq_true rfl) dJ5_putStringAt_47b60_15 rfl ?_ (Or.inl rfl)
  cases hF
  have hmc : mc = ce := by omega
  have hms : ms = sl := by omega
  subst hmc
  subst hms
  exact w_vret hB dJ5_putStringAt_47b60_18
theorem c_J5_putStringAt_47b60 {K : Kt} {l : Launch} (hp : St K) (hk : KC K) {M1 : Mem} {n0 : Nat} {x1 : Int32} {n2 : Nat} {M : Mem} (hF : f_J5_putStringAt_47b60 n0 x1 n2 M = some M1) : MT K l yJ5_putStringAt_47b60 cJ5_putStringAt_47b60 3 none { frames := 2, cells := M1.2.2.2 - M.2.2.2, slots := szM M1 - szM M, locals := 49 } [vr n0, vi x1, vr n2] M none M1 (M1.2.2.2 - M.2.2.2) (szM M1 - szM M) := by
  have hg := m_J5_putStringAt_47b60 hF
  have hg1 := hg.1
  have hg2 := hg.2.1
  exact MT_of (by decide) rfl (Nat.le_of_ble_eq_true rfl) (fun X _ hB _ => b_J5_putStringAt_47b60 hp hk hB hF (by omega) (by omega))
def f_J5_append_cf1ce_b33 (n0 : Nat) (x2 : Int32) (M : Mem) : Option (Nat × Mem) :=
  gd (1000 ≤ n0 ∧ dsc M n0 = 11 ∧ n0 - 753 < M.2.2.2) <|
  bnd (setI M n0 3 ((M.1 n0 3) + x2)) fun M1m =>
  some (n0, M1m)
set_option maxRecDepth 100000 in
set_option maxHeartbeats 4000000 in
theorem m_J5_append_cf1ce_b33 {n0 : Nat} {x2 : Int32} {M Z : Mem} {r : Nat} (h : f_J5_append_cf1ce_b33 n0 x2 M = some (r, Z)) : GX M Z := by
  unfold f_J5_append_cf1ce_b33 at h
  obtain ⟨gq0, h⟩ := gdS h
  obtain ⟨M1m, e_M1m, h⟩ := bndS h
  have q_M1m : GX M M1m := GX.tr (GX.refl M) (by rw [e_M1m]; exact (EQ_I _ _ _ _).gx)
  obtain ⟨-, e⟩ := retS h
  rw [← e]
  exact q_M1m
set_option maxRecDepth 100000 in
set_option maxHeartbeats 4000000 in
theorem b_J5_append_cf1ce_b33 {K : Kt} {X : Xt} (hp : St K) (hk : KC K) {mc ms : Nat} (hB : Bx K X { frames := 4, cells := mc, slots := ms, locals := 92 } cJ5_append_cf1ce 3 RJ5 (some (.object "java/lang/AbstractStringBuilder"))) {r : Nat} {M1 : Mem} {n0 : Nat} {x2 : Int32} {ce sl : Nat} {M : Mem} (hF : f_J5_append_cf1ce_b33 n0 x2 M = some (r, M1)) (hn : mc + M.2.2.2 = ce + M1.2.2.2) (hz : ms + szM M = sl + szM M1) : Wt K X (QM K X (some (vr r)) M1 mc ms) ce sl M 33 [(0, vr n0), (2, vi x2)] [] := by
  have hg := m_J5_append_cf1ce_b33 hF
  have hg1 := hg.1
  have hg2 := hg.2.1
  unfold f_J5_append_cf1ce_b33 at hF
  refine w_aload_n hB 0 dJ5_append_cf1ce_33 rfl rfl ?_
  refine w_dup hB rfl dJ5_append_cf1ce_34 ?_
  obtain ⟨g1, hF⟩ := gdS hF
  refine w_getI hB ff_J4_3 (dqM g1) q_600 dJ5_append_cf1ce_35 ?_
  refine w_iload_n hB 1 dJ5_append_cf1ce_38 rfl rfl ?_
  refine w_iadd hB dJ5_append_cf1ce_39 ?_
  obtain ⟨M1m, e_M1m, hF⟩ := bndS hF
  have q_M1m : EQ M M1m := by rw [e_M1m]; exact EQ_I _ _ _ _
  have x_M1m := q_M1m.gx
  have n_M1m := q_M1m.1
  have z_M1m := q_M1m.sz
  refine w_putI hB ff_J4_3 (dqM g1) q_600 e_M1m dJ5_append_cf1ce_40 ?_
  refine w_aload_n hB 0 dJ5_append_cf1ce_43 rfl rfl ?_
  obtain ⟨e1, e2⟩ := retS hF
  subst e2
  have hmc : mc = ce := by omega
  have hms : ms = sl := by omega
  subst hmc
  subst hms
  exact w_aret hB dJ5_append_cf1ce_44 e1
def f_J5_append_cf1ce_b24 (n0 : Nat) (n1 : Nat) (x2 : Int32) (M : Mem) : Option (Nat × Mem) :=
  gd (1000 ≤ n0 ∧ dsc M n0 = 11 ∧ n0 - 753 < M.2.2.2) <|
  clv (f_J5_putStringAt_47b60 n0 (M.1 n0 3) n1 M) fun M1m =>
  f_J5_append_cf1ce_b33 n0 x2 M1m
set_option maxRecDepth 100000 in
set_option maxHeartbeats 4000000 in
theorem m_J5_append_cf1ce_b24 {n0 : Nat} {n1 : Nat} {x2 : Int32} {M Z : Mem} {r : Nat} (h : f_J5_append_cf1ce_b24 n0 n1 x2 M = some (r, Z)) : GX M Z := by
  unfold f_J5_append_cf1ce_b24 at h
  obtain ⟨gq0, h⟩ := gdS h
  obtain ⟨M1m, c_M1m, h⟩ := clvS h
  have q_M1m : GX M M1m := GX.tr (GX.refl M) (m_J5_putStringAt_47b60 c_M1m)
  exact GX.tr q_M1m (m_J5_append_cf1ce_b33 h)
set_option maxRecDepth 100000 in
set_option maxHeartbeats 4000000 in
theorem b_J5_append_cf1ce_b24 {K : Kt} {X : Xt} (hp : St K) (hk : KC K) {mc ms : Nat} (hB : Bx K X { frames := 4, cells := mc, slots := ms, locals := 92 } cJ5_append_cf1ce 3 RJ5 (some (.object "java/lang/AbstractStringBuilder"))) {r : Nat} {M1 : Mem} {n0 : Nat} {n1 : Nat} {x2 : Int32} {ce sl : Nat} {M : Mem} (hF : f_J5_append_cf1ce_b24 n0 n1 x2 M = some (r, M1)) (hn : mc + M.2.2.2 = ce + M1.2.2.2) (hz : ms + szM M = sl + szM M1) : Wt K X (QM K X (some (vr r)) M1 mc ms) ce sl M 24 [(0, vr n0), (1, vr n1), (2, vi x2)] [] := by
  have hg := m_J5_append_cf1ce_b24 hF
  have hg1 := hg.1
  have hg2 := hg.2.1
  unfold f_J5_append_cf1ce_b24 at hF
  refine w_aload_n hB 0 dJ5_append_cf1ce_24 rfl rfl ?_
  refine w_aload_n hB 0 dJ5_append_cf1ce_25 rfl rfl ?_
  obtain ⟨g1, hF⟩ := gdS hF
  refine w_getI hB ff_J4_3 (dqM g1) q_600 dJ5_append_cf1ce_26 ?_
  refine w_aload_n hB 1 dJ5_append_cf1ce_29 rfl rfl ?_
  obtain ⟨M1m, hc_M1m, hF⟩ := clvS hF
  have x_M1m := m_J5_putStringAt_47b60 hc_M1m
  have xa_M1m := x_M1m.1
  have xb_M1m := x_M1m.2.1
  have hg3 := m_J5_append_cf1ce_b33 hF
  have hg4 := hg3.1
  have hg5 := hg3.2.1
  refine w_callP (M1 := M1m) hB (As := [vi (M.1 n0 3), vr n1]) (st := []) cw_J5_208 q_697 (selW hB hk.2.2.2.2.1) (ci := 10) rfl (dqM g1) (c_J5_putStringAt_47b60 hp hk hc_M1m) ⟨rfl, rfl⟩ ⟨Nat.le_of_ble_eq_true rfl, Nat.le_of_ble_eq_true rfl⟩ ⟨show ce + (M1m.2.2.2 - M.2.2.2) ≤ mc by omega, show sl + (szM M1m - szM M) ≤ ms by omega⟩ rfl (Nat.le_of_ble_eq_true rfl) dJ5_append_cf1ce_30 rfl ?_ (Or.inr (by omega))
  exact Wt.sub (L' := [(0, vr n0), (2, vi x2)]) [0, 2] rfl (b_J5_append_cf1ce_b33 hp hk hB hF (by omega) (by omega))
def f_J5_append_cf1ce (n0 : Nat) (n1 : Nat) (M : Mem) : Option (Nat × Mem) :=
  gd (400 ≤ n1 ∧ n1 < 426) <|
  cl (f_J0_length_8abf5K n1 M) fun r1 M1m =>
  gd (1000 ≤ n0 ∧ dsc M1m n0 = 11 ∧ n0 - 753 < M1m.2.2.2) <|
  clv (f_J5_ensureCapacityInternal_d00df n0 ((M1m.1 n0 3) + r1) M1m) fun M2m =>
  f_J5_append_cf1ce_b24 n0 n1 r1 M2m
set_option maxRecDepth 100000 in
set_option maxHeartbeats 4000000 in
theorem m_J5_append_cf1ce {n0 : Nat} {n1 : Nat} {M Z : Mem} {r : Nat} (h : f_J5_append_cf1ce n0 n1 M = some (r, Z)) : GX M Z := by
  unfold f_J5_append_cf1ce at h
  obtain ⟨gq0, h⟩ := gdS h
  obtain ⟨r1, M1m, c_M1m, h⟩ := clS h
  have q_M1m : GX M M1m := GX.tr (GX.refl M) ((k_J0_length_8abf5K c_M1m).gx)
  obtain ⟨gq2, h⟩ := gdS h
  obtain ⟨M2m, c_M2m, h⟩ := clvS h
  have q_M2m : GX M M2m := GX.tr q_M1m (m_J5_ensureCapacityInternal_d00df c_M2m)
  exact GX.tr q_M2m (m_J5_append_cf1ce_b24 h)
set_option maxRecDepth 100000 in
set_option maxHeartbeats 4000000 in
theorem b_J5_append_cf1ce {K : Kt} {X : Xt} (hp : St K) (hk : KC K) {mc ms : Nat} (hB : Bx K X { frames := 4, cells := mc, slots := ms, locals := 92 } cJ5_append_cf1ce 3 RJ5 (some (.object "java/lang/AbstractStringBuilder"))) {r : Nat} {M1 : Mem} {n0 : Nat} {n1 : Nat} {ce sl : Nat} {M : Mem} (hF : f_J5_append_cf1ce n0 n1 M = some (r, M1)) (hn : mc + M.2.2.2 = ce + M1.2.2.2) (hz : ms + szM M = sl + szM M1) : Wt K X (QM K X (some (vr r)) M1 mc ms) ce sl M 0 [(0, vr n0), (1, vr n1)] [] := by
  have hg := m_J5_append_cf1ce hF
  have hg1 := hg.1
  have hg2 := hg.2.1
  unfold f_J5_append_cf1ce at hF
  refine w_aload_n hB 1 dJ5_append_cf1ce_0 rfl rfl ?_
  obtain ⟨g1, hF⟩ := gdS hF
  refine w_ifnn hB 9 (Or.inr (Or.inr ⟨by omega, by omega⟩)) dJ5_append_cf1ce_1 (by decide) ?_
  refine w_aload_n hB 1 dJ5_append_cf1ce_9 rfl rfl ?_
  obtain ⟨r1, M1m, hc_M1m, hF⟩ := clS hF
  have q_M1m : EQ M M1m := k_J0_length_8abf5K hc_M1m
  have x_M1m := q_M1m.gx
  have n_M1m := q_M1m.1
  have z_M1m := q_M1m.sz
  refine w_callStr (M1 := M1m) hB hp g1 (As := []) (st := []) cw_J5_32 q_687 q_688 (c_J0_length_8abf5K hp hc_M1m) ⟨rfl, rfl⟩ ⟨Nat.le_of_ble_eq_true rfl, Nat.le_of_ble_eq_true rfl⟩ ⟨show ce ≤ mc by omega, show sl ≤ ms by omega⟩ rfl (Nat.le_of_ble_eq_true rfl) dJ5_append_cf1ce_10 rfl ?_ (Or.inl rfl)
  refine w_istore_n hB (L' := [(2, vi r1), (0, vr n0), (1, vr n1)]) dJ5_append_cf1ce_13 rfl (by decide) rfl rfl ?_
  refine w_aload_n hB 1 dJ5_append_cf1ce_14 rfl rfl ?_
  refine w_aload_n hB 1 dJ5_append_cf1ce_15 rfl rfl ?_
  obtain ⟨g2, hF⟩ := gdS hF
  refine w_getI hB ff_J4_3 (dqM g2) q_600 dJ5_append_cf1ce_16 ?_
  refine w_iload_n hB 0 dJ5_append_cf1ce_19 rfl rfl ?_
  refine w_iadd hB dJ5_append_cf1ce_20 ?_
  obtain ⟨M2m, hc_M2m, hF⟩ := clvS hF
  have x_M2m := m_J5_ensureCapacityInternal_d00df hc_M2m
  have xa_M2m := x_M2m.1
  have xb_M2m := x_M2m.2.1
  have hg3 := m_J5_append_cf1ce_b24 hF
  have hg4 := hg3.1
  have hg5 := hg3.2.1
  refine w_callP (M1 := M2m) hB (As := [vi ((M1m.1 n0 3) + r1)]) (st := []) cw_J5_100 q_624 (selW hB hk.2.2.1) (ci := 10) rfl (dqM g2) (c_J5_ensureCapacityInternal_d00df hp hk hc_M2m) ⟨rfl, rfl⟩ ⟨Nat.le_of_ble_eq_true rfl, Nat.le_of_ble_eq_true rfl⟩ ⟨show ce + (M2m.2.2.2 - M1m.2.2.2) ≤ mc by omega, show sl + (szM M2m - szM M1m) ≤ ms by omega⟩ rfl (Nat.le_of_ble_eq_true rfl) dJ5_append_cf1ce_21 rfl ?_ (Or.inr (by omega))
  exact Wt.sub (L' := [(0, vr n0), (1, vr n1), (2, vi r1)]) [1, 2, 0] rfl (b_J5_append_cf1ce_b24 hp hk hB hF (by omega) (by omega))
theorem c_J5_append_cf1ce {K : Kt} {l : Launch} (hp : St K) (hk : KC K) {r : Nat} {M1 : Mem} {n0 : Nat} {n1 : Nat} {M : Mem} (hF : f_J5_append_cf1ce n0 n1 M = some (r, M1)) : MT K l yJ5_append_cf1ce cJ5_append_cf1ce 3 (some (.object "java/lang/AbstractStringBuilder")) { frames := 4, cells := M1.2.2.2 - M.2.2.2, slots := szM M1 - szM M, locals := 92 } [vr n0, vr n1] M (some (vr r)) M1 (M1.2.2.2 - M.2.2.2) (szM M1 - szM M) := by
  have hg := m_J5_append_cf1ce hF
  have hg1 := hg.1
  have hg2 := hg.2.1
  exact MT_of (by decide) rfl (Nat.le_of_ble_eq_true rfl) (fun X _ hB _ => b_J5_append_cf1ce hp hk hB hF (by omega) (by omega))
def f_J5_append_3fe6f_b56 (n0 : Nat) (x1 : Int32) (M : Mem) : Option (Nat × Mem) :=
  gd (1000 ≤ n0 ∧ dsc M n0 = 11 ∧ n0 - 753 < M.2.2.2) <|
  bnd (setI M n0 3 ((M.1 n0 3) + 1)) fun M1m =>
  none
set_option maxRecDepth 100000 in
set_option maxHeartbeats 4000000 in
theorem m_J5_append_3fe6f_b56 {n0 : Nat} {x1 : Int32} {M Z : Mem} {r : Nat} (h : f_J5_append_3fe6f_b56 n0 x1 M = some (r, Z)) : GX M Z := by
  unfold f_J5_append_3fe6f_b56 at h
  obtain ⟨gq0, h⟩ := gdS h
  obtain ⟨M1m, e_M1m, h⟩ := bndS h
  have q_M1m : GX M M1m := GX.tr (GX.refl M) (by rw [e_M1m]; exact (EQ_I _ _ _ _).gx)
  cases h
set_option maxRecDepth 100000 in
set_option maxHeartbeats 4000000 in
theorem b_J5_append_3fe6f_b56 {K : Kt} {X : Xt} (hp : St K) (hk : KC K) {mc ms : Nat} (hB : Bx K X { frames := 4, cells := mc, slots := ms, locals := 92 } cJ5_append_3fe6f 2 RJ5 (some (.object "java/lang/AbstractStringBuilder"))) {r : Nat} {M1 : Mem} {n0 : Nat} {x1 : Int32} {ce sl : Nat} {M : Mem} (hF : f_J5_append_3fe6f_b56 n0 x1 M = some (r, M1)) (hn : mc + M.2.2.2 = ce + M1.2.2.2) (hz : ms + szM M = sl + szM M1) : Wt K X (QM K X (some (vr r)) M1 mc ms) ce sl M 56 [(0, vr n0), (1, vi x1)] [] := by
  have hg := m_J5_append_3fe6f_b56 hF
  have hg1 := hg.1
  have hg2 := hg.2.1
  unfold f_J5_append_3fe6f_b56 at hF
  refine w_aload_n hB 0 dJ5_append_3fe6f_56 rfl rfl ?_
  obtain ⟨g1, hF⟩ := gdS hF
  refine w_getR hB ff_J4_0 (dqM g1) q_597 dJ5_append_3fe6f_57 ?_
  refine w_aload_n hB 0 dJ5_append_3fe6f_60 rfl rfl ?_
  refine w_dup hB rfl dJ5_append_3fe6f_61 ?_
  refine w_getI hB ff_J4_3 (dqM g1) q_600 dJ5_append_3fe6f_62 ?_
  refine w_dupx1 hB rfl rfl dJ5_append_3fe6f_65 ?_
  refine w_iconst hB 1 (by decide) dJ5_append_3fe6f_66 ?_
  refine w_iadd hB dJ5_append_3fe6f_67 ?_
  obtain ⟨M1m, e_M1m, hF⟩ := bndS hF
  have q_M1m : EQ M M1m := by rw [e_M1m]; exact EQ_I _ _ _ _
  have x_M1m := q_M1m.gx
  have n_M1m := q_M1m.1
  have z_M1m := q_M1m.sz
  refine w_putI hB ff_J4_3 (dqM g1) q_600 e_M1m dJ5_append_3fe6f_68 ?_
  refine w_iload_n hB 1 dJ5_append_3fe6f_71 rfl rfl ?_
  cases hF
def f_J5_append_3fe6f_b45 (n0 : Nat) (x1 : Int32) (M : Mem) : Option (Nat × Mem) :=
  gd (1000 ≤ n0 ∧ dsc M n0 = 11 ∧ n0 - 753 < M.2.2.2) <|
  cl (f_J5_isLatin1_aae02 n0 M) fun r1 M1m =>
  if r1 = 0 then
    f_J5_append_3fe6f_b56 n0 x1 M1m
  else
    none
set_option maxRecDepth 100000 in
set_option maxHeartbeats 4000000 in
theorem m_J5_append_3fe6f_b45 {n0 : Nat} {x1 : Int32} {M Z : Mem} {r : Nat} (h : f_J5_append_3fe6f_b45 n0 x1 M = some (r, Z)) : GX M Z := by
  unfold f_J5_append_3fe6f_b45 at h
  obtain ⟨gq0, h⟩ := gdS h
  obtain ⟨r1, M1m, c_M1m, h⟩ := clS h
  have q_M1m : GX M M1m := GX.tr (GX.refl M) ((k_J5_isLatin1_aae02 c_M1m).gx)
  rcases ifS h with ⟨-, h⟩ | ⟨-, h⟩
  · exact GX.tr q_M1m (m_J5_append_3fe6f_b56 h)
  · cases h
set_option maxRecDepth 100000 in
set_option maxHeartbeats 4000000 in
theorem b_J5_append_3fe6f_b45 {K : Kt} {X : Xt} (hp : St K) (hk : KC K) {mc ms : Nat} (hB : Bx K X { frames := 4, cells := mc, slots := ms, locals := 92 } cJ5_append_3fe6f 2 RJ5 (some (.object "java/lang/AbstractStringBuilder"))) {r : Nat} {M1 : Mem} {n0 : Nat} {x1 : Int32} {ce sl : Nat} {M : Mem} (hF : f_J5_append_3fe6f_b45 n0 x1 M = some (r, M1)) (hn : mc + M.2.2.2 = ce + M1.2.2.2) (hz : ms + szM M = sl + szM M1) : Wt K X (QM K X (some (vr r)) M1 mc ms) ce sl M 45 [(0, vr n0), (1, vi x1)] [] := by
  have hg := m_J5_append_3fe6f_b45 hF
  have hg1 := hg.1
  have hg2 := hg.2.1
  unfold f_J5_append_3fe6f_b45 at hF
  refine w_aload_n hB 0 dJ5_append_3fe6f_45 rfl rfl ?_
  obtain ⟨g1, hF⟩ := gdS hF
  obtain ⟨r1, M1m, hc_M1m, hF⟩ := clS hF
  have q_M1m : EQ M M1m := k_J5_isLatin1_aae02 hc_M1m
  have x_M1m := q_M1m.gx
  have n_M1m := q_M1m.1
  have z_M1m := q_M1m.sz
  refine w_callP (M1 := M1m) hB (As := []) (st := []) cw_J5_83 q_656 (hB.2.2.2.2.1 _ q_658) (ci := 10) rfl (dqM g1) (c_J5_isLatin1_aae02 hp hc_M1m) ⟨rfl, rfl⟩ ⟨Nat.le_of_ble_eq_true rfl, Nat.le_of_ble_eq_true rfl⟩ ⟨show ce ≤ mc by omega, show sl ≤ ms by omega⟩ rfl (Nat.le_of_ble_eq_true rfl) dJ5_append_3fe6f_46 rfl ?_ (Or.inl rfl)
  refine w_if_eq hB 56 dJ5_append_3fe6f_49 (by decide) (fun hc => ?_) (fun hc => ?_)
  · replace hF := ifT hc hF
    exact Wt.sub (L' := [(0, vr n0), (1, vi x1)]) [0, 1] rfl (b_J5_append_3fe6f_b56 hp hk hB hF (by omega) (by omega))
  · replace hF := ifF hc hF
    refine w_aload_n hB 0 dJ5_append_3fe6f_52 rfl rfl ?_
    cases hF
def f_J5_append_3fe6f_b10 (n0 : Nat) (x1 : Int32) (M : Mem) : Option (Nat × Mem) :=
  gd (1000 ≤ n0 ∧ dsc M n0 = 11 ∧ n0 - 753 < M.2.2.2) <|
  cl (f_J5_isLatin1_aae02 n0 M) fun r1 M1m =>
  if r1 = 0 then
    f_J5_append_3fe6f_b45 n0 x1 M1m
  else
    cl (f_J1_canEncode_fc78d x1 M1m) fun r2 M2m =>
    if r2 = 0 then
      f_J5_append_3fe6f_b45 n0 x1 M2m
    else
      bnd (setI M2m n0 3 ((M2m.1 n0 3) + 1)) fun M3m =>
      gd (1000 ≤ (M2m.2.2.1 n0 0) ∧ dsc M3m (M2m.2.2.1 n0 0) = 22 ∧ (M2m.2.2.1 n0 0) - 753 < M3m.2.2.2) <|
      gd (inb (M2m.1 n0 3) (dln M3m (M2m.2.2.1 n0 0))) <|
      bnd (setI M3m (M2m.2.2.1 n0 0) ((M2m.1 n0 3).toNatClampNeg) (vp_nar .byte (x1.toInt8.toInt32))) fun M4m =>
      some (n0, M4m)
set_option maxRecDepth 100000 in
set_option maxHeartbeats 4000000 in
theorem m_J5_append_3fe6f_b10 {n0 : Nat} {x1 : Int32} {M Z : Mem} {r : Nat} (h : f_J5_append_3fe6f_b10 n0 x1 M = some (r, Z)) : GX M Z := by
  unfold f_J5_append_3fe6f_b10 at h
  obtain ⟨gq0, h⟩ := gdS h
  obtain ⟨r1, M1m, c_M1m, h⟩ := clS h
  have q_M1m : GX M M1m := GX.tr (GX.refl M) ((k_J5_isLatin1_aae02 c_M1m).gx)
  rcases ifS h with ⟨-, h⟩ | ⟨-, h⟩
  · exact GX.tr q_M1m (m_J5_append_3fe6f_b45 h)
  · obtain ⟨r2, M2m, c_M2m, h⟩ := clS h
    have q_M2m : GX M M2m := GX.tr q_M1m ((k_J1_canEncode_fc78d c_M2m).gx)
    rcases ifS h with ⟨-, h⟩ | ⟨-, h⟩
    · exact GX.tr q_M2m (m_J5_append_3fe6f_b45 h)
    · obtain ⟨M3m, e_M3m, h⟩ := bndS h
      have q_M3m : GX M M3m := GX.tr q_M2m (by rw [e_M3m]; exact (EQ_I _ _ _ _).gx)
      obtain ⟨gq10, h⟩ := gdS h
      obtain ⟨gq11, h⟩ := gdS h
      obtain ⟨M4m, e_M4m, h⟩ := bndS h
      have q_M4m : GX M M4m := GX.tr q_M3m (by rw [e_M4m]; exact (EQ_I _ _ _ _).gx)
      obtain ⟨-, e⟩ := retS h
      rw [← e]
      exact q_M4m
set_option maxRecDepth 100000 in
set_option maxHeartbeats 4000000 in
theorem b_J5_append_3fe6f_b10 {K : Kt} {X : Xt} (hp : St K) (hk : KC K) {mc ms : Nat} (hB : Bx K X { frames := 4, cells := mc, slots := ms, locals := 92 } cJ5_append_3fe6f 2 RJ5 (some (.object "java/lang/AbstractStringBuilder"))) {r : Nat} {M1 : Mem} {n0 : Nat} {x1 : Int32} {ce sl : Nat} {M : Mem} (hF : f_J5_append_3fe6f_b10 n0 x1 M = some (r, M1)) (hn : mc + M.2.2.2 = ce + M1.2.2.2) (hz : ms + szM M = sl + szM M1) : Wt K X (QM K X (some (vr r)) M1 mc ms) ce sl M 10 [(0, vr n0), (1, vi x1)] [] := by
  have hg := m_J5_append_3fe6f_b10 hF
  have hg1 := hg.1
  have hg2 := hg.2.1
  unfold f_J5_append_3fe6f_b10 at hF
  refine w_aload_n hB 0 dJ5_append_3fe6f_10 rfl rfl ?_
  obtain ⟨g1, hF⟩ := gdS hF
  obtain ⟨r1, M1m, hc_M1m, hF⟩ := clS hF
  have q_M1m : EQ M M1m := k_J5_isLatin1_aae02 hc_M1m
  have x_M1m := q_M1m.gx
  have n_M1m := q_M1m.1
  have z_M1m := q_M1m.sz
  refine w_callP (M1 := M1m) hB (As := []) (st := []) cw_J5_83 q_656 (hB.2.2.2.2.1 _ q_658) (ci := 10) rfl (dqM g1) (c_J5_isLatin1_aae02 hp hc_M1m) ⟨rfl, rfl⟩ ⟨Nat.le_of_ble_eq_true rfl, Nat.le_of_ble_eq_true rfl⟩ ⟨show ce ≤ mc by omega, show sl ≤ ms by omega⟩ rfl (Nat.le_of_ble_eq_true rfl) dJ5_append_3fe6f_11 rfl ?_ (Or.inl rfl)
  refine w_if_eq hB 45 dJ5_append_3fe6f_14 (by decide) (fun hc => ?_) (fun hc => ?_)
  · replace hF := ifT hc hF
    exact Wt.sub (L' := [(0, vr n0), (1, vi x1)]) [0, 1] rfl (b_J5_append_3fe6f_b45 hp hk hB hF (by omega) (by omega))
  · replace hF := ifF hc hF
    refine w_iload_n hB 1 dJ5_append_3fe6f_17 rfl rfl ?_
    obtain ⟨r2, M2m, hc_M2m, hF⟩ := clS hF
    have q_M2m : EQ M1m M2m := k_J1_canEncode_fc78d hc_M2m
    have x_M2m := q_M2m.gx
    have n_M2m := q_M2m.1
    have z_M2m := q_M2m.sz
    refine w_callS (M1 := M2m) hB (As := [vi x1]) (st := []) cw_J5_191 q_737 (c_J1_canEncode_fc78d hp hc_M2m) ⟨rfl, rfl⟩ ⟨Nat.le_of_ble_eq_true rfl, Nat.le_of_ble_eq_true rfl⟩ ⟨show ce ≤ mc by omega, show sl ≤ ms by omega⟩ rfl (Nat.le_of_ble_eq_true rfl) dJ5_append_3fe6f_18 rfl ?_ (Or.inl rfl)
    refine w_if_eq hB 45 dJ5_append_3fe6f_21 (by decide) (fun hc => ?_) (fun hc => ?_)
    · replace hF := ifT hc hF
      exact Wt.sub (L' := [(0, vr n0), (1, vi x1)]) [0, 1] rfl (b_J5_append_3fe6f_b45 hp hk hB hF (by omega) (by omega))
    · replace hF := ifF hc hF
      refine w_aload_n hB 0 dJ5_append_3fe6f_24 rfl rfl ?_
      refine w_getR hB ff_J4_0 (dqM (GX.dyo x_M2m (GX.dyo x_M1m g1))) q_597 dJ5_append_3fe6f_25 ?_
      refine w_aload_n hB 0 dJ5_append_3fe6f_28 rfl rfl ?_
      refine w_dup hB rfl dJ5_append_3fe6f_29 ?_
      refine w_getI hB ff_J4_3 (dqM (GX.dyo x_M2m (GX.dyo x_M1m g1))) q_600 dJ5_append_3fe6f_30 ?_
      refine w_dupx1 hB rfl rfl dJ5_append_3fe6f_33 ?_
      refine w_iconst hB 1 (by decide) dJ5_append_3fe6f_34 ?_
      refine w_iadd hB dJ5_append_3fe6f_35 ?_
      obtain ⟨M3m, e_M3m, hF⟩ := bndS hF
      have q_M3m : EQ M2m M3m := by rw [e_M3m]; exact EQ_I _ _ _ _
      have x_M3m := q_M3m.gx
      have n_M3m := q_M3m.1
      have z_M3m := q_M3m.sz
      refine w_putI hB ff_J4_3 (dqM (GX.dyo x_M2m (GX.dyo x_M1m g1))) q_600 e_M3m dJ5_append_3fe6f_36 ?_
      refine w_iload_n hB 1 dJ5_append_3fe6f_39 rfl rfl ?_
      refine w_i2b hB dJ5_append_3fe6f_40 ?_
      obtain ⟨g2, hF⟩ := gdS hF
      obtain ⟨g3, hF⟩ := gdS hF
      obtain ⟨M4m, e_M4m, hF⟩ := bndS hF
      have q_M4m : EQ M3m M4m := by rw [e_M4m]; exact EQ_I _ _ _ _
      have x_M4m := q_M4m.gx
      have n_M4m := q_M4m.1
      have z_M4m := q_M4m.sz
      refine w_bast hB (dqM g2) (sl_d g2.1 rfl) g3 e_M4m dJ5_append_3fe6f_41 ?_
      refine w_goto hB 75 dJ5_append_3fe6f_42 (by decide) ?_
      refine w_aload_n hB 0 dJ5_append_3fe6f_75 rfl rfl ?_
      obtain ⟨e1, e2⟩ := retS hF
      subst e2
      have hmc : mc = ce := by omega
      have hms : ms = sl := by omega
      subst hmc
      subst hms
      exact w_aret hB dJ5_append_3fe6f_76 e1
def f_J5_append_3fe6f (n0 : Nat) (x1 : Int32) (M : Mem) : Option (Nat × Mem) :=
  gd (1000 ≤ n0 ∧ dsc M n0 = 11 ∧ n0 - 753 < M.2.2.2) <|
  clv (f_J5_ensureCapacityInternal_d00df n0 ((M.1 n0 3) + 1) M) fun M1m =>
  f_J5_append_3fe6f_b10 n0 x1 M1m
set_option maxRecDepth 100000 in
set_option maxHeartbeats 4000000 in
theorem m_J5_append_3fe6f {n0 : Nat} {x1 : Int32} {M Z : Mem} {r : Nat} (h : f_J5_append_3fe6f n0 x1 M = some (r, Z)) : GX M Z := by
  unfold f_J5_append_3fe6f at h
  obtain ⟨gq0, h⟩ := gdS h
  obtain ⟨M1m, c_M1m, h⟩ := clvS h
  have q_M1m : GX M M1m := GX.tr (GX.refl M) (m_J5_ensureCapacityInternal_d00df c_M1m)
  exact GX.tr q_M1m (m_J5_append_3fe6f_b10 h)
set_option maxRecDepth 100000 in
set_option maxHeartbeats 4000000 in
theorem b_J5_append_3fe6f {K : Kt} {X : Xt} (hp : St K) (hk : KC K) {mc ms : Nat} (hB : Bx K X { frames := 4, cells := mc, slots := ms, locals := 92 } cJ5_append_3fe6f 2 RJ5 (some (.object "java/lang/AbstractStringBuilder"))) {r : Nat} {M1 : Mem} {n0 : Nat} {x1 : Int32} {ce sl : Nat} {M : Mem} (hF : f_J5_append_3fe6f n0 x1 M = some (r, M1)) (hn : mc + M.2.2.2 = ce + M1.2.2.2) (hz : ms + szM M = sl + szM M1) : Wt K X (QM K X (some (vr r)) M1 mc ms) ce sl M 0 [(0, vr n0), (1, vi x1)] [] := by
  have hg := m_J5_append_3fe6f hF
  have hg1 := hg.1
  have hg2 := hg.2.1
  unfold f_J5_append_3fe6f at hF
  refine w_aload_n hB 0 dJ5_append_3fe6f_0 rfl rfl ?_
  refine w_aload_n hB 0 dJ5_append_3fe6f_1 rfl rfl ?_
  obtain ⟨g1, hF⟩ := gdS hF
  refine w_getI hB ff_J4_3 (dqM g1) q_600 dJ5_append_3fe6f_2 ?_
  refine w_iconst hB 1 (by decide) dJ5_append_3fe6f_5 ?_
  refine w_iadd hB dJ5_append_3fe6f_6 ?_
  obtain ⟨M1m, hc_M1m, hF⟩ := clvS hF
  have x_M1m := m_J5_ensureCapacityInternal_d00df hc_M1m
  have xa_M1m := x_M1m.1
  have xb_M1m := x_M1m.2.1
  have hg3 := m_J5_append_3fe6f_b10 hF
  have hg4 := hg3.1
  have hg5 := hg3.2.1
  refine w_callP (M1 := M1m) hB (As := [vi ((M.1 n0 3) + 1)]) (st := []) cw_J5_100 q_624 (selW hB hk.2.2.1) (ci := 10) rfl (dqM g1) (c_J5_ensureCapacityInternal_d00df hp hk hc_M1m) ⟨rfl, rfl⟩ ⟨Nat.le_of_ble_eq_true rfl, Nat.le_of_ble_eq_true rfl⟩ ⟨show ce + (M1m.2.2.2 - M.2.2.2) ≤ mc by omega, show sl + (szM M1m - szM M) ≤ ms by omega⟩ rfl (Nat.le_of_ble_eq_true rfl) dJ5_append_3fe6f_7 rfl ?_ (Or.inr (by omega))
  exact Wt.sub (L' := [(0, vr n0), (1, vi x1)]) [0, 1] rfl (b_J5_append_3fe6f_b10 hp hk hB hF (by omega) (by omega))
theorem c_J5_append_3fe6f {K : Kt} {l : Launch} (hp : St K) (hk : KC K) {r : Nat} {M1 : Mem} {n0 : Nat} {x1 : Int32} {M : Mem} (hF : f_J5_append_3fe6f n0 x1 M = some (r, M1)) : MT K l yJ5_append_3fe6f cJ5_append_3fe6f 2 (some (.object "java/lang/AbstractStringBuilder")) { frames := 4, cells := M1.2.2.2 - M.2.2.2, slots := szM M1 - szM M, locals := 92 } [vr n0, vi x1] M (some (vr r)) M1 (M1.2.2.2 - M.2.2.2) (szM M1 - szM M) := by
  have hg := m_J5_append_3fe6f hF
  have hg1 := hg.1
  have hg2 := hg.2.1
  exact MT_of (by decide) rfl (Nat.le_of_ble_eq_true rfl) (fun X _ hB _ => b_J5_append_3fe6f hp hk hB hF (by omega) (by omega))
def f_J5_append_c97b9_b48 (n0 : Nat) (x3 : Int32) (M : Mem) : Option (Nat × Mem) :=
  gd (1000 ≤ n0 ∧ dsc M n0 = 11 ∧ n0 - 753 < M.2.2.2) <|
  bnd (setI M n0 3 x3) fun M1m =>
  some (n0, M1m)
set_option maxRecDepth 100000 in
set_option maxHeartbeats 4000000 in
theorem m_J5_append_c97b9_b48 {n0 : Nat} {x3 : Int32} {M Z : Mem} {r : Nat} (h : f_J5_append_c97b9_b48 n0 x3 M = some (r, Z)) : GX M Z := by
  unfold f_J5_append_c97b9_b48 at h
  obtain ⟨gq0, h⟩ := gdS h
  obtain ⟨M1m, e_M1m, h⟩ := bndS h
  have q_M1m : GX M M1m := GX.tr (GX.refl M) (by rw [e_M1m]; exact (EQ_I _ _ _ _).gx)
  obtain ⟨-, e⟩ := retS h
  rw [← e]
  exact q_M1m
set_option maxRecDepth 100000 in
set_option maxHeartbeats 4000000 in
theorem b_J5_append_c97b9_b48 {K : Kt} {X : Xt} (hp : St K) (hk : KC K) {mc ms : Nat} (hB : Bx K X { frames := 4, cells := mc, slots := ms, locals := 92 } cJ5_append_c97b9 4 RJ5 (some (.object "java/lang/AbstractStringBuilder"))) {r : Nat} {M1 : Mem} {n0 : Nat} {x3 : Int32} {ce sl : Nat} {M : Mem} (hF : f_J5_append_c97b9_b48 n0 x3 M = some (r, M1)) (hn : mc + M.2.2.2 = ce + M1.2.2.2) (hz : ms + szM M = sl + szM M1) : Wt K X (QM K X (some (vr r)) M1 mc ms) ce sl M 48 [(0, vr n0), (3, vi x3)] [] := by
  have hg := m_J5_append_c97b9_b48 hF
  have hg1 := hg.1
  have hg2 := hg.2.1
  unfold f_J5_append_c97b9_b48 at hF
  refine w_aload_n hB 0 dJ5_append_c97b9_48 rfl rfl ?_
  refine w_iload_n hB 1 dJ5_append_c97b9_49 rfl rfl ?_
  obtain ⟨g1, hF⟩ := gdS hF
  obtain ⟨M1m, e_M1m, hF⟩ := bndS hF
  have q_M1m : EQ M M1m := by rw [e_M1m]; exact EQ_I _ _ _ _
  have x_M1m := q_M1m.gx
  have n_M1m := q_M1m.1
  have z_M1m := q_M1m.sz
  refine w_putI hB ff_J4_3 (dqM g1) q_600 e_M1m dJ5_append_c97b9_50 ?_
  refine w_aload_n hB 0 dJ5_append_c97b9_53 rfl rfl ?_
  obtain ⟨e1, e2⟩ := retS hF
  subst e2
  have hmc : mc = ce := by omega
  have hms : ms = sl := by omega
  subst hmc
  subst hms
  exact w_aret hB dJ5_append_c97b9_54 e1
def f_J5_append_c97b9_b17 (n0 : Nat) (x1 : Int32) (x2 : Int32) (x3 : Int32) (M : Mem) : Option (Nat × Mem) :=
  gd (1000 ≤ n0 ∧ dsc M n0 = 11 ∧ n0 - 753 < M.2.2.2) <|
  cl (f_J5_isLatin1_aae02 n0 M) fun r1 M1m =>
  if r1 = 0 then
    none
  else
    cl (f_J6_getChars_ba4f3 x1 x3 (M1m.2.2.1 n0 0) M1m) fun r2 M2m =>
    f_J5_append_c97b9_b48 n0 x3 M2m
set_option maxRecDepth 100000 in
set_option maxHeartbeats 4000000 in
theorem m_J5_append_c97b9_b17 {n0 : Nat} {x1 : Int32} {x2 : Int32} {x3 : Int32} {M Z : Mem} {r : Nat} (h : f_J5_append_c97b9_b17 n0 x1 x2 x3 M = some (r, Z)) : GX M Z := by
  unfold f_J5_append_c97b9_b17 at h
  obtain ⟨gq0, h⟩ := gdS h
  obtain ⟨r1, M1m, c_M1m, h⟩ := clS h
  have q_M1m : GX M M1m := GX.tr (GX.refl M) ((k_J5_isLatin1_aae02 c_M1m).gx)
  rcases ifS h with ⟨-, h⟩ | ⟨-, h⟩
  · cases h
  · obtain ⟨r2, M2m, c_M2m, h⟩ := clS h
    have q_M2m : GX M M2m := GX.tr q_M1m ((k_J6_getChars_ba4f3 c_M2m).gx)
    exact GX.tr q_M2m (m_J5_append_c97b9_b48 h)
set_option maxRecDepth 100000 in
set_option maxHeartbeats 4000000 in
theorem b_J5_append_c97b9_b17 {K : Kt} {X : Xt} (hp : St K) (hk : KC K) {mc ms : Nat} (hB : Bx K X { frames := 4, cells := mc, slots := ms, locals := 92 } cJ5_append_c97b9 4 RJ5 (some (.object "java/lang/AbstractStringBuilder"))) {r : Nat} {M1 : Mem} {n0 : Nat} {x1 : Int32} {x2 : Int32} {x3 : Int32} {ce sl : Nat} {M : Mem} (hF : f_J5_append_c97b9_b17 n0 x1 x2 x3 M = some (r, M1)) (hn : mc + M.2.2.2 = ce + M1.2.2.2) (hz : ms + szM M = sl + szM M1) : Wt K X (QM K X (some (vr r)) M1 mc ms) ce sl M 17 [(0, vr n0), (1, vi x1), (2, vi x2), (3, vi x3)] [] := by
  have hg := m_J5_append_c97b9_b17 hF
  have hg1 := hg.1
  have hg2 := hg.2.1
  unfold f_J5_append_c97b9_b17 at hF
  refine w_aload_n hB 0 dJ5_append_c97b9_17 rfl rfl ?_
  obtain ⟨g1, hF⟩ := gdS hF
  obtain ⟨r1, M1m, hc_M1m, hF⟩ := clS hF
  have q_M1m : EQ M M1m := k_J5_isLatin1_aae02 hc_M1m
  have x_M1m := q_M1m.gx
  have n_M1m := q_M1m.1
  have z_M1m := q_M1m.sz
  refine w_callP (M1 := M1m) hB (As := []) (st := []) cw_J5_83 q_656 (hB.2.2.2.2.1 _ q_658) (ci := 10) rfl (dqM g1) (c_J5_isLatin1_aae02 hp hc_M1m) ⟨rfl, rfl⟩ ⟨Nat.le_of_ble_eq_true rfl, Nat.le_of_ble_eq_true rfl⟩ ⟨show ce ≤ mc by omega, show sl ≤ ms by omega⟩ rfl (Nat.le_of_ble_eq_true rfl) dJ5_append_c97b9_18 rfl ?_ (Or.inl rfl)
  refine w_if_eq hB 37 dJ5_append_c97b9_21 (by decide) (fun hc => ?_) (fun hc => ?_)
  · replace hF := ifT hc hF
    refine w_iload_n hB 1 dJ5_append_c97b9_37 rfl rfl ?_
    refine w_iload_n hB 2 dJ5_append_c97b9_38 rfl rfl ?_
    refine w_iload_n hB 3 dJ5_append_c97b9_39 rfl rfl ?_
    refine w_aload_n hB 0 dJ5_append_c97b9_40 rfl rfl ?_
    refine w_getR hB ff_J4_0 (dqM (GX.dyo x_M1m g1)) q_597 dJ5_append_c97b9_41 ?_
    cases hF
  · replace hF := ifF hc hF
    refine w_iload_n hB 1 dJ5_append_c97b9_24 rfl rfl ?_
    refine w_iload_n hB 3 dJ5_append_c97b9_25 rfl rfl ?_
    refine w_aload_n hB 0 dJ5_append_c97b9_26 rfl rfl ?_
    refine w_getR hB ff_J4_0 (dqM (GX.dyo x_M1m g1)) q_597 dJ5_append_c97b9_27 ?_
    obtain ⟨r2, M2m, hc_M2m, hF⟩ := clS hF
    have q_M2m : EQ M1m M2m := k_J6_getChars_ba4f3 hc_M2m
    have x_M2m := q_M2m.gx
    have n_M2m := q_M2m.1
    have z_M2m := q_M2m.sz
    refine w_callS (M1 := M2m) hB (As := [vi x1, vi x3, vr (M1m.2.2.1 n0 0)]) (st := []) cw_J5_248 q_771 (c_J6_getChars_ba4f3 hp hc_M2m) ⟨rfl, rfl⟩ ⟨Nat.le_of_ble_eq_true rfl, Nat.le_of_ble_eq_true rfl⟩ ⟨show ce ≤ mc by omega, show sl ≤ ms by omega⟩ rfl (Nat.le_of_ble_eq_true rfl) dJ5_append_c97b9_30 rfl ?_ (Or.inl rfl)
    refine w_pop hB rfl dJ5_append_c97b9_33 ?_
    refine w_goto hB 48 dJ5_append_c97b9_34 (by decide) ?_
    exact Wt.sub (L' := [(0, vr n0), (3, vi x3)]) [0, 3] rfl (b_J5_append_c97b9_b48 hp hk hB hF (by omega) (by omega))
def f_J5_append_c97b9 (n0 : Nat) (x1 : Int32) (M : Mem) : Option (Nat × Mem) :=
  gd (1000 ≤ n0 ∧ dsc M n0 = 11 ∧ n0 - 753 < M.2.2.2) <|
  bnd (M.1 n0 3) fun a1 =>
  cl (f_J6_stringSize_0f7a4 x1 M) fun r1 M1m =>
  bnd (a1 + r1) fun a2 =>
  clv (f_J5_ensureCapacityInternal_d00df n0 a2 M1m) fun M2m =>
  f_J5_append_c97b9_b17 n0 x1 a1 a2 M2m
set_option maxRecDepth 100000 in
set_option maxHeartbeats 4000000 in
theorem m_J5_append_c97b9 {n0 : Nat} {x1 : Int32} {M Z : Mem} {r : Nat} (h : f_J5_append_c97b9 n0 x1 M = some (r, Z)) : GX M Z := by
  unfold f_J5_append_c97b9 at h
  obtain ⟨gq0, h⟩ := gdS h
  obtain ⟨a1, e_a1, h⟩ := bndS h
  obtain ⟨r1, M1m, c_M1m, h⟩ := clS h
  have q_M1m : GX M M1m := GX.tr (GX.refl M) ((k_J6_stringSize_0f7a4 c_M1m).gx)
  obtain ⟨a2, e_a2, h⟩ := bndS h
  obtain ⟨M2m, c_M2m, h⟩ := clvS h
  have q_M2m : GX M M2m := GX.tr q_M1m (m_J5_ensureCapacityInternal_d00df c_M2m)
  exact GX.tr q_M2m (m_J5_append_c97b9_b17 h)
set_option maxRecDepth 100000 in
set_option maxHeartbeats 4000000 in
theorem b_J5_append_c97b9 {K : Kt} {X : Xt} (hp : St K) (hk : KC K) {mc ms : Nat} (hB : Bx K X { frames := 4, cells := mc, slots := ms, locals := 92 } cJ5_append_c97b9 4 RJ5 (some (.object "java/lang/AbstractStringBuilder"))) {r : Nat} {M1 : Mem} {n0 : Nat} {x1 : Int32} {ce sl : Nat} {M : Mem} (hF : f_J5_append_c97b9 n0 x1 M = some (r, M1)) (hn : mc + M.2.2.2 = ce + M1.2.2.2) (hz : ms + szM M = sl + szM M1) : Wt K X (QM K X (some (vr r)) M1 mc ms) ce sl M 0 [(0, vr n0), (1, vi x1)] [] := by
  have hg := m_J5_append_c97b9 hF
  have hg1 := hg.1
  have hg2 := hg.2.1
  unfold f_J5_append_c97b9 at hF
  refine w_aload_n hB 0 dJ5_append_c97b9_0 rfl rfl ?_
  obtain ⟨g1, hF⟩ := gdS hF
  refine w_getI hB ff_J4_3 (dqM g1) q_600 dJ5_append_c97b9_1 ?_
  obtain ⟨a1, e_a1, hF⟩ := bndS hF
  refine w_istore_n hB (L' := [(2, vi a1), (0, vr n0), (1, vi x1)]) dJ5_append_c97b9_4 rfl (by decide) e_a1 rfl ?_
  refine w_iload_n hB 0 dJ5_append_c97b9_5 rfl rfl ?_
  refine w_iload_n hB 2 dJ5_append_c97b9_6 rfl rfl ?_
  obtain ⟨r1, M1m, hc_M1m, hF⟩ := clS hF
  have q_M1m : EQ M M1m := k_J6_stringSize_0f7a4 hc_M1m
  have x_M1m := q_M1m.gx
  have n_M1m := q_M1m.1
  have z_M1m := q_M1m.sz
  refine w_callS (M1 := M1m) hB (As := [vi x1]) (st := [vi a1]) cw_J5_245 q_768 (c_J6_stringSize_0f7a4 hp hc_M1m) ⟨rfl, rfl⟩ ⟨Nat.le_of_ble_eq_true rfl, Nat.le_of_ble_eq_true rfl⟩ ⟨show ce ≤ mc by omega, show sl ≤ ms by omega⟩ rfl (Nat.le_of_ble_eq_true rfl) dJ5_append_c97b9_7 rfl ?_ (Or.inl rfl)
  refine w_iadd hB dJ5_append_c97b9_10 ?_
  obtain ⟨a2, e_a2, hF⟩ := bndS hF
  refine w_istore_n hB (L' := [(3, vi a2), (2, vi a1), (0, vr n0), (1, vi x1)]) dJ5_append_c97b9_11 rfl (by decide) e_a2 rfl ?_
  refine w_aload_n hB 2 dJ5_append_c97b9_12 rfl rfl ?_
  refine w_iload_n hB 0 dJ5_append_c97b9_13 rfl rfl ?_
  obtain ⟨M2m, hc_M2m, hF⟩ := clvS hF
  have x_M2m := m_J5_ensureCapacityInternal_d00df hc_M2m
  have xa_M2m := x_M2m.1
  have xb_M2m := x_M2m.2.1
  have hg3 := m_J5_append_c97b9_b17 hF
  have hg4 := hg3.1
  have hg5 := hg3.2.1
  refine w_callP (M1 := M2m) hB (As := [vi a2]) (st := []) cw_J5_100 q_624 (selW hB hk.2.2.1) (ci := 10) rfl (dqM (GX.dyo x_M1m g1)) (c_J5_ensureCapacityInternal_d00df hp hk hc_M2m) ⟨rfl, rfl⟩ ⟨Nat.le_of_ble_eq_true rfl, Nat.le_of_ble_eq_true rfl⟩ ⟨show ce + (M2m.2.2.2 - M1m.2.2.2) ≤ mc by omega, show sl + (szM M2m - szM M1m) ≤ ms by omega⟩ rfl (Nat.le_of_ble_eq_true rfl) dJ5_append_c97b9_14 rfl ?_ (Or.inr (by omega))
  exact Wt.sub (L' := [(0, vr n0), (1, vi x1), (2, vi a1), (3, vi a2)]) [2, 3, 1, 0] rfl (b_J5_append_c97b9_b17 hp hk hB hF (by omega) (by omega))
theorem c_J5_append_c97b9 {K : Kt} {l : Launch} (hp : St K) (hk : KC K) {r : Nat} {M1 : Mem} {n0 : Nat} {x1 : Int32} {M : Mem} (hF : f_J5_append_c97b9 n0 x1 M = some (r, M1)) : MT K l yJ5_append_c97b9 cJ5_append_c97b9 4 (some (.object "java/lang/AbstractStringBuilder")) { frames := 4, cells := M1.2.2.2 - M.2.2.2, slots := szM M1 - szM M, locals := 92 } [vr n0, vi x1] M (some (vr r)) M1 (M1.2.2.2 - M.2.2.2) (szM M1 - szM M) := by
  have hg := m_J5_append_c97b9 hF
  have hg1 := hg.1
  have hg2 := hg.2.1
  exact MT_of (by decide) rfl (Nat.le_of_ble_eq_true rfl) (fun X _ hB _ => b_J5_append_c97b9 hp hk hB hF (by omega) (by omega))
def f_J4_append_15ec4_b5 (n0 : Nat) (ns0 : Nat) (M : Mem) : Option (Nat × Mem) :=
  some (n0, M)
set_option maxRecDepth 100000 in
set_option maxHeartbeats 4000000 in
theorem m_J4_append_15ec4_b5 {n0 : Nat} {ns0 : Nat} {M Z : Mem} {r : Nat} (h : f_J4_append_15ec4_b5 n0 ns0 M = some (r, Z)) : GX M Z := by
  unfold f_J4_append_15ec4_b5 at h
  obtain ⟨-, e⟩ := retS h
  rw [← e]
  exact (GX.refl M)
set_option maxRecDepth 100000 in
set_option maxHeartbeats 4000000 in
theorem b_J4_append_15ec4_b5 {K : Kt} {X : Xt} (hp : St K) (hk : KC K) {mc ms : Nat} (hB : Bx K X { frames := 5, cells := mc, slots := ms, locals := 114 } cJ4_append_15ec4 2 RJ4 (some (.object "java/lang/StringBuilder"))) {r : Nat} {M1 : Mem} {n0 : Nat} {ns0 : Nat} {ce sl : Nat} {M : Mem} (hF : f_J4_append_15ec4_b5 n0 ns0 M = some (r, M1)) (hn : mc + M.2.2.2 = ce + M1.2.2.2) (hz : ms + szM M = sl + szM M1) : Wt K X (QM K X (some (vr r)) M1 mc ms) ce sl M 5 [(0, vr n0)] [vr ns0] := by
  have hg := m_J4_append_15ec4_b5 hF
  have hg1 := hg.1
  have hg2 := hg.2.1
  unfold f_J4_append_15ec4_b5 at hF
  refine w_pop hB rfl dJ4_append_15ec4_5 ?_
  refine w_aload_n hB 0 dJ4_append_15ec4_6 rfl rfl ?_
  obtain ⟨e1, e2⟩ := retS hF
  subst e2
  have hmc : mc = ce := by omega
  have hms : ms = sl := by omega
  subst hmc
  subst hms
  exact w_aret hB dJ4_append_15ec4_7 e1
def f_J4_append_15ec4 (n0 : Nat) (n1 : Nat) (M : Mem) : Option (Nat × Mem) :=
  gd (1000 ≤ n0 ∧ dsc M n0 = 11 ∧ n0 - 753 < M.2.2.2) <|
  cl (f_J5_append_cf1ce n0 n1 M) fun o1 M1m =>
  f_J4_append_15ec4_b5 n0 o1 M1m
set_option maxRecDepth 100000 in
set_option maxHeartbeats 4000000 in
theorem m_J4_append_15ec4 {n0 : Nat} {n1 : Nat} {M Z : Mem} {r : Nat} (h : f_J4_append_15ec4 n0 n1 M = some (r, Z)) : GX M Z := by
  unfold f_J4_append_15ec4 at h
  obtain ⟨gq0, h⟩ := gdS h
  obtain ⟨o1, M1m, c_M1m, h⟩ := clS h
  have q_M1m : GX M M1m := GX.tr (GX.refl M) (m_J5_append_cf1ce c_M1m)
  exact GX.tr q_M1m (m_J4_append_15ec4_b5 h)
set_option maxRecDepth 100000 in
set_option maxHeartbeats 4000000 in
theorem b_J4_append_15ec4 {K : Kt} {X : Xt} (hp : St K) (hk : KC K) {mc ms : Nat} (hB : Bx K X { frames := 5, cells := mc, slots := ms, locals := 114 } cJ4_append_15ec4 2 RJ4 (some (.object "java/lang/StringBuilder"))) {r : Nat} {M1 : Mem} {n0 : Nat} {n1 : Nat} {ce sl : Nat} {M : Mem} (hF : f_J4_append_15ec4 n0 n1 M = some (r, M1)) (hn : mc + M.2.2.2 = ce + M1.2.2.2) (hz : ms + szM M = sl + szM M1) : Wt K X (QM K X (some (vr r)) M1 mc ms) ce sl M 0 [(0, vr n0), (1, vr n1)] [] := by
  have hg := m_J4_append_15ec4 hF
  have hg1 := hg.1
  have hg2 := hg.2.1
  unfold f_J4_append_15ec4 at hF
  refine w_aload_n hB 0 dJ4_append_15ec4_0 rfl rfl ?_
  refine w_aload_n hB 1 dJ4_append_15ec4_1 rfl rfl ?_
  obtain ⟨g1, hF⟩ := gdS hF
  obtain ⟨o1, M1m, hc_M1m, hF⟩ := clS hF
  have x_M1m := m_J5_append_cf1ce hc_M1m
  have xa_M1m := x_M1m.1
  have xb_M1m := x_M1m.2.1
  have hg3 := m_J4_append_15ec4_b5 hF
  have hg4 := hg3.1
  have hg5 := hg3.2.1
  refine w_callSU (M1 := M1m) (na := 1) (y := yJ5_append_cf1ce) hB (As := [vr n1]) (st := []) (mem5 q_615 q_1217 q_609 q_616 q_22) q_617 ⟨by decide, by decide +kernel⟩ (ci := 10) rfl (dqM g1) (c_J5_append_cf1ce hp hk hc_M1m) ⟨rfl, rfl⟩ ⟨Nat.le_of_ble_eq_true rfl, Nat.le_of_ble_eq_true rfl⟩ ⟨show ce + (M1m.2.2.2 - M.2.2.2) ≤ mc by omega, show sl + (szM M1m - szM M) ≤ ms by omega⟩ rfl (Nat.le_of_ble_eq_true rfl) dJ4_append_15ec4_2 rfl ?_ (Or.inr (by omega))
  exact Wt.sub (L' := [(0, vr n0)]) [0] rfl (b_J4_append_15ec4_b5 hp hk hB hF (by omega) (by omega))
theorem c_J4_append_15ec4 {K : Kt} {l : Launch} (hp : St K) (hk : KC K) {r : Nat} {M1 : Mem} {n0 : Nat} {n1 : Nat} {M : Mem} (hF : f_J4_append_15ec4 n0 n1 M = some (r, M1)) : MT K l yJ4_append_15ec4 cJ4_append_15ec4 2 (some (.object "java/lang/StringBuilder")) { frames := 5, cells := M1.2.2.2 - M.2.2.2, slots := szM M1 - szM M, locals := 114 } [vr n0, vr n1] M (some (vr r)) M1 (M1.2.2.2 - M.2.2.2) (szM M1 - szM M) := by
  have hg := m_J4_append_15ec4 hF
  have hg1 := hg.1
  have hg2 := hg.2.1
  exact MT_of (by decide) rfl (Nat.le_of_ble_eq_true rfl) (fun X _ hB _ => b_J4_append_15ec4 hp hk hB hF (by omega) (by omega))
def f_J4_append_cf468_b5 (n0 : Nat) (ns0 : Nat) (M : Mem) : Option (Nat × Mem) :=
  some (n0, M)
set_option maxRecDepth 100000 in
set_option maxHeartbeats 4000000 in
theorem m_J4_append_cf468_b5 {n0 : Nat} {ns0 : Nat} {M Z : Mem} {r : Nat} (h : f_J4_append_cf468_b5 n0 ns0 M = some (r, Z)) : GX M Z := by
  unfold f_J4_append_cf468_b5 at h
  obtain ⟨-, e⟩ := retS h
  rw [← e]
  exact (GX.refl M)
set_option maxRecDepth 100000 in
set_option maxHeartbeats 4000000 in
theorem b_J4_append_cf468_b5 {K : Kt} {X : Xt} (hp : St K) (hk : KC K) {mc ms : Nat} (hB : Bx K X { frames := 5, cells := mc, slots := ms, locals := 113 } cJ4_append_cf468 2 RJ4 (some (.object "java/lang/StringBuilder"))) {r : Nat} {M1 : Mem} {n0 : Nat} {ns0 : Nat} {ce sl : Nat} {M : Mem} (hF : f_J4_append_cf468_b5 n0 ns0 M = some (r, M1)) (hn : mc + M.2.2.2 = ce + M1.2.2.2) (hz : ms + szM M = sl + szM M1) : Wt K X (QM K X (some (vr r)) M1 mc ms) ce sl M 5 [(0, vr n0)] [vr ns0] := by
  have hg := m_J4_append_cf468_b5 hF
  have hg1 := hg.1
  have hg2 := hg.2.1
  unfold f_J4_append_cf468_b5 at hF
  refine w_pop hB rfl dJ4_append_cf468_5 ?_
  refine w_aload_n hB 0 dJ4_append_cf468_6 rfl rfl ?_
  obtain ⟨e1, e2⟩ := retS hF
  subst e2
  have hmc : mc = ce := by omega
  have hms : ms = sl := by omega
  subst hmc
  subst hms
  exact w_aret hB dJ4_append_cf468_7 e1
def f_J4_append_cf468 (n0 : Nat) (x1 : Int32) (M : Mem) : Option (Nat × Mem) :=
  gd (1000 ≤ n0 ∧ dsc M n0 = 11 ∧ n0 - 753 < M.2.2.2) <|
  cl (f_J5_append_3fe6f n0 x1 M) fun o1 M1m =>
  f_J4_append_cf468_b5 n0 o1 M1m
set_option maxRecDepth 100000 in
set_option maxHeartbeats 4000000 in
theorem m_J4_append_cf468 {n0 : Nat} {x1 : Int32} {M Z : Mem} {r : Nat} (h : f_J4_append_cf468 n0 x1 M = some (r, Z)) : GX M Z := by
  unfold f_J4_append_cf468 at h
  obtain ⟨gq0, h⟩ := gdS h
  obtain ⟨o1, M1m, c_M1m, h⟩ := clS h
  have q_M1m : GX M M1m := GX.tr (GX.refl M) (m_J5_append_3fe6f c_M1m)
  exact GX.tr q_M1m (m_J4_append_cf468_b5 h)
set_option maxRecDepth 100000 in
set_option maxHeartbeats 4000000 in
theorem b_J4_append_cf468 {K : Kt} {X : Xt} (hp : St K) (hk : KC K) {mc ms : Nat} (hB : Bx K X { frames := 5, cells := mc, slots := ms, locals := 113 } cJ4_append_cf468 2 RJ4 (some (.object "java/lang/StringBuilder"))) {r : Nat} {M1 : Mem} {n0 : Nat} {x1 : Int32} {ce sl : Nat} {M : Mem} (hF : f_J4_append_cf468 n0 x1 M = some (r, M1)) (hn : mc + M.2.2.2 = ce + M1.2.2.2) (hz : ms + szM M = sl + szM M1) : Wt K X (QM K X (some (vr r)) M1 mc ms) ce sl M 0 [(0, vr n0), (1, vi x1)] [] := by
  have hg := m_J4_append_cf468 hF
  have hg1 := hg.1
  have hg2 := hg.2.1
  unfold f_J4_append_cf468 at hF
  refine w_aload_n hB 0 dJ4_append_cf468_0 rfl rfl ?_
  refine w_iload_n hB 1 dJ4_append_cf468_1 rfl rfl ?_
  obtain ⟨g1, hF⟩ := gdS hF
  obtain ⟨o1, M1m, hc_M1m, hF⟩ := clS hF
  have x_M1m := m_J5_append_3fe6f hc_M1m
  have xa_M1m := x_M1m.1
  have xb_M1m := x_M1m.2.1
  have hg3 := m_J4_append_cf468_b5 hF
  have hg4 := hg3.1
  have hg5 := hg3.2.1
  refine w_callSU (M1 := M1m) (na := 1) (y := yJ5_append_3fe6f) hB (As := [vi x1]) (st := []) (mem5 q_733 q_1224 q_609 q_734 q_22) q_735 ⟨by decide, by decide +kernel⟩ (ci := 10) rfl (dqM g1) (c_J5_append_3fe6f hp hk hc_M1m) ⟨rfl, rfl⟩ ⟨Nat.le_of_ble_eq_true rfl, Nat.le_of_ble_eq_true rfl⟩ ⟨show ce + (M1m.2.2.2 - M.2.2.2) ≤ mc by omega, show sl + (szM M1m - szM M) ≤ ms by omega⟩ rfl (Nat.le_of_ble_eq_true rfl) dJ4_append_cf468_2 rfl ?_ (Or.inr (by omega))
  exact Wt.sub (L' := [(0, vr n0)]) [0] rfl (b_J4_append_cf468_b5 hp hk hB hF (by omega) (by omega))
theorem c_J4_append_cf468 {K : Kt} {l : Launch} (hp : St K) (hk : KC K) {r : Nat} {M1 : Mem} {n0 : Nat} {x1 : Int32} {M : Mem} (hF : f_J4_append_cf468 n0 x1 M = some (r, M1)) : MT K l yJ4_append_cf468 cJ4_append_cf468 2 (some (.object "java/lang/StringBuilder")) { frames := 5, cells := M1.2.2.2 - M.2.2.2, slots := szM M1 - szM M, locals := 113 } [vr n0, vi x1] M (some (vr r)) M1 (M1.2.2.2 - M.2.2.2) (szM M1 - szM M) := by
  have hg := m_J4_append_cf468 hF
  have hg1 := hg.1
  have hg2 := hg.2.1
  exact MT_of (by decide) rfl (Nat.le_of_ble_eq_true rfl) (fun X _ hB _ => b_J4_append_cf468 hp hk hB hF (by omega) (by omega))
def f_J4_append_bf812_b5 (n0 : Nat) (ns0 : Nat) (M : Mem) : Option (Nat × Mem) :=
  some (n0, M)
set_option maxRecDepth 100000 in
set_option maxHeartbeats 4000000 in
theorem m_J4_append_bf812_b5 {n0 : Nat} {ns0 : Nat} {M Z : Mem} {r : Nat} (h : f_J4_append_bf812_b5 n0 ns0 M = some (r, Z)) : GX M Z := by
  unfold f_J4_append_bf812_b5 at h
  obtain ⟨-, e⟩ := retS h
  rw [← e]
  exact (GX.refl M)
set_option maxRecDepth 100000 in
set_option maxHeartbeats 4000000 in
theorem b_J4_append_bf812_b5 {K : Kt} {X : Xt} (hp : St K) (hk : KC K) {mc ms : Nat} (hB : Bx K X { frames := 5, cells := mc, slots := ms, locals := 115 } cJ4_append_bf812 2 RJ4 (some (.object "java/lang/StringBuilder"))) {r : Nat} {M1 : Mem} {n0 : Nat} {ns0 : Nat} {ce sl : Nat} {M : Mem} (hF : f_J4_append_bf812_b5 n0 ns0 M = some (r, M1)) (hn : mc + M.2.2.2 = ce + M1.2.2.2) (hz : ms + szM M = sl + szM M1) : Wt K X (QM K X (some (vr r)) M1 mc ms) ce sl M 5 [(0, vr n0)] [vr ns0] := by
  have hg := m_J4_append_bf812_b5 hF
  have hg1 := hg.1
  have hg2 := hg.2.1
  unfold f_J4_append_bf812_b5 at hF
  refine w_pop hB rfl dJ4_append_bf812_5 ?_
  refine w_aload_n hB 0 dJ4_append_bf812_6 rfl rfl ?_
  obtain ⟨e1, e2⟩ := retS hF
  subst e2
  have hmc : mc = ce := by omega
  have hms : ms = sl := by omega
  subst hmc
  subst hms
  exact w_aret hB dJ4_append_bf812_7 e1
def f_J4_append_bf812 (n0 : Nat) (x1 : Int32) (M : Mem) : Option (Nat × Mem) :=
  gd (1000 ≤ n0 ∧ dsc M n0 = 11 ∧ n0 - 753 < M.2.2.2) <|
  cl (f_J5_append_c97b9 n0 x1 M) fun o1 M1m =>
  f_J4_append_bf812_b5 n0 o1 M1m
set_option maxRecDepth 100000 in
set_option maxHeartbeats 4000000 in
theorem m_J4_append_bf812 {n0 : Nat} {x1 : Int32} {M Z : Mem} {r : Nat} (h : f_J4_append_bf812 n0 x1 M = some (r, Z)) : GX M Z := by
  unfold f_J4_append_bf812 at h
  obtain ⟨gq0, h⟩ := gdS h
  obtain ⟨o1, M1m, c_M1m, h⟩ := clS h
  have q_M1m : GX M M1m := GX.tr (GX.refl M) (m_J5_append_c97b9 c_M1m)
  exact GX.tr q_M1m (m_J4_append_bf812_b5 h)
set_option maxRecDepth 100000 in
set_option maxHeartbeats 4000000 in
theorem b_J4_append_bf812 {K : Kt} {X : Xt} (hp : St K) (hk : KC K) {mc ms : Nat} (hB : Bx K X { frames := 5, cells := mc, slots := ms, locals := 115 } cJ4_append_bf812 2 RJ4 (some (.object "java/lang/StringBuilder"))) {r : Nat} {M1 : Mem} {n0 : Nat} {x1 : Int32} {ce sl : Nat} {M : Mem} (hF : f_J4_append_bf812 n0 x1 M = some (r, M1)) (hn : mc + M.2.2.2 = ce + M1.2.2.2) (hz : ms + szM M = sl + szM M1) : Wt K X (QM K X (some (vr r)) M1 mc ms) ce sl M 0 [(0, vr n0), (1, vi x1)] [] := by
  have hg := m_J4_append_bf812 hF
  have hg1 := hg.1
  have hg2 := hg.2.1
  unfold f_J4_append_bf812 at hF
  refine w_aload_n hB 0 dJ4_append_bf812_0 rfl rfl ?_
  refine w_iload_n hB 1 dJ4_append_bf812_1 rfl rfl ?_
  obtain ⟨g1, hF⟩ := gdS hF
  obtain ⟨o1, M1m, hc_M1m, hF⟩ := clS hF
  have x_M1m := m_J5_append_c97b9 hc_M1m
  have xa_M1m := x_M1m.1
  have xb_M1m := x_M1m.2.1
  have hg3 := m_J4_append_bf812_b5 hF
  have hg4 := hg3.1
  have hg5 := hg3.2.1
  refine w_callSU (M1 := M1m) (na := 1) (y := yJ5_append_c97b9) hB (As := [vi x1]) (st := []) (mem5 q_764 q_1225 q_609 q_765 q_22) q_766 ⟨by decide, by decide +kernel⟩ (ci := 10) rfl (dqM g1) (c_J5_append_c97b9 hp hk hc_M1m) ⟨rfl, rfl⟩ ⟨Nat.le_of_ble_eq_true rfl, Nat.le_of_ble_eq_true rfl⟩ ⟨show ce + (M1m.2.2.2 - M.2.2.2) ≤ mc by omega, show sl + (szM M1m - szM M) ≤ ms by omega⟩ rfl (Nat.le_of_ble_eq_true rfl) dJ4_append_bf812_2 rfl ?_ (Or.inr (by omega))
  exact Wt.sub (L' := [(0, vr n0)]) [0] rfl (b_J4_append_bf812_b5 hp hk hB hF (by omega) (by omega))
theorem c_J4_append_bf812 {K : Kt} {l : Launch} (hp : St K) (hk : KC K) {r : Nat} {M1 : Mem} {n0 : Nat} {x1 : Int32} {M : Mem} (hF : f_J4_append_bf812 n0 x1 M = some (r, M1)) : MT K l yJ4_append_bf812 cJ4_append_bf812 2 (some (.object "java/lang/StringBuilder")) { frames := 5, cells := M1.2.2.2 - M.2.2.2, slots := szM M1 - szM M, locals := 115 } [vr n0, vi x1] M (some (vr r)) M1 (M1.2.2.2 - M.2.2.2) (szM M1 - szM M) := by
  have hg := m_J4_append_bf812 hF
  have hg1 := hg.1
  have hg2 := hg.2.1
  exact MT_of (by decide) rfl (Nat.le_of_ble_eq_true rfl) (fun X _ hB _ => b_J4_append_bf812 hp hk hB hF (by omega) (by omega))
def f_J0_init_db425_b94 (ns0 : Nat) (ns1 : Nat) (M : Mem) : Option Mem :=
  gd (1000 ≤ ns0 ∧ dsc M ns0 = 10 ∧ ns0 - 753 < M.2.2.2) <|
  bnd (setR M ns0 0 ns1) fun M1m =>
  some M1m
set_option maxRecDepth 100000 in
set_option maxHeartbeats 4000000 in
theorem m_J0_init_db425_b94 {ns0 : Nat} {ns1 : Nat} {M Z : Mem} (h : f_J0_init_db425_b94 ns0 ns1 M = some Z) : GX M Z := by
  unfold f_J0_init_db425_b94 at h
  obtain ⟨gq0, h⟩ := gdS h
  obtain ⟨M1m, e_M1m, h⟩ := bndS h
  have q_M1m : GX M M1m := GX.tr (GX.refl M) (by rw [e_M1m]; exact (EQ_R _ _ _ (by omega)).gx)
  rw [← Option.some.inj h]
  exact q_M1m
set_option maxRecDepth 100000 in
set_option maxHeartbeats 4000000 in
theorem b_J0_init_db425_b94 {K : Kt} {X : Xt} (hp : St K) (hk : KC K) {mc ms : Nat} (hB : Bx K X { frames := 3, cells := mc, slots := ms, locals := 72 } cJ0_init_db425 5 RJ0 none) (hi : X.2.2.2.2.2.2.2.2.1.name = "<init>") {M1 : Mem} {ns0 : Nat} {ns1 : Nat} {ce sl : Nat} {M : Mem} (hF : f_J0_init_db425_b94 ns0 ns1 M = some M1) (hn : mc + M.2.2.2 = ce + M1.2.2.2) (hz : ms + szM M = sl + szM M1) : Wt K X (QM K X none M1 mc ms) ce sl M 94 [] [vr ns1, vr ns0] := by
  have hg := m_J0_init_db425_b94 hF
  have hg1 := hg.1
  have hg2 := hg.2.1
  unfold f_J0_init_db425_b94 at hF
  obtain ⟨g1, hF⟩ := gdS hF
  obtain ⟨M1m, e_M1m, hF⟩ := bndS hF
  have q_M1m : EQ M M1m := by rw [e_M1m]; exact EQ_R _ _ _ (by omega)
  have x_M1m := q_M1m.gx
  have n_M1m := q_M1m.1
  have z_M1m := q_M1m.sz
  refine w_putRFd hB ff_J0_0 hi (dqM g1) g1.1 q_858 (ty := .array .byte) rfl (nar_arr _ _) (fit_arr _ _) e_M1m dJ0_init_db425_94 ?_
  cases hF
  have hmc : mc = ce := by omega
  have hms : ms = sl := by omega
  subst hmc
  subst hms
  exact w_vret hB dJ0_init_db425_97
def f_J0_init_db425_b79 (n0 : Nat) (n3 : Nat) (x4 : Int32) (M : Mem) : Option Mem :=
  gd (1000 ≤ n0 ∧ dsc M n0 = 10 ∧ n0 - 753 < M.2.2.2) <|
  bnd (setI M n0 1 1) fun M1m =>
  cl (f_J7_copyOfRange_39247 n3 0 (x4 <<< ((1 : Int32) &&& 31)) M1m) fun o1 M2m =>
  f_J0_init_db425_b94 n0 o1 M2m
set_option maxRecDepth 100000 in
set_option maxHeartbeats 4000000 in
theorem m_J0_init_db425_b79 {n0 : Nat} {n3 : Nat} {x4 : Int32} {M Z : Mem} (h : f_J0_init_db425_b79 n0 n3 x4 M = some Z) : GX M Z := by
  unfold f_J0_init_db425_b79 at h
  obtain ⟨gq0, h⟩ := gdS h
  obtain ⟨M1m, e_M1m, h⟩ := bndS h
  have q_M1m : GX M M1m := GX.tr (GX.refl M) (by rw [e_M1m]; exact (EQ_I _ _ _ _).gx)
  obtain ⟨o1, M2m, c_M2m, h⟩ := clS h
  have q_M2m : GX M M2m := GX.tr q_M1m (m_J7_copyOfRange_39247 c_M2m)
  exact GX.tr q_M2m (m_J0_init_db425_b94 h)
set_option maxRecDepth 100000 in
set_option maxHeartbeats 4000000 in
theorem b_J0_init_db425_b79 {K : Kt} {X : Xt} (hp : St K) (hk : KC K) {mc ms : Nat} (hB : Bx K X { frames := 3, cells := mc, slots := ms, locals := 72 } cJ0_init_db425 5 RJ0 none) (hi : X.2.2.2.2.2.2.2.2.1.name = "<init>") {M1 : Mem} {n0 : Nat} {n3 : Nat} {x4 : Int32} {ce sl : Nat} {M : Mem} (hF : f_J0_init_db425_b79 n0 n3 x4 M = some M1) (hn : mc + M.2.2.2 = ce + M1.2.2.2) (hz : ms + szM M = sl + szM M1) : Wt K X (QM K X none M1 mc ms) ce sl M 79 [(0, vr n0), (3, vr n3), (4, vi x4)] [] := by
  have hg := m_J0_init_db425_b79 hF
  have hg1 := hg.1
  have hg2 := hg.2.1
  unfold f_J0_init_db425_b79 at hF
  refine w_aload_n hB 0 dJ0_init_db425_79 rfl rfl ?_
  refine w_iconst hB 1 (by decide) dJ0_init_db425_80 ?_
  obtain ⟨g1, hF⟩ := gdS hF
  obtain ⟨M1m, e_M1m, hF⟩ := bndS hF
  have q_M1m : EQ M M1m := by rw [e_M1m]; exact EQ_I _ _ _ _
  have x_M1m := q_M1m.gx
  have n_M1m := q_M1m.1
  have z_M1m := q_M1m.sz
  refine w_putIFd hB ff_J0_1 hi (dqM g1) q_859 (ty := .byte) rfl rfl rfl e_M1m dJ0_init_db425_81 ?_
  refine w_aload_n hB 0 dJ0_init_db425_84 rfl rfl ?_
  refine w_aload_n hB 1 dJ0_init_db425_85 rfl rfl ?_
  refine w_iconst hB 0 (by decide) dJ0_init_db425_86 ?_
  refine w_iload hB 2 dJ0_init_db425_87 rfl ?_
  refine w_iconst hB 1 (by decide) dJ0_init_db425_89 ?_
  refine w_ishl hB dJ0_init_db425_90 ?_
  obtain ⟨o1, M2m, hc_M2m, hF⟩ := clS hF
  have x_M2m := m_J7_copyOfRange_39247 hc_M2m
  have xa_M2m := x_M2m.1
  have xb_M2m := x_M2m.2.1
  have hg3 := m_J0_init_db425_b94 hF
  have hg4 := hg3.1
  have hg5 := hg3.2.1
  refine w_callS (M1 := M2m) hB (As := [vr n3, vi 0, vi (x4 <<< ((1 : Int32) &&& 31))]) (st := [vr n0]) cw_J0_54 q_837 (c_J7_copyOfRange_39247 hp hk hc_M2m) ⟨rfl, rfl⟩ ⟨Nat.le_of_ble_eq_true rfl, Nat.le_of_ble_eq_true rfl⟩ ⟨show ce + (M2m.2.2.2 - M1m.2.2.2) ≤ mc by omega, show sl + (szM M2m - szM M1m) ≤ ms by omega⟩ rfl (Nat.le_of_ble_eq_true rfl) dJ0_init_db425_91 rfl ?_ (Or.inr (by omega))
  exact Wt.sub (L' := []) [] rfl (b_J0_init_db425_b94 hp hk hB hi hF (by omega) (by omega))
def f_J0_init_db425_b35 (ns0 : Nat) (ns1 : Nat) (M : Mem) : Option Mem :=
  gd (1000 ≤ ns0 ∧ dsc M ns0 = 10 ∧ ns0 - 753 < M.2.2.2) <|
  bnd (setR M ns0 0 ns1) fun M1m =>
  some M1m
set_option maxRecDepth 100000 in
set_option maxHeartbeats 4000000 in
theorem m_J0_init_db425_b35 {ns0 : Nat} {ns1 : Nat} {M Z : Mem} (h : f_J0_init_db425_b35 ns0 ns1 M = some Z) : GX M Z := by
  unfold f_J0_init_db425_b35 at h
  obtain ⟨gq0, h⟩ := gdS h
  obtain ⟨M1m, e_M1m, h⟩ := bndS h
  have q_M1m : GX M M1m := GX.tr (GX.refl M) (by rw [e_M1m]; exact (EQ_R _ _ _ (by omega)).gx)
  rw [← Option.some.inj h]
  exact q_M1m
set_option maxRecDepth 100000 in
set_option maxHeartbeats 4000000 in
theorem b_J0_init_db425_b35 {K : Kt} {X : Xt} (hp : St K) (hk : KC K) {mc ms : Nat} (hB : Bx K X { frames := 3, cells := mc, slots := ms, locals := 72 } cJ0_init_db425 5 RJ0 none) (hi : X.2.2.2.2.2.2.2.2.1.name = "<init>") {M1 : Mem} {ns0 : Nat} {ns1 : Nat} {ce sl : Nat} {M : Mem} (hF : f_J0_init_db425_b35 ns0 ns1 M = some M1) (hn : mc + M.2.2.2 = ce + M1.2.2.2) (hz : ms + szM M = sl + szM M1) : Wt K X (QM K X none M1 mc ms) ce sl M 35 [] [vr ns1, vr ns0] := by
  have hg := m_J0_init_db425_b35 hF
  have hg1 := hg.1
  have hg2 := hg.2.1
  unfold f_J0_init_db425_b35 at hF
  obtain ⟨g1, hF⟩ := gdS hF
  obtain ⟨M1m, e_M1m, hF⟩ := bndS hF
  have q_M1m : EQ M M1m := by rw [e_M1m]; exact EQ_R _ _ _ (by omega)
  have x_M1m := q_M1m.gx
  have n_M1m := q_M1m.1
  have z_M1m := q_M1m.sz
  refine w_putRFd hB ff_J0_0 hi (dqM g1) g1.1 q_858 (ty := .array .byte) rfl (nar_arr _ _) (fit_arr _ _) e_M1m dJ0_init_db425_35 ?_
  refine w_goto hB 97 dJ0_init_db425_38 (by decide) ?_
  cases hF
  have hmc : mc = ce := by omega
  have hms : ms = sl := by omega
  subst hmc
  subst hms
  exact w_vret hB dJ0_init_db425_97
def f_J0_init_db425 (n0 : Nat) (n1 : Nat) (n2 : Nat) (M : Mem) : Option Mem :=
  gd (1000 ≤ n0 ∧ dsc M n0 = 10 ∧ n0 - 753 < M.2.2.2) <|
  gd (1000 ≤ n1 ∧ dsc M n1 = 11 ∧ n1 - 753 < M.2.2.2) <|
  cl (f_J5_getValue_6d5f1 n1 M) fun o1 M1m =>
  cl (f_J4_length_8abf5 n1 M1m) fun r1 M2m =>
  cl (f_J5_isLatin1_aae02 n1 M2m) fun r2 M3m =>
  if r2 = 0 then
    if (1 : Int32) = 0 then
      f_J0_init_db425_b79 n0 o1 r1 M3m
    else
      if (M3m.1 n1 2) = 0 then
        f_J0_init_db425_b79 n0 o1 r1 M3m
      else
        none
  else
    bnd (setI M3m n0 1 0) fun M4m =>
    cl (f_J7_copyOfRange_39247 o1 0 r1 M4m) fun o2 M5m =>
    f_J0_init_db425_b35 n0 o2 M5m
set_option maxRecDepth 100000 in
set_option maxHeartbeats 4000000 in
theorem m_J0_init_db425 {n0 : Nat} {n1 : Nat} {n2 : Nat} {M Z : Mem} (h : f_J0_init_db425 n0 n1 n2 M = some Z) : GX M Z := by
  unfold f_J0_init_db425 at h
  obtain ⟨gq0, h⟩ := gdS h
  obtain ⟨gq1, h⟩ := gdS h
  obtain ⟨o1, M1m, c_M1m, h⟩ := clS h
  have q_M1m : GX M M1m := GX.tr (GX.refl M) ((k_J5_getValue_6d5f1 c_M1m).gx)
  obtain ⟨r1, M2m, c_M2m, h⟩ := clS h
  have q_M2m : GX M M2m := GX.tr q_M1m ((k_J4_length_8abf5 c_M2m).gx)
  obtain ⟨r2, M3m, c_M3m, h⟩ := clS h
  have q_M3m : GX M M3m := GX.tr q_M2m ((k_J5_isLatin1_aae02 c_M3m).gx)
  rcases ifS h with ⟨-, h⟩ | ⟨-, h⟩
  · rcases ifS h with ⟨-, h⟩ | ⟨-, h⟩
    · exact GX.tr q_M3m (m_J0_init_db425_b79 h)
    · rcases ifS h with ⟨-, h⟩ | ⟨-, h⟩
      · exact GX.tr q_M3m (m_J0_init_db425_b79 h)
      · cases h
  · obtain ⟨M4m, e_M4m, h⟩ := bndS h
    have q_M4m : GX M M4m := GX.tr q_M3m (by rw [e_M4m]; exact (EQ_I _ _ _ _).gx)
    obtain ⟨o2, M5m, c_M5m, h⟩ := clS h
    have q_M5m : GX M M5m := GX.tr q_M4m (m_J7_copyOfRange_39247 c_M5m)
    exact GX.tr q_M5m (m_J0_init_db425_b35 h)
set_option maxRecDepth 100000 in
set_option maxHeartbeats 4000000 in
theorem b_J0_init_db425 {K : Kt} {X : Xt} (hp : St K) (hk : KC K) {mc ms : Nat} (hB : Bx K X { frames := 3, cells := mc, slots := ms, locals := 72 } cJ0_init_db425 5 RJ0 none) (hi : X.2.2.2.2.2.2.2.2.1.name = "<init>") {M1 : Mem} {n0 : Nat} {n1 : Nat} {n2 : Nat} {ce sl : Nat} {M : Mem} (hF : f_J0_init_db425 n0 n1 n2 M = some M1) (hn : mc + M.2.2.2 = ce + M1.2.2.2) (hz : ms + szM M = sl + szM M1) : Wt K X (QM K X none M1 mc ms) ce sl M 0 [(0, vr n0), (1, vr n1), (2, vr n2)] [] := by
  have hg := m_J0_init_db425 hF
  have hg1 := hg.1
  have hg2 := hg.2.1
  unfold f_J0_init_db425 at hF
  refine w_aload_n hB 0 dJ0_init_db425_0 rfl rfl ?_
  obtain ⟨g1, hF⟩ := gdS hF
  refine w_objinit hB (Or.inr g1.1) q_821 q_43 q_oc ⟨Nat.le_of_ble_eq_true rfl, Nat.le_of_ble_eq_true rfl⟩ dJ0_init_db425_1 ?_
  refine w_aload_n hB 1 dJ0_init_db425_4 rfl rfl ?_
  obtain ⟨g2, hF⟩ := gdS hF
  obtain ⟨o1, M1m, hc_M1m, hF⟩ := clS hF
  have q_M1m : EQ M M1m := k_J5_getValue_6d5f1 hc_M1m
  have x_M1m := q_M1m.gx
  have n_M1m := q_M1m.1
  have z_M1m := q_M1m.sz
  refine w_callP (M1 := M1m) hB (As := []) (st := []) cw_J0_552 q_823 (hB.2.2.2.2.1 _ q_825) (ci := 10) rfl (dqM g2) (c_J5_getValue_6d5f1 hp hc_M1m) ⟨rfl, rfl⟩ ⟨Nat.le_of_ble_eq_true rfl, Nat.le_of_ble_eq_true rfl⟩ ⟨show ce ≤ mc by omega, show sl ≤ ms by omega⟩ rfl (Nat.le_of_ble_eq_true rfl) dJ0_init_db425_5 rfl ?_ (Or.inl rfl)
  refine w_astore_n hB (L' := [(3, vr o1), (0, vr n0), (1, vr n1), (2, vr n2)]) dJ0_init_db425_8 rfl (by decide) rfl ?_
  refine w_aload_n hB 2 dJ0_init_db425_9 rfl rfl ?_
  obtain ⟨r1, M2m, hc_M2m, hF⟩ := clS hF
  have q_M2m : EQ M1m M2m := k_J4_length_8abf5 hc_M2m
  have x_M2m := q_M2m.gx
  have n_M2m := q_M2m.1
  have z_M2m := q_M2m.sz
  refine w_callO (M1 := M2m) (na := 0) (x := yJ5_length_8abf5) (y := yJ4_length_8abf5) hB (owner := RJ5) (As := []) (st := []) (mem6 q_827 q_829 q_828 q_830 q_831 q_23) q_832 q_834 ⟨by decide, by decide, by decide +kernel⟩ (ci := 10) rfl (dqM (GX.dyo x_M1m g2)) (c_J4_length_8abf5 hp hc_M2m) ⟨rfl, rfl⟩ ⟨Nat.le_of_ble_eq_true rfl, Nat.le_of_ble_eq_true rfl⟩ ⟨show ce ≤ mc by omega, show sl ≤ ms by omega⟩ rfl (Nat.le_of_ble_eq_true rfl) dJ0_init_db425_10 rfl ?_ (Or.inl rfl)
  refine w_istore hB (L' := [(4, vi r1), (3, vr o1), (0, vr n0), (1, vr n1), (2, vr n2)]) dJ0_init_db425_13 (by decide) rfl rfl ?_
  refine w_aload_n hB 3 dJ0_init_db425_15 rfl rfl ?_
  obtain ⟨r2, M3m, hc_M3m, hF⟩ := clS hF
  have q_M3m : EQ M2m M3m := k_J5_isLatin1_aae02 hc_M3m
  have x_M3m := q_M3m.gx
  have n_M3m := q_M3m.1
  have z_M3m := q_M3m.sz
  refine w_callP (M1 := M3m) hB (As := []) (st := []) cw_J0_1047 q_656 (hB.2.2.2.2.1 _ q_658) (ci := 10) rfl (dqM (GX.dyo x_M2m (GX.dyo x_M1m g2))) (c_J5_isLatin1_aae02 hp hc_M3m) ⟨rfl, rfl⟩ ⟨Nat.le_of_ble_eq_true rfl, Nat.le_of_ble_eq_true rfl⟩ ⟨show ce ≤ mc by omega, show sl ≤ ms by omega⟩ rfl (Nat.le_of_ble_eq_true rfl) dJ0_init_db425_16 rfl ?_ (Or.inl rfl)
  refine w_if_eq hB 41 dJ0_init_db425_19 (by decide) (fun hc => ?_) (fun hc => ?_)
  · replace hF := ifT hc hF
    refine w_getcomp hB hp q_694 dJ0_init_db425_41 ?_
    refine w_if_eq hB 79 dJ0_init_db425_44 (by decide) (fun hc => ?_) (fun hc => ?_)
    · replace hF := ifT hc hF
      exact Wt.sub (L' := [(0, vr n0), (3, vr o1), (4, vi r1)]) [2, 1, 0] rfl (b_J0_init_db425_b79 hp hk hB hi hF (by omega) (by omega))
    · replace hF := ifF hc hF
      refine w_aload_n hB 3 dJ0_init_db425_47 rfl rfl ?_
      refine w_getI hB ff_J4_2 (dqM (GX.dyo x_M3m (GX.dyo x_M2m (GX.dyo x_M1m g2)))) q_599 dJ0_init_db425_48 ?_
      refine w_if_eq hB 79 dJ0_init_db425_51 (by decide) (fun hc => ?_) (fun hc => ?_)
      · replace hF := ifT hc hF
        exact Wt.sub (L' := [(0, vr n0), (3, vr o1), (4, vi r1)]) [2, 1, 0] rfl (b_J0_init_db425_b79 hp hk hB hi hF (by omega) (by omega))
      · replace hF := ifF hc hF
        refine w_aload_n hB 2 dJ0_init_db425_54 rfl rfl ?_
        refine w_aload_n hB 1 dJ0_init_db425_55 rfl rfl ?_
        refine w_iconst hB 0 (by decide) dJ0_init_db425_56 ?_
        refine w_iload hB 0 dJ0_init_db425_57 rfl ?_
        cases hF
  · replace hF := ifF hc hF
    refine w_aload_n hB 2 dJ0_init_db425_22 rfl rfl ?_
    refine w_iconst hB 0 (by decide) dJ0_init_db425_23 ?_
    obtain ⟨M4m, e_M4m, hF⟩ := bndS hF
    have q_M4m : EQ M3m M4m := by rw [e_M4m]; exact EQ_I _ _ _ _
    have x_M4m := q_M4m.gx
    have n_M4m := q_M4m.1
    have z_M4m := q_M4m.sz
    refine w_putIFd hB ff_J0_1 hi (dqM (GX.dyo x_M3m (GX.dyo x_M2m (GX.dyo x_M1m g1)))) q_859 (ty := .byte) rfl rfl rfl e_M4m dJ0_init_db425_24 ?_
    refine w_aload_n hB 2 dJ0_init_db425_27 rfl rfl ?_
    refine w_aload_n hB 1 dJ0_init_db425_28 rfl rfl ?_
    refine w_iconst hB 0 (by decide) dJ0_init_db425_29 ?_
    refine w_iload hB 0 dJ0_init_db425_30 rfl ?_
    obtain ⟨o2, M5m, hc_M5m, hF⟩ := clS hF
    have x_M5m := m_J7_copyOfRange_39247 hc_M5m
    have xa_M5m := x_M5m.1
    have xb_M5m := x_M5m.2.1
    have hg3 := m_J0_init_db425_b35 hF
    have hg4 := hg3.1
    have hg5 := hg3.2.1
    refine w_callS (M1 := M5m) hB (As := [vr o1, vi 0, vi r1]) (st := [vr n0]) cw_J0_54 q_837 (c_J7_copyOfRange_39247 hp hk hc_M5m) ⟨rfl, rfl⟩ ⟨Nat.le_of_ble_eq_true rfl, Nat.le_of_ble_eq_true rfl⟩ ⟨show ce + (M5m.2.2.2 - M4m.2.2.2) ≤ mc by omega, show sl + (szM M5m - szM M4m) ≤ ms by omega⟩ rfl (Nat.le_of_ble_eq_true rfl) dJ0_init_db425_32 rfl ?_ (Or.inr (by omega))
    exact Wt.sub (L' := []) [] rfl (b_J0_init_db425_b35 hp hk hB hi hF (by omega) (by omega))
theorem c_J0_init_db425 {K : Kt} {l : Launch} (hp : St K) (hk : KC K) {M1 : Mem} {n0 : Nat} {n1 : Nat} {n2 : Nat} {M : Mem} (hF : f_J0_init_db425 n0 n1 n2 M = some M1) : MT K l yJ0_init_db425 cJ0_init_db425 5 none { frames := 3, cells := M1.2.2.2 - M.2.2.2, slots := szM M1 - szM M, locals := 72 } [vr n0, vr n1, vr n2] M none M1 (M1.2.2.2 - M.2.2.2) (szM M1 - szM M) := by
  have hg := m_J0_init_db425 hF
  have hg1 := hg.1
  have hg2 := hg.2.1
  exact MT_of (by decide) rfl (Nat.le_of_ble_eq_true rfl) (fun X _ hB hi0 => b_J0_init_db425 hp hk hB (hi0 rfl) hF (by omega) (by omega))
def f_J0_init_81219_b6 (M : Mem) : Option Mem :=
  some M
set_option maxRecDepth 100000 in
set_option maxHeartbeats 4000000 in
theorem m_J0_init_81219_b6 {M Z : Mem} (h : f_J0_init_81219_b6 M = some Z) : GX M Z := by
  unfold f_J0_init_81219_b6 at h
  rw [← Option.some.inj h]
  exact (GX.refl M)
set_option maxRecDepth 100000 in
set_option maxHeartbeats 4000000 in
theorem b_J0_init_81219_b6 {K : Kt} {X : Xt} (hp : St K) (hk : KC K) {mc ms : Nat} (hB : Bx K X { frames := 4, cells := mc, slots := ms, locals := 96 } cJ0_init_81219 2 RJ0 none) (hi : X.2.2.2.2.2.2.2.2.1.name = "<init>") {M1 : Mem} {ce sl : Nat} {M : Mem} (hF : f_J0_init_81219_b6 M = some M1) (hn : mc + M.2.2.2 = ce + M1.2.2.2) (hz : ms + szM M = sl + szM M1) : Wt K X (QM K X none M1 mc ms) ce sl M 6 [] [] := by
  have hg := m_J0_init_81219_b6 hF
  have hg1 := hg.1
  have hg2 := hg.2.1
  unfold f_J0_init_81219_b6 at hF
  cases hF
  have hmc : mc = ce := by omega
  have hms : ms = sl := by omega
  subst hmc
  subst hms
  exact w_vret hB dJ0_init_81219_6
def f_J0_init_81219 (n0 : Nat) (n1 : Nat) (M : Mem) : Option Mem :=
  gd (1000 ≤ n0 ∧ dsc M n0 = 10 ∧ n0 - 753 < M.2.2.2) <|
  clv (f_J0_init_db425 n0 n1 0 M) fun M1m =>
  f_J0_init_81219_b6 M1m
set_option maxRecDepth 100000 in
set_option maxHeartbeats 4000000 in
theorem m_J0_init_81219 {n0 : Nat} {n1 : Nat} {M Z : Mem} (h : f_J0_init_81219 n0 n1 M = some Z) : GX M Z := by
  unfold f_J0_init_81219 at h
  obtain ⟨gq0, h⟩ := gdS h
  obtain ⟨M1m, c_M1m, h⟩ := clvS h
  have q_M1m : GX M M1m := GX.tr (GX.refl M) (m_J0_init_db425 c_M1m)
  exact GX.tr q_M1m (m_J0_init_81219_b6 h)
set_option maxRecDepth 100000 in
set_option maxHeartbeats 4000000 in
theorem b_J0_init_81219 {K : Kt} {X : Xt} (hp : St K) (hk : KC K) {mc ms : Nat} (hB : Bx K X { frames := 4, cells := mc, slots := ms, locals := 96 } cJ0_init_81219 2 RJ0 none) (hi : X.2.2.2.2.2.2.2.2.1.name = "<init>") {M1 : Mem} {n0 : Nat} {n1 : Nat} {ce sl : Nat} {M : Mem} (hF : f_J0_init_81219 n0 n1 M = some M1) (hn : mc + M.2.2.2 = ce + M1.2.2.2) (hz : ms + szM M = sl + szM M1) : Wt K X (QM K X none M1 mc ms) ce sl M 0 [(0, vr n0), (1, vr n1)] [] := by
  have hg := m_J0_init_81219 hF
  have hg1 := hg.1
  have hg2 := hg.2.1
  unfold f_J0_init_81219 at hF
  refine w_aload_n hB 0 dJ0_init_81219_0 rfl rfl ?_
  refine w_aload_n hB 1 dJ0_init_81219_1 rfl rfl ?_
  refine w_null hB dJ0_init_81219_2 ?_
  obtain ⟨g1, hF⟩ := gdS hF
  obtain ⟨M1m, hc_M1m, hF⟩ := clvS hF
  have x_M1m := m_J0_init_db425 hc_M1m
  have xa_M1m := x_M1m.1
  have xb_M1m := x_M1m.2.1
  have hg3 := m_J0_init_81219_b6 hF
  have hg4 := hg3.1
  have hg5 := hg3.2.1
  refine w_callI (M1 := M1m) hB (As := [vr n1, vr 0]) (st := []) cw_J0_489 rfl q_819 (Or.inr g1.1) (c_J0_init_db425 hp hk hc_M1m) ⟨rfl, rfl⟩ ⟨Nat.le_of_ble_eq_true rfl, Nat.le_of_ble_eq_true rfl⟩ ⟨show ce + (M1m.2.2.2 - M.2.2.2) ≤ mc by omega, show sl + (szM M1m - szM M) ≤ ms by omega⟩ rfl (Nat.le_of_ble_eq_true rfl) dJ0_init_81219_3 rfl ?_ (Or.inr (by omega))
  exact Wt.sub (L' := []) [] rfl (b_J0_init_81219_b6 hp hk hB hi hF (by omega) (by omega))
theorem c_J0_init_81219 {K : Kt} {l : Launch} (hp : St K) (hk : KC K) {M1 : Mem} {n0 : Nat} {n1 : Nat} {M : Mem} (hF : f_J0_init_81219 n0 n1 M = some M1) : MT K l yJ0_init_81219 cJ0_init_81219 2 none { frames := 4, cells := M1.2.2.2 - M.2.2.2, slots := szM M1 - szM M, locals := 96 } [vr n0, vr n1] M none M1 (M1.2.2.2 - M.2.2.2) (szM M1 - szM M) := by
  have hg := m_J0_init_81219 hF
  have hg1 := hg.1
  have hg2 := hg.2.1
  exact MT_of (by decide) rfl (Nat.le_of_ble_eq_true rfl) (fun X _ hB hi0 => b_J0_init_81219 hp hk hB (hi0 rfl) hF (by omega) (by omega))
def f_J4_toString_0e30d_b8 (ns0 : Nat) (M : Mem) : Option (Nat × Mem) :=
  some (ns0, M)
set_option maxRecDepth 100000 in
set_option maxHeartbeats 4000000 in
theorem m_J4_toString_0e30d_b8 {ns0 : Nat} {M Z : Mem} {r : Nat} (h : f_J4_toString_0e30d_b8 ns0 M = some (r, Z)) : GX M Z := by
  unfold f_J4_toString_0e30d_b8 at h
  obtain ⟨-, e⟩ := retS h
  rw [← e]
  exact (GX.refl M)
set_option maxRecDepth 100000 in
set_option maxHeartbeats 4000000 in
theorem b_J4_toString_0e30d_b8 {K : Kt} {X : Xt} (hp : St K) (hk : KC K) {mc ms : Nat} (hB : Bx K X { frames := 5, cells := mc, slots := ms, locals := 117 } cJ4_toString_0e30d 1 RJ4 (some (.object "java/lang/String"))) {r : Nat} {M1 : Mem} {ns0 : Nat} {ce sl : Nat} {M : Mem} (hF : f_J4_toString_0e30d_b8 ns0 M = some (r, M1)) (hn : mc + M.2.2.2 = ce + M1.2.2.2) (hz : ms + szM M = sl + szM M1) : Wt K X (QM K X (some (vr r)) M1 mc ms) ce sl M 8 [] [vr ns0] := by
  have hg := m_J4_toString_0e30d_b8 hF
  have hg1 := hg.1
  have hg2 := hg.2.1
  unfold f_J4_toString_0e30d_b8 at hF
  obtain ⟨e1, e2⟩ := retS hF
  subst e2
  have hmc : mc = ce := by omega
  have hms : ms = sl := by omega
  subst hmc
  subst hms
  exact w_aret hB dJ4_toString_0e30d_8 e1
def f_J4_toString_0e30d_b3 (n0 : Nat) (ns0 : Nat) (M : Mem) : Option (Nat × Mem) :=
  gd (1000 ≤ ns0 ∧ dsc M ns0 = 10 ∧ ns0 - 753 < M.2.2.2) <|
  clv (f_J0_init_81219 ns0 n0 M) fun M1m =>
  f_J4_toString_0e30d_b8 ns0 M1m
set_option maxRecDepth 100000 in
set_option maxHeartbeats 4000000 in
theorem m_J4_toString_0e30d_b3 {n0 : Nat} {ns0 : Nat} {M Z : Mem} {r : Nat} (h : f_J4_toString_0e30d_b3 n0 ns0 M = some (r, Z)) : GX M Z := by
  unfold f_J4_toString_0e30d_b3 at h
  obtain ⟨gq0, h⟩ := gdS h
  obtain ⟨M1m, c_M1m, h⟩ := clvS h
  have q_M1m : GX M M1m := GX.tr (GX.refl M) (m_J0_init_81219 c_M1m)
  exact GX.tr q_M1m (m_J4_toString_0e30d_b8 h)
set_option maxRecDepth 100000 in
set_option maxHeartbeats 4000000 in
theorem b_J4_toString_0e30d_b3 {K : Kt} {X : Xt} (hp : St K) (hk : KC K) {mc ms : Nat} (hB : Bx K X { frames := 5, cells := mc, slots := ms, locals := 117 } cJ4_toString_0e30d 1 RJ4 (some (.object "java/lang/String"))) {r : Nat} {M1 : Mem} {n0 : Nat} {ns0 : Nat} {ce sl : Nat} {M : Mem} (hF : f_J4_toString_0e30d_b3 n0 ns0 M = some (r, M1)) (hn : mc + M.2.2.2 = ce + M1.2.2.2) (hz : ms + szM M = sl + szM M1) : Wt K X (QM K X (some (vr r)) M1 mc ms) ce sl M 3 [(0, vr n0)] [vr ns0] := by
  have hg := m_J4_toString_0e30d_b3 hF
  have hg1 := hg.1
  have hg2 := hg.2.1
  unfold f_J4_toString_0e30d_b3 at hF
  refine w_dup hB rfl dJ4_toString_0e30d_3 ?_
  refine w_aload_n hB 0 dJ4_toString_0e30d_4 rfl rfl ?_
  obtain ⟨g1, hF⟩ := gdS hF
  obtain ⟨M1m, hc_M1m, hF⟩ := clvS hF
  have x_M1m := m_J0_init_81219 hc_M1m
  have xa_M1m := x_M1m.1
  have xb_M1m := x_M1m.2.1
  have hg3 := m_J4_toString_0e30d_b8 hF
  have hg4 := hg3.1
  have hg5 := hg3.2.1
  refine w_callI (M1 := M1m) hB (As := [vr n0]) (st := [vr ns0]) cw_J4_137 rfl q_816 (Or.inr g1.1) (c_J0_init_81219 hp hk hc_M1m) ⟨rfl, rfl⟩ ⟨Nat.le_of_ble_eq_true rfl, Nat.le_of_ble_eq_true rfl⟩ ⟨show ce + (M1m.2.2.2 - M.2.2.2) ≤ mc by omega, show sl + (szM M1m - szM M) ≤ ms by omega⟩ rfl (Nat.le_of_ble_eq_true rfl) dJ4_toString_0e30d_5 rfl ?_ (Or.inr (by omega))
  exact Wt.sub (L' := []) [] rfl (b_J4_toString_0e30d_b8 hp hk hB hF (by omega) (by omega))
def f_J4_toString_0e30d (n0 : Nat) (M : Mem) : Option (Nat × Mem) :=
  bnd (nwA 10 0 4 M) fun M1m =>
  f_J4_toString_0e30d_b3 n0 (nn M) M1m
set_option maxRecDepth 100000 in
set_option maxHeartbeats 4000000 in
theorem m_J4_toString_0e30d {n0 : Nat} {M Z : Mem} {r : Nat} (h : f_J4_toString_0e30d n0 M = some (r, Z)) : GX M Z := by
  unfold f_J4_toString_0e30d at h
  obtain ⟨M1m, e_M1m, h⟩ := bndS h
  have q_M1m : GX M M1m := GX.tr (GX.refl M) (by rw [e_M1m]; exact GX_nw _ _ _ _)
  exact GX.tr q_M1m (m_J4_toString_0e30d_b3 h)
set_option maxRecDepth 100000 in
set_option maxHeartbeats 4000000 in
theorem b_J4_toString_0e30d {K : Kt} {X : Xt} (hp : St K) (hk : KC K) {mc ms : Nat} (hB : Bx K X { frames := 5, cells := mc, slots := ms, locals := 117 } cJ4_toString_0e30d 1 RJ4 (some (.object "java/lang/String"))) {r : Nat} {M1 : Mem} {n0 : Nat} {ce sl : Nat} {M : Mem} (hF : f_J4_toString_0e30d n0 M = some (r, M1)) (hn : mc + M.2.2.2 = ce + M1.2.2.2) (hz : ms + szM M = sl + szM M1) : Wt K X (QM K X (some (vr r)) M1 mc ms) ce sl M 0 [(0, vr n0)] [] := by
  have hg := m_J4_toString_0e30d hF
  have hg1 := hg.1
  have hg2 := hg.2.1
  unfold f_J4_toString_0e30d at hF
  obtain ⟨M1m, e_M1m, hF⟩ := bndS hF
  have x_M1m : GX M M1m := by rw [e_M1m]; exact GX_nw _ _ _ _
  have n_M1m : M1m.2.2.2 = M.2.2.2 + 1 := by rw [e_M1m]; exact nwA_cn
  have z_M1m : szM M1m = szM M + 4 := by rw [e_M1m]; exact nwA_sz
  have hg3 := m_J4_toString_0e30d_b3 hF
  have hg4 := hg3.1
  have hg5 := hg3.2.1
  refine w_nwo hB hp.1 (ci := 9) (N := 4) tyJ0 e_M1m rfl inG_J0 tyJ0_ok dz_J0 q_813 q_814 q_24 (by decide) ⟨show ce + 1 ≤ mc by omega, show sl + 4 ≤ ms by omega⟩ dJ4_toString_0e30d_0 ?_
  exact Wt.sub (L' := [(0, vr n0)]) [0] rfl (b_J4_toString_0e30d_b3 hp hk hB hF (by omega) (by omega))
theorem c_J4_toString_0e30d {K : Kt} {l : Launch} (hp : St K) (hk : KC K) {r : Nat} {M1 : Mem} {n0 : Nat} {M : Mem} (hF : f_J4_toString_0e30d n0 M = some (r, M1)) : MT K l yJ4_toString_0e30d cJ4_toString_0e30d 1 (some (.object "java/lang/String")) { frames := 5, cells := M1.2.2.2 - M.2.2.2, slots := szM M1 - szM M, locals := 117 } [vr n0] M (some (vr r)) M1 (M1.2.2.2 - M.2.2.2) (szM M1 - szM M) := by
  have hg := m_J4_toString_0e30d hF
  have hg1 := hg.1
  have hg2 := hg.2.1
  exact MT_of (by decide) rfl (Nat.le_of_ble_eq_true rfl) (fun X _ hB _ => b_J4_toString_0e30d hp hk hB hF (by omega) (by omega))
