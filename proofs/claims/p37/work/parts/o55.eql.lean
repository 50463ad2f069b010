/-! nor do the law's small methods -/
theorem k_J6_stringSize_0f7a4_b16_s {rec16 : Int32 → Int32 → Int32 → Int32 → Mem → Option (Int32 × Mem)} (hrec16 : ∀ (a0 : Int32) (a1 : Int32) (a2 : Int32) (a3 : Int32) (M Z : Mem) (r : Int32), rec16 a0 a1 a2 a3 M = some (r, Z) → EQ M Z) {x0 : Int32} {x1 : Int32} {x2 : Int32} {x3 : Int32} {M Z : Mem} {r : Int32} (h : f_J6_stringSize_0f7a4_b16_s rec16 x0 x1 x2 x3 M = some (r, Z)) : EQ M Z := by
  unfold f_J6_stringSize_0f7a4_b16_s at h
  rcases ifS h with ⟨-, h⟩ | ⟨-, h⟩
  · obtain ⟨-, e⟩ := retS h
    rw [← e]
    exact (EQ.refl M)
  · rcases ifS h with ⟨-, h⟩ | ⟨-, h⟩
    · obtain ⟨a1, e_a1, h⟩ := bndS h
      obtain ⟨a2, e_a2, h⟩ := bndS h
      exact EQ.tr (EQ.refl M) (hrec16 _ _ _ _ _ _ _ h)
    · obtain ⟨-, e⟩ := retS h
      rw [← e]
      exact (EQ.refl M)
theorem k_J6_stringSize_0f7a4_b16   (k : Nat) : ∀ (a0 : Int32) (a1 : Int32) (a2 : Int32) (a3 : Int32) (M Z : Mem) (r : Int32), f_J6_stringSize_0f7a4_b16 k a0 a1 a2 a3 M = some (r, Z) → EQ M Z :=
  lpN_ind (P := fun (f : Int32 → Int32 → Int32 → Int32 → Mem → Option (Int32 × Mem)) => ∀ (a0 : Int32) (a1 : Int32) (a2 : Int32) (a3 : Int32) (M Z : Mem) (r : Int32), f a0 a1 a2 a3 M = some (r, Z) → EQ M Z) (fun _ _ _ _ _ _ _ h => by cases h) (fun f hf _ _ _ _ _ _ _ h => k_J6_stringSize_0f7a4_b16_s  hf h) k
theorem k_J6_stringSize_0f7a4   {x0 : Int32} {M Z : Mem} {r : Int32} (h : f_J6_stringSize_0f7a4 x0 M = some (r, Z)) : EQ M Z := by
  unfold f_J6_stringSize_0f7a4 at h
  rcases ifS h with ⟨-, h⟩ | ⟨-, h⟩
  · exact EQ.tr (EQ.refl M) (k_J6_stringSize_0f7a4_b16  _ _ _ _ _ _ _ _ h)
  · obtain ⟨a1, e_a1, h⟩ := bndS h
    exact EQ.tr (EQ.refl M) (k_J6_stringSize_0f7a4_b16  _ _ _ _ _ _ _ _ h)
theorem k_J6_getChars_ba4f3_b104   {n2 : Nat} {x5 : Int32} {x6 : Int32} {M Z : Mem} {r : Int32} (h : f_J6_getChars_ba4f3_b104 n2 x5 x6 M = some (r, Z)) : EQ M Z := by
  unfold f_J6_getChars_ba4f3_b104 at h
  rcases ifS h with ⟨-, h⟩ | ⟨-, h⟩
  · obtain ⟨-, e⟩ := retS h
    rw [← e]
    exact (EQ.refl M)
  · obtain ⟨a1, e_a1, h⟩ := bndS h
    obtain ⟨-, h⟩ := gdS h
    obtain ⟨-, h⟩ := gdS h
    obtain ⟨M1m, e_M1m, h⟩ := bndS h
    have q_M1m : EQ M M1m := EQ.tr (EQ.refl M) (by rw [e_M1m]; exact EQ_I _ _ _ _)
    obtain ⟨-, e⟩ := retS h
    rw [← e]
    exact q_M1m
theorem k_J6_getChars_ba4f3_b22_s {rec22 : Int32 → Nat → Int32 → Int32 → Mem → Option (Int32 × Mem)} (hrec22 : ∀ (a0 : Int32) (a1 : Nat) (a2 : Int32) (a3 : Int32) (M Z : Mem) (r : Int32), rec22 a0 a1 a2 a3 M = some (r, Z) → EQ M Z) {x0 : Int32} {n2 : Nat} {x5 : Int32} {x6 : Int32} {M Z : Mem} {r : Int32} (h : f_J6_getChars_ba4f3_b22_s rec22 x0 n2 x5 x6 M = some (r, Z)) : EQ M Z := by
  unfold f_J6_getChars_ba4f3_b22_s at h
  rcases ifS h with ⟨-, h⟩ | ⟨-, h⟩
  · obtain ⟨a1, e_a1, h⟩ := bndS h
    obtain ⟨-, h⟩ := gdS h
    obtain ⟨-, h⟩ := gdS h
    obtain ⟨-, h⟩ := gdS h
    obtain ⟨M1m, e_M1m, h⟩ := bndS h
    have q_M1m : EQ M M1m := EQ.tr (EQ.refl M) (by rw [e_M1m]; exact EQ_I _ _ _ _)
    rcases ifS h with ⟨-, h⟩ | ⟨-, h⟩
    · exact EQ.tr q_M1m (k_J6_getChars_ba4f3_b104  h)
    · obtain ⟨a2, e_a2, h⟩ := bndS h
      obtain ⟨-, h⟩ := gdS h
      obtain ⟨-, h⟩ := gdS h
      obtain ⟨M2m, e_M2m, h⟩ := bndS h
      have q_M2m : EQ M M2m := EQ.tr q_M1m (by rw [e_M2m]; exact EQ_I _ _ _ _)
      exact EQ.tr q_M2m (k_J6_getChars_ba4f3_b104  h)
  · obtain ⟨a3, e_a3, h⟩ := bndS h
    obtain ⟨a4, e_a4, h⟩ := bndS h
    obtain ⟨a5, e_a5, h⟩ := bndS h
    obtain ⟨-, h⟩ := gdS h
    obtain ⟨-, h⟩ := gdS h
    obtain ⟨-, h⟩ := gdS h
    obtain ⟨M3m, e_M3m, h⟩ := bndS h
    have q_M3m : EQ M M3m := EQ.tr (EQ.refl M) (by rw [e_M3m]; exact EQ_I _ _ _ _)
    obtain ⟨a6, e_a6, h⟩ := bndS h
    obtain ⟨-, h⟩ := gdS h
    obtain ⟨-, h⟩ := gdS h
    obtain ⟨M4m, e_M4m, h⟩ := bndS h
    have q_M4m : EQ M M4m := EQ.tr q_M3m (by rw [e_M4m]; exact EQ_I _ _ _ _)
    exact EQ.tr q_M4m (hrec22 _ _ _ _ _ _ _ h)
theorem k_J6_getChars_ba4f3_b22   (k : Nat) : ∀ (a0 : Int32) (a1 : Nat) (a2 : Int32) (a3 : Int32) (M Z : Mem) (r : Int32), f_J6_getChars_ba4f3_b22 k a0 a1 a2 a3 M = some (r, Z) → EQ M Z :=
  lpN_ind (P := fun (f : Int32 → Nat → Int32 → Int32 → Mem → Option (Int32 × Mem)) => ∀ (a0 : Int32) (a1 : Nat) (a2 : Int32) (a3 : Int32) (M Z : Mem) (r : Int32), f a0 a1 a2 a3 M = some (r, Z) → EQ M Z) (fun _ _ _ _ _ _ _ h => by cases h) (fun f hf _ _ _ _ _ _ _ h => k_J6_getChars_ba4f3_b22_s  hf h) k
theorem k_J6_getChars_ba4f3_b12   {x0 : Int32} {n2 : Nat} {x5 : Int32} {xs0 : Int32} {M Z : Mem} {r : Int32} (h : f_J6_getChars_ba4f3_b12 x0 n2 x5 xs0 M = some (r, Z)) : EQ M Z := by
  unfold f_J6_getChars_ba4f3_b12 at h
  rcases ifS h with ⟨-, h⟩ | ⟨-, h⟩
  · obtain ⟨a1, e_a1, h⟩ := bndS h
    exact EQ.tr (EQ.refl M) (k_J6_getChars_ba4f3_b22  _ _ _ _ _ _ _ _ h)
  · exact EQ.tr (EQ.refl M) (k_J6_getChars_ba4f3_b22  _ _ _ _ _ _ _ _ h)
theorem k_J6_getChars_ba4f3   {x0 : Int32} {x1 : Int32} {n2 : Nat} {M Z : Mem} {r : Int32} (h : f_J6_getChars_ba4f3 x0 x1 n2 M = some (r, Z)) : EQ M Z := by
  unfold f_J6_getChars_ba4f3 at h
  rcases ifS h with ⟨-, h⟩ | ⟨-, h⟩
  · exact EQ.tr (EQ.refl M) (k_J6_getChars_ba4f3_b12  h)
  · exact EQ.tr (EQ.refl M) (k_J6_getChars_ba4f3_b12  h)
theorem k_J8_newLength_cabcc_b21   {x0 : Int32} {x1 : Int32} {M Z : Mem} {r : Int32} (h : f_J8_newLength_cabcc_b21 x0 x1 M = some (r, Z)) : EQ M Z := by
  unfold f_J8_newLength_cabcc_b21 at h
  cases h
theorem k_J8_newLength_cabcc   {x0 : Int32} {x1 : Int32} {x2 : Int32} {M Z : Mem} {r : Int32} (h : f_J8_newLength_cabcc x0 x1 x2 M = some (r, Z)) : EQ M Z := by
  unfold f_J8_newLength_cabcc at h
  obtain ⟨a1, e_a1, h⟩ := bndS h
  rcases ifS h with ⟨-, h⟩ | ⟨-, h⟩
  · exact EQ.tr (EQ.refl M) (k_J8_newLength_cabcc_b21  h)
  · rcases ifS h with ⟨-, h⟩ | ⟨-, h⟩
    · exact EQ.tr (EQ.refl M) (k_J8_newLength_cabcc_b21  h)
    · obtain ⟨-, e⟩ := retS h
      rw [← e]
      exact (EQ.refl M)
theorem k_L_cell {N : Nat} {xs : Nat → Int32}   {x1 : Int32} {M Z : Mem} {r : Int32} (h : f_L_cell N xs x1 M = some (r, Z)) : EQ M Z := by
  unfold f_L_cell at h
  rcases ifS h with ⟨-, h⟩ | ⟨-, h⟩
  · obtain ⟨-, e⟩ := retS h
    rw [← e]
    exact (EQ.refl M)
  · obtain ⟨-, h⟩ := gdS h
    obtain ⟨-, h⟩ := gdS h
    obtain ⟨-, e⟩ := retS h
    rw [← e]
    exact (EQ.refl M)
theorem k_L_some {N : Nat} {xs : Nat → Int32}   {x1 : Int32} {x2 : Int32} {M Z : Mem} {r : Int32} (h : f_L_some N xs x1 x2 M = some (r, Z)) : EQ M Z := by
  unfold f_L_some at h
  obtain ⟨r1, M1m, c_M1m, h⟩ := clS h
  have q_M1m : EQ M M1m := EQ.tr (EQ.refl M) (k_L_cell  c_M1m)
  obtain ⟨-, h⟩ := gdS h
  obtain ⟨-, e⟩ := retS h
  rw [← e]
  exact q_M1m
theorem k_L_first {N : Nat} {xs : Nat → Int32}   {x1 : Int32} {x2 : Int32} {M Z : Mem} {r : Int32} (h : f_L_first N xs x1 x2 M = some (r, Z)) : EQ M Z := by
  unfold f_L_first at h
  rcases ifS h with ⟨-, h⟩ | ⟨-, h⟩
  · obtain ⟨r1, M1m, c_M1m, h⟩ := clS h
    have q_M1m : EQ M M1m := EQ.tr (EQ.refl M) (k_L_some  c_M1m)
    obtain ⟨-, e⟩ := retS h
    rw [← e]
    exact q_M1m
  · obtain ⟨-, e⟩ := retS h
    rw [← e]
    exact (EQ.refl M)
theorem k_L_second {N : Nat} {xs : Nat → Int32}   {x1 : Int32} {x2 : Int32} {M Z : Mem} {r : Int32} (h : f_L_second N xs x1 x2 M = some (r, Z)) : EQ M Z := by
  unfold f_L_second at h
  rcases ifS h with ⟨-, h⟩ | ⟨-, h⟩
  · obtain ⟨r1, M1m, c_M1m, h⟩ := clS h
    have q_M1m : EQ M M1m := EQ.tr (EQ.refl M) (k_L_some  c_M1m)
    obtain ⟨r2, M2m, c_M2m, h⟩ := clS h
    have q_M2m : EQ M M2m := EQ.tr q_M1m (k_L_some  c_M2m)
    obtain ⟨-, e⟩ := retS h
    rw [← e]
    exact q_M2m
  · obtain ⟨r3, M3m, c_M3m, h⟩ := clS h
    have q_M3m : EQ M M3m := EQ.tr (EQ.refl M) (k_L_some  c_M3m)
    obtain ⟨-, e⟩ := retS h
    rw [← e]
    exact q_M3m
theorem k_L_pairs {N : Nat} {xs : Nat → Int32}   {x1 : Int32} {M Z : Mem} {r : Int32} (h : f_L_pairs N xs x1 M = some (r, Z)) : EQ M Z := by
  unfold f_L_pairs at h
  obtain ⟨r1, M1m, c_M1m, h⟩ := clS h
  have q_M1m : EQ M M1m := EQ.tr (EQ.refl M) (k_L_some  c_M1m)
  rcases ifS h with ⟨-, h⟩ | ⟨-, h⟩
  · obtain ⟨-, e⟩ := retS h
    rw [← e]
    exact q_M1m
  · obtain ⟨-, e⟩ := retS h
    rw [← e]
    exact q_M1m
theorem k_L_doAll_b3_s {N : Nat} {xs : Nat → Int32} {rec3 : Int32 → Nat → Nat → Int32 → Mem → Option (Int32 × Mem)} (hrec3 : ∀ (a0 : Int32) (a1 : Nat) (a2 : Nat) (a3 : Int32) (M Z : Mem) (r : Int32), rec3 a0 a1 a2 a3 M = some (r, Z) → EQ M Z) {x1 : Int32} {n2 : Nat} {n3 : Nat} {x4 : Int32} {M Z : Mem} {r : Int32} (h : f_L_doAll_b3_s N xs rec3 x1 n2 n3 x4 M = some (r, Z)) : EQ M Z := by
  unfold f_L_doAll_b3_s at h
  obtain ⟨r1, M1m, c_M1m, h⟩ := clS h
  have q_M1m : EQ M M1m := EQ.tr (EQ.refl M) (k_L_pairs  c_M1m)
  rcases ifS h with ⟨-, h⟩ | ⟨-, h⟩
  · obtain ⟨-, e⟩ := retS h
    rw [← e]
    exact q_M1m
  · obtain ⟨r2, M2m, c_M2m, h⟩ := clS h
    have q_M2m : EQ M M2m := EQ.tr q_M1m (k_L_first  c_M2m)
    obtain ⟨-, h⟩ := gdS h
    obtain ⟨-, h⟩ := gdS h
    obtain ⟨r3, M3m, c_M3m, h⟩ := clS h
    have q_M3m : EQ M M3m := EQ.tr q_M2m (k_L_second  c_M3m)
    obtain ⟨-, h⟩ := gdS h
    obtain ⟨-, h⟩ := gdS h
    rcases ifS h with ⟨-, h⟩ | ⟨-, h⟩
    · obtain ⟨a1, e_a1, h⟩ := bndS h
      exact EQ.tr q_M3m (hrec3 _ _ _ _ _ _ _ h)
    · obtain ⟨-, e⟩ := retS h
      rw [← e]
      exact q_M3m
theorem k_L_doAll_b3 {N : Nat} {xs : Nat → Int32}   (k : Nat) : ∀ (a0 : Int32) (a1 : Nat) (a2 : Nat) (a3 : Int32) (M Z : Mem) (r : Int32), f_L_doAll_b3 N xs k a0 a1 a2 a3 M = some (r, Z) → EQ M Z :=
  lpN_ind (P := fun (f : Int32 → Nat → Nat → Int32 → Mem → Option (Int32 × Mem)) => ∀ (a0 : Int32) (a1 : Nat) (a2 : Nat) (a3 : Int32) (M Z : Mem) (r : Int32), f a0 a1 a2 a3 M = some (r, Z) → EQ M Z) (fun _ _ _ _ _ _ _ h => by cases h) (fun f hf _ _ _ _ _ _ _ h => k_L_doAll_b3_s  hf h) k
theorem k_L_doAll {N : Nat} {xs : Nat → Int32}   {x1 : Int32} {n2 : Nat} {n3 : Nat} {M Z : Mem} {r : Int32} (h : f_L_doAll N xs x1 n2 n3 M = some (r, Z)) : EQ M Z := by
  unfold f_L_doAll at h
  exact EQ.tr (EQ.refl M) (k_L_doAll_b3  _ _ _ _ _ _ _ _ h)
theorem k_L_canBe_b2_s {N : Nat} {xs : Nat → Int32} {rec2 : Nat → Int32 → Mem → Option (Int32 × Mem)} (hrec2 : ∀ (a0 : Nat) (a1 : Int32) (M Z : Mem) (r : Int32), rec2 a0 a1 M = some (r, Z) → EQ M Z) {n2 : Nat} {x3 : Int32} {M Z : Mem} {r : Int32} (h : f_L_canBe_b2_s N xs rec2 n2 x3 M = some (r, Z)) : EQ M Z := by
  unfold f_L_canBe_b2_s at h
  obtain ⟨r1, M1m, c_M1m, h⟩ := clS h
  have q_M1m : EQ M M1m := EQ.tr (EQ.refl M) (k_X10_count  c_M1m)
  rcases ifS h with ⟨-, h⟩ | ⟨-, h⟩
  · obtain ⟨-, e⟩ := retS h
    rw [← e]
    exact q_M1m
  · obtain ⟨r2, M2m, c_M2m, h⟩ := clS h
    have q_M2m : EQ M M2m := EQ.tr q_M1m (k_L_some  c_M2m)
    obtain ⟨r3, M3m, c_M3m, h⟩ := clS h
    have q_M3m : EQ M M3m := EQ.tr q_M2m (k_L_some  c_M3m)
    obtain ⟨a1, e_a1, h⟩ := bndS h
    obtain ⟨r4, M4m, c_M4m, h⟩ := clS h
    have q_M4m : EQ M M4m := EQ.tr q_M3m (k_L_some  c_M4m)
    obtain ⟨-, h⟩ := gdS h
    obtain ⟨-, h⟩ := gdS h
    obtain ⟨r5, M5m, c_M5m, h⟩ := clS h
    have q_M5m : EQ M M5m := EQ.tr q_M4m (k_L_some  c_M5m)
    obtain ⟨-, h⟩ := gdS h
    obtain ⟨-, h⟩ := gdS h
    rcases ifS h with ⟨-, h⟩ | ⟨-, h⟩
    · obtain ⟨a2, e_a2, h⟩ := bndS h
      exact EQ.tr q_M5m (hrec2 _ _ _ _ _ h)
    · obtain ⟨-, e⟩ := retS h
      rw [← e]
      exact q_M5m
theorem k_L_canBe_b2 {N : Nat} {xs : Nat → Int32}   (k : Nat) : ∀ (a0 : Nat) (a1 : Int32) (M Z : Mem) (r : Int32), f_L_canBe_b2 N xs k a0 a1 M = some (r, Z) → EQ M Z :=
  lpN_ind (P := fun (f : Nat → Int32 → Mem → Option (Int32 × Mem)) => ∀ (a0 : Nat) (a1 : Int32) (M Z : Mem) (r : Int32), f a0 a1 M = some (r, Z) → EQ M Z) (fun _ _ _ _ _ h => by cases h) (fun f hf _ _ _ _ _ h => k_L_canBe_b2_s  hf h) k
theorem k_L_canBe {N : Nat} {xs : Nat → Int32}   {n2 : Nat} {M Z : Mem} {r : Int32} (h : f_L_canBe N xs n2 M = some (r, Z)) : EQ M Z := by
  unfold f_L_canBe at h
  exact EQ.tr (EQ.refl M) (k_L_canBe_b2  _ _ _ _ _ _ h)
theorem k_L_goesOn_b2_s {N : Nat} {xs : Nat → Int32} {rec2 : Nat → Int32 → Mem → Option (Int32 × Mem)} (hrec2 : ∀ (a0 : Nat) (a1 : Int32) (M Z : Mem) (r : Int32), rec2 a0 a1 M = some (r, Z) → EQ M Z) {n1 : Nat} {x2 : Int32} {M Z : Mem} {r : Int32} (h : f_L_goesOn_b2_s N xs rec2 n1 x2 M = some (r, Z)) : EQ M Z := by
  unfold f_L_goesOn_b2_s at h
  rcases ifS h with ⟨-, h⟩ | ⟨-, h⟩
  · obtain ⟨-, e⟩ := retS h
    rw [← e]
    exact (EQ.refl M)
  · obtain ⟨-, h⟩ := gdS h
    obtain ⟨-, h⟩ := gdS h
    obtain ⟨r1, M1m, c_M1m, h⟩ := clS h
    have q_M1m : EQ M M1m := EQ.tr (EQ.refl M) (k_X10_camera  c_M1m)
    rcases ifS h with ⟨-, h⟩ | ⟨-, h⟩
    · obtain ⟨r2, M2m, c_M2m, h⟩ := clS h
      have q_M2m : EQ M M2m := EQ.tr q_M1m (k_X10_camera  c_M2m)
      obtain ⟨-, h⟩ := gdS h
      obtain ⟨-, h⟩ := gdS h
      obtain ⟨M3m, e_M3m, h⟩ := bndS h
      have q_M3m : EQ M M3m := EQ.tr q_M2m (by rw [e_M3m]; exact EQ_I _ _ _ _)
      obtain ⟨a1, e_a1, h⟩ := bndS h
      exact EQ.tr q_M3m (hrec2 _ _ _ _ _ h)
    · obtain ⟨-, h⟩ := gdS h
      obtain ⟨-, h⟩ := gdS h
      obtain ⟨M4m, e_M4m, h⟩ := bndS h
      have q_M4m : EQ M M4m := EQ.tr q_M1m (by rw [e_M4m]; exact EQ_I _ _ _ _)
      obtain ⟨-, e⟩ := retS h
      rw [← e]
      exact q_M4m
theorem k_L_goesOn_b2 {N : Nat} {xs : Nat → Int32}   (k : Nat) : ∀ (a0 : Nat) (a1 : Int32) (M Z : Mem) (r : Int32), f_L_goesOn_b2 N xs k a0 a1 M = some (r, Z) → EQ M Z :=
  lpN_ind (P := fun (f : Nat → Int32 → Mem → Option (Int32 × Mem)) => ∀ (a0 : Nat) (a1 : Int32) (M Z : Mem) (r : Int32), f a0 a1 M = some (r, Z) → EQ M Z) (fun _ _ _ _ _ h => by cases h) (fun f hf _ _ _ _ _ h => k_L_goesOn_b2_s  hf h) k
theorem k_L_goesOn {N : Nat} {xs : Nat → Int32}   {n1 : Nat} {M Z : Mem} {r : Int32} (h : f_L_goesOn N xs n1 M = some (r, Z)) : EQ M Z := by
  unfold f_L_goesOn at h
  exact EQ.tr (EQ.refl M) (k_L_goesOn_b2  _ _ _ _ _ _ h)
theorem k_L_framesOf_b5_s {N : Nat} {xs : Nat → Int32} {rec5 : Int32 → Int32 → Int32 → Int32 → Mem → Option (Int32 × Mem)} (hrec5 : ∀ (a0 : Int32) (a1 : Int32) (a2 : Int32) (a3 : Int32) (M Z : Mem) (r : Int32), rec5 a0 a1 a2 a3 M = some (r, Z) → EQ M Z) {x1 : Int32} {x2 : Int32} {x3 : Int32} {x4 : Int32} {M Z : Mem} {r : Int32} (h : f_L_framesOf_b5_s N xs rec5 x1 x2 x3 x4 M = some (r, Z)) : EQ M Z := by
  unfold f_L_framesOf_b5_s at h
  obtain ⟨r1, M1m, c_M1m, h⟩ := clS h
  have q_M1m : EQ M M1m := EQ.tr (EQ.refl M) (k_X10_play  c_M1m)
  rcases ifS h with ⟨-, h⟩ | ⟨-, h⟩
  · obtain ⟨-, e⟩ := retS h
    rw [← e]
    exact q_M1m
  · obtain ⟨r2, M2m, c_M2m, h⟩ := clS h
    have q_M2m : EQ M M2m := EQ.tr q_M1m (k_X10_frame  c_M2m)
    obtain ⟨a1, e_a1, h⟩ := bndS h
    obtain ⟨a2, e_a2, h⟩ := bndS h
    exact EQ.tr q_M2m (hrec5 _ _ _ _ _ _ _ h)
theorem k_L_framesOf_b5 {N : Nat} {xs : Nat → Int32}   (k : Nat) : ∀ (a0 : Int32) (a1 : Int32) (a2 : Int32) (a3 : Int32) (M Z : Mem) (r : Int32), f_L_framesOf_b5 N xs k a0 a1 a2 a3 M = some (r, Z) → EQ M Z :=
  lpN_ind (P := fun (f : Int32 → Int32 → Int32 → Int32 → Mem → Option (Int32 × Mem)) => ∀ (a0 : Int32) (a1 : Int32) (a2 : Int32) (a3 : Int32) (M Z : Mem) (r : Int32), f a0 a1 a2 a3 M = some (r, Z) → EQ M Z) (fun _ _ _ _ _ _ _ h => by cases h) (fun f hf _ _ _ _ _ _ _ h => k_L_framesOf_b5_s  hf h) k
theorem k_L_framesOf {N : Nat} {xs : Nat → Int32}   {x1 : Int32} {x2 : Int32} {M Z : Mem} {r : Int32} (h : f_L_framesOf N xs x1 x2 M = some (r, Z)) : EQ M Z := by
  unfold f_L_framesOf at h
  exact EQ.tr (EQ.refl M) (k_L_framesOf_b5  _ _ _ _ _ _ _ _ h)
