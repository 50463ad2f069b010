/-! NO METHOD OF THE CLASS MAKES A CELL -/
def EQ (M M1 : Mem) : Prop := M1.2.2.2 = M.2.2.2 ∧ M1.2.2.1 0 = M.2.2.1 0
theorem EQ.refl (M : Mem) : EQ M M := ⟨rfl, rfl⟩
theorem EQ.tr {A B C : Mem} (h : EQ A B) (h' : EQ B C) : EQ A C := ⟨h'.1.trans h.1, h'.2.trans h.2⟩
theorem EQ_I (M : Mem) (n k : Nat) (x : Int32) : EQ M (setI M n k x) := ⟨rfl, rfl⟩
theorem EQ_L (M : Mem) (n k : Nat) (x : Int64) : EQ M (setL M n k x) := ⟨rfl, rfl⟩
theorem EQ_R (M : Mem) {n : Nat} (k x : Nat) (h : 0 ≠ n) : EQ M (setR M n k x) := ⟨rfl, m2_ne h⟩
theorem EQ_cpI (M : Mem) (a b n : Nat) : EQ M (cpI M a b n) := ⟨rfl, rfl⟩
theorem ifS {α : Type} {c : Prop} [Decidable c] {a b : Option α} {r : α} (h : (if c then a else b) = some r) : (c ∧ a = some r) ∨ (¬ c ∧ b = some r) := by
  by_cases hc : c
  · rw [if_pos hc] at h; exact Or.inl ⟨hc, h⟩
  · rw [if_neg hc] at h; exact Or.inr ⟨hc, h⟩
theorem k_J7_fill_53178_b5_s {rec5 : Nat → Int32 → Int32 → Int32 → Mem → Option Mem} (hrec5 : ∀ (a0 : Nat) (a1 : Int32) (a2 : Int32) (a3 : Int32) (M N : Mem), rec5 a0 a1 a2 a3 M = some N → EQ M N) {n0 : Nat} {x1 : Int32} {x2 : Int32} {x3 : Int32} {M N : Mem}  (h : f_J7_fill_53178_b5_s rec5 n0 x1 x2 x3 M = some N) : EQ M N := by
  unfold f_J7_fill_53178_b5_s at h
  rcases ifS h with ⟨-, h⟩ | ⟨-, h⟩
  · rw [← Option.some.inj h]
    exact (EQ.refl M)
  · obtain ⟨-, h⟩ := gdS h
    obtain ⟨-, h⟩ := gdS h
    obtain ⟨M1m, e_M1m, h⟩ := bndS h
    have q_M1m : EQ M M1m := EQ.tr (EQ.refl M) (by rw [e_M1m]; exact EQ_I _ _ _ _)
    obtain ⟨a1, e_a1, h⟩ := bndS h
    exact EQ.tr q_M1m (hrec5 _ _ _ _ _ _ h)
theorem k_J7_fill_53178_b5   (k : Nat) : ∀ (a0 : Nat) (a1 : Int32) (a2 : Int32) (a3 : Int32) (M N : Mem), f_J7_fill_53178_b5 k a0 a1 a2 a3 M = some N → EQ M N :=
  lpN_ind (P := fun (f : Nat → Int32 → Int32 → Int32 → Mem → Option Mem) => ∀ (a0 : Nat) (a1 : Int32) (a2 : Int32) (a3 : Int32) (M N : Mem), f a0 a1 a2 a3 M = some N → EQ M N) (fun _ _ _ _ _ _ h => by cases h) (fun f hf _ _ _ _ _ _ h => k_J7_fill_53178_b5_s  hf h) k
theorem k_J7_fill_53178   {n0 : Nat} {x1 : Int32} {M N : Mem}  (h : f_J7_fill_53178 n0 x1 M = some N) : EQ M N := by
  unfold f_J7_fill_53178 at h
  obtain ⟨-, h⟩ := gdS h
  obtain ⟨a1, e_a1, h⟩ := bndS h
  exact EQ.tr (EQ.refl M) (k_J7_fill_53178_b5  _ _ _ _ _ _ _ h)
theorem k_X2_clear_b11_s {rec11 : Nat → Int32 → Mem → Option Mem} (hrec11 : ∀ (a0 : Nat) (a1 : Int32) (M N : Mem), rec11 a0 a1 M = some N → EQ M N) {n0 : Nat} {x1 : Int32} {M N : Mem}  (h : f_X2_clear_b11_s rec11 n0 x1 M = some N) : EQ M N := by
  unfold f_X2_clear_b11_s at h
  rcases ifS h with ⟨-, h⟩ | ⟨-, h⟩
  · obtain ⟨-, h⟩ := gdS h
    obtain ⟨M1m, e_M1m, h⟩ := bndS h
    have q_M1m : EQ M M1m := EQ.tr (EQ.refl M) (by rw [e_M1m]; exact EQ_I _ _ _ _)
    rw [← Option.some.inj h]
    exact q_M1m
  · obtain ⟨-, h⟩ := gdS h
    obtain ⟨-, h⟩ := gdS h
    obtain ⟨M2m, e_M2m, h⟩ := bndS h
    have q_M2m : EQ M M2m := EQ.tr (EQ.refl M) (by rw [e_M2m]; exact EQ_I _ _ _ _)
    obtain ⟨a1, e_a1, h⟩ := bndS h
    exact EQ.tr q_M2m (hrec11 _ _ _ _ h)
theorem k_X2_clear_b11   (k : Nat) : ∀ (a0 : Nat) (a1 : Int32) (M N : Mem), f_X2_clear_b11 k a0 a1 M = some N → EQ M N :=
  lpN_ind (P := fun (f : Nat → Int32 → Mem → Option Mem) => ∀ (a0 : Nat) (a1 : Int32) (M N : Mem), f a0 a1 M = some N → EQ M N) (fun _ _ _ _ h => by cases h) (fun f hf _ _ _ _ h => k_X2_clear_b11_s  hf h) k
theorem k_X2_clear   {n0 : Nat} {M N : Mem}  (h : f_X2_clear n0 M = some N) : EQ M N := by
  unfold f_X2_clear at h
  obtain ⟨-, h⟩ := gdS h
  obtain ⟨M1m, c_M1m, h⟩ := clvS h
  have q_M1m : EQ M M1m := EQ.tr (EQ.refl M) (k_J7_fill_53178  c_M1m)
  exact EQ.tr q_M1m (k_X2_clear_b11  _ _ _ _ _ h)
theorem k_X2_copyFrom   {n0 : Nat} {n1 : Nat} {M N : Mem}  (h : f_X2_copyFrom n0 n1 M = some N) : EQ M N := by
  unfold f_X2_copyFrom at h
  obtain ⟨-, h⟩ := gdS h
  obtain ⟨-, h⟩ := gdS h
  obtain ⟨M1m, e_M1m, h⟩ := bndS h
  have q_M1m : EQ M M1m := EQ.tr (EQ.refl M) (by rw [e_M1m]; exact EQ_cpI _ _ _ _)
  obtain ⟨-, h⟩ := gdS h
  obtain ⟨M2m, e_M2m, h⟩ := bndS h
  have q_M2m : EQ M M2m := EQ.tr q_M1m (by rw [e_M2m]; exact EQ_I _ _ _ _)
  rw [← Option.some.inj h]
  exact q_M2m
theorem k_X2_tell_b85_s {rec59 : Nat → Int32 → Int32 → Int32 → Int32 → Mem → Option Mem} {rec85 : Nat → Int32 → Int32 → Int32 → Int32 → Int32 → Int32 → Mem → Option Mem} (hrec59 : ∀ (a0 : Nat) (a1 : Int32) (a2 : Int32) (a3 : Int32) (a4 : Int32) (M N : Mem), rec59 a0 a1 a2 a3 a4 M = some N → EQ M N) (hrec85 : ∀ (a0 : Nat) (a1 : Int32) (a2 : Int32) (a3 : Int32) (a4 : Int32) (a5 : Int32) (a6 : Int32) (M N : Mem), rec85 a0 a1 a2 a3 a4 a5 a6 M = some N → EQ M N) {n0 : Nat} {x1 : Int32} {x2 : Int32} {x3 : Int32} {x5 : Int32} {x6 : Int32} {x7 : Int32} {M N : Mem}  (h : f_X2_tell_b85_s rec59 rec85 n0 x1 x2 x3 x5 x6 x7 M = some N) : EQ M N := by
  unfold f_X2_tell_b85_s at h
  rcases ifS h with ⟨-, h⟩ | ⟨-, h⟩
  · obtain ⟨a1, e_a1, h⟩ := bndS h
    exact EQ.tr (EQ.refl M) (hrec59 _ _ _ _ _ _ _ h)
  · obtain ⟨-, h⟩ := gdS h
    obtain ⟨-, h⟩ := gdS h
    rcases ifS h with ⟨-, h⟩ | ⟨-, h⟩
    · obtain ⟨a2, e_a2, h⟩ := bndS h
      exact EQ.tr (EQ.refl M) (hrec59 _ _ _ _ _ _ _ h)
    · obtain ⟨-, h⟩ := gdS h
      obtain ⟨a3, e_a3, h⟩ := bndS h
      rcases ifS h with ⟨-, h⟩ | ⟨-, h⟩
      · obtain ⟨a4, e_a4, h⟩ := bndS h
        exact EQ.tr (EQ.refl M) (hrec85 _ _ _ _ _ _ _ _ _ h)
      · obtain ⟨-, h⟩ := gdS h
        rcases ifS h with ⟨-, h⟩ | ⟨-, h⟩
        · obtain ⟨a5, e_a5, h⟩ := bndS h
          exact EQ.tr (EQ.refl M) (hrec85 _ _ _ _ _ _ _ _ _ h)
        · obtain ⟨M1m, e_M1m, h⟩ := bndS h
          have q_M1m : EQ M M1m := EQ.tr (EQ.refl M) (by rw [e_M1m]; exact EQ_I _ _ _ _)
          obtain ⟨a6, e_a6, h⟩ := bndS h
          exact EQ.tr q_M1m (hrec85 _ _ _ _ _ _ _ _ _ h)
theorem k_X2_tell_b85 {rec59 : Nat → Int32 → Int32 → Int32 → Int32 → Mem → Option Mem} (hrec59 : ∀ (a0 : Nat) (a1 : Int32) (a2 : Int32) (a3 : Int32) (a4 : Int32) (M N : Mem), rec59 a0 a1 a2 a3 a4 M = some N → EQ M N) (k : Nat) : ∀ (a0 : Nat) (a1 : Int32) (a2 : Int32) (a3 : Int32) (a4 : Int32) (a5 : Int32) (a6 : Int32) (M N : Mem), f_X2_tell_b85 rec59 k a0 a1 a2 a3 a4 a5 a6 M = some N → EQ M N :=
  lpN_ind (P := fun (f : Nat → Int32 → Int32 → Int32 → Int32 → Int32 → Int32 → Mem → Option Mem) => ∀ (a0 : Nat) (a1 : Int32) (a2 : Int32) (a3 : Int32) (a4 : Int32) (a5 : Int32) (a6 : Int32) (M N : Mem), f a0 a1 a2 a3 a4 a5 a6 M = some N → EQ M N) (fun _ _ _ _ _ _ _ _ _ h => by cases h) (fun f hf _ _ _ _ _ _ _ _ _ h => k_X2_tell_b85_s hrec59 hf h) k
theorem k_X2_tell_b59_s {rec59 : Nat → Int32 → Int32 → Int32 → Int32 → Mem → Option Mem} (hrec59 : ∀ (a0 : Nat) (a1 : Int32) (a2 : Int32) (a3 : Int32) (a4 : Int32) (M N : Mem), rec59 a0 a1 a2 a3 a4 M = some N → EQ M N) {n0 : Nat} {x1 : Int32} {x2 : Int32} {x3 : Int32} {x5 : Int32} {M N : Mem}  (h : f_X2_tell_b59_s rec59 n0 x1 x2 x3 x5 M = some N) : EQ M N := by
  unfold f_X2_tell_b59_s at h
  rcases ifS h with ⟨-, h⟩ | ⟨-, h⟩
  · rw [← Option.some.inj h]
    exact (EQ.refl M)
  · obtain ⟨-, h⟩ := gdS h
    obtain ⟨-, h⟩ := gdS h
    obtain ⟨a1, e_a1, h⟩ := bndS h
    exact EQ.tr (EQ.refl M) (k_X2_tell_b85 hrec59 _ _ _ _ _ _ _ _ _ _ h)
theorem k_X2_tell_b59   (k : Nat) : ∀ (a0 : Nat) (a1 : Int32) (a2 : Int32) (a3 : Int32) (a4 : Int32) (M N : Mem), f_X2_tell_b59 k a0 a1 a2 a3 a4 M = some N → EQ M N :=
  lpN_ind (P := fun (f : Nat → Int32 → Int32 → Int32 → Int32 → Mem → Option Mem) => ∀ (a0 : Nat) (a1 : Int32) (a2 : Int32) (a3 : Int32) (a4 : Int32) (M N : Mem), f a0 a1 a2 a3 a4 M = some N → EQ M N) (fun _ _ _ _ _ _ _ h => by cases h) (fun f hf _ _ _ _ _ _ _ h => k_X2_tell_b59_s  hf h) k
theorem k_X2_tell   {n0 : Nat} {x1 : Int32} {x2 : Int32} {x3 : Int32} {M N : Mem}  (h : f_X2_tell n0 x1 x2 x3 M = some N) : EQ M N := by
  unfold f_X2_tell at h
  obtain ⟨-, h⟩ := gdS h
  rcases ifS h with ⟨-, h⟩ | ⟨-, h⟩
  · obtain ⟨-, h⟩ := gdS h
    rcases ifS h with ⟨-, h⟩ | ⟨-, h⟩
    · obtain ⟨-, h⟩ := gdS h
      obtain ⟨a1, e_a1, h⟩ := bndS h
      rcases ifS h with ⟨-, h⟩ | ⟨-, h⟩
      · exact EQ.tr (EQ.refl M) (k_X2_tell_b59  _ _ _ _ _ _ _ _ h)
      · rcases ifS h with ⟨-, h⟩ | ⟨-, h⟩
        · exact EQ.tr (EQ.refl M) (k_X2_tell_b59  _ _ _ _ _ _ _ _ h)
        · obtain ⟨M1m, e_M1m, h⟩ := bndS h
          have q_M1m : EQ M M1m := EQ.tr (EQ.refl M) (by rw [e_M1m]; exact EQ_I _ _ _ _)
          rw [← Option.some.inj h]
          exact q_M1m
    · rw [← Option.some.inj h]
      exact (EQ.refl M)
  · rw [← Option.some.inj h]
    exact (EQ.refl M)
theorem k_X2_tellLate   {n0 : Nat} {x1 : Int32} {x2 : Int32} {x3 : Int32} {M N : Mem}  (h : f_X2_tellLate n0 x1 x2 x3 M = some N) : EQ M N := by
  unfold f_X2_tellLate at h
  obtain ⟨-, h⟩ := gdS h
  obtain ⟨M1m, c_M1m, h⟩ := clvS h
  have q_M1m : EQ M M1m := EQ.tr (EQ.refl M) (k_X2_tell  c_M1m)
  obtain ⟨M2m, c_M2m, h⟩ := clvS h
  have q_M2m : EQ M M2m := EQ.tr q_M1m (k_X2_tell  c_M2m)
  rw [← Option.some.inj h]
  exact q_M2m
theorem k_X2_tellFlash   {n0 : Nat} {x1 : Int32} {x2 : Int32} {x3 : Int32} {x4 : Int32} {M N : Mem}  (h : f_X2_tellFlash n0 x1 x2 x3 x4 M = some N) : EQ M N := by
  unfold f_X2_tellFlash at h
  obtain ⟨-, h⟩ := gdS h
  obtain ⟨M1m, c_M1m, h⟩ := clvS h
  have q_M1m : EQ M M1m := EQ.tr (EQ.refl M) (k_X2_tell  c_M1m)
  obtain ⟨M2m, c_M2m, h⟩ := clvS h
  have q_M2m : EQ M M2m := EQ.tr q_M1m (k_X2_tell  c_M2m)
  rw [← Option.some.inj h]
  exact q_M2m
theorem k_X2_markLess   {n0 : Nat} {x1 : Int32} {x2 : Int32} {M N : Mem} {r : Int32} (h : f_X2_markLess n0 x1 x2 M = some (r, N)) : EQ M N := by
  unfold f_X2_markLess at h
  obtain ⟨-, h⟩ := gdS h
  obtain ⟨-, h⟩ := gdS h
  obtain ⟨-, e⟩ := retS h
  rw [← e]
  exact (EQ.refl M)
theorem k_X2_lateLeast   {n0 : Nat} {x1 : Int32} {M N : Mem} {r : Int32} (h : f_X2_lateLeast n0 x1 M = some (r, N)) : EQ M N := by
  unfold f_X2_lateLeast at h
  obtain ⟨-, h⟩ := gdS h
  obtain ⟨-, h⟩ := gdS h
  obtain ⟨-, e⟩ := retS h
  rw [← e]
  exact (EQ.refl M)
theorem k_X2_lateMost   {n0 : Nat} {x1 : Int32} {M N : Mem} {r : Int32} (h : f_X2_lateMost n0 x1 M = some (r, N)) : EQ M N := by
  unfold f_X2_lateMost at h
  obtain ⟨-, h⟩ := gdS h
  obtain ⟨-, h⟩ := gdS h
  obtain ⟨-, e⟩ := retS h
  rw [← e]
  exact (EQ.refl M)
theorem k_X3_begin_b50 {rec22 : Nat → Nat → Int32 → Mem → Option Mem} (hrec22 : ∀ (a0 : Nat) (a1 : Nat) (a2 : Int32) (M N : Mem), rec22 a0 a1 a2 M = some N → EQ M N) {n0 : Nat} {n1 : Nat} {x2 : Int32} {ns0 : Nat} {xs1 : Int32} {xs2 : Int32} {M N : Mem}  (h : f_X3_begin_b50 rec22 n0 n1 x2 ns0 xs1 xs2 M = some N) : EQ M N := by
  unfold f_X3_begin_b50 at h
  obtain ⟨-, h⟩ := gdS h
  obtain ⟨-, h⟩ := gdS h
  obtain ⟨M1m, e_M1m, h⟩ := bndS h
  have q_M1m : EQ M M1m := EQ.tr (EQ.refl M) (by rw [e_M1m]; exact EQ_I _ _ _ _)
  obtain ⟨-, h⟩ := gdS h
  obtain ⟨-, h⟩ := gdS h
  obtain ⟨M2m, e_M2m, h⟩ := bndS h
  have q_M2m : EQ M M2m := EQ.tr q_M1m (by rw [e_M2m]; exact EQ_I _ _ _ _)
  obtain ⟨a1, e_a1, h⟩ := bndS h
  exact EQ.tr q_M2m (hrec22 _ _ _ _ _ h)
theorem k_X3_begin_b22_s {rec22 : Nat → Nat → Int32 → Mem → Option Mem} (hrec22 : ∀ (a0 : Nat) (a1 : Nat) (a2 : Int32) (M N : Mem), rec22 a0 a1 a2 M = some N → EQ M N) {n0 : Nat} {n1 : Nat} {x2 : Int32} {M N : Mem}  (h : f_X3_begin_b22_s rec22 n0 n1 x2 M = some N) : EQ M N := by
  unfold f_X3_begin_b22_s at h
  rcases ifS h with ⟨-, h⟩ | ⟨-, h⟩
  · obtain ⟨-, h⟩ := gdS h
    obtain ⟨M1m, c_M1m, h⟩ := clvS h
    have q_M1m : EQ M M1m := EQ.tr (EQ.refl M) (k_J7_fill_53178  c_M1m)
    obtain ⟨M2m, e_M2m, h⟩ := bndS h
    have q_M2m : EQ M M2m := EQ.tr q_M1m (by rw [e_M2m]; exact EQ_I _ _ _ _)
    rw [← Option.some.inj h]
    exact q_M2m
  · obtain ⟨-, h⟩ := gdS h
    obtain ⟨-, h⟩ := gdS h
    rcases ifS h with ⟨-, h⟩ | ⟨-, h⟩
    · exact EQ.tr (EQ.refl M) (k_X3_begin_b50 hrec22 h)
    · obtain ⟨-, h⟩ := gdS h
      exact EQ.tr (EQ.refl M) (k_X3_begin_b50 hrec22 h)
theorem k_X3_begin_b22   (k : Nat) : ∀ (a0 : Nat) (a1 : Nat) (a2 : Int32) (M N : Mem), f_X3_begin_b22 k a0 a1 a2 M = some N → EQ M N :=
  lpN_ind (P := fun (f : Nat → Nat → Int32 → Mem → Option Mem) => ∀ (a0 : Nat) (a1 : Nat) (a2 : Int32) (M N : Mem), f a0 a1 a2 M = some N → EQ M N) (fun _ _ _ _ _ h => by cases h) (fun f hf _ _ _ _ _ h => k_X3_begin_b22_s  hf h) k
theorem k_X3_begin   {n0 : Nat} {n1 : Nat} {M N : Mem}  (h : f_X3_begin n0 n1 M = some N) : EQ M N := by
  unfold f_X3_begin at h
  obtain ⟨-, h⟩ := gdS h
  obtain ⟨M1m, e_M1m, h⟩ := bndS h
  have q_M1m : EQ M M1m := EQ.tr (EQ.refl M) (by rw [e_M1m]; exact EQ_I _ _ _ _)
  obtain ⟨M2m, e_M2m, h⟩ := bndS h
  have q_M2m : EQ M M2m := EQ.tr q_M1m (by rw [e_M2m]; exact EQ_I _ _ _ _)
  obtain ⟨M3m, e_M3m, h⟩ := bndS h
  have q_M3m : EQ M M3m := EQ.tr q_M2m (by rw [e_M3m]; exact EQ_I _ _ _ _)
  obtain ⟨M4m, e_M4m, h⟩ := bndS h
  have q_M4m : EQ M M4m := EQ.tr q_M3m (by rw [e_M4m]; exact EQ_I _ _ _ _)
  exact EQ.tr q_M4m (k_X3_begin_b22  _ _ _ _ _ _ h)
theorem k_X3_copyFrom   {n0 : Nat} {n1 : Nat} {M N : Mem}  (h : f_X3_copyFrom n0 n1 M = some N) : EQ M N := by
  unfold f_X3_copyFrom at h
  obtain ⟨-, h⟩ := gdS h
  obtain ⟨-, h⟩ := gdS h
  obtain ⟨M1m, e_M1m, h⟩ := bndS h
  have q_M1m : EQ M M1m := EQ.tr (EQ.refl M) (by rw [e_M1m]; exact EQ_I _ _ _ _)
  obtain ⟨M2m, e_M2m, h⟩ := bndS h
  have q_M2m : EQ M M2m := EQ.tr q_M1m (by rw [e_M2m]; exact EQ_I _ _ _ _)
  obtain ⟨M3m, e_M3m, h⟩ := bndS h
  have q_M3m : EQ M M3m := EQ.tr q_M2m (by rw [e_M3m]; exact EQ_I _ _ _ _)
  obtain ⟨M4m, e_M4m, h⟩ := bndS h
  have q_M4m : EQ M M4m := EQ.tr q_M3m (by rw [e_M4m]; exact EQ_I _ _ _ _)
  obtain ⟨M5m, e_M5m, h⟩ := bndS h
  have q_M5m : EQ M M5m := EQ.tr q_M4m (by rw [e_M5m]; exact EQ_cpI _ _ _ _)
  obtain ⟨M6m, e_M6m, h⟩ := bndS h
  have q_M6m : EQ M M6m := EQ.tr q_M5m (by rw [e_M6m]; exact EQ_cpI _ _ _ _)
  obtain ⟨M7m, e_M7m, h⟩ := bndS h
  have q_M7m : EQ M M7m := EQ.tr q_M6m (by rw [e_M7m]; exact EQ_cpI _ _ _ _)
  obtain ⟨M8m, e_M8m, h⟩ := bndS h
  have q_M8m : EQ M M8m := EQ.tr q_M7m (by rw [e_M8m]; exact EQ_cpI _ _ _ _)
  obtain ⟨M9m, e_M9m, h⟩ := bndS h
  have q_M9m : EQ M M9m := EQ.tr q_M8m (by rw [e_M9m]; exact EQ_cpI _ _ _ _)
  obtain ⟨M10m, e_M10m, h⟩ := bndS h
  have q_M10m : EQ M M10m := EQ.tr q_M9m (by rw [e_M10m]; exact EQ_I _ _ _ _)
  rw [← Option.some.inj h]
  exact q_M10m
theorem k_X3_happen   {n0 : Nat} {x1 : Int32} {x2 : Int32} {M N : Mem}  (h : f_X3_happen n0 x1 x2 M = some N) : EQ M N := by
  unfold f_X3_happen at h
  obtain ⟨-, h⟩ := gdS h
  obtain ⟨M1m, e_M1m, h⟩ := bndS h
  have q_M1m : EQ M M1m := EQ.tr (EQ.refl M) (by rw [e_M1m]; exact EQ_I _ _ _ _)
  obtain ⟨M2m, e_M2m, h⟩ := bndS h
  have q_M2m : EQ M M2m := EQ.tr q_M1m (by rw [e_M2m]; exact EQ_I _ _ _ _)
  obtain ⟨-, h⟩ := gdS h
  obtain ⟨M3m, e_M3m, h⟩ := bndS h
  have q_M3m : EQ M M3m := EQ.tr q_M2m (by rw [e_M3m]; exact EQ_I _ _ _ _)
  rw [← Option.some.inj h]
  exact q_M3m
theorem k_X3_call   {n0 : Nat} {x1 : Int32} {M N : Mem} {r : Int32} (h : f_X3_call n0 x1 M = some (r, N)) : EQ M N := by
  unfold f_X3_call at h
  obtain ⟨-, h⟩ := gdS h
  obtain ⟨-, e⟩ := retS h
  rw [← e]
  exact (EQ.refl M)
theorem k_X3_turn   {n0 : Nat} {x1 : Int32} {M N : Mem}  (h : f_X3_turn n0 x1 M = some N) : EQ M N := by
  unfold f_X3_turn at h
  obtain ⟨-, h⟩ := gdS h
  obtain ⟨M1m, e_M1m, h⟩ := bndS h
  have q_M1m : EQ M M1m := EQ.tr (EQ.refl M) (by rw [e_M1m]; exact EQ_I _ _ _ _)
  rw [← Option.some.inj h]
  exact q_M1m
theorem k_X3_isReviewed   {n0 : Nat} {x1 : Int32} {M N : Mem} {r : Int32} (h : f_X3_isReviewed n0 x1 M = some (r, N)) : EQ M N := by
  unfold f_X3_isReviewed at h
  obtain ⟨-, h⟩ := gdS h
  rcases ifS h with ⟨-, h⟩ | ⟨-, h⟩
  · obtain ⟨-, e⟩ := retS h
    rw [← e]
    exact (EQ.refl M)
  · obtain ⟨-, e⟩ := retS h
    rw [← e]
    exact (EQ.refl M)
theorem k_X3_isBoarded   {n0 : Nat} {x1 : Int32} {M N : Mem} {r : Int32} (h : f_X3_isBoarded n0 x1 M = some (r, N)) : EQ M N := by
  unfold f_X3_isBoarded at h
  obtain ⟨-, h⟩ := gdS h
  rcases ifS h with ⟨-, h⟩ | ⟨-, h⟩
  · obtain ⟨-, e⟩ := retS h
    rw [← e]
    exact (EQ.refl M)
  · obtain ⟨-, e⟩ := retS h
    rw [← e]
    exact (EQ.refl M)
theorem k_X3_restartBehind   {n0 : Nat} {x1 : Int32} {M N : Mem}  (h : f_X3_restartBehind n0 x1 M = some N) : EQ M N := by
  unfold f_X3_restartBehind at h
  obtain ⟨-, h⟩ := gdS h
  obtain ⟨M1m, e_M1m, h⟩ := bndS h
  have q_M1m : EQ M M1m := EQ.tr (EQ.refl M) (by rw [e_M1m]; exact EQ_I _ _ _ _)
  obtain ⟨a1, e_a1, h⟩ := bndS h
  obtain ⟨M2m, e_M2m, h⟩ := bndS h
  have q_M2m : EQ M M2m := EQ.tr q_M1m (by rw [e_M2m]; exact EQ_I _ _ _ _)
  obtain ⟨M3m, e_M3m, h⟩ := bndS h
  have q_M3m : EQ M M3m := EQ.tr q_M2m (by rw [e_M3m]; exact EQ_I _ _ _ _)
  rw [← Option.some.inj h]
  exact q_M3m
theorem k_X3_giveBack   {n0 : Nat} {x1 : Int32} {M N : Mem}  (h : f_X3_giveBack n0 x1 M = some N) : EQ M N := by
  unfold f_X3_giveBack at h
  obtain ⟨-, h⟩ := gdS h
  obtain ⟨-, h⟩ := gdS h
  obtain ⟨a1, e_a1, h⟩ := bndS h
  rcases ifS h with ⟨-, h⟩ | ⟨-, h⟩
  · rw [← Option.some.inj h]
    exact (EQ.refl M)
  · rcases ifS h with ⟨-, h⟩ | ⟨-, h⟩
    · rw [← Option.some.inj h]
      exact (EQ.refl M)
    · obtain ⟨-, h⟩ := gdS h
      obtain ⟨M1m, e_M1m, h⟩ := bndS h
      have q_M1m : EQ M M1m := EQ.tr (EQ.refl M) (by rw [e_M1m]; exact EQ_I _ _ _ _)
      rw [← Option.some.inj h]
      exact q_M1m
theorem k_X3_addLog_b4_s {rec4 : Nat → Int32 → Int32 → Int32 → Int32 → Int32 → Mem → Option Mem} (hrec4 : ∀ (a0 : Nat) (a1 : Int32) (a2 : Int32) (a3 : Int32) (a4 : Int32) (a5 : Int32) (M N : Mem), rec4 a0 a1 a2 a3 a4 a5 M = some N → EQ M N) {n0 : Nat} {x1 : Int32} {x2 : Int32} {x3 : Int32} {x4 : Int32} {x5 : Int32} {M N : Mem}  (h : f_X3_addLog_b4_s rec4 n0 x1 x2 x3 x4 x5 M = some N) : EQ M N := by
  unfold f_X3_addLog_b4_s at h
  rcases ifS h with ⟨-, h⟩ | ⟨-, h⟩
  · obtain ⟨-, h⟩ := gdS h
    obtain ⟨M1m, e_M1m, h⟩ := bndS h
    have q_M1m : EQ M M1m := EQ.tr (EQ.refl M) (by rw [e_M1m]; exact EQ_I _ _ _ _)
    obtain ⟨M2m, e_M2m, h⟩ := bndS h
    have q_M2m : EQ M M2m := EQ.tr q_M1m (by rw [e_M2m]; exact EQ_I _ _ _ _)
    obtain ⟨M3m, e_M3m, h⟩ := bndS h
    have q_M3m : EQ M M3m := EQ.tr q_M2m (by rw [e_M3m]; exact EQ_I _ _ _ _)
    obtain ⟨M4m, e_M4m, h⟩ := bndS h
    have q_M4m : EQ M M4m := EQ.tr q_M3m (by rw [e_M4m]; exact EQ_I _ _ _ _)
    obtain ⟨M5m, e_M5m, h⟩ := bndS h
    have q_M5m : EQ M M5m := EQ.tr q_M4m (by rw [e_M5m]; exact EQ_I _ _ _ _)
    rw [← Option.some.inj h]
    exact q_M5m
  · obtain ⟨-, h⟩ := gdS h
    obtain ⟨-, h⟩ := gdS h
    obtain ⟨-, h⟩ := gdS h
    obtain ⟨M6m, e_M6m, h⟩ := bndS h
    have q_M6m : EQ M M6m := EQ.tr (EQ.refl M) (by rw [e_M6m]; exact EQ_I _ _ _ _)
    obtain ⟨a1, e_a1, h⟩ := bndS h
    exact EQ.tr q_M6m (hrec4 _ _ _ _ _ _ _ _ h)
theorem k_X3_addLog_b4   (k : Nat) : ∀ (a0 : Nat) (a1 : Int32) (a2 : Int32) (a3 : Int32) (a4 : Int32) (a5 : Int32) (M N : Mem), f_X3_addLog_b4 k a0 a1 a2 a3 a4 a5 M = some N → EQ M N :=
  lpN_ind (P := fun (f : Nat → Int32 → Int32 → Int32 → Int32 → Int32 → Mem → Option Mem) => ∀ (a0 : Nat) (a1 : Int32) (a2 : Int32) (a3 : Int32) (a4 : Int32) (a5 : Int32) (M N : Mem), f a0 a1 a2 a3 a4 a5 M = some N → EQ M N) (fun _ _ _ _ _ _ _ _ h => by cases h) (fun f hf _ _ _ _ _ _ _ _ h => k_X3_addLog_b4_s  hf h) k
theorem k_X3_addLog   {n0 : Nat} {x1 : Int32} {x2 : Int32} {x3 : Int32} {x4 : Int32} {M N : Mem}  (h : f_X3_addLog n0 x1 x2 x3 x4 M = some N) : EQ M N := by
  unfold f_X3_addLog at h
  exact EQ.tr (EQ.refl M) (k_X3_addLog_b4  _ _ _ _ _ _ _ _ _ h)
theorem k_X6_allFrames   {n0 : Nat} {M N : Mem} {r : Int32} (h : f_X6_allFrames n0 M = some (r, N)) : EQ M N := by
  unfold f_X6_allFrames at h
  obtain ⟨-, h⟩ := gdS h
  obtain ⟨-, e⟩ := retS h
  rw [← e]
  exact (EQ.refl M)
theorem k_J6_bitCount_0f7a4   {x0 : Int32} {M N : Mem} {r : Int32} (h : f_J6_bitCount_0f7a4 x0 M = some (r, N)) : EQ M N := by
  unfold f_J6_bitCount_0f7a4 at h
  obtain ⟨a1, e_a1, h⟩ := bndS h
  obtain ⟨a2, e_a2, h⟩ := bndS h
  obtain ⟨a3, e_a3, h⟩ := bndS h
  obtain ⟨a4, e_a4, h⟩ := bndS h
  obtain ⟨a5, e_a5, h⟩ := bndS h
  obtain ⟨-, e⟩ := retS h
  rw [← e]
  exact (EQ.refl M)
theorem k_X6_framesOf_b4_s {rec4 : Nat → Int32 → Int32 → Int32 → Mem → Option (Int32 × Mem)} (hrec4 : ∀ (a0 : Nat) (a1 : Int32) (a2 : Int32) (a3 : Int32) (M N : Mem) (r : Int32), rec4 a0 a1 a2 a3 M = some (r, N) → EQ M N) {n0 : Nat} {x1 : Int32} {x2 : Int32} {x3 : Int32} {M N : Mem} {r : Int32} (h : f_X6_framesOf_b4_s rec4 n0 x1 x2 x3 M = some (r, N)) : EQ M N := by
  unfold f_X6_framesOf_b4_s at h
  obtain ⟨-, h⟩ := gdS h
  rcases ifS h with ⟨-, h⟩ | ⟨-, h⟩
  · obtain ⟨-, e⟩ := retS h
    rw [← e]
    exact (EQ.refl M)
  · obtain ⟨-, h⟩ := gdS h
    rcases ifS h with ⟨-, h⟩ | ⟨-, h⟩
    · obtain ⟨a1, e_a1, h⟩ := bndS h
      exact EQ.tr (EQ.refl M) (hrec4 _ _ _ _ _ _ _ h)
    · obtain ⟨a2, e_a2, h⟩ := bndS h
      obtain ⟨a3, e_a3, h⟩ := bndS h
      exact EQ.tr (EQ.refl M) (hrec4 _ _ _ _ _ _ _ h)
theorem k_X6_framesOf_b4   (k : Nat) : ∀ (a0 : Nat) (a1 : Int32) (a2 : Int32) (a3 : Int32) (M N : Mem) (r : Int32), f_X6_framesOf_b4 k a0 a1 a2 a3 M = some (r, N) → EQ M N :=
  lpN_ind (P := fun (f : Nat → Int32 → Int32 → Int32 → Mem → Option (Int32 × Mem)) => ∀ (a0 : Nat) (a1 : Int32) (a2 : Int32) (a3 : Int32) (M N : Mem) (r : Int32), f a0 a1 a2 a3 M = some (r, N) → EQ M N) (fun _ _ _ _ _ _ _ h => by cases h) (fun f hf _ _ _ _ _ _ _ h => k_X6_framesOf_b4_s  hf h) k
theorem k_X6_framesOf   {n0 : Nat} {x1 : Int32} {M N : Mem} {r : Int32} (h : f_X6_framesOf n0 x1 M = some (r, N)) : EQ M N := by
  unfold f_X6_framesOf at h
  exact EQ.tr (EQ.refl M) (k_X6_framesOf_b4  _ _ _ _ _ _ _ _ h)
theorem k_X9_allCameras   {n0 : Nat} {M N : Mem} {r : Int32} (h : f_X9_allCameras n0 M = some (r, N)) : EQ M N := by
  unfold f_X9_allCameras at h
  obtain ⟨-, h⟩ := gdS h
  obtain ⟨-, e⟩ := retS h
  rw [← e]
  exact (EQ.refl M)
theorem k_X6_clear   {n0 : Nat} {M N : Mem}  (h : f_X6_clear n0 M = some N) : EQ M N := by
  unfold f_X6_clear at h
  obtain ⟨-, h⟩ := gdS h
  obtain ⟨M1m, e_M1m, h⟩ := bndS h
  have q_M1m : EQ M M1m := EQ.tr (EQ.refl M) (by rw [e_M1m]; exact EQ_I _ _ _ _)
  obtain ⟨M2m, e_M2m, h⟩ := bndS h
  have q_M2m : EQ M M2m := EQ.tr q_M1m (by rw [e_M2m]; exact EQ_I _ _ _ _)
  obtain ⟨M3m, e_M3m, h⟩ := bndS h
  have q_M3m : EQ M M3m := EQ.tr q_M2m (by rw [e_M3m]; exact EQ_I _ _ _ _)
  rw [← Option.some.inj h]
  exact q_M3m
theorem k_X9_clear   {n0 : Nat} {M N : Mem}  (h : f_X9_clear n0 M = some N) : EQ M N := by
  unfold f_X9_clear at h
  obtain ⟨-, h⟩ := gdS h
  obtain ⟨M1m, e_M1m, h⟩ := bndS h
  have q_M1m : EQ M M1m := EQ.tr (EQ.refl M) (by rw [e_M1m]; exact EQ_I _ _ _ _)
  obtain ⟨M2m, e_M2m, h⟩ := bndS h
  have q_M2m : EQ M M2m := EQ.tr q_M1m (by rw [e_M2m]; exact EQ_I _ _ _ _)
  obtain ⟨M3m, c_M3m, h⟩ := clvS h
  have q_M3m : EQ M M3m := EQ.tr q_M2m (k_X2_clear  c_M3m)
  obtain ⟨M4m, e_M4m, h⟩ := bndS h
  have q_M4m : EQ M M4m := EQ.tr q_M3m (by rw [e_M4m]; exact EQ_I _ _ _ _)
  obtain ⟨M5m, e_M5m, h⟩ := bndS h
  have q_M5m : EQ M M5m := EQ.tr q_M4m (by rw [e_M5m]; exact EQ_I _ _ _ _)
  obtain ⟨M6m, e_M6m, h⟩ := bndS h
  have q_M6m : EQ M M6m := EQ.tr q_M5m (by rw [e_M6m]; exact EQ_I _ _ _ _)
  obtain ⟨M7m, e_M7m, h⟩ := bndS h
  have q_M7m : EQ M M7m := EQ.tr q_M6m (by rw [e_M7m]; exact EQ_I _ _ _ _)
  obtain ⟨M8m, e_M8m, h⟩ := bndS h
  have q_M8m : EQ M M8m := EQ.tr q_M7m (by rw [e_M8m]; exact EQ_I _ _ _ _)
  obtain ⟨M9m, e_M9m, h⟩ := bndS h
  have q_M9m : EQ M M9m := EQ.tr q_M8m (by rw [e_M9m]; exact EQ_I _ _ _ _)
  obtain ⟨M10m, e_M10m, h⟩ := bndS h
  have q_M10m : EQ M M10m := EQ.tr q_M9m (by rw [e_M10m]; exact EQ_I _ _ _ _)
  obtain ⟨M11m, e_M11m, h⟩ := bndS h
  have q_M11m : EQ M M11m := EQ.tr q_M10m (by rw [e_M11m]; exact EQ_I _ _ _ _)
  rw [← Option.some.inj h]
  exact q_M11m
theorem k_X9_isReviewedAtOnce   {n0 : Nat} {x1 : Int32} {M N : Mem} {r : Int32} (h : f_X9_isReviewedAtOnce n0 x1 M = some (r, N)) : EQ M N := by
  unfold f_X9_isReviewedAtOnce at h
  obtain ⟨-, h⟩ := gdS h
  obtain ⟨-, h⟩ := gdS h
  obtain ⟨-, h⟩ := gdS h
  rcases ifS h with ⟨-, h⟩ | ⟨-, h⟩
  · rcases ifS h with ⟨-, h⟩ | ⟨-, h⟩
    · obtain ⟨-, e⟩ := retS h
      rw [← e]
      exact (EQ.refl M)
    · obtain ⟨-, e⟩ := retS h
      rw [← e]
      exact (EQ.refl M)
  · obtain ⟨-, e⟩ := retS h
    rw [← e]
    exact (EQ.refl M)
theorem k_X9_leftWhenWon_b22   {x1 : Int32} {xs0 : Int32} {M N : Mem} {r : Int32} (h : f_X9_leftWhenWon_b22 x1 xs0 M = some (r, N)) : EQ M N := by
  unfold f_X9_leftWhenWon_b22 at h
  rcases ifS h with ⟨-, h⟩ | ⟨-, h⟩
  · obtain ⟨-, e⟩ := retS h
    rw [← e]
    exact (EQ.refl M)
  · obtain ⟨-, e⟩ := retS h
    rw [← e]
    exact (EQ.refl M)
theorem k_X9_leftWhenWon_b21   {x1 : Int32} {M N : Mem} {r : Int32} (h : f_X9_leftWhenWon_b21 x1 M = some (r, N)) : EQ M N := by
  unfold f_X9_leftWhenWon_b21 at h
  exact EQ.tr (EQ.refl M) (k_X9_leftWhenWon_b22  h)
theorem k_X9_leftWhenWon   {n0 : Nat} {x1 : Int32} {x2 : Int32} {M N : Mem} {r : Int32} (h : f_X9_leftWhenWon n0 x1 x2 M = some (r, N)) : EQ M N := by
  unfold f_X9_leftWhenWon at h
  obtain ⟨-, h⟩ := gdS h
  obtain ⟨a1, e_a1, h⟩ := bndS h
  rcases ifS h with ⟨-, h⟩ | ⟨-, h⟩
  · exact EQ.tr (EQ.refl M) (k_X9_leftWhenWon_b21  h)
  · obtain ⟨-, h⟩ := gdS h
    rcases ifS h with ⟨-, h⟩ | ⟨-, h⟩
    · exact EQ.tr (EQ.refl M) (k_X9_leftWhenWon_b22  h)
    · exact EQ.tr (EQ.refl M) (k_X9_leftWhenWon_b21  h)
theorem k_J0_isLatin1_aae02   {n0 : Nat} {M N : Mem} {r : Int32} (h : f_J0_isLatin1_aae02 n0 M = some (r, N)) : EQ M N := by
  unfold f_J0_isLatin1_aae02 at h
  rcases ifS h with ⟨-, h⟩ | ⟨-, h⟩
  · obtain ⟨-, e⟩ := retS h
    rw [← e]
    exact (EQ.refl M)
  · obtain ⟨-, h⟩ := gdS h
    rcases ifS h with ⟨-, h⟩ | ⟨-, h⟩
    · obtain ⟨-, e⟩ := retS h
      rw [← e]
      exact (EQ.refl M)
    · obtain ⟨-, e⟩ := retS h
      rw [← e]
      exact (EQ.refl M)
theorem k_J3_checkIndex_8e157_b9   {x0 : Int32} {x1 : Int32} {n2 : Nat} {M N : Mem} {r : Int32} (h : f_J3_checkIndex_8e157_b9 x0 x1 n2 M = some (r, N)) : EQ M N := by
  unfold f_J3_checkIndex_8e157_b9 at h
  cases h
theorem k_J3_checkIndex_8e157   {x0 : Int32} {x1 : Int32} {n2 : Nat} {M N : Mem} {r : Int32} (h : f_J3_checkIndex_8e157 x0 x1 n2 M = some (r, N)) : EQ M N := by
  unfold f_J3_checkIndex_8e157 at h
  rcases ifS h with ⟨-, h⟩ | ⟨-, h⟩
  · exact EQ.tr (EQ.refl M) (k_J3_checkIndex_8e157_b9  h)
  · rcases ifS h with ⟨-, h⟩ | ⟨-, h⟩
    · obtain ⟨-, e⟩ := retS h
      rw [← e]
      exact (EQ.refl M)
    · exact EQ.tr (EQ.refl M) (k_J3_checkIndex_8e157_b9  h)
theorem k_J0_checkIndex_df160   {x0 : Int32} {x1 : Int32} {M N : Mem}  (h : f_J0_checkIndex_df160 x0 x1 M = some N) : EQ M N := by
  unfold f_J0_checkIndex_df160 at h
  obtain ⟨r1, M1m, c_M1m, h⟩ := clS h
  have q_M1m : EQ M M1m := EQ.tr (EQ.refl M) (k_J3_checkIndex_8e157  c_M1m)
  rw [← Option.some.inj h]
  exact q_M1m
theorem k_J1_charAt_3b067   {n0 : Nat} {x1 : Int32} {M N : Mem} {r : Int32} (h : f_J1_charAt_3b067 n0 x1 M = some (r, N)) : EQ M N := by
  unfold f_J1_charAt_3b067 at h
  obtain ⟨-, h⟩ := gdS h
  obtain ⟨M1m, c_M1m, h⟩ := clvS h
  have q_M1m : EQ M M1m := EQ.tr (EQ.refl M) (k_J0_checkIndex_df160  c_M1m)
  obtain ⟨-, h⟩ := gdS h
  obtain ⟨-, h⟩ := gdS h
  obtain ⟨-, e⟩ := retS h
  rw [← e]
  exact q_M1m
theorem k_J0_charAt_5068e   {n0 : Nat} {x1 : Int32} {M N : Mem} {r : Int32} (h : f_J0_charAt_5068e n0 x1 M = some (r, N)) : EQ M N := by
  unfold f_J0_charAt_5068e at h
  obtain ⟨-, h⟩ := gdS h
  obtain ⟨r1, M1m, c_M1m, h⟩ := clS h
  have q_M1m : EQ M M1m := EQ.tr (EQ.refl M) (k_J0_isLatin1_aae02  c_M1m)
  rcases ifS h with ⟨-, h⟩ | ⟨-, h⟩
  · cases h
  · obtain ⟨r2, M2m, c_M2m, h⟩ := clS h
    have q_M2m : EQ M M2m := EQ.tr q_M1m (k_J1_charAt_3b067  c_M2m)
    obtain ⟨-, h⟩ := gdS h
    obtain ⟨-, e⟩ := retS h
    rw [← e]
    exact q_M2m
theorem k_J0_coder_7d493   {n0 : Nat} {M N : Mem} {r : Int32} (h : f_J0_coder_7d493 n0 M = some (r, N)) : EQ M N := by
  unfold f_J0_coder_7d493 at h
  rcases ifS h with ⟨-, h⟩ | ⟨-, h⟩
  · obtain ⟨-, e⟩ := retS h
    rw [← e]
    exact (EQ.refl M)
  · obtain ⟨-, h⟩ := gdS h
    obtain ⟨-, e⟩ := retS h
    rw [← e]
    exact (EQ.refl M)
theorem k_J0_length_8abf5   {n0 : Nat} {M N : Mem} {r : Int32} (h : f_J0_length_8abf5 n0 M = some (r, N)) : EQ M N := by
  unfold f_J0_length_8abf5 at h
  obtain ⟨-, h⟩ := gdS h
  obtain ⟨r1, M1m, c_M1m, h⟩ := clS h
  have q_M1m : EQ M M1m := EQ.tr (EQ.refl M) (k_J0_coder_7d493  c_M1m)
  obtain ⟨-, e⟩ := retS h
  rw [← e]
  exact q_M1m
theorem k_Jx29ce0_ordinal_8abf5   {n0 : Nat} {M N : Mem} {r : Int32} (h : f_Jx29ce0_ordinal_8abf5 n0 M = some (r, N)) : EQ M N := by
  unfold f_Jx29ce0_ordinal_8abf5 at h
  obtain ⟨-, h⟩ := gdS h
  obtain ⟨-, e⟩ := retS h
  rw [← e]
  exact (EQ.refl M)
theorem k_X4_tellFrame_b55 {rec12 : Nat → Int32 → Int32 → Int32 → Mem → Option Mem} (hrec12 : ∀ (a0 : Nat) (a1 : Int32) (a2 : Int32) (a3 : Int32) (M N : Mem), rec12 a0 a1 a2 a3 M = some N → EQ M N) {n1 : Nat} {x2 : Int32} {x3 : Int32} {x4 : Int32} {x5 : Int32} {M N : Mem}  (h : f_X4_tellFrame_b55 rec12 n1 x2 x3 x4 x5 M = some N) : EQ M N := by
  unfold f_X4_tellFrame_b55 at h
  obtain ⟨-, h⟩ := gdS h
  obtain ⟨-, h⟩ := gdS h
  rcases ifS h with ⟨-, h⟩ | ⟨-, h⟩
  · obtain ⟨a1, e_a1, h⟩ := bndS h
    exact EQ.tr (EQ.refl M) (hrec12 _ _ _ _ _ _ h)
  · obtain ⟨M1m, c_M1m, h⟩ := clvS h
    have q_M1m : EQ M M1m := EQ.tr (EQ.refl M) (k_X2_tell  c_M1m)
    obtain ⟨a2, e_a2, h⟩ := bndS h
    exact EQ.tr q_M1m (hrec12 _ _ _ _ _ _ h)
theorem k_X4_tellFrame_b12_s {rec12 : Nat → Int32 → Int32 → Int32 → Mem → Option Mem} (hrec12 : ∀ (a0 : Nat) (a1 : Int32) (a2 : Int32) (a3 : Int32) (M N : Mem), rec12 a0 a1 a2 a3 M = some N → EQ M N) {n1 : Nat} {x2 : Int32} {x3 : Int32} {x4 : Int32} {M N : Mem}  (h : f_X4_tellFrame_b12_s rec12 n1 x2 x3 x4 M = some N) : EQ M N := by
  unfold f_X4_tellFrame_b12_s at h
  rcases ifS h with ⟨-, h⟩ | ⟨-, h⟩
  · rw [← Option.some.inj h]
    exact (EQ.refl M)
  · obtain ⟨a1, e_a1, h⟩ := bndS h
    obtain ⟨-, h⟩ := gdS h
    obtain ⟨-, h⟩ := gdS h
    rcases ifS h with ⟨-, h⟩ | ⟨-, h⟩
    · exact EQ.tr (EQ.refl M) (k_X4_tellFrame_b55 hrec12 h)
    · obtain ⟨M1m, c_M1m, h⟩ := clvS h
      have q_M1m : EQ M M1m := EQ.tr (EQ.refl M) (k_X2_tell  c_M1m)
      exact EQ.tr q_M1m (k_X4_tellFrame_b55 hrec12 h)
theorem k_X4_tellFrame_b12   (k : Nat) : ∀ (a0 : Nat) (a1 : Int32) (a2 : Int32) (a3 : Int32) (M N : Mem), f_X4_tellFrame_b12 k a0 a1 a2 a3 M = some N → EQ M N :=
  lpN_ind (P := fun (f : Nat → Int32 → Int32 → Int32 → Mem → Option Mem) => ∀ (a0 : Nat) (a1 : Int32) (a2 : Int32) (a3 : Int32) (M N : Mem), f a0 a1 a2 a3 M = some N → EQ M N) (fun _ _ _ _ _ _ h => by cases h) (fun f hf _ _ _ _ _ _ h => k_X4_tellFrame_b12_s  hf h) k
theorem k_X4_tellFrame   {n1 : Nat} {x2 : Int32} {M N : Mem}  (h : f_X4_tellFrame n1 x2 M = some N) : EQ M N := by
  unfold f_X4_tellFrame at h
  obtain ⟨-, h⟩ := gdS h
  obtain ⟨-, h⟩ := gdS h
  obtain ⟨a1, e_a1, h⟩ := bndS h
  exact EQ.tr (EQ.refl M) (k_X4_tellFrame_b12  _ _ _ _ _ _ _ h)
theorem k_X4_sureOf_b14_s {rec14 : Nat → Int32 → Int32 → Mem → Option (Nat × Mem)} (hrec14 : ∀ (a0 : Nat) (a1 : Int32) (a2 : Int32) (M N : Mem) (r : Nat), rec14 a0 a1 a2 M = some (r, N) → EQ M N) {n2 : Nat} {x3 : Int32} {x4 : Int32} {M N : Mem} {r : Nat} (h : f_X4_sureOf_b14_s rec14 n2 x3 x4 M = some (r, N)) : EQ M N := by
  unfold f_X4_sureOf_b14_s at h
  obtain ⟨-, h⟩ := gdS h
  rcases ifS h with ⟨-, h⟩ | ⟨-, h⟩
  · obtain ⟨-, e⟩ := retS h
    rw [← e]
    exact (EQ.refl M)
  · rcases ifS h with ⟨-, h⟩ | ⟨-, h⟩
    · obtain ⟨a1, e_a1, h⟩ := bndS h
      exact EQ.tr (EQ.refl M) (hrec14 _ _ _ _ _ _ h)
    · obtain ⟨M1m, c_M1m, h⟩ := clvS h
      have q_M1m : EQ M M1m := EQ.tr (EQ.refl M) (k_X4_tellFrame  c_M1m)
      obtain ⟨a2, e_a2, h⟩ := bndS h
      exact EQ.tr q_M1m (hrec14 _ _ _ _ _ _ h)
theorem k_X4_sureOf_b14   (k : Nat) : ∀ (a0 : Nat) (a1 : Int32) (a2 : Int32) (M N : Mem) (r : Nat), f_X4_sureOf_b14 k a0 a1 a2 M = some (r, N) → EQ M N :=
  lpN_ind (P := fun (f : Nat → Int32 → Int32 → Mem → Option (Nat × Mem)) => ∀ (a0 : Nat) (a1 : Int32) (a2 : Int32) (M N : Mem) (r : Nat), f a0 a1 a2 M = some (r, N) → EQ M N) (fun _ _ _ _ _ _ h => by cases h) (fun f hf _ _ _ _ _ _ h => k_X4_sureOf_b14_s  hf h) k
theorem k_X4_sureOf   {n1 : Nat} {n2 : Nat} {x3 : Int32} {M N : Mem} {r : Nat} (h : f_X4_sureOf n1 n2 x3 M = some (r, N)) : EQ M N := by
  unfold f_X4_sureOf at h
  obtain ⟨-, h⟩ := gdS h
  obtain ⟨M1m, c_M1m, h⟩ := clvS h
  have q_M1m : EQ M M1m := EQ.tr (EQ.refl M) (k_X2_copyFrom  c_M1m)
  exact EQ.tr q_M1m (k_X4_sureOf_b14  _ _ _ _ _ _ _ h)
theorem k_X4_canHold_b13_s {rec13 : Nat → Int32 → Mem → Option (Int32 × Mem)} (hrec13 : ∀ (a0 : Nat) (a1 : Int32) (M N : Mem) (r : Int32), rec13 a0 a1 M = some (r, N) → EQ M N) {n1 : Nat} {x2 : Int32} {M N : Mem} {r : Int32} (h : f_X4_canHold_b13_s rec13 n1 x2 M = some (r, N)) : EQ M N := by
  unfold f_X4_canHold_b13_s at h
  obtain ⟨-, h⟩ := gdS h
  rcases ifS h with ⟨-, h⟩ | ⟨-, h⟩
  · rcases ifS h with ⟨-, h⟩ | ⟨-, h⟩
    · obtain ⟨-, e⟩ := retS h
      rw [← e]
      exact (EQ.refl M)
    · obtain ⟨-, e⟩ := retS h
      rw [← e]
      exact (EQ.refl M)
  · obtain ⟨-, h⟩ := gdS h
    obtain ⟨M1m, c_M1m, h⟩ := clvS h
    have q_M1m : EQ M M1m := EQ.tr (EQ.refl M) (k_X2_tell  c_M1m)
    obtain ⟨a1, e_a1, h⟩ := bndS h
    exact EQ.tr q_M1m (hrec13 _ _ _ _ _ h)
theorem k_X4_canHold_b13   (k : Nat) : ∀ (a0 : Nat) (a1 : Int32) (M N : Mem) (r : Int32), f_X4_canHold_b13 k a0 a1 M = some (r, N) → EQ M N :=
  lpN_ind (P := fun (f : Nat → Int32 → Mem → Option (Int32 × Mem)) => ∀ (a0 : Nat) (a1 : Int32) (M N : Mem) (r : Int32), f a0 a1 M = some (r, N) → EQ M N) (fun _ _ _ _ _ h => by cases h) (fun f hf _ _ _ _ _ h => k_X4_canHold_b13_s  hf h) k
theorem k_X4_canHold   {n1 : Nat} {M N : Mem} {r : Int32} (h : f_X4_canHold n1 M = some (r, N)) : EQ M N := by
  unfold f_X4_canHold at h
  obtain ⟨M1m, c_M1m, h⟩ := clvS h
  have q_M1m : EQ M M1m := EQ.tr (EQ.refl M) (k_X2_copyFrom  c_M1m)
  exact EQ.tr q_M1m (k_X4_canHold_b13  _ _ _ _ _ _ h)
theorem k_X4_mustHold_b2_s {rec2 : Nat → Int32 → Mem → Option (Int32 × Mem)} (hrec2 : ∀ (a0 : Nat) (a1 : Int32) (M N : Mem) (r : Int32), rec2 a0 a1 M = some (r, N) → EQ M N) {n1 : Nat} {x2 : Int32} {M N : Mem} {r : Int32} (h : f_X4_mustHold_b2_s rec2 n1 x2 M = some (r, N)) : EQ M N := by
  unfold f_X4_mustHold_b2_s at h
  obtain ⟨-, h⟩ := gdS h
  rcases ifS h with ⟨-, h⟩ | ⟨-, h⟩
  · obtain ⟨-, e⟩ := retS h
    rw [← e]
    exact (EQ.refl M)
  · obtain ⟨-, h⟩ := gdS h
    obtain ⟨r1, M1m, c_M1m, h⟩ := clS h
    have q_M1m : EQ M M1m := EQ.tr (EQ.refl M) (k_X2_markLess  c_M1m)
    rcases ifS h with ⟨-, h⟩ | ⟨-, h⟩
    · obtain ⟨a1, e_a1, h⟩ := bndS h
      exact EQ.tr q_M1m (hrec2 _ _ _ _ _ h)
    · obtain ⟨-, e⟩ := retS h
      rw [← e]
      exact q_M1m
theorem k_X4_mustHold_b2   (k : Nat) : ∀ (a0 : Nat) (a1 : Int32) (M N : Mem) (r : Int32), f_X4_mustHold_b2 k a0 a1 M = some (r, N) → EQ M N :=
  lpN_ind (P := fun (f : Nat → Int32 → Mem → Option (Int32 × Mem)) => ∀ (a0 : Nat) (a1 : Int32) (M N : Mem) (r : Int32), f a0 a1 M = some (r, N) → EQ M N) (fun _ _ _ _ _ h => by cases h) (fun f hf _ _ _ _ _ h => k_X4_mustHold_b2_s  hf h) k
theorem k_X4_mustHold   {n1 : Nat} {M N : Mem} {r : Int32} (h : f_X4_mustHold n1 M = some (r, N)) : EQ M N := by
  unfold f_X4_mustHold at h
  exact EQ.tr (EQ.refl M) (k_X4_mustHold_b2  _ _ _ _ _ _ h)
theorem k_X4_byFrames   {n1 : Nat} {n2 : Nat} {x3 : Int32} {M N : Mem} {r : Int32} (h : f_X4_byFrames n1 n2 x3 M = some (r, N)) : EQ M N := by
  unfold f_X4_byFrames at h
  obtain ⟨o1, M1m, c_M1m, h⟩ := clS h
  have q_M1m : EQ M M1m := EQ.tr (EQ.refl M) (k_X4_sureOf  c_M1m)
  obtain ⟨-, h⟩ := gdS h
  rcases ifS h with ⟨-, h⟩ | ⟨-, h⟩
  · obtain ⟨-, h⟩ := gdS h
    obtain ⟨-, h⟩ := gdS h
    obtain ⟨-, h⟩ := gdS h
    obtain ⟨o2, e_o2, h⟩ := bndS h
    obtain ⟨r1, M2m, c_M2m, h⟩ := clS h
    have q_M2m : EQ M M2m := EQ.tr q_M1m (k_X4_mustHold  c_M2m)
    rcases ifS h with ⟨-, h⟩ | ⟨-, h⟩
    · obtain ⟨r2, M3m, c_M3m, h⟩ := clS h
      have q_M3m : EQ M M3m := EQ.tr q_M2m (k_X4_canHold  c_M3m)
      rcases ifS h with ⟨-, h⟩ | ⟨-, h⟩
      · obtain ⟨-, e⟩ := retS h
        rw [← e]
        exact q_M3m
      · obtain ⟨-, e⟩ := retS h
        rw [← e]
        exact q_M3m
    · obtain ⟨-, e⟩ := retS h
      rw [← e]
      exact q_M2m
  · obtain ⟨-, e⟩ := retS h
    rw [← e]
    exact q_M1m
theorem k_X4_isSure   {x0 : Int32} {M N : Mem} {r : Int32} (h : f_X4_isSure x0 M = some (r, N)) : EQ M N := by
  unfold f_X4_isSure at h
  rcases ifS h with ⟨-, h⟩ | ⟨-, h⟩
  · obtain ⟨-, e⟩ := retS h
    rw [← e]
    exact (EQ.refl M)
  · rcases ifS h with ⟨-, h⟩ | ⟨-, h⟩
    · obtain ⟨-, e⟩ := retS h
      rw [← e]
      exact (EQ.refl M)
    · obtain ⟨-, e⟩ := retS h
      rw [← e]
      exact (EQ.refl M)
theorem k_X4_trueCall   {n1 : Nat} {n2 : Nat} {x3 : Int32} {M N : Mem} {r : Int32} (h : f_X4_trueCall n1 n2 x3 M = some (r, N)) : EQ M N := by
  unfold f_X4_trueCall at h
  obtain ⟨-, h⟩ := gdS h
  obtain ⟨r1, M1m, c_M1m, h⟩ := clS h
  have q_M1m : EQ M M1m := EQ.tr (EQ.refl M) (k_X6_allFrames  c_M1m)
  obtain ⟨r2, M2m, c_M2m, h⟩ := clS h
  have q_M2m : EQ M M2m := EQ.tr q_M1m (k_X4_byFrames  c_M2m)
  obtain ⟨r3, M3m, c_M3m, h⟩ := clS h
  have q_M3m : EQ M M3m := EQ.tr q_M2m (k_X4_isSure  c_M3m)
  rcases ifS h with ⟨-, h⟩ | ⟨-, h⟩
  · obtain ⟨-, e⟩ := retS h
    rw [← e]
    exact q_M3m
  · obtain ⟨-, e⟩ := retS h
    rw [← e]
    exact q_M3m
theorem k_X4_searchFewest_b40_s {rec28 : Nat → Nat → Int32 → Int32 → Int32 → Mem → Option (Int32 × Mem)} {rec40 : Nat → Nat → Int32 → Int32 → Int32 → Int32 → Mem → Option (Int32 × Mem)} (hrec28 : ∀ (a0 : Nat) (a1 : Nat) (a2 : Int32) (a3 : Int32) (a4 : Int32) (M N : Mem) (r : Int32), rec28 a0 a1 a2 a3 a4 M = some (r, N) → EQ M N) (hrec40 : ∀ (a0 : Nat) (a1 : Nat) (a2 : Int32) (a3 : Int32) (a4 : Int32) (a5 : Int32) (M N : Mem) (r : Int32), rec40 a0 a1 a2 a3 a4 a5 M = some (r, N) → EQ M N) {n1 : Nat} {n2 : Nat} {x3 : Int32} {x4 : Int32} {x5 : Int32} {x6 : Int32} {M N : Mem} {r : Int32} (h : f_X4_searchFewest_b40_s rec28 rec40 n1 n2 x3 x4 x5 x6 M = some (r, N)) : EQ M N := by
  unfold f_X4_searchFewest_b40_s at h
  rcases ifS h with ⟨-, h⟩ | ⟨-, h⟩
  · obtain ⟨a1, e_a1, h⟩ := bndS h
    exact EQ.tr (EQ.refl M) (hrec28 _ _ _ _ _ _ _ _ h)
  · obtain ⟨r1, M1m, c_M1m, h⟩ := clS h
    have q_M1m : EQ M M1m := EQ.tr (EQ.refl M) (k_J6_bitCount_0f7a4  c_M1m)
    rcases ifS h with ⟨-, h⟩ | ⟨-, h⟩
    · obtain ⟨r2, M2m, c_M2m, h⟩ := clS h
      have q_M2m : EQ M M2m := EQ.tr q_M1m (k_X4_byFrames  c_M2m)
      rcases ifS h with ⟨-, h⟩ | ⟨-, h⟩
      · obtain ⟨-, e⟩ := retS h
        rw [← e]
        exact q_M2m
      · obtain ⟨a2, e_a2, h⟩ := bndS h
        exact EQ.tr q_M2m (hrec40 _ _ _ _ _ _ _ _ _ h)
    · obtain ⟨a3, e_a3, h⟩ := bndS h
      exact EQ.tr q_M1m (hrec40 _ _ _ _ _ _ _ _ _ h)
theorem k_X4_searchFewest_b40 {rec28 : Nat → Nat → Int32 → Int32 → Int32 → Mem → Option (Int32 × Mem)} (hrec28 : ∀ (a0 : Nat) (a1 : Nat) (a2 : Int32) (a3 : Int32) (a4 : Int32) (M N : Mem) (r : Int32), rec28 a0 a1 a2 a3 a4 M = some (r, N) → EQ M N) (k : Nat) : ∀ (a0 : Nat) (a1 : Nat) (a2 : Int32) (a3 : Int32) (a4 : Int32) (a5 : Int32) (M N : Mem) (r : Int32), f_X4_searchFewest_b40 rec28 k a0 a1 a2 a3 a4 a5 M = some (r, N) → EQ M N :=
  lpN_ind (P := fun (f : Nat → Nat → Int32 → Int32 → Int32 → Int32 → Mem → Option (Int32 × Mem)) => ∀ (a0 : Nat) (a1 : Nat) (a2 : Int32) (a3 : Int32) (a4 : Int32) (a5 : Int32) (M N : Mem) (r : Int32), f a0 a1 a2 a3 a4 a5 M = some (r, N) → EQ M N) (fun _ _ _ _ _ _ _ _ _ h => by cases h) (fun f hf _ _ _ _ _ _ _ _ _ h => k_X4_searchFewest_b40_s hrec28 hf h) k
theorem k_X4_searchFewest_b28_s {rec28 : Nat → Nat → Int32 → Int32 → Int32 → Mem → Option (Int32 × Mem)} (hrec28 : ∀ (a0 : Nat) (a1 : Nat) (a2 : Int32) (a3 : Int32) (a4 : Int32) (M N : Mem) (r : Int32), rec28 a0 a1 a2 a3 a4 M = some (r, N) → EQ M N) {n1 : Nat} {n2 : Nat} {x3 : Int32} {x4 : Int32} {x5 : Int32} {M N : Mem} {r : Int32} (h : f_X4_searchFewest_b28_s rec28 n1 n2 x3 x4 x5 M = some (r, N)) : EQ M N := by
  unfold f_X4_searchFewest_b28_s at h
  obtain ⟨-, h⟩ := gdS h
  rcases ifS h with ⟨-, h⟩ | ⟨-, h⟩
  · obtain ⟨-, e⟩ := retS h
    rw [← e]
    exact (EQ.refl M)
  · exact EQ.tr (EQ.refl M) (k_X4_searchFewest_b40 hrec28 _ _ _ _ _ _ _ _ _ _ h)
theorem k_X4_searchFewest_b28   (k : Nat) : ∀ (a0 : Nat) (a1 : Nat) (a2 : Int32) (a3 : Int32) (a4 : Int32) (M N : Mem) (r : Int32), f_X4_searchFewest_b28 k a0 a1 a2 a3 a4 M = some (r, N) → EQ M N :=
  lpN_ind (P := fun (f : Nat → Nat → Int32 → Int32 → Int32 → Mem → Option (Int32 × Mem)) => ∀ (a0 : Nat) (a1 : Nat) (a2 : Int32) (a3 : Int32) (a4 : Int32) (M N : Mem) (r : Int32), f a0 a1 a2 a3 a4 M = some (r, N) → EQ M N) (fun _ _ _ _ _ _ _ _ h => by cases h) (fun f hf _ _ _ _ _ _ _ _ h => k_X4_searchFewest_b28_s  hf h) k
theorem k_X4_searchFewest   {n1 : Nat} {n2 : Nat} {M N : Mem} {r : Int32} (h : f_X4_searchFewest n1 n2 M = some (r, N)) : EQ M N := by
  unfold f_X4_searchFewest at h
  obtain ⟨-, h⟩ := gdS h
  obtain ⟨r1, M1m, c_M1m, h⟩ := clS h
  have q_M1m : EQ M M1m := EQ.tr (EQ.refl M) (k_X6_allFrames  c_M1m)
  obtain ⟨r2, M2m, c_M2m, h⟩ := clS h
  have q_M2m : EQ M M2m := EQ.tr q_M1m (k_X4_byFrames  c_M2m)
  obtain ⟨r3, M3m, c_M3m, h⟩ := clS h
  have q_M3m : EQ M M3m := EQ.tr q_M2m (k_X4_isSure  c_M3m)
  rcases ifS h with ⟨-, h⟩ | ⟨-, h⟩
  · obtain ⟨-, e⟩ := retS h
    rw [← e]
    exact q_M3m
  · exact EQ.tr q_M3m (k_X4_searchFewest_b28  _ _ _ _ _ _ _ _ _ h)
theorem k_X4_fewestFrames   {n1 : Nat} {n2 : Nat} {M N : Mem} {r : Int32} (h : f_X4_fewestFrames n1 n2 M = some (r, N)) : EQ M N := by
  unfold f_X4_fewestFrames at h
  obtain ⟨-, h⟩ := gdS h
  rcases ifS h with ⟨-, h⟩ | ⟨-, h⟩
  · obtain ⟨r1, M1m, c_M1m, h⟩ := clS h
    have q_M1m : EQ M M1m := EQ.tr (EQ.refl M) (k_X4_searchFewest  c_M1m)
    obtain ⟨M2m, e_M2m, h⟩ := bndS h
    have q_M2m : EQ M M2m := EQ.tr q_M1m (by rw [e_M2m]; exact EQ_I _ _ _ _)
    obtain ⟨-, e⟩ := retS h
    rw [← e]
    exact q_M2m
  · obtain ⟨-, e⟩ := retS h
    rw [← e]
    exact (EQ.refl M)
theorem k_X4_keyFrames_b27_s {rec27 : Nat → Nat → Int32 → Int32 → Int32 → Mem → Option (Int32 × Mem)} (hrec27 : ∀ (a0 : Nat) (a1 : Nat) (a2 : Int32) (a3 : Int32) (a4 : Int32) (M N : Mem) (r : Int32), rec27 a0 a1 a2 a3 a4 M = some (r, N) → EQ M N) {n1 : Nat} {n2 : Nat} {x3 : Int32} {x4 : Int32} {x5 : Int32} {M N : Mem} {r : Int32} (h : f_X4_keyFrames_b27_s rec27 n1 n2 x3 x4 x5 M = some (r, N)) : EQ M N := by
  unfold f_X4_keyFrames_b27_s at h
  obtain ⟨-, h⟩ := gdS h
  rcases ifS h with ⟨-, h⟩ | ⟨-, h⟩
  · obtain ⟨-, e⟩ := retS h
    rw [← e]
    exact (EQ.refl M)
  · obtain ⟨r1, M1m, c_M1m, h⟩ := clS h
    have q_M1m : EQ M M1m := EQ.tr (EQ.refl M) (k_X4_byFrames  c_M1m)
    rcases ifS h with ⟨-, h⟩ | ⟨-, h⟩
    · obtain ⟨a1, e_a1, h⟩ := bndS h
      obtain ⟨a2, e_a2, h⟩ := bndS h
      exact EQ.tr q_M1m (hrec27 _ _ _ _ _ _ _ _ h)
    · obtain ⟨a3, e_a3, h⟩ := bndS h
      exact EQ.tr q_M1m (hrec27 _ _ _ _ _ _ _ _ h)
theorem k_X4_keyFrames_b27   (k : Nat) : ∀ (a0 : Nat) (a1 : Nat) (a2 : Int32) (a3 : Int32) (a4 : Int32) (M N : Mem) (r : Int32), f_X4_keyFrames_b27 k a0 a1 a2 a3 a4 M = some (r, N) → EQ M N :=
  lpN_ind (P := fun (f : Nat → Nat → Int32 → Int32 → Int32 → Mem → Option (Int32 × Mem)) => ∀ (a0 : Nat) (a1 : Nat) (a2 : Int32) (a3 : Int32) (a4 : Int32) (M N : Mem) (r : Int32), f a0 a1 a2 a3 a4 M = some (r, N) → EQ M N) (fun _ _ _ _ _ _ _ _ h => by cases h) (fun f hf _ _ _ _ _ _ _ _ h => k_X4_keyFrames_b27_s  hf h) k
theorem k_X4_keyFrames   {n1 : Nat} {n2 : Nat} {M N : Mem} {r : Int32} (h : f_X4_keyFrames n1 n2 M = some (r, N)) : EQ M N := by
  unfold f_X4_keyFrames at h
  obtain ⟨-, h⟩ := gdS h
  obtain ⟨r1, M1m, c_M1m, h⟩ := clS h
  have q_M1m : EQ M M1m := EQ.tr (EQ.refl M) (k_X6_allFrames  c_M1m)
  obtain ⟨r2, M2m, c_M2m, h⟩ := clS h
  have q_M2m : EQ M M2m := EQ.tr q_M1m (k_X4_byFrames  c_M2m)
  obtain ⟨r3, M3m, c_M3m, h⟩ := clS h
  have q_M3m : EQ M M3m := EQ.tr q_M2m (k_X4_isSure  c_M3m)
  rcases ifS h with ⟨-, h⟩ | ⟨-, h⟩
  · obtain ⟨-, e⟩ := retS h
    rw [← e]
    exact q_M3m
  · exact EQ.tr q_M3m (k_X4_keyFrames_b27  _ _ _ _ _ _ _ _ _ h)
theorem k_X4_fewestCameras_b42_s {rec30 : Nat → Nat → Int32 → Int32 → Int32 → Mem → Option (Int32 × Mem)} {rec42 : Nat → Nat → Int32 → Int32 → Int32 → Int32 → Mem → Option (Int32 × Mem)} (hrec30 : ∀ (a0 : Nat) (a1 : Nat) (a2 : Int32) (a3 : Int32) (a4 : Int32) (M N : Mem) (r : Int32), rec30 a0 a1 a2 a3 a4 M = some (r, N) → EQ M N) (hrec42 : ∀ (a0 : Nat) (a1 : Nat) (a2 : Int32) (a3 : Int32) (a4 : Int32) (a5 : Int32) (M N : Mem) (r : Int32), rec42 a0 a1 a2 a3 a4 a5 M = some (r, N) → EQ M N) {n1 : Nat} {n2 : Nat} {x3 : Int32} {x4 : Int32} {x5 : Int32} {x6 : Int32} {M N : Mem} {r : Int32} (h : f_X4_fewestCameras_b42_s rec30 rec42 n1 n2 x3 x4 x5 x6 M = some (r, N)) : EQ M N := by
  unfold f_X4_fewestCameras_b42_s at h
  rcases ifS h with ⟨-, h⟩ | ⟨-, h⟩
  · obtain ⟨a1, e_a1, h⟩ := bndS h
    exact EQ.tr (EQ.refl M) (hrec30 _ _ _ _ _ _ _ _ h)
  · obtain ⟨r1, M1m, c_M1m, h⟩ := clS h
    have q_M1m : EQ M M1m := EQ.tr (EQ.refl M) (k_J6_bitCount_0f7a4  c_M1m)
    rcases ifS h with ⟨-, h⟩ | ⟨-, h⟩
    · obtain ⟨-, h⟩ := gdS h
      obtain ⟨r2, M2m, c_M2m, h⟩ := clS h
      have q_M2m : EQ M M2m := EQ.tr q_M1m (k_X6_framesOf  c_M2m)
      obtain ⟨r3, M3m, c_M3m, h⟩ := clS h
      have q_M3m : EQ M M3m := EQ.tr q_M2m (k_X4_byFrames  c_M3m)
      rcases ifS h with ⟨-, h⟩ | ⟨-, h⟩
      · obtain ⟨-, e⟩ := retS h
        rw [← e]
        exact q_M3m
      · obtain ⟨a2, e_a2, h⟩ := bndS h
        exact EQ.tr q_M3m (hrec42 _ _ _ _ _ _ _ _ _ h)
    · obtain ⟨a3, e_a3, h⟩ := bndS h
      exact EQ.tr q_M1m (hrec42 _ _ _ _ _ _ _ _ _ h)
theorem k_X4_fewestCameras_b42 {rec30 : Nat → Nat → Int32 → Int32 → Int32 → Mem → Option (Int32 × Mem)} (hrec30 : ∀ (a0 : Nat) (a1 : Nat) (a2 : Int32) (a3 : Int32) (a4 : Int32) (M N : Mem) (r : Int32), rec30 a0 a1 a2 a3 a4 M = some (r, N) → EQ M N) (k : Nat) : ∀ (a0 : Nat) (a1 : Nat) (a2 : Int32) (a3 : Int32) (a4 : Int32) (a5 : Int32) (M N : Mem) (r : Int32), f_X4_fewestCameras_b42 rec30 k a0 a1 a2 a3 a4 a5 M = some (r, N) → EQ M N :=
  lpN_ind (P := fun (f : Nat → Nat → Int32 → Int32 → Int32 → Int32 → Mem → Option (Int32 × Mem)) => ∀ (a0 : Nat) (a1 : Nat) (a2 : Int32) (a3 : Int32) (a4 : Int32) (a5 : Int32) (M N : Mem) (r : Int32), f a0 a1 a2 a3 a4 a5 M = some (r, N) → EQ M N) (fun _ _ _ _ _ _ _ _ _ h => by cases h) (fun f hf _ _ _ _ _ _ _ _ _ h => k_X4_fewestCameras_b42_s hrec30 hf h) k
theorem k_X4_fewestCameras_b30_s {rec30 : Nat → Nat → Int32 → Int32 → Int32 → Mem → Option (Int32 × Mem)} (hrec30 : ∀ (a0 : Nat) (a1 : Nat) (a2 : Int32) (a3 : Int32) (a4 : Int32) (M N : Mem) (r : Int32), rec30 a0 a1 a2 a3 a4 M = some (r, N) → EQ M N) {n1 : Nat} {n2 : Nat} {x3 : Int32} {x4 : Int32} {x5 : Int32} {M N : Mem} {r : Int32} (h : f_X4_fewestCameras_b30_s rec30 n1 n2 x3 x4 x5 M = some (r, N)) : EQ M N := by
  unfold f_X4_fewestCameras_b30_s at h
  obtain ⟨-, h⟩ := gdS h
  rcases ifS h with ⟨-, h⟩ | ⟨-, h⟩
  · obtain ⟨-, e⟩ := retS h
    rw [← e]
    exact (EQ.refl M)
  · exact EQ.tr (EQ.refl M) (k_X4_fewestCameras_b42 hrec30 _ _ _ _ _ _ _ _ _ _ h)
theorem k_X4_fewestCameras_b30   (k : Nat) : ∀ (a0 : Nat) (a1 : Nat) (a2 : Int32) (a3 : Int32) (a4 : Int32) (M N : Mem) (r : Int32), f_X4_fewestCameras_b30 k a0 a1 a2 a3 a4 M = some (r, N) → EQ M N :=
  lpN_ind (P := fun (f : Nat → Nat → Int32 → Int32 → Int32 → Mem → Option (Int32 × Mem)) => ∀ (a0 : Nat) (a1 : Nat) (a2 : Int32) (a3 : Int32) (a4 : Int32) (M N : Mem) (r : Int32), f a0 a1 a2 a3 a4 M = some (r, N) → EQ M N) (fun _ _ _ _ _ _ _ _ h => by cases h) (fun f hf _ _ _ _ _ _ _ _ h => k_X4_fewestCameras_b30_s  hf h) k
theorem k_X4_fewestCameras   {n1 : Nat} {n2 : Nat} {M N : Mem} {r : Int32} (h : f_X4_fewestCameras n1 n2 M = some (r, N)) : EQ M N := by
  unfold f_X4_fewestCameras at h
  obtain ⟨-, h⟩ := gdS h
  obtain ⟨r1, M1m, c_M1m, h⟩ := clS h
  have q_M1m : EQ M M1m := EQ.tr (EQ.refl M) (k_X6_allFrames  c_M1m)
  obtain ⟨r2, M2m, c_M2m, h⟩ := clS h
  have q_M2m : EQ M M2m := EQ.tr q_M1m (k_X4_byFrames  c_M2m)
  obtain ⟨r3, M3m, c_M3m, h⟩ := clS h
  have q_M3m : EQ M M3m := EQ.tr q_M2m (k_X4_isSure  c_M3m)
  rcases ifS h with ⟨-, h⟩ | ⟨-, h⟩
  · obtain ⟨-, e⟩ := retS h
    rw [← e]
    exact q_M3m
  · obtain ⟨-, h⟩ := gdS h
    obtain ⟨r4, M4m, c_M4m, h⟩ := clS h
    have q_M4m : EQ M M4m := EQ.tr q_M3m (k_X9_allCameras  c_M4m)
    exact EQ.tr q_M4m (k_X4_fewestCameras_b30  _ _ _ _ _ _ _ _ _ h)
theorem k_X4_searchLeftOut_b33_s {rec21 : Nat → Nat → Int32 → Int32 → Mem → Option (Int32 × Mem)} {rec33 : Nat → Nat → Int32 → Int32 → Int32 → Mem → Option (Int32 × Mem)} (hrec21 : ∀ (a0 : Nat) (a1 : Nat) (a2 : Int32) (a3 : Int32) (M N : Mem) (r : Int32), rec21 a0 a1 a2 a3 M = some (r, N) → EQ M N) (hrec33 : ∀ (a0 : Nat) (a1 : Nat) (a2 : Int32) (a3 : Int32) (a4 : Int32) (M N : Mem) (r : Int32), rec33 a0 a1 a2 a3 a4 M = some (r, N) → EQ M N) {n1 : Nat} {n2 : Nat} {x3 : Int32} {x4 : Int32} {x5 : Int32} {M N : Mem} {r : Int32} (h : f_X4_searchLeftOut_b33_s rec21 rec33 n1 n2 x3 x4 x5 M = some (r, N)) : EQ M N := by
  unfold f_X4_searchLeftOut_b33_s at h
  rcases ifS h with ⟨-, h⟩ | ⟨-, h⟩
  · obtain ⟨a1, e_a1, h⟩ := bndS h
    exact EQ.tr (EQ.refl M) (hrec21 _ _ _ _ _ _ _ h)
  · obtain ⟨r1, M1m, c_M1m, h⟩ := clS h
    have q_M1m : EQ M M1m := EQ.tr (EQ.refl M) (k_J6_bitCount_0f7a4  c_M1m)
    rcases ifS h with ⟨-, h⟩ | ⟨-, h⟩
    · obtain ⟨o1, M2m, c_M2m, h⟩ := clS h
      have q_M2m : EQ M M2m := EQ.tr q_M1m (k_X4_sureOf  c_M2m)
      obtain ⟨-, h⟩ := gdS h
      rcases ifS h with ⟨-, h⟩ | ⟨-, h⟩
      · obtain ⟨-, e⟩ := retS h
        rw [← e]
        exact q_M2m
      · obtain ⟨a2, e_a2, h⟩ := bndS h
        exact EQ.tr q_M2m (hrec33 _ _ _ _ _ _ _ _ h)
    · obtain ⟨a3, e_a3, h⟩ := bndS h
      exact EQ.tr q_M1m (hrec33 _ _ _ _ _ _ _ _ h)
theorem k_X4_searchLeftOut_b33 {rec21 : Nat → Nat → Int32 → Int32 → Mem → Option (Int32 × Mem)} (hrec21 : ∀ (a0 : Nat) (a1 : Nat) (a2 : Int32) (a3 : Int32) (M N : Mem) (r : Int32), rec21 a0 a1 a2 a3 M = some (r, N) → EQ M N) (k : Nat) : ∀ (a0 : Nat) (a1 : Nat) (a2 : Int32) (a3 : Int32) (a4 : Int32) (M N : Mem) (r : Int32), f_X4_searchLeftOut_b33 rec21 k a0 a1 a2 a3 a4 M = some (r, N) → EQ M N :=
  lpN_ind (P := fun (f : Nat → Nat → Int32 → Int32 → Int32 → Mem → Option (Int32 × Mem)) => ∀ (a0 : Nat) (a1 : Nat) (a2 : Int32) (a3 : Int32) (a4 : Int32) (M N : Mem) (r : Int32), f a0 a1 a2 a3 a4 M = some (r, N) → EQ M N) (fun _ _ _ _ _ _ _ _ h => by cases h) (fun f hf _ _ _ _ _ _ _ _ h => k_X4_searchLeftOut_b33_s hrec21 hf h) k
theorem k_X4_searchLeftOut_b21_s {rec21 : Nat → Nat → Int32 → Int32 → Mem → Option (Int32 × Mem)} (hrec21 : ∀ (a0 : Nat) (a1 : Nat) (a2 : Int32) (a3 : Int32) (M N : Mem) (r : Int32), rec21 a0 a1 a2 a3 M = some (r, N) → EQ M N) {n1 : Nat} {n2 : Nat} {x3 : Int32} {x4 : Int32} {M N : Mem} {r : Int32} (h : f_X4_searchLeftOut_b21_s rec21 n1 n2 x3 x4 M = some (r, N)) : EQ M N := by
  unfold f_X4_searchLeftOut_b21_s at h
  obtain ⟨-, h⟩ := gdS h
  rcases ifS h with ⟨-, h⟩ | ⟨-, h⟩
  · obtain ⟨-, e⟩ := retS h
    rw [← e]
    exact (EQ.refl M)
  · exact EQ.tr (EQ.refl M) (k_X4_searchLeftOut_b33 hrec21 _ _ _ _ _ _ _ _ _ h)
theorem k_X4_searchLeftOut_b21   (k : Nat) : ∀ (a0 : Nat) (a1 : Nat) (a2 : Int32) (a3 : Int32) (M N : Mem) (r : Int32), f_X4_searchLeftOut_b21 k a0 a1 a2 a3 M = some (r, N) → EQ M N :=
  lpN_ind (P := fun (f : Nat → Nat → Int32 → Int32 → Mem → Option (Int32 × Mem)) => ∀ (a0 : Nat) (a1 : Nat) (a2 : Int32) (a3 : Int32) (M N : Mem) (r : Int32), f a0 a1 a2 a3 M = some (r, N) → EQ M N) (fun _ _ _ _ _ _ _ h => by cases h) (fun f hf _ _ _ _ _ _ _ h => k_X4_searchLeftOut_b21_s  hf h) k
theorem k_X4_searchLeftOut   {n1 : Nat} {n2 : Nat} {M N : Mem} {r : Int32} (h : f_X4_searchLeftOut n1 n2 M = some (r, N)) : EQ M N := by
  unfold f_X4_searchLeftOut at h
  obtain ⟨-, h⟩ := gdS h
  rcases ifS h with ⟨-, h⟩ | ⟨-, h⟩
  · obtain ⟨-, h⟩ := gdS h
    obtain ⟨r1, M1m, c_M1m, h⟩ := clS h
    have q_M1m : EQ M M1m := EQ.tr (EQ.refl M) (k_X6_allFrames  c_M1m)
    exact EQ.tr q_M1m (k_X4_searchLeftOut_b21  _ _ _ _ _ _ _ _ h)
  · obtain ⟨-, e⟩ := retS h
    rw [← e]
    exact (EQ.refl M)
theorem k_X4_fewestLeftOut   {n1 : Nat} {n2 : Nat} {M N : Mem} {r : Int32} (h : f_X4_fewestLeftOut n1 n2 M = some (r, N)) : EQ M N := by
  unfold f_X4_fewestLeftOut at h
  obtain ⟨-, h⟩ := gdS h
  rcases ifS h with ⟨-, h⟩ | ⟨-, h⟩
  · obtain ⟨r1, M1m, c_M1m, h⟩ := clS h
    have q_M1m : EQ M M1m := EQ.tr (EQ.refl M) (k_X4_searchLeftOut  c_M1m)
    obtain ⟨M2m, e_M2m, h⟩ := bndS h
    have q_M2m : EQ M M2m := EQ.tr q_M1m (by rw [e_M2m]; exact EQ_I _ _ _ _)
    obtain ⟨-, e⟩ := retS h
    rw [← e]
    exact q_M2m
  · obtain ⟨-, e⟩ := retS h
    rw [← e]
    exact (EQ.refl M)
theorem k_X4_review_b77   {x3 : Int32} {x4 : Int32} {x5 : Int32} {x6 : Int32} {M N : Mem} {r : Int32} (h : f_X4_review_b77 x3 x4 x5 x6 M = some (r, N)) : EQ M N := by
  unfold f_X4_review_b77 at h
  obtain ⟨M1m, e_M1m, h⟩ := bndS h
  have q_M1m : EQ M M1m := EQ.tr (EQ.refl M) (by rw [e_M1m]; exact EQ_I _ _ _ _)
  obtain ⟨M2m, e_M2m, h⟩ := bndS h
  have q_M2m : EQ M M2m := EQ.tr q_M1m (by rw [e_M2m]; exact EQ_I _ _ _ _)
  obtain ⟨r1, M3m, c_M3m, h⟩ := clS h
  have q_M3m : EQ M M3m := EQ.tr q_M2m (k_X4_isSure  c_M3m)
  rcases ifS h with ⟨-, h⟩ | ⟨-, h⟩
  · obtain ⟨-, e⟩ := retS h
    rw [← e]
    exact q_M3m
  · rcases ifS h with ⟨-, h⟩ | ⟨-, h⟩
    · obtain ⟨-, e⟩ := retS h
      rw [← e]
      exact q_M3m
    · obtain ⟨-, e⟩ := retS h
      rw [← e]
      exact q_M3m
theorem k_X4_review_b26_s {rec26 : Nat → Nat → Int32 → Int32 → Int32 → Int32 → Mem → Option (Int32 × Mem)} (hrec26 : ∀ (a0 : Nat) (a1 : Nat) (a2 : Int32) (a3 : Int32) (a4 : Int32) (a5 : Int32) (M N : Mem) (r : Int32), rec26 a0 a1 a2 a3 a4 a5 M = some (r, N) → EQ M N) {n1 : Nat} {n2 : Nat} {x3 : Int32} {x4 : Int32} {x5 : Int32} {x6 : Int32} {M N : Mem} {r : Int32} (h : f_X4_review_b26_s rec26 n1 n2 x3 x4 x5 x6 M = some (r, N)) : EQ M N := by
  unfold f_X4_review_b26_s at h
  rcases ifS h with ⟨-, h⟩ | ⟨-, h⟩
  · obtain ⟨-, h⟩ := gdS h
    rcases ifS h with ⟨-, h⟩ | ⟨-, h⟩
    · exact EQ.tr (EQ.refl M) (k_X4_review_b77  h)
    · obtain ⟨-, h⟩ := gdS h
      rcases ifS h with ⟨-, h⟩ | ⟨-, h⟩
      · exact EQ.tr (EQ.refl M) (k_X4_review_b77  h)
      · obtain ⟨a1, e_a1, h⟩ := bndS h
        obtain ⟨r1, M1m, c_M1m, h⟩ := clS h
        have q_M1m : EQ M M1m := EQ.tr (EQ.refl M) (k_X4_byFrames  c_M1m)
        exact EQ.tr q_M1m (hrec26 _ _ _ _ _ _ _ _ _ h)
  · exact EQ.tr (EQ.refl M) (k_X4_review_b77  h)
theorem k_X4_review_b26   (k : Nat) : ∀ (a0 : Nat) (a1 : Nat) (a2 : Int32) (a3 : Int32) (a4 : Int32) (a5 : Int32) (M N : Mem) (r : Int32), f_X4_review_b26 k a0 a1 a2 a3 a4 a5 M = some (r, N) → EQ M N :=
  lpN_ind (P := fun (f : Nat → Nat → Int32 → Int32 → Int32 → Int32 → Mem → Option (Int32 × Mem)) => ∀ (a0 : Nat) (a1 : Nat) (a2 : Int32) (a3 : Int32) (a4 : Int32) (a5 : Int32) (M N : Mem) (r : Int32), f a0 a1 a2 a3 a4 a5 M = some (r, N) → EQ M N) (fun _ _ _ _ _ _ _ _ _ h => by cases h) (fun f hf _ _ _ _ _ _ _ _ _ h => k_X4_review_b26_s  hf h) k
theorem k_X4_review   {n1 : Nat} {n2 : Nat} {x3 : Int32} {M N : Mem} {r : Int32} (h : f_X4_review n1 n2 x3 M = some (r, N)) : EQ M N := by
  unfold f_X4_review at h
  obtain ⟨-, h⟩ := gdS h
  obtain ⟨-, h⟩ := gdS h
  obtain ⟨-, h⟩ := gdS h
  obtain ⟨a1, e_a1, h⟩ := bndS h
  obtain ⟨r1, M1m, c_M1m, h⟩ := clS h
  have q_M1m : EQ M M1m := EQ.tr (EQ.refl M) (k_X4_byFrames  c_M1m)
  exact EQ.tr q_M1m (k_X4_review_b26  _ _ _ _ _ _ _ _ _ _ h)
theorem k_X4_membersAgainst_b6_s {rec6 : Nat → Nat → Nat → Int32 → Int32 → Int32 → Mem → Option (Int32 × Mem)} (hrec6 : ∀ (a0 : Nat) (a1 : Nat) (a2 : Nat) (a3 : Int32) (a4 : Int32) (a5 : Int32) (M N : Mem) (r : Int32), rec6 a0 a1 a2 a3 a4 a5 M = some (r, N) → EQ M N) {n1 : Nat} {n2 : Nat} {n3 : Nat} {x4 : Int32} {x5 : Int32} {x6 : Int32} {M N : Mem} {r : Int32} (h : f_X4_membersAgainst_b6_s rec6 n1 n2 n3 x4 x5 x6 M = some (r, N)) : EQ M N := by
  unfold f_X4_membersAgainst_b6_s at h
  obtain ⟨-, h⟩ := gdS h
  rcases ifS h with ⟨-, h⟩ | ⟨-, h⟩
  · obtain ⟨-, e⟩ := retS h
    rw [← e]
    exact (EQ.refl M)
  · obtain ⟨-, h⟩ := gdS h
    obtain ⟨-, h⟩ := gdS h
    obtain ⟨r1, M1m, c_M1m, h⟩ := clS h
    have q_M1m : EQ M M1m := EQ.tr (EQ.refl M) (k_X6_framesOf  c_M1m)
    obtain ⟨r2, M2m, c_M2m, h⟩ := clS h
    have q_M2m : EQ M M2m := EQ.tr q_M1m (k_X4_byFrames  c_M2m)
    obtain ⟨r3, M3m, c_M3m, h⟩ := clS h
    have q_M3m : EQ M M3m := EQ.tr q_M2m (k_X4_isSure  c_M3m)
    rcases ifS h with ⟨-, h⟩ | ⟨-, h⟩
    · obtain ⟨a1, e_a1, h⟩ := bndS h
      exact EQ.tr q_M3m (hrec6 _ _ _ _ _ _ _ _ _ h)
    · rcases ifS h with ⟨-, h⟩ | ⟨-, h⟩
      · obtain ⟨a2, e_a2, h⟩ := bndS h
        exact EQ.tr q_M3m (hrec6 _ _ _ _ _ _ _ _ _ h)
      · obtain ⟨a3, e_a3, h⟩ := bndS h
        obtain ⟨a4, e_a4, h⟩ := bndS h
        exact EQ.tr q_M3m (hrec6 _ _ _ _ _ _ _ _ _ h)
theorem k_X4_membersAgainst_b6   (k : Nat) : ∀ (a0 : Nat) (a1 : Nat) (a2 : Nat) (a3 : Int32) (a4 : Int32) (a5 : Int32) (M N : Mem) (r : Int32), f_X4_membersAgainst_b6 k a0 a1 a2 a3 a4 a5 M = some (r, N) → EQ M N :=
  lpN_ind (P := fun (f : Nat → Nat → Nat → Int32 → Int32 → Int32 → Mem → Option (Int32 × Mem)) => ∀ (a0 : Nat) (a1 : Nat) (a2 : Nat) (a3 : Int32) (a4 : Int32) (a5 : Int32) (M N : Mem) (r : Int32), f a0 a1 a2 a3 a4 a5 M = some (r, N) → EQ M N) (fun _ _ _ _ _ _ _ _ _ h => by cases h) (fun f hf _ _ _ _ _ _ _ _ _ h => k_X4_membersAgainst_b6_s  hf h) k
theorem k_X4_membersAgainst   {n1 : Nat} {n2 : Nat} {n3 : Nat} {x4 : Int32} {M N : Mem} {r : Int32} (h : f_X4_membersAgainst n1 n2 n3 x4 M = some (r, N)) : EQ M N := by
  unfold f_X4_membersAgainst at h
  exact EQ.tr (EQ.refl M) (k_X4_membersAgainst_b6  _ _ _ _ _ _ _ _ _ _ h)
theorem k_X7_isDigit   {x0 : Int32} {M N : Mem} {r : Int32} (h : f_X7_isDigit x0 M = some (r, N)) : EQ M N := by
  unfold f_X7_isDigit at h
  rcases ifS h with ⟨-, h⟩ | ⟨-, h⟩
  · obtain ⟨-, e⟩ := retS h
    rw [← e]
    exact (EQ.refl M)
  · rcases ifS h with ⟨-, h⟩ | ⟨-, h⟩
    · obtain ⟨-, e⟩ := retS h
      rw [← e]
      exact (EQ.refl M)
    · obtain ⟨-, e⟩ := retS h
      rw [← e]
      exact (EQ.refl M)
theorem k_X7_isLetter   {x0 : Int32} {M N : Mem} {r : Int32} (h : f_X7_isLetter x0 M = some (r, N)) : EQ M N := by
  unfold f_X7_isLetter at h
  rcases ifS h with ⟨-, h⟩ | ⟨-, h⟩
  · obtain ⟨-, e⟩ := retS h
    rw [← e]
    exact (EQ.refl M)
  · rcases ifS h with ⟨-, h⟩ | ⟨-, h⟩
    · obtain ⟨-, e⟩ := retS h
      rw [← e]
      exact (EQ.refl M)
    · obtain ⟨-, e⟩ := retS h
      rw [← e]
      exact (EQ.refl M)
theorem k_X7_scanNumber_b106   {ns1 : Nat} {M N : Mem}  (h : f_X7_scanNumber_b106 ns1 M = some N) : EQ M N := by
  unfold f_X7_scanNumber_b106 at h
  obtain ⟨M1m, e_M1m, h⟩ := bndS h
  have q_M1m : EQ M M1m := EQ.tr (EQ.refl M) (by rw [e_M1m]; exact EQ_R _ _ _ (by decide))
  rw [← Option.some.inj h]
  exact q_M1m
theorem k_X7_scanNumber_b83    {M N : Mem}  (h : f_X7_scanNumber_b83 M = some N) : EQ M N := by
  unfold f_X7_scanNumber_b83 at h
  rcases ifS h with ⟨-, h⟩ | ⟨-, h⟩
  · exact EQ.tr (EQ.refl M) (k_X7_scanNumber_b106  h)
  · exact EQ.tr (EQ.refl M) (k_X7_scanNumber_b106  h)
theorem k_X7_scanNumber_b67 {rec0 : Mem → Option Mem} (hrec0 : ∀ (M N : Mem), rec0 M = some N → EQ M N) {xs1 : Int32} {M N : Mem}  (h : f_X7_scanNumber_b67 rec0 xs1 M = some N) : EQ M N := by
  unfold f_X7_scanNumber_b67 at h
  obtain ⟨M1m, e_M1m, h⟩ := bndS h
  have q_M1m : EQ M M1m := EQ.tr (EQ.refl M) (by rw [e_M1m]; exact EQ_I _ _ _ _)
  obtain ⟨M2m, e_M2m, h⟩ := bndS h
  have q_M2m : EQ M M2m := EQ.tr q_M1m (by rw [e_M2m]; exact EQ_I _ _ _ _)
  exact EQ.tr q_M2m (hrec0 _ _ h)
theorem k_X7_scanNumber_b0_s {rec0 : Mem → Option Mem} (hrec0 : ∀ (M N : Mem), rec0 M = some N → EQ M N)  {M N : Mem}  (h : f_X7_scanNumber_b0_s rec0 M = some N) : EQ M N := by
  unfold f_X7_scanNumber_b0_s at h
  rcases ifS h with ⟨-, h⟩ | ⟨-, h⟩
  · exact EQ.tr (EQ.refl M) (k_X7_scanNumber_b83  h)
  · obtain ⟨-, h⟩ := gdS h
    obtain ⟨r1, M1m, c_M1m, h⟩ := clS h
    have q_M1m : EQ M M1m := EQ.tr (EQ.refl M) (k_X7_isDigit  c_M1m)
    rcases ifS h with ⟨-, h⟩ | ⟨-, h⟩
    · exact EQ.tr q_M1m (k_X7_scanNumber_b83  h)
    · rcases ifS h with ⟨-, h⟩ | ⟨-, h⟩
      · exact EQ.tr q_M1m (k_X7_scanNumber_b67 hrec0 h)
      · obtain ⟨-, h⟩ := gdS h
        exact EQ.tr q_M1m (k_X7_scanNumber_b67 hrec0 h)
theorem k_X7_scanNumber_b0   (k : Nat) : ∀ (M N : Mem), f_X7_scanNumber_b0 k M = some N → EQ M N :=
  lpN_ind (P := fun (f : Mem → Option Mem) => ∀ (M N : Mem), f M = some N → EQ M N) (fun _ _ h => by cases h) (fun f hf _ _ h => k_X7_scanNumber_b0_s  hf h) k
theorem k_X7_scanNumber    {M N : Mem}  (h : f_X7_scanNumber M = some N) : EQ M N := by
  unfold f_X7_scanNumber at h
  exact EQ.tr (EQ.refl M) (k_X7_scanNumber_b0  _ _ _ h)
theorem k_X8_ofWord_b2_s {rec2 : Int32 → Int32 → Mem → Option (Nat × Mem)} (hrec2 : ∀ (a0 : Int32) (a1 : Int32) (M N : Mem) (r : Nat), rec2 a0 a1 M = some (r, N) → EQ M N) {x0 : Int32} {x1 : Int32} {M N : Mem} {r : Nat} (h : f_X8_ofWord_b2_s rec2 x0 x1 M = some (r, N)) : EQ M N := by
  unfold f_X8_ofWord_b2_s at h
  rcases ifS h with ⟨-, h⟩ | ⟨-, h⟩
  · obtain ⟨-, e⟩ := retS h
    rw [← e]
    exact (EQ.refl M)
  · obtain ⟨-, h⟩ := gdS h
    rcases ifS h with ⟨-, h⟩ | ⟨-, h⟩
    · obtain ⟨-, e⟩ := retS h
      rw [← e]
      exact (EQ.refl M)
    · obtain ⟨a1, e_a1, h⟩ := bndS h
      exact EQ.tr (EQ.refl M) (hrec2 _ _ _ _ _ h)
theorem k_X8_ofWord_b2   (k : Nat) : ∀ (a0 : Int32) (a1 : Int32) (M N : Mem) (r : Nat), f_X8_ofWord_b2 k a0 a1 M = some (r, N) → EQ M N :=
  lpN_ind (P := fun (f : Int32 → Int32 → Mem → Option (Nat × Mem)) => ∀ (a0 : Int32) (a1 : Int32) (M N : Mem) (r : Nat), f a0 a1 M = some (r, N) → EQ M N) (fun _ _ _ _ _ h => by cases h) (fun f hf _ _ _ _ _ h => k_X8_ofWord_b2_s  hf h) k
theorem k_X8_ofWord   {x0 : Int32} {M N : Mem} {r : Nat} (h : f_X8_ofWord x0 M = some (r, N)) : EQ M N := by
  unfold f_X8_ofWord at h
  exact EQ.tr (EQ.refl M) (k_X8_ofWord_b2  _ _ _ _ _ _ h)
theorem k_X8_withLetter   {x0 : Int32} {x1 : Int32} {M N : Mem} {r : Int32} (h : f_X8_withLetter x0 x1 M = some (r, N)) : EQ M N := by
  unfold f_X8_withLetter at h
  obtain ⟨-, e⟩ := retS h
  rw [← e]
  exact (EQ.refl M)
theorem k_X7_scanWord_b108   {ns1 : Nat} {M N : Mem}  (h : f_X7_scanWord_b108 ns1 M = some N) : EQ M N := by
  unfold f_X7_scanWord_b108 at h
  obtain ⟨M1m, e_M1m, h⟩ := bndS h
  have q_M1m : EQ M M1m := EQ.tr (EQ.refl M) (by rw [e_M1m]; exact EQ_R _ _ _ (by decide))
  rw [← Option.some.inj h]
  exact q_M1m
theorem k_X7_scanWord_b80    {M N : Mem}  (h : f_X7_scanWord_b80 M = some N) : EQ M N := by
  unfold f_X7_scanWord_b80 at h
  rcases ifS h with ⟨-, h⟩ | ⟨-, h⟩
  · exact EQ.tr (EQ.refl M) (k_X7_scanWord_b108  h)
  · obtain ⟨o1, M1m, c_M1m, h⟩ := clS h
    have q_M1m : EQ M M1m := EQ.tr (EQ.refl M) (k_X8_ofWord  c_M1m)
    exact EQ.tr q_M1m (k_X7_scanWord_b108  h)
theorem k_X7_scanWord_b64 {rec0 : Mem → Option Mem} (hrec0 : ∀ (M N : Mem), rec0 M = some N → EQ M N) {xs1 : Int32} {M N : Mem}  (h : f_X7_scanWord_b64 rec0 xs1 M = some N) : EQ M N := by
  unfold f_X7_scanWord_b64 at h
  obtain ⟨M1m, e_M1m, h⟩ := bndS h
  have q_M1m : EQ M M1m := EQ.tr (EQ.refl M) (by rw [e_M1m]; exact EQ_I _ _ _ _)
  obtain ⟨M2m, e_M2m, h⟩ := bndS h
  have q_M2m : EQ M M2m := EQ.tr q_M1m (by rw [e_M2m]; exact EQ_I _ _ _ _)
  exact EQ.tr q_M2m (hrec0 _ _ h)
theorem k_X7_scanWord_b0_s {rec0 : Mem → Option Mem} (hrec0 : ∀ (M N : Mem), rec0 M = some N → EQ M N)  {M N : Mem}  (h : f_X7_scanWord_b0_s rec0 M = some N) : EQ M N := by
  unfold f_X7_scanWord_b0_s at h
  rcases ifS h with ⟨-, h⟩ | ⟨-, h⟩
  · exact EQ.tr (EQ.refl M) (k_X7_scanWord_b80  h)
  · obtain ⟨-, h⟩ := gdS h
    obtain ⟨r1, M1m, c_M1m, h⟩ := clS h
    have q_M1m : EQ M M1m := EQ.tr (EQ.refl M) (k_X7_isLetter  c_M1m)
    rcases ifS h with ⟨-, h⟩ | ⟨-, h⟩
    · exact EQ.tr q_M1m (k_X7_scanWord_b80  h)
    · rcases ifS h with ⟨-, h⟩ | ⟨-, h⟩
      · exact EQ.tr q_M1m (k_X7_scanWord_b64 hrec0 h)
      · obtain ⟨-, h⟩ := gdS h
        obtain ⟨r2, M2m, c_M2m, h⟩ := clS h
        have q_M2m : EQ M M2m := EQ.tr q_M1m (k_X8_withLetter  c_M2m)
        exact EQ.tr q_M2m (k_X7_scanWord_b64 hrec0 h)
theorem k_X7_scanWord_b0   (k : Nat) : ∀ (M N : Mem), f_X7_scanWord_b0 k M = some N → EQ M N :=
  lpN_ind (P := fun (f : Mem → Option Mem) => ∀ (M N : Mem), f M = some N → EQ M N) (fun _ _ h => by cases h) (fun f hf _ _ h => k_X7_scanWord_b0_s  hf h) k
theorem k_X7_scanWord    {M N : Mem}  (h : f_X7_scanWord M = some N) : EQ M N := by
  unfold f_X7_scanWord at h
  exact EQ.tr (EQ.refl M) (k_X7_scanWord_b0  _ _ _ h)
theorem k_X8_ofSign   {x0 : Int32} {M N : Mem} {r : Nat} (h : f_X8_ofSign x0 M = some (r, N)) : EQ M N := by
  unfold f_X8_ofSign at h
  rcases ifS h with ⟨-, h⟩ | ⟨-, h⟩
  · obtain ⟨-, e⟩ := retS h
    rw [← e]
    exact (EQ.refl M)
  · rcases ifS h with ⟨-, h⟩ | ⟨-, h⟩
    · obtain ⟨-, e⟩ := retS h
      rw [← e]
      exact (EQ.refl M)
    · rcases ifS h with ⟨-, h⟩ | ⟨-, h⟩
      · obtain ⟨-, e⟩ := retS h
        rw [← e]
        exact (EQ.refl M)
      · rcases ifS h with ⟨-, h⟩ | ⟨-, h⟩
        · obtain ⟨-, e⟩ := retS h
          rw [← e]
          exact (EQ.refl M)
        · rcases ifS h with ⟨-, h⟩ | ⟨-, h⟩
          · obtain ⟨-, e⟩ := retS h
            rw [← e]
            exact (EQ.refl M)
          · obtain ⟨-, e⟩ := retS h
            rw [← e]
            exact (EQ.refl M)
theorem k_X7_advance_b52    {M N : Mem}  (h : f_X7_advance_b52 M = some N) : EQ M N := by
  unfold f_X7_advance_b52 at h
  obtain ⟨M1m, e_M1m, h⟩ := bndS h
  have q_M1m : EQ M M1m := EQ.tr (EQ.refl M) (by rw [e_M1m]; exact EQ_I _ _ _ _)
  obtain ⟨M2m, e_M2m, h⟩ := bndS h
  have q_M2m : EQ M M2m := EQ.tr q_M1m (by rw [e_M2m]; exact EQ_I _ _ _ _)
  rcases ifS h with ⟨-, h⟩ | ⟨-, h⟩
  · obtain ⟨-, h⟩ := gdS h
    obtain ⟨r1, M3m, c_M3m, h⟩ := clS h
    have q_M3m : EQ M M3m := EQ.tr q_M2m (k_X7_isDigit  c_M3m)
    rcases ifS h with ⟨-, h⟩ | ⟨-, h⟩
    · obtain ⟨-, h⟩ := gdS h
      obtain ⟨r2, M4m, c_M4m, h⟩ := clS h
      have q_M4m : EQ M M4m := EQ.tr q_M3m (k_X7_isLetter  c_M4m)
      rcases ifS h with ⟨-, h⟩ | ⟨-, h⟩
      · obtain ⟨-, h⟩ := gdS h
        obtain ⟨o1, M5m, c_M5m, h⟩ := clS h
        have q_M5m : EQ M M5m := EQ.tr q_M4m (k_X8_ofSign  c_M5m)
        obtain ⟨M6m, e_M6m, h⟩ := bndS h
        have q_M6m : EQ M M6m := EQ.tr q_M5m (by rw [e_M6m]; exact EQ_R _ _ _ (by decide))
        obtain ⟨M7m, e_M7m, h⟩ := bndS h
        have q_M7m : EQ M M7m := EQ.tr q_M6m (by rw [e_M7m]; exact EQ_I _ _ _ _)
        rw [← Option.some.inj h]
        exact q_M7m
      · obtain ⟨M8m, c_M8m, h⟩ := clvS h
        have q_M8m : EQ M M8m := EQ.tr q_M4m (k_X7_scanWord  c_M8m)
        rw [← Option.some.inj h]
        exact q_M8m
    · obtain ⟨M9m, c_M9m, h⟩ := clvS h
      have q_M9m : EQ M M9m := EQ.tr q_M3m (k_X7_scanNumber  c_M9m)
      rw [← Option.some.inj h]
      exact q_M9m
  · obtain ⟨M10m, e_M10m, h⟩ := bndS h
    have q_M10m : EQ M M10m := EQ.tr q_M2m (by rw [e_M10m]; exact EQ_R _ _ _ (by decide))
    rw [← Option.some.inj h]
    exact q_M10m
theorem k_X7_advance_b39 {rec0 : Mem → Option Mem} (hrec0 : ∀ (M N : Mem), rec0 M = some N → EQ M N)  {M N : Mem}  (h : f_X7_advance_b39 rec0 M = some N) : EQ M N := by
  unfold f_X7_advance_b39 at h
  obtain ⟨M1m, e_M1m, h⟩ := bndS h
  have q_M1m : EQ M M1m := EQ.tr (EQ.refl M) (by rw [e_M1m]; exact EQ_I _ _ _ _)
  exact EQ.tr q_M1m (hrec0 _ _ h)
theorem k_X7_advance_b0_s {rec0 : Mem → Option Mem} (hrec0 : ∀ (M N : Mem), rec0 M = some N → EQ M N)  {M N : Mem}  (h : f_X7_advance_b0_s rec0 M = some N) : EQ M N := by
  unfold f_X7_advance_b0_s at h
  rcases ifS h with ⟨-, h⟩ | ⟨-, h⟩
  · exact EQ.tr (EQ.refl M) (k_X7_advance_b52  h)
  · obtain ⟨-, h⟩ := gdS h
    rcases ifS h with ⟨-, h⟩ | ⟨-, h⟩
    · exact EQ.tr (EQ.refl M) (k_X7_advance_b39 hrec0 h)
    · rcases ifS h with ⟨-, h⟩ | ⟨-, h⟩
      · exact EQ.tr (EQ.refl M) (k_X7_advance_b39 hrec0 h)
      · exact EQ.tr (EQ.refl M) (k_X7_advance_b52  h)
theorem k_X7_advance_b0   (k : Nat) : ∀ (M N : Mem), f_X7_advance_b0 k M = some N → EQ M N :=
  lpN_ind (P := fun (f : Mem → Option Mem) => ∀ (M N : Mem), f M = some N → EQ M N) (fun _ _ h => by cases h) (fun f hf _ _ h => k_X7_advance_b0_s  hf h) k
theorem k_X7_advance    {M N : Mem}  (h : f_X7_advance M = some N) : EQ M N := by
  unfold f_X7_advance at h
  exact EQ.tr (EQ.refl M) (k_X7_advance_b0  _ _ _ h)
theorem k_X7_begin   {n1 : Nat} {x2 : Int32} {M N : Mem}  (h : f_X7_begin n1 x2 M = some N) : EQ M N := by
  unfold f_X7_begin at h
  obtain ⟨-, h⟩ := gdS h
  obtain ⟨M1m, c_M1m, h⟩ := clvS h
  have q_M1m : EQ M M1m := EQ.tr (EQ.refl M) (k_X9_clear  c_M1m)
  obtain ⟨M2m, e_M2m, h⟩ := bndS h
  have q_M2m : EQ M M2m := EQ.tr q_M1m (by rw [e_M2m]; exact EQ_R _ _ _ (by decide))
  obtain ⟨M3m, e_M3m, h⟩ := bndS h
  have q_M3m : EQ M M3m := EQ.tr q_M2m (by rw [e_M3m]; exact EQ_I _ _ _ _)
  obtain ⟨M4m, e_M4m, h⟩ := bndS h
  have q_M4m : EQ M M4m := EQ.tr q_M3m (by rw [e_M4m]; exact EQ_I _ _ _ _)
  obtain ⟨M5m, e_M5m, h⟩ := bndS h
  have q_M5m : EQ M M5m := EQ.tr q_M4m (by rw [e_M5m]; exact EQ_I _ _ _ _)
  obtain ⟨M6m, e_M6m, h⟩ := bndS h
  have q_M6m : EQ M M6m := EQ.tr q_M5m (by rw [e_M6m]; exact EQ_I _ _ _ _)
  obtain ⟨M7m, c_M7m, h⟩ := clvS h
  have q_M7m : EQ M M7m := EQ.tr q_M6m (k_X7_advance  c_M7m)
  rw [← Option.some.inj h]
  exact q_M7m
theorem k_X7_fail   {x1 : Int32} {M N : Mem} {r : Int32} (h : f_X7_fail x1 M = some (r, N)) : EQ M N := by
  unfold f_X7_fail at h
  obtain ⟨M1m, e_M1m, h⟩ := bndS h
  have q_M1m : EQ M M1m := EQ.tr (EQ.refl M) (by rw [e_M1m]; exact EQ_I _ _ _ _)
  obtain ⟨-, e⟩ := retS h
  rw [← e]
  exact q_M1m
theorem k_X7_take   {n1 : Nat} {M N : Mem} {r : Int32} (h : f_X7_take n1 M = some (r, N)) : EQ M N := by
  unfold f_X7_take at h
  obtain ⟨-, h⟩ := gdS h
  obtain ⟨-, h⟩ := gdS h
  rcases ifS h with ⟨-, h⟩ | ⟨-, h⟩
  · obtain ⟨M1m, c_M1m, h⟩ := clvS h
    have q_M1m : EQ M M1m := EQ.tr (EQ.refl M) (k_X7_advance  c_M1m)
    obtain ⟨-, e⟩ := retS h
    rw [← e]
    exact q_M1m
  · obtain ⟨r1, M2m, c_M2m, h⟩ := clS h
    have q_M2m : EQ M M2m := EQ.tr (EQ.refl M) (k_X7_fail  c_M2m)
    obtain ⟨-, h⟩ := gdS h
    obtain ⟨-, e⟩ := retS h
    rw [← e]
    exact q_M2m
theorem k_X7_skip_b13   {xs0 : Int32} {M N : Mem} {r : Int32} (h : f_X7_skip_b13 xs0 M = some (r, N)) : EQ M N := by
  unfold f_X7_skip_b13 at h
  rcases ifS h with ⟨-, h⟩ | ⟨-, h⟩
  · obtain ⟨-, h⟩ := gdS h
    obtain ⟨-, e⟩ := retS h
    rw [← e]
    exact (EQ.refl M)
  · obtain ⟨M1m, c_M1m, h⟩ := clvS h
    have q_M1m : EQ M M1m := EQ.tr (EQ.refl M) (k_X7_advance  c_M1m)
    obtain ⟨-, h⟩ := gdS h
    obtain ⟨-, e⟩ := retS h
    rw [← e]
    exact q_M1m
theorem k_X7_skip   {n1 : Nat} {M N : Mem} {r : Int32} (h : f_X7_skip n1 M = some (r, N)) : EQ M N := by
  unfold f_X7_skip at h
  obtain ⟨-, h⟩ := gdS h
  obtain ⟨-, h⟩ := gdS h
  rcases ifS h with ⟨-, h⟩ | ⟨-, h⟩
  · exact EQ.tr (EQ.refl M) (k_X7_skip_b13  h)
  · exact EQ.tr (EQ.refl M) (k_X7_skip_b13  h)
theorem k_X7_takeNumber_b32    {M N : Mem} {r : Int32} (h : f_X7_takeNumber_b32 M = some (r, N)) : EQ M N := by
  unfold f_X7_takeNumber_b32 at h
  obtain ⟨r1, M1m, c_M1m, h⟩ := clS h
  have q_M1m : EQ M M1m := EQ.tr (EQ.refl M) (k_X7_fail  c_M1m)
  obtain ⟨-, h⟩ := gdS h
  obtain ⟨-, e⟩ := retS h
  rw [← e]
  exact q_M1m
theorem k_X7_takeNumber   {x1 : Int32} {x2 : Int32} {M N : Mem} {r : Int32} (h : f_X7_takeNumber x1 x2 M = some (r, N)) : EQ M N := by
  unfold f_X7_takeNumber at h
  obtain ⟨-, h⟩ := gdS h
  rcases ifS h with ⟨-, h⟩ | ⟨-, h⟩
  · rcases ifS h with ⟨-, h⟩ | ⟨-, h⟩
    · exact EQ.tr (EQ.refl M) (k_X7_takeNumber_b32  h)
    · rcases ifS h with ⟨-, h⟩ | ⟨-, h⟩
      · obtain ⟨M1m, e_M1m, h⟩ := bndS h
        have q_M1m : EQ M M1m := EQ.tr (EQ.refl M) (by rw [e_M1m]; exact EQ_I _ _ _ _)
        obtain ⟨M2m, c_M2m, h⟩ := clvS h
        have q_M2m : EQ M M2m := EQ.tr q_M1m (k_X7_advance  c_M2m)
        obtain ⟨-, e⟩ := retS h
        rw [← e]
        exact q_M2m
      · exact EQ.tr (EQ.refl M) (k_X7_takeNumber_b32  h)
  · obtain ⟨r1, M3m, c_M3m, h⟩ := clS h
    have q_M3m : EQ M M3m := EQ.tr (EQ.refl M) (k_X7_fail  c_M3m)
    obtain ⟨-, h⟩ := gdS h
    obtain ⟨-, e⟩ := retS h
    rw [← e]
    exact q_M3m
theorem k_X7_takeMark_b35    {M N : Mem} {r : Int32} (h : f_X7_takeMark_b35 M = some (r, N)) : EQ M N := by
  unfold f_X7_takeMark_b35 at h
  obtain ⟨r1, M1m, c_M1m, h⟩ := clS h
  have q_M1m : EQ M M1m := EQ.tr (EQ.refl M) (k_X7_fail  c_M1m)
  obtain ⟨-, h⟩ := gdS h
  obtain ⟨-, e⟩ := retS h
  rw [← e]
  exact q_M1m
theorem k_X7_takeMark   {x1 : Int32} {M N : Mem} {r : Int32} (h : f_X7_takeMark x1 M = some (r, N)) : EQ M N := by
  unfold f_X7_takeMark at h
  obtain ⟨-, h⟩ := gdS h
  rcases ifS h with ⟨-, h⟩ | ⟨-, h⟩
  · rcases ifS h with ⟨-, h⟩ | ⟨-, h⟩
    · exact EQ.tr (EQ.refl M) (k_X7_takeMark_b35  h)
    · rcases ifS h with ⟨-, h⟩ | ⟨-, h⟩
      · obtain ⟨M1m, e_M1m, h⟩ := bndS h
        have q_M1m : EQ M M1m := EQ.tr (EQ.refl M) (by rw [e_M1m]; exact EQ_I _ _ _ _)
        obtain ⟨M2m, c_M2m, h⟩ := clvS h
        have q_M2m : EQ M M2m := EQ.tr q_M1m (k_X7_advance  c_M2m)
        obtain ⟨-, e⟩ := retS h
        rw [← e]
        exact q_M2m
      · exact EQ.tr (EQ.refl M) (k_X7_takeMark_b35  h)
  · obtain ⟨r1, M3m, c_M3m, h⟩ := clS h
    have q_M3m : EQ M M3m := EQ.tr (EQ.refl M) (k_X7_fail  c_M3m)
    obtain ⟨-, h⟩ := gdS h
    obtain ⟨-, e⟩ := retS h
    rw [← e]
    exact q_M3m
theorem k_X7_giveName_b103    {M N : Mem} {r : Int32} (h : f_X7_giveName_b103 M = some (r, N)) : EQ M N := by
  unfold f_X7_giveName_b103 at h
  obtain ⟨M1m, c_M1m, h⟩ := clvS h
  have q_M1m : EQ M M1m := EQ.tr (EQ.refl M) (k_X7_advance  c_M1m)
  obtain ⟨-, e⟩ := retS h
  rw [← e]
  exact q_M1m
theorem k_X7_giveName_b18_s {rec18 : Nat → Int32 → Int32 → Mem → Option (Int32 × Mem)} (hrec18 : ∀ (a0 : Nat) (a1 : Int32) (a2 : Int32) (M N : Mem) (r : Int32), rec18 a0 a1 a2 M = some (r, N) → EQ M N) {n1 : Nat} {x2 : Int32} {x3 : Int32} {M N : Mem} {r : Int32} (h : f_X7_giveName_b18_s rec18 n1 x2 x3 M = some (r, N)) : EQ M N := by
  unfold f_X7_giveName_b18_s at h
  rcases ifS h with ⟨-, h⟩ | ⟨-, h⟩
  · rcases ifS h with ⟨-, h⟩ | ⟨-, h⟩
    · exact EQ.tr (EQ.refl M) (k_X7_giveName_b103  h)
    · obtain ⟨-, h⟩ := gdS h
      obtain ⟨M1m, e_M1m, h⟩ := bndS h
      have q_M1m : EQ M M1m := EQ.tr (EQ.refl M) (by rw [e_M1m]; exact EQ_I _ _ _ _)
      obtain ⟨-, h⟩ := gdS h
      obtain ⟨-, h⟩ := gdS h
      obtain ⟨M2m, e_M2m, h⟩ := bndS h
      have q_M2m : EQ M M2m := EQ.tr q_M1m (by rw [e_M2m]; exact EQ_R _ _ _ (by decide))
      obtain ⟨-, h⟩ := gdS h
      obtain ⟨M3m, e_M3m, h⟩ := bndS h
      have q_M3m : EQ M M3m := EQ.tr q_M2m (by rw [e_M3m]; exact EQ_I _ _ _ _)
      obtain ⟨M4m, e_M4m, h⟩ := bndS h
      have q_M4m : EQ M M4m := EQ.tr q_M3m (by rw [e_M4m]; exact EQ_I _ _ _ _)
      exact EQ.tr q_M4m (k_X7_giveName_b103  h)
  · obtain ⟨-, h⟩ := gdS h
    rcases ifS h with ⟨-, h⟩ | ⟨-, h⟩
    · obtain ⟨r1, M5m, c_M5m, h⟩ := clS h
      have q_M5m : EQ M M5m := EQ.tr (EQ.refl M) (k_X7_fail  c_M5m)
      obtain ⟨-, h⟩ := gdS h
      obtain ⟨-, e⟩ := retS h
      rw [← e]
      exact q_M5m
    · obtain ⟨a1, e_a1, h⟩ := bndS h
      exact EQ.tr (EQ.refl M) (hrec18 _ _ _ _ _ _ h)
theorem k_X7_giveName_b18   (k : Nat) : ∀ (a0 : Nat) (a1 : Int32) (a2 : Int32) (M N : Mem) (r : Int32), f_X7_giveName_b18 k a0 a1 a2 M = some (r, N) → EQ M N :=
  lpN_ind (P := fun (f : Nat → Int32 → Int32 → Mem → Option (Int32 × Mem)) => ∀ (a0 : Nat) (a1 : Int32) (a2 : Int32) (M N : Mem) (r : Int32), f a0 a1 a2 M = some (r, N) → EQ M N) (fun _ _ _ _ _ _ h => by cases h) (fun f hf _ _ _ _ _ _ h => k_X7_giveName_b18_s  hf h) k
theorem k_X7_giveName   {n1 : Nat} {x2 : Int32} {M N : Mem} {r : Int32} (h : f_X7_giveName n1 x2 M = some (r, N)) : EQ M N := by
  unfold f_X7_giveName at h
  obtain ⟨-, h⟩ := gdS h
  rcases ifS h with ⟨-, h⟩ | ⟨-, h⟩
  · exact EQ.tr (EQ.refl M) (k_X7_giveName_b18  _ _ _ _ _ _ _ h)
  · obtain ⟨r1, M1m, c_M1m, h⟩ := clS h
    have q_M1m : EQ M M1m := EQ.tr (EQ.refl M) (k_X7_fail  c_M1m)
    obtain ⟨-, h⟩ := gdS h
    obtain ⟨-, e⟩ := retS h
    rw [← e]
    exact q_M1m
theorem k_X7_findName_b20_s {rec20 : Nat → Int32 → Int32 → Mem → Option (Int32 × Mem)} (hrec20 : ∀ (a0 : Nat) (a1 : Int32) (a2 : Int32) (M N : Mem) (r : Int32), rec20 a0 a1 a2 M = some (r, N) → EQ M N) {n1 : Nat} {x2 : Int32} {x3 : Int32} {M N : Mem} {r : Int32} (h : f_X7_findName_b20_s rec20 n1 x2 x3 M = some (r, N)) : EQ M N := by
  unfold f_X7_findName_b20_s at h
  rcases ifS h with ⟨-, h⟩ | ⟨-, h⟩
  · obtain ⟨r1, M1m, c_M1m, h⟩ := clS h
    have q_M1m : EQ M M1m := EQ.tr (EQ.refl M) (k_X7_fail  c_M1m)
    obtain ⟨-, e⟩ := retS h
    rw [← e]
    exact q_M1m
  · obtain ⟨-, h⟩ := gdS h
    rcases ifS h with ⟨-, h⟩ | ⟨-, h⟩
    · obtain ⟨-, h⟩ := gdS h
      obtain ⟨-, h⟩ := gdS h
      rcases ifS h with ⟨-, h⟩ | ⟨-, h⟩
      · rcases ifS h with ⟨-, h⟩ | ⟨-, h⟩
        · obtain ⟨a1, e_a1, h⟩ := bndS h
          exact EQ.tr (EQ.refl M) (hrec20 _ _ _ _ _ _ h)
        · obtain ⟨-, e⟩ := retS h
          rw [← e]
          exact (EQ.refl M)
      · obtain ⟨a2, e_a2, h⟩ := bndS h
        exact EQ.tr (EQ.refl M) (hrec20 _ _ _ _ _ _ h)
    · obtain ⟨a3, e_a3, h⟩ := bndS h
      exact EQ.tr (EQ.refl M) (hrec20 _ _ _ _ _ _ h)
theorem k_X7_findName_b20   (k : Nat) : ∀ (a0 : Nat) (a1 : Int32) (a2 : Int32) (M N : Mem) (r : Int32), f_X7_findName_b20 k a0 a1 a2 M = some (r, N) → EQ M N :=
  lpN_ind (P := fun (f : Nat → Int32 → Int32 → Mem → Option (Int32 × Mem)) => ∀ (a0 : Nat) (a1 : Int32) (a2 : Int32) (M N : Mem) (r : Int32), f a0 a1 a2 M = some (r, N) → EQ M N) (fun _ _ _ _ _ _ h => by cases h) (fun f hf _ _ _ _ _ _ h => k_X7_findName_b20_s  hf h) k
theorem k_X7_findName   {n1 : Nat} {x2 : Int32} {M N : Mem} {r : Int32} (h : f_X7_findName n1 x2 M = some (r, N)) : EQ M N := by
  unfold f_X7_findName at h
  obtain ⟨-, h⟩ := gdS h
  rcases ifS h with ⟨-, h⟩ | ⟨-, h⟩
  · exact EQ.tr (EQ.refl M) (k_X7_findName_b20  _ _ _ _ _ _ _ h)
  · obtain ⟨r1, M1m, c_M1m, h⟩ := clS h
    have q_M1m : EQ M M1m := EQ.tr (EQ.refl M) (k_X7_fail  c_M1m)
    obtain ⟨-, e⟩ := retS h
    rw [← e]
    exact q_M1m
theorem k_X7_takeName   {n1 : Nat} {x2 : Int32} {M N : Mem} {r : Int32} (h : f_X7_takeName n1 x2 M = some (r, N)) : EQ M N := by
  unfold f_X7_takeName at h
  obtain ⟨r1, M1m, c_M1m, h⟩ := clS h
  have q_M1m : EQ M M1m := EQ.tr (EQ.refl M) (k_X7_findName  c_M1m)
  rcases ifS h with ⟨-, h⟩ | ⟨-, h⟩
  · obtain ⟨-, e⟩ := retS h
    rw [← e]
    exact q_M1m
  · obtain ⟨M2m, c_M2m, h⟩ := clvS h
    have q_M2m : EQ M M2m := EQ.tr q_M1m (k_X7_advance  c_M2m)
    obtain ⟨-, e⟩ := retS h
    rw [← e]
    exact q_M2m
theorem k_X7_roomForSetting   {x1 : Int32} {M N : Mem} {r : Int32} (h : f_X7_roomForSetting x1 M = some (r, N)) : EQ M N := by
  unfold f_X7_roomForSetting at h
  obtain ⟨-, e⟩ := retS h
  rw [← e]
  exact (EQ.refl M)
theorem k_X7_roomFor   {n1 : Nat} {M N : Mem} {r : Int32} (h : f_X7_roomFor n1 M = some (r, N)) : EQ M N := by
  unfold f_X7_roomFor at h
  obtain ⟨-, h⟩ := gdS h
  obtain ⟨-, h⟩ := gdS h
  rcases ifS h with ⟨-, h⟩ | ⟨-, h⟩
  · obtain ⟨-, h⟩ := gdS h
    obtain ⟨-, e⟩ := retS h
    rw [← e]
    exact (EQ.refl M)
  · rcases ifS h with ⟨-, h⟩ | ⟨-, h⟩
    · obtain ⟨-, h⟩ := gdS h
      obtain ⟨-, e⟩ := retS h
      rw [← e]
      exact (EQ.refl M)
    · rcases ifS h with ⟨-, h⟩ | ⟨-, h⟩
      · obtain ⟨-, h⟩ := gdS h
        obtain ⟨-, e⟩ := retS h
        rw [← e]
        exact (EQ.refl M)
      · rcases ifS h with ⟨-, h⟩ | ⟨-, h⟩
        · obtain ⟨-, h⟩ := gdS h
          obtain ⟨-, e⟩ := retS h
          rw [← e]
          exact (EQ.refl M)
        · rcases ifS h with ⟨-, h⟩ | ⟨-, h⟩
          · obtain ⟨-, h⟩ := gdS h
            obtain ⟨-, e⟩ := retS h
            rw [← e]
            exact (EQ.refl M)
          · rcases ifS h with ⟨-, h⟩ | ⟨-, h⟩
            · obtain ⟨-, h⟩ := gdS h
              obtain ⟨-, e⟩ := retS h
              rw [← e]
              exact (EQ.refl M)
            · rcases ifS h with ⟨-, h⟩ | ⟨-, h⟩
              · obtain ⟨r1, M1m, c_M1m, h⟩ := clS h
                have q_M1m : EQ M M1m := EQ.tr (EQ.refl M) (k_X7_roomForSetting  c_M1m)
                obtain ⟨-, e⟩ := retS h
                rw [← e]
                exact q_M1m
              · rcases ifS h with ⟨-, h⟩ | ⟨-, h⟩
                · obtain ⟨r2, M2m, c_M2m, h⟩ := clS h
                  have q_M2m : EQ M M2m := EQ.tr (EQ.refl M) (k_X7_roomForSetting  c_M2m)
                  obtain ⟨-, e⟩ := retS h
                  rw [← e]
                  exact q_M2m
                · rcases ifS h with ⟨-, h⟩ | ⟨-, h⟩
                  · obtain ⟨r3, M3m, c_M3m, h⟩ := clS h
                    have q_M3m : EQ M M3m := EQ.tr (EQ.refl M) (k_X7_roomForSetting  c_M3m)
                    obtain ⟨-, e⟩ := retS h
                    rw [← e]
                    exact q_M3m
                  · rcases ifS h with ⟨-, h⟩ | ⟨-, h⟩
                    · obtain ⟨r4, M4m, c_M4m, h⟩ := clS h
                      have q_M4m : EQ M M4m := EQ.tr (EQ.refl M) (k_X7_roomForSetting  c_M4m)
                      obtain ⟨-, e⟩ := retS h
                      rw [← e]
                      exact q_M4m
                    · obtain ⟨-, e⟩ := retS h
                      rw [← e]
                      exact (EQ.refl M)
theorem k_X7_startLine_b21   {xs1 : Int32} {M N : Mem} {r : Int32} (h : f_X7_startLine_b21 xs1 M = some (r, N)) : EQ M N := by
  unfold f_X7_startLine_b21 at h
  obtain ⟨r1, M1m, c_M1m, h⟩ := clS h
  have q_M1m : EQ M M1m := EQ.tr (EQ.refl M) (k_X7_fail  c_M1m)
  obtain ⟨-, h⟩ := gdS h
  obtain ⟨-, e⟩ := retS h
  rw [← e]
  exact q_M1m
theorem k_X7_startLine   {n1 : Nat} {M N : Mem} {r : Int32} (h : f_X7_startLine n1 M = some (r, N)) : EQ M N := by
  unfold f_X7_startLine at h
  obtain ⟨r1, M1m, c_M1m, h⟩ := clS h
  have q_M1m : EQ M M1m := EQ.tr (EQ.refl M) (k_X7_roomFor  c_M1m)
  rcases ifS h with ⟨-, h⟩ | ⟨-, h⟩
  · obtain ⟨M2m, c_M2m, h⟩ := clvS h
    have q_M2m : EQ M M2m := EQ.tr q_M1m (k_X7_advance  c_M2m)
    obtain ⟨-, e⟩ := retS h
    rw [← e]
    exact q_M2m
  · rcases ifS h with ⟨-, h⟩ | ⟨-, h⟩
    · exact EQ.tr q_M1m (k_X7_startLine_b21  h)
    · exact EQ.tr q_M1m (k_X7_startLine_b21  h)
theorem k_X7_tellMember_b56   {n1 : Nat} {x2 : Int32} {M N : Mem} {r : Int32} (h : f_X7_tellMember_b56 n1 x2 M = some (r, N)) : EQ M N := by
  unfold f_X7_tellMember_b56 at h
  obtain ⟨-, h⟩ := gdS h
  obtain ⟨-, h⟩ := gdS h
  obtain ⟨M1m, e_M1m, h⟩ := bndS h
  have q_M1m : EQ M M1m := EQ.tr (EQ.refl M) (by rw [e_M1m]; exact EQ_I _ _ _ _)
  obtain ⟨M2m, e_M2m, h⟩ := bndS h
  have q_M2m : EQ M M2m := EQ.tr q_M1m (by rw [e_M2m]; exact EQ_I _ _ _ _)
  obtain ⟨r1, M3m, c_M3m, h⟩ := clS h
  have q_M3m : EQ M M3m := EQ.tr q_M2m (k_X7_take  c_M3m)
  obtain ⟨-, h⟩ := gdS h
  obtain ⟨-, e⟩ := retS h
  rw [← e]
  exact q_M3m
theorem k_X7_tellMember_b25 {rec4 : Nat → Int32 → Int32 → Mem → Option (Int32 × Mem)} (hrec4 : ∀ (a0 : Nat) (a1 : Int32) (a2 : Int32) (M N : Mem) (r : Int32), rec4 a0 a1 a2 M = some (r, N) → EQ M N) {n1 : Nat} {x2 : Int32} {x3 : Int32} {M N : Mem} {r : Int32} (h : f_X7_tellMember_b25 rec4 n1 x2 x3 M = some (r, N)) : EQ M N := by
  unfold f_X7_tellMember_b25 at h
  obtain ⟨r1, M1m, c_M1m, h⟩ := clS h
  have q_M1m : EQ M M1m := EQ.tr (EQ.refl M) (k_X7_takeName  c_M1m)
  rcases ifS h with ⟨-, h⟩ | ⟨-, h⟩
  · obtain ⟨-, e⟩ := retS h
    rw [← e]
    exact q_M1m
  · obtain ⟨a1, e_a1, h⟩ := bndS h
    obtain ⟨a2, e_a2, h⟩ := bndS h
    exact EQ.tr q_M1m (hrec4 _ _ _ _ _ _ h)
theorem k_X7_tellMember_b4_s {rec4 : Nat → Int32 → Int32 → Mem → Option (Int32 × Mem)} (hrec4 : ∀ (a0 : Nat) (a1 : Int32) (a2 : Int32) (M N : Mem) (r : Int32), rec4 a0 a1 a2 M = some (r, N) → EQ M N) {n1 : Nat} {x2 : Int32} {x3 : Int32} {M N : Mem} {r : Int32} (h : f_X7_tellMember_b4_s rec4 n1 x2 x3 M = some (r, N)) : EQ M N := by
  unfold f_X7_tellMember_b4_s at h
  rcases ifS h with ⟨-, h⟩ | ⟨-, h⟩
  · exact EQ.tr (EQ.refl M) (k_X7_tellMember_b56  h)
  · rcases ifS h with ⟨-, h⟩ | ⟨-, h⟩
    · exact EQ.tr (EQ.refl M) (k_X7_tellMember_b25 hrec4 h)
    · obtain ⟨-, h⟩ := gdS h
      rcases ifS h with ⟨-, h⟩ | ⟨-, h⟩
      · exact EQ.tr (EQ.refl M) (k_X7_tellMember_b56  h)
      · exact EQ.tr (EQ.refl M) (k_X7_tellMember_b25 hrec4 h)
theorem k_X7_tellMember_b4   (k : Nat) : ∀ (a0 : Nat) (a1 : Int32) (a2 : Int32) (M N : Mem) (r : Int32), f_X7_tellMember_b4 k a0 a1 a2 M = some (r, N) → EQ M N :=
  lpN_ind (P := fun (f : Nat → Int32 → Int32 → Mem → Option (Int32 × Mem)) => ∀ (a0 : Nat) (a1 : Int32) (a2 : Int32) (M N : Mem) (r : Int32), f a0 a1 a2 M = some (r, N) → EQ M N) (fun _ _ _ _ _ _ h => by cases h) (fun f hf _ _ _ _ _ _ h => k_X7_tellMember_b4_s  hf h) k
theorem k_X7_tellMember   {n1 : Nat} {M N : Mem} {r : Int32} (h : f_X7_tellMember n1 M = some (r, N)) : EQ M N := by
  unfold f_X7_tellMember at h
  exact EQ.tr (EQ.refl M) (k_X7_tellMember_b4  _ _ _ _ _ _ _ h)
theorem k_X7_tellBoard_b124    {M N : Mem} {r : Int32} (h : f_X7_tellBoard_b124 M = some (r, N)) : EQ M N := by
  unfold f_X7_tellBoard_b124 at h
  obtain ⟨-, h⟩ := gdS h
  obtain ⟨M1m, e_M1m, h⟩ := bndS h
  have q_M1m : EQ M M1m := EQ.tr (EQ.refl M) (by rw [e_M1m]; exact EQ_I _ _ _ _)
  obtain ⟨-, e⟩ := retS h
  rw [← e]
  exact q_M1m
theorem k_X7_tellBoard_b76_s {rec76 : Nat → Int32 → Mem → Option (Int32 × Mem)} (hrec76 : ∀ (a0 : Nat) (a1 : Int32) (M N : Mem) (r : Int32), rec76 a0 a1 M = some (r, N) → EQ M N) {n1 : Nat} {x2 : Int32} {M N : Mem} {r : Int32} (h : f_X7_tellBoard_b76_s rec76 n1 x2 M = some (r, N)) : EQ M N := by
  unfold f_X7_tellBoard_b76_s at h
  rcases ifS h with ⟨-, h⟩ | ⟨-, h⟩
  · exact EQ.tr (EQ.refl M) (k_X7_tellBoard_b124  h)
  · obtain ⟨-, h⟩ := gdS h
    rcases ifS h with ⟨-, h⟩ | ⟨-, h⟩
    · rcases ifS h with ⟨-, h⟩ | ⟨-, h⟩
      · obtain ⟨r1, M1m, c_M1m, h⟩ := clS h
        have q_M1m : EQ M M1m := EQ.tr (EQ.refl M) (k_X7_fail  c_M1m)
        obtain ⟨-, h⟩ := gdS h
        obtain ⟨-, e⟩ := retS h
        rw [← e]
        exact q_M1m
      · obtain ⟨M2m, c_M2m, h⟩ := clvS h
        have q_M2m : EQ M M2m := EQ.tr (EQ.refl M) (k_X7_advance  c_M2m)
        obtain ⟨r2, M3m, c_M3m, h⟩ := clS h
        have q_M3m : EQ M M3m := EQ.tr q_M2m (k_X7_tellMember  c_M3m)
        rcases ifS h with ⟨-, h⟩ | ⟨-, h⟩
        · obtain ⟨-, e⟩ := retS h
          rw [← e]
          exact q_M3m
        · obtain ⟨a1, e_a1, h⟩ := bndS h
          exact EQ.tr q_M3m (hrec76 _ _ _ _ _ h)
    · exact EQ.tr (EQ.refl M) (k_X7_tellBoard_b124  h)
theorem k_X7_tellBoard_b76   (k : Nat) : ∀ (a0 : Nat) (a1 : Int32) (M N : Mem) (r : Int32), f_X7_tellBoard_b76 k a0 a1 M = some (r, N) → EQ M N :=
  lpN_ind (P := fun (f : Nat → Int32 → Mem → Option (Int32 × Mem)) => ∀ (a0 : Nat) (a1 : Int32) (M N : Mem) (r : Int32), f a0 a1 M = some (r, N) → EQ M N) (fun _ _ _ _ _ h => by cases h) (fun f hf _ _ _ _ _ h => k_X7_tellBoard_b76_s  hf h) k
theorem k_X7_tellBoard    {M N : Mem} {r : Int32} (h : f_X7_tellBoard M = some (r, N)) : EQ M N := by
  unfold f_X7_tellBoard at h
  obtain ⟨-, h⟩ := gdS h
  obtain ⟨-, h⟩ := gdS h
  obtain ⟨o1, e_o1, h⟩ := bndS h
  obtain ⟨r1, M1m, c_M1m, h⟩ := clS h
  have q_M1m : EQ M M1m := EQ.tr (EQ.refl M) (k_X7_giveName  c_M1m)
  rcases ifS h with ⟨-, h⟩ | ⟨-, h⟩
  · obtain ⟨-, e⟩ := retS h
    rw [← e]
    exact q_M1m
  · obtain ⟨r2, M2m, c_M2m, h⟩ := clS h
    have q_M2m : EQ M M2m := EQ.tr q_M1m (k_X7_takeNumber  c_M2m)
    rcases ifS h with ⟨-, h⟩ | ⟨-, h⟩
    · obtain ⟨-, e⟩ := retS h
      rw [← e]
      exact q_M2m
    · obtain ⟨M3m, e_M3m, h⟩ := bndS h
      have q_M3m : EQ M M3m := EQ.tr q_M2m (by rw [e_M3m]; exact EQ_I _ _ _ _)
      obtain ⟨M4m, e_M4m, h⟩ := bndS h
      have q_M4m : EQ M M4m := EQ.tr q_M3m (by rw [e_M4m]; exact EQ_I _ _ _ _)
      obtain ⟨-, h⟩ := gdS h
      rcases ifS h with ⟨-, h⟩ | ⟨-, h⟩
      · exact EQ.tr q_M4m (k_X7_tellBoard_b76  _ _ _ _ _ _ h)
      · obtain ⟨r3, M5m, c_M5m, h⟩ := clS h
        have q_M5m : EQ M M5m := EQ.tr q_M4m (k_X7_fail  c_M5m)
        obtain ⟨-, h⟩ := gdS h
        obtain ⟨-, e⟩ := retS h
        rw [← e]
        exact q_M5m
theorem k_X7_tellCamera    {M N : Mem} {r : Int32} (h : f_X7_tellCamera M = some (r, N)) : EQ M N := by
  unfold f_X7_tellCamera at h
  obtain ⟨-, h⟩ := gdS h
  obtain ⟨a1, e_a1, h⟩ := bndS h
  obtain ⟨r1, M1m, c_M1m, h⟩ := clS h
  have q_M1m : EQ M M1m := EQ.tr (EQ.refl M) (k_X7_giveName  c_M1m)
  rcases ifS h with ⟨-, h⟩ | ⟨-, h⟩
  · obtain ⟨-, e⟩ := retS h
    rw [← e]
    exact q_M1m
  · obtain ⟨r2, M2m, c_M2m, h⟩ := clS h
    have q_M2m : EQ M M2m := EQ.tr q_M1m (k_X7_takeNumber  c_M2m)
    rcases ifS h with ⟨-, h⟩ | ⟨-, h⟩
    · obtain ⟨-, e⟩ := retS h
      rw [← e]
      exact q_M2m
    · obtain ⟨-, h⟩ := gdS h
      obtain ⟨-, h⟩ := gdS h
      obtain ⟨M3m, e_M3m, h⟩ := bndS h
      have q_M3m : EQ M M3m := EQ.tr q_M2m (by rw [e_M3m]; exact EQ_I _ _ _ _)
      obtain ⟨r3, M4m, c_M4m, h⟩ := clS h
      have q_M4m : EQ M M4m := EQ.tr q_M3m (k_X7_takeNumber  c_M4m)
      rcases ifS h with ⟨-, h⟩ | ⟨-, h⟩
      · obtain ⟨-, e⟩ := retS h
        rw [← e]
        exact q_M4m
      · obtain ⟨-, h⟩ := gdS h
        obtain ⟨M5m, e_M5m, h⟩ := bndS h
        have q_M5m : EQ M M5m := EQ.tr q_M4m (by rw [e_M5m]; exact EQ_I _ _ _ _)
        obtain ⟨-, h⟩ := gdS h
        obtain ⟨M6m, c_M6m, h⟩ := clvS h
        have q_M6m : EQ M M6m := EQ.tr q_M5m (k_X2_tellLate  c_M6m)
        obtain ⟨-, h⟩ := gdS h
        obtain ⟨M7m, e_M7m, h⟩ := bndS h
        have q_M7m : EQ M M7m := EQ.tr q_M6m (by rw [e_M7m]; exact EQ_I _ _ _ _)
        obtain ⟨-, e⟩ := retS h
        rw [← e]
        exact q_M7m
theorem k_X7_tellFlash    {M N : Mem} {r : Int32} (h : f_X7_tellFlash M = some (r, N)) : EQ M N := by
  unfold f_X7_tellFlash at h
  obtain ⟨r1, M1m, c_M1m, h⟩ := clS h
  have q_M1m : EQ M M1m := EQ.tr (EQ.refl M) (k_X7_takeName  c_M1m)
  rcases ifS h with ⟨-, h⟩ | ⟨-, h⟩
  · obtain ⟨-, e⟩ := retS h
    rw [← e]
    exact q_M1m
  · obtain ⟨r2, M2m, c_M2m, h⟩ := clS h
    have q_M2m : EQ M M2m := EQ.tr q_M1m (k_X7_takeNumber  c_M2m)
    rcases ifS h with ⟨-, h⟩ | ⟨-, h⟩
    · obtain ⟨-, e⟩ := retS h
      rw [← e]
      exact q_M2m
    · obtain ⟨a1, e_a1, h⟩ := bndS h
      obtain ⟨r3, M3m, c_M3m, h⟩ := clS h
      have q_M3m : EQ M M3m := EQ.tr q_M2m (k_X7_takeName  c_M3m)
      rcases ifS h with ⟨-, h⟩ | ⟨-, h⟩
      · obtain ⟨-, e⟩ := retS h
        rw [← e]
        exact q_M3m
      · obtain ⟨r4, M4m, c_M4m, h⟩ := clS h
        have q_M4m : EQ M M4m := EQ.tr q_M3m (k_X7_takeNumber  c_M4m)
        rcases ifS h with ⟨-, h⟩ | ⟨-, h⟩
        · obtain ⟨-, e⟩ := retS h
          rw [← e]
          exact q_M4m
        · obtain ⟨-, h⟩ := gdS h
          obtain ⟨M5m, c_M5m, h⟩ := clvS h
          have q_M5m : EQ M M5m := EQ.tr q_M4m (k_X2_tellFlash  c_M5m)
          obtain ⟨-, h⟩ := gdS h
          obtain ⟨M6m, e_M6m, h⟩ := bndS h
          have q_M6m : EQ M M6m := EQ.tr q_M5m (by rw [e_M6m]; exact EQ_I _ _ _ _)
          obtain ⟨-, e⟩ := retS h
          rw [← e]
          exact q_M6m
theorem k_X7_tellPair   {n1 : Nat} {M N : Mem} {r : Int32} (h : f_X7_tellPair n1 M = some (r, N)) : EQ M N := by
  unfold f_X7_tellPair at h
  obtain ⟨r1, M1m, c_M1m, h⟩ := clS h
  have q_M1m : EQ M M1m := EQ.tr (EQ.refl M) (k_X7_takeMark  c_M1m)
  rcases ifS h with ⟨-, h⟩ | ⟨-, h⟩
  · obtain ⟨-, e⟩ := retS h
    rw [← e]
    exact q_M1m
  · obtain ⟨a1, e_a1, h⟩ := bndS h
    obtain ⟨r2, M2m, c_M2m, h⟩ := clS h
    have q_M2m : EQ M M2m := EQ.tr q_M1m (k_X7_take  c_M2m)
    rcases ifS h with ⟨-, h⟩ | ⟨-, h⟩
    · obtain ⟨-, e⟩ := retS h
      rw [← e]
      exact q_M2m
    · obtain ⟨r3, M3m, c_M3m, h⟩ := clS h
      have q_M3m : EQ M M3m := EQ.tr q_M2m (k_X7_takeMark  c_M3m)
      rcases ifS h with ⟨-, h⟩ | ⟨-, h⟩
      · obtain ⟨-, e⟩ := retS h
        rw [← e]
        exact q_M3m
      · obtain ⟨-, h⟩ := gdS h
        obtain ⟨-, h⟩ := gdS h
        obtain ⟨M4m, e_M4m, h⟩ := bndS h
        have q_M4m : EQ M M4m := EQ.tr q_M3m (by rw [e_M4m]; exact EQ_I _ _ _ _)
        obtain ⟨-, h⟩ := gdS h
        obtain ⟨M5m, e_M5m, h⟩ := bndS h
        have q_M5m : EQ M M5m := EQ.tr q_M4m (by rw [e_M5m]; exact EQ_I _ _ _ _)
        obtain ⟨M6m, e_M6m, h⟩ := bndS h
        have q_M6m : EQ M M6m := EQ.tr q_M5m (by rw [e_M6m]; exact EQ_I _ _ _ _)
        obtain ⟨-, e⟩ := retS h
        rw [← e]
        exact q_M6m
theorem k_X7_tellKind_b141    {M N : Mem} {r : Int32} (h : f_X7_tellKind_b141 M = some (r, N)) : EQ M N := by
  unfold f_X7_tellKind_b141 at h
  obtain ⟨-, h⟩ := gdS h
  obtain ⟨M1m, e_M1m, h⟩ := bndS h
  have q_M1m : EQ M M1m := EQ.tr (EQ.refl M) (by rw [e_M1m]; exact EQ_I _ _ _ _)
  obtain ⟨-, e⟩ := retS h
  rw [← e]
  exact q_M1m
theorem k_X7_tellKind_b92_s {rec92 : Nat → Int32 → Mem → Option (Int32 × Mem)} (hrec92 : ∀ (a0 : Nat) (a1 : Int32) (M N : Mem) (r : Int32), rec92 a0 a1 M = some (r, N) → EQ M N) {n1 : Nat} {x2 : Int32} {M N : Mem} {r : Int32} (h : f_X7_tellKind_b92_s rec92 n1 x2 M = some (r, N)) : EQ M N := by
  unfold f_X7_tellKind_b92_s at h
  rcases ifS h with ⟨-, h⟩ | ⟨-, h⟩
  · exact EQ.tr (EQ.refl M) (k_X7_tellKind_b141  h)
  · obtain ⟨-, h⟩ := gdS h
    rcases ifS h with ⟨-, h⟩ | ⟨-, h⟩
    · obtain ⟨-, h⟩ := gdS h
      rcases ifS h with ⟨-, h⟩ | ⟨-, h⟩
      · obtain ⟨r1, M1m, c_M1m, h⟩ := clS h
        have q_M1m : EQ M M1m := EQ.tr (EQ.refl M) (k_X7_fail  c_M1m)
        obtain ⟨-, h⟩ := gdS h
        obtain ⟨-, e⟩ := retS h
        rw [← e]
        exact q_M1m
      · obtain ⟨M2m, c_M2m, h⟩ := clvS h
        have q_M2m : EQ M M2m := EQ.tr (EQ.refl M) (k_X7_advance  c_M2m)
        obtain ⟨r2, M3m, c_M3m, h⟩ := clS h
        have q_M3m : EQ M M3m := EQ.tr q_M2m (k_X7_tellPair  c_M3m)
        rcases ifS h with ⟨-, h⟩ | ⟨-, h⟩
        · obtain ⟨-, e⟩ := retS h
          rw [← e]
          exact q_M3m
        · obtain ⟨a1, e_a1, h⟩ := bndS h
          exact EQ.tr q_M3m (hrec92 _ _ _ _ _ h)
    · exact EQ.tr (EQ.refl M) (k_X7_tellKind_b141  h)
theorem k_X7_tellKind_b92   (k : Nat) : ∀ (a0 : Nat) (a1 : Int32) (M N : Mem) (r : Int32), f_X7_tellKind_b92 k a0 a1 M = some (r, N) → EQ M N :=
  lpN_ind (P := fun (f : Nat → Int32 → Mem → Option (Int32 × Mem)) => ∀ (a0 : Nat) (a1 : Int32) (M N : Mem) (r : Int32), f a0 a1 M = some (r, N) → EQ M N) (fun _ _ _ _ _ h => by cases h) (fun f hf _ _ _ _ _ h => k_X7_tellKind_b92_s  hf h) k
theorem k_X7_tellKind    {M N : Mem} {r : Int32} (h : f_X7_tellKind M = some (r, N)) : EQ M N := by
  unfold f_X7_tellKind at h
  obtain ⟨-, h⟩ := gdS h
  obtain ⟨-, h⟩ := gdS h
  obtain ⟨o1, e_o1, h⟩ := bndS h
  obtain ⟨r1, M1m, c_M1m, h⟩ := clS h
  have q_M1m : EQ M M1m := EQ.tr (EQ.refl M) (k_X7_giveName  c_M1m)
  rcases ifS h with ⟨-, h⟩ | ⟨-, h⟩
  · obtain ⟨-, e⟩ := retS h
    rw [← e]
    exact q_M1m
  · obtain ⟨r2, M2m, c_M2m, h⟩ := clS h
    have q_M2m : EQ M M2m := EQ.tr q_M1m (k_X7_takeNumber  c_M2m)
    rcases ifS h with ⟨-, h⟩ | ⟨-, h⟩
    · obtain ⟨-, e⟩ := retS h
      rw [← e]
      exact q_M2m
    · obtain ⟨M3m, e_M3m, h⟩ := bndS h
      have q_M3m : EQ M M3m := EQ.tr q_M2m (by rw [e_M3m]; exact EQ_I _ _ _ _)
      obtain ⟨r3, M4m, c_M4m, h⟩ := clS h
      have q_M4m : EQ M M4m := EQ.tr q_M3m (k_X7_skip  c_M4m)
      obtain ⟨-, h⟩ := gdS h
      obtain ⟨M5m, e_M5m, h⟩ := bndS h
      have q_M5m : EQ M M5m := EQ.tr q_M4m (by rw [e_M5m]; exact EQ_I _ _ _ _)
      obtain ⟨r4, M6m, c_M6m, h⟩ := clS h
      have q_M6m : EQ M M6m := EQ.tr q_M5m (k_X7_skip  c_M6m)
      obtain ⟨-, h⟩ := gdS h
      obtain ⟨M7m, e_M7m, h⟩ := bndS h
      have q_M7m : EQ M M7m := EQ.tr q_M6m (by rw [e_M7m]; exact EQ_I _ _ _ _)
      obtain ⟨M8m, e_M8m, h⟩ := bndS h
      have q_M8m : EQ M M8m := EQ.tr q_M7m (by rw [e_M8m]; exact EQ_I _ _ _ _)
      obtain ⟨r5, M9m, c_M9m, h⟩ := clS h
      have q_M9m : EQ M M9m := EQ.tr q_M8m (k_X7_tellPair  c_M9m)
      rcases ifS h with ⟨-, h⟩ | ⟨-, h⟩
      · obtain ⟨-, e⟩ := retS h
        rw [← e]
        exact q_M9m
      · exact EQ.tr q_M9m (k_X7_tellKind_b92  _ _ _ _ _ _ h)
theorem k_X7_tellFrame_b212 {rec97 : Nat → Int32 → Int32 → Mem → Option (Int32 × Mem)} (hrec97 : ∀ (a0 : Nat) (a1 : Int32) (a2 : Int32) (M N : Mem) (r : Int32), rec97 a0 a1 a2 M = some (r, N) → EQ M N) {n1 : Nat} {x3 : Int32} {x4 : Int32} {ns0 : Nat} {xs1 : Int32} {xs2 : Int32} {xs3 : Int32} {M N : Mem} {r : Int32} (h : f_X7_tellFrame_b212 rec97 n1 x3 x4 ns0 xs1 xs2 xs3 M = some (r, N)) : EQ M N := by
  unfold f_X7_tellFrame_b212 at h
  obtain ⟨-, h⟩ := gdS h
  obtain ⟨-, h⟩ := gdS h
  obtain ⟨M1m, e_M1m, h⟩ := bndS h
  have q_M1m : EQ M M1m := EQ.tr (EQ.refl M) (by rw [e_M1m]; exact EQ_I _ _ _ _)
  obtain ⟨a1, e_a1, h⟩ := bndS h
  exact EQ.tr q_M1m (hrec97 _ _ _ _ _ _ h)
theorem k_X7_tellFrame_b188 {rec97 : Nat → Int32 → Int32 → Mem → Option (Int32 × Mem)} (hrec97 : ∀ (a0 : Nat) (a1 : Int32) (a2 : Int32) (M N : Mem) (r : Int32), rec97 a0 a1 a2 M = some (r, N) → EQ M N) {n1 : Nat} {x3 : Int32} {x4 : Int32} {x5 : Int32} {ns0 : Nat} {xs1 : Int32} {xs2 : Int32} {xs3 : Int32} {M N : Mem} {r : Int32} (h : f_X7_tellFrame_b188 rec97 n1 x3 x4 x5 ns0 xs1 xs2 xs3 M = some (r, N)) : EQ M N := by
  unfold f_X7_tellFrame_b188 at h
  obtain ⟨-, h⟩ := gdS h
  obtain ⟨-, h⟩ := gdS h
  obtain ⟨M1m, e_M1m, h⟩ := bndS h
  have q_M1m : EQ M M1m := EQ.tr (EQ.refl M) (by rw [e_M1m]; exact EQ_I _ _ _ _)
  obtain ⟨-, h⟩ := gdS h
  obtain ⟨-, h⟩ := gdS h
  rcases ifS h with ⟨-, h⟩ | ⟨-, h⟩
  · exact EQ.tr q_M1m (k_X7_tellFrame_b212 hrec97 h)
  · exact EQ.tr q_M1m (k_X7_tellFrame_b212 hrec97 h)
theorem k_X7_tellFrame_b138 {rec97 : Nat → Int32 → Int32 → Mem → Option (Int32 × Mem)} (hrec97 : ∀ (a0 : Nat) (a1 : Int32) (a2 : Int32) (M N : Mem) (r : Int32), rec97 a0 a1 a2 M = some (r, N) → EQ M N) {n1 : Nat} {x3 : Int32} {x4 : Int32} {xs0 : Int32} {M N : Mem} {r : Int32} (h : f_X7_tellFrame_b138 rec97 n1 x3 x4 xs0 M = some (r, N)) : EQ M N := by
  unfold f_X7_tellFrame_b138 at h
  obtain ⟨M1m, c_M1m, h⟩ := clvS h
  have q_M1m : EQ M M1m := EQ.tr (EQ.refl M) (k_X7_advance  c_M1m)
  obtain ⟨-, h⟩ := gdS h
  obtain ⟨-, h⟩ := gdS h
  obtain ⟨r1, M2m, c_M2m, h⟩ := clS h
  have q_M2m : EQ M M2m := EQ.tr q_M1m (k_X7_takeMark  c_M2m)
  rcases ifS h with ⟨-, h⟩ | ⟨-, h⟩
  · obtain ⟨-, e⟩ := retS h
    rw [← e]
    exact q_M2m
  · rcases ifS h with ⟨-, h⟩ | ⟨-, h⟩
    · exact EQ.tr q_M2m (k_X7_tellFrame_b188 hrec97 h)
    · exact EQ.tr q_M2m (k_X7_tellFrame_b188 hrec97 h)
theorem k_X7_tellFrame_b123 {rec97 : Nat → Int32 → Int32 → Mem → Option (Int32 × Mem)} (hrec97 : ∀ (a0 : Nat) (a1 : Int32) (a2 : Int32) (M N : Mem) (r : Int32), rec97 a0 a1 a2 M = some (r, N) → EQ M N) {n1 : Nat} {x3 : Int32} {x4 : Int32} {M N : Mem} {r : Int32} (h : f_X7_tellFrame_b123 rec97 n1 x3 x4 M = some (r, N)) : EQ M N := by
  unfold f_X7_tellFrame_b123 at h
  obtain ⟨-, h⟩ := gdS h
  rcases ifS h with ⟨-, h⟩ | ⟨-, h⟩
  · exact EQ.tr (EQ.refl M) (k_X7_tellFrame_b138 hrec97 h)
  · exact EQ.tr (EQ.refl M) (k_X7_tellFrame_b138 hrec97 h)
theorem k_X7_tellFrame_b97_s {rec97 : Nat → Int32 → Int32 → Mem → Option (Int32 × Mem)} (hrec97 : ∀ (a0 : Nat) (a1 : Int32) (a2 : Int32) (M N : Mem) (r : Int32), rec97 a0 a1 a2 M = some (r, N) → EQ M N) {n1 : Nat} {x3 : Int32} {x4 : Int32} {M N : Mem} {r : Int32} (h : f_X7_tellFrame_b97_s rec97 n1 x3 x4 M = some (r, N)) : EQ M N := by
  unfold f_X7_tellFrame_b97_s at h
  rcases ifS h with ⟨-, h⟩ | ⟨-, h⟩
  · obtain ⟨-, e⟩ := retS h
    rw [← e]
    exact (EQ.refl M)
  · obtain ⟨-, h⟩ := gdS h
    rcases ifS h with ⟨-, h⟩ | ⟨-, h⟩
    · exact EQ.tr (EQ.refl M) (k_X7_tellFrame_b123 hrec97 h)
    · rcases ifS h with ⟨-, h⟩ | ⟨-, h⟩
      · exact EQ.tr (EQ.refl M) (k_X7_tellFrame_b123 hrec97 h)
      · obtain ⟨-, e⟩ := retS h
        rw [← e]
        exact (EQ.refl M)
theorem k_X7_tellFrame_b97   (k : Nat) : ∀ (a0 : Nat) (a1 : Int32) (a2 : Int32) (M N : Mem) (r : Int32), f_X7_tellFrame_b97 k a0 a1 a2 M = some (r, N) → EQ M N :=
  lpN_ind (P := fun (f : Nat → Int32 → Int32 → Mem → Option (Int32 × Mem)) => ∀ (a0 : Nat) (a1 : Int32) (a2 : Int32) (M N : Mem) (r : Int32), f a0 a1 a2 M = some (r, N) → EQ M N) (fun _ _ _ _ _ _ h => by cases h) (fun f hf _ _ _ _ _ _ h => k_X7_tellFrame_b97_s  hf h) k
theorem k_X7_tellFrame   {n1 : Nat} {M N : Mem} {r : Int32} (h : f_X7_tellFrame n1 M = some (r, N)) : EQ M N := by
  unfold f_X7_tellFrame at h
  obtain ⟨r1, M1m, c_M1m, h⟩ := clS h
  have q_M1m : EQ M M1m := EQ.tr (EQ.refl M) (k_X7_findName  c_M1m)
  rcases ifS h with ⟨-, h⟩ | ⟨-, h⟩
  · obtain ⟨-, e⟩ := retS h
    rw [← e]
    exact q_M1m
  · obtain ⟨-, h⟩ := gdS h
    rcases ifS h with ⟨-, h⟩ | ⟨-, h⟩
    · obtain ⟨r2, M2m, c_M2m, h⟩ := clS h
      have q_M2m : EQ M M2m := EQ.tr q_M1m (k_X7_fail  c_M2m)
      obtain ⟨-, h⟩ := gdS h
      obtain ⟨-, e⟩ := retS h
      rw [← e]
      exact q_M2m
    · obtain ⟨M3m, c_M3m, h⟩ := clvS h
      have q_M3m : EQ M M3m := EQ.tr q_M1m (k_X7_advance  c_M3m)
      obtain ⟨r3, M4m, c_M4m, h⟩ := clS h
      have q_M4m : EQ M M4m := EQ.tr q_M3m (k_X7_takeNumber  c_M4m)
      rcases ifS h with ⟨-, h⟩ | ⟨-, h⟩
      · obtain ⟨-, e⟩ := retS h
        rw [← e]
        exact q_M4m
      · obtain ⟨a1, e_a1, h⟩ := bndS h
        obtain ⟨-, h⟩ := gdS h
        obtain ⟨M5m, e_M5m, h⟩ := bndS h
        have q_M5m : EQ M M5m := EQ.tr q_M4m (by rw [e_M5m]; exact EQ_I _ _ _ _)
        obtain ⟨M6m, e_M6m, h⟩ := bndS h
        have q_M6m : EQ M M6m := EQ.tr q_M5m (by rw [e_M6m]; exact EQ_I _ _ _ _)
        obtain ⟨M7m, e_M7m, h⟩ := bndS h
        have q_M7m : EQ M M7m := EQ.tr q_M6m (by rw [e_M7m]; exact EQ_I _ _ _ _)
        obtain ⟨M8m, e_M8m, h⟩ := bndS h
        have q_M8m : EQ M M8m := EQ.tr q_M7m (by rw [e_M8m]; exact EQ_I _ _ _ _)
        obtain ⟨M9m, e_M9m, h⟩ := bndS h
        have q_M9m : EQ M M9m := EQ.tr q_M8m (by rw [e_M9m]; exact EQ_I _ _ _ _)
        exact EQ.tr q_M9m (k_X7_tellFrame_b97  _ _ _ _ _ _ _ h)
theorem k_X7_tellPlay_b234    {M N : Mem} {r : Int32} (h : f_X7_tellPlay_b234 M = some (r, N)) : EQ M N := by
  unfold f_X7_tellPlay_b234 at h
  obtain ⟨-, h⟩ := gdS h
  obtain ⟨M1m, e_M1m, h⟩ := bndS h
  have q_M1m : EQ M M1m := EQ.tr (EQ.refl M) (by rw [e_M1m]; exact EQ_I _ _ _ _)
  obtain ⟨-, e⟩ := retS h
  rw [← e]
  exact q_M1m
theorem k_X7_tellPlay_b202_s {rec202 : Nat → Int32 → Mem → Option (Int32 × Mem)} (hrec202 : ∀ (a0 : Nat) (a1 : Int32) (M N : Mem) (r : Int32), rec202 a0 a1 M = some (r, N) → EQ M N) {n1 : Nat} {x3 : Int32} {M N : Mem} {r : Int32} (h : f_X7_tellPlay_b202_s rec202 n1 x3 M = some (r, N)) : EQ M N := by
  unfold f_X7_tellPlay_b202_s at h
  rcases ifS h with ⟨-, h⟩ | ⟨-, h⟩
  · exact EQ.tr (EQ.refl M) (k_X7_tellPlay_b234  h)
  · obtain ⟨-, h⟩ := gdS h
    rcases ifS h with ⟨-, h⟩ | ⟨-, h⟩
    · exact EQ.tr (EQ.refl M) (k_X7_tellPlay_b234  h)
    · obtain ⟨r1, M1m, c_M1m, h⟩ := clS h
      have q_M1m : EQ M M1m := EQ.tr (EQ.refl M) (k_X7_tellFrame  c_M1m)
      rcases ifS h with ⟨-, h⟩ | ⟨-, h⟩
      · obtain ⟨-, e⟩ := retS h
        rw [← e]
        exact q_M1m
      · obtain ⟨a1, e_a1, h⟩ := bndS h
        exact EQ.tr q_M1m (hrec202 _ _ _ _ _ h)
theorem k_X7_tellPlay_b202   (k : Nat) : ∀ (a0 : Nat) (a1 : Int32) (M N : Mem) (r : Int32), f_X7_tellPlay_b202 k a0 a1 M = some (r, N) → EQ M N :=
  lpN_ind (P := fun (f : Nat → Int32 → Mem → Option (Int32 × Mem)) => ∀ (a0 : Nat) (a1 : Int32) (M N : Mem) (r : Int32), f a0 a1 M = some (r, N) → EQ M N) (fun _ _ _ _ _ h => by cases h) (fun f hf _ _ _ _ _ h => k_X7_tellPlay_b202_s  hf h) k
theorem k_X7_tellPlay_b192   {n1 : Nat} {ns1 : Nat} {M N : Mem} {r : Int32} (h : f_X7_tellPlay_b192 n1 ns1 M = some (r, N)) : EQ M N := by
  unfold f_X7_tellPlay_b192 at h
  obtain ⟨r1, M1m, c_M1m, h⟩ := clS h
  have q_M1m : EQ M M1m := EQ.tr (EQ.refl M) (k_X7_take  c_M1m)
  rcases ifS h with ⟨-, h⟩ | ⟨-, h⟩
  · obtain ⟨-, e⟩ := retS h
    rw [← e]
    exact q_M1m
  · exact EQ.tr q_M1m (k_X7_tellPlay_b202  _ _ _ _ _ _ h)
theorem k_X7_tellPlay_b171   {n1 : Nat} {ns0 : Nat} {xs1 : Int32} {M N : Mem} {r : Int32} (h : f_X7_tellPlay_b171 n1 ns0 xs1 M = some (r, N)) : EQ M N := by
  unfold f_X7_tellPlay_b171 at h
  obtain ⟨-, h⟩ := gdS h
  obtain ⟨M1m, e_M1m, h⟩ := bndS h
  have q_M1m : EQ M M1m := EQ.tr (EQ.refl M) (by rw [e_M1m]; exact EQ_I _ _ _ _)
  obtain ⟨-, h⟩ := gdS h
  rcases ifS h with ⟨-, h⟩ | ⟨-, h⟩
  · exact EQ.tr q_M1m (k_X7_tellPlay_b192  h)
  · exact EQ.tr q_M1m (k_X7_tellPlay_b192  h)
theorem k_X7_tellPlay_b54   {n1 : Nat} {xs0 : Int32} {M N : Mem} {r : Int32} (h : f_X7_tellPlay_b54 n1 xs0 M = some (r, N)) : EQ M N := by
  unfold f_X7_tellPlay_b54 at h
  obtain ⟨-, h⟩ := gdS h
  obtain ⟨r1, M1m, c_M1m, h⟩ := clS h
  have q_M1m : EQ M M1m := EQ.tr (EQ.refl M) (k_X7_giveName  c_M1m)
  rcases ifS h with ⟨-, h⟩ | ⟨-, h⟩
  · obtain ⟨-, e⟩ := retS h
    rw [← e]
    exact q_M1m
  · obtain ⟨r2, M2m, c_M2m, h⟩ := clS h
    have q_M2m : EQ M M2m := EQ.tr q_M1m (k_X7_takeNumber  c_M2m)
    rcases ifS h with ⟨-, h⟩ | ⟨-, h⟩
    · obtain ⟨-, e⟩ := retS h
      rw [← e]
      exact q_M2m
    · obtain ⟨-, h⟩ := gdS h
      obtain ⟨M3m, e_M3m, h⟩ := bndS h
      have q_M3m : EQ M M3m := EQ.tr q_M2m (by rw [e_M3m]; exact EQ_I _ _ _ _)
      obtain ⟨r3, M4m, c_M4m, h⟩ := clS h
      have q_M4m : EQ M M4m := EQ.tr q_M3m (k_X7_takeName  c_M4m)
      obtain ⟨M5m, e_M5m, h⟩ := bndS h
      have q_M5m : EQ M M5m := EQ.tr q_M4m (by rw [e_M5m]; exact EQ_I _ _ _ _)
      rcases ifS h with ⟨-, h⟩ | ⟨-, h⟩
      · obtain ⟨-, e⟩ := retS h
        rw [← e]
        exact q_M5m
      · obtain ⟨r4, M6m, c_M6m, h⟩ := clS h
        have q_M6m : EQ M M6m := EQ.tr q_M5m (k_X7_takeName  c_M6m)
        obtain ⟨M7m, e_M7m, h⟩ := bndS h
        have q_M7m : EQ M M7m := EQ.tr q_M6m (by rw [e_M7m]; exact EQ_I _ _ _ _)
        rcases ifS h with ⟨-, h⟩ | ⟨-, h⟩
        · obtain ⟨-, e⟩ := retS h
          rw [← e]
          exact q_M7m
        · obtain ⟨r5, M8m, c_M8m, h⟩ := clS h
          have q_M8m : EQ M M8m := EQ.tr q_M7m (k_X7_takeNumber  c_M8m)
          rcases ifS h with ⟨-, h⟩ | ⟨-, h⟩
          · obtain ⟨-, e⟩ := retS h
            rw [← e]
            exact q_M8m
          · obtain ⟨M9m, e_M9m, h⟩ := bndS h
            have q_M9m : EQ M M9m := EQ.tr q_M8m (by rw [e_M9m]; exact EQ_I _ _ _ _)
            obtain ⟨-, h⟩ := gdS h
            rcases ifS h with ⟨-, h⟩ | ⟨-, h⟩
            · exact EQ.tr q_M9m (k_X7_tellPlay_b171  h)
            · exact EQ.tr q_M9m (k_X7_tellPlay_b171  h)
theorem k_X7_tellPlay    {M N : Mem} {r : Int32} (h : f_X7_tellPlay M = some (r, N)) : EQ M N := by
  unfold f_X7_tellPlay at h
  obtain ⟨-, h⟩ := gdS h
  obtain ⟨-, h⟩ := gdS h
  obtain ⟨o1, e_o1, h⟩ := bndS h
  obtain ⟨M1m, c_M1m, h⟩ := clvS h
  have q_M1m : EQ M M1m := EQ.tr (EQ.refl M) (k_X6_clear  c_M1m)
  obtain ⟨-, h⟩ := gdS h
  rcases ifS h with ⟨-, h⟩ | ⟨-, h⟩
  · exact EQ.tr q_M1m (k_X7_tellPlay_b54  h)
  · obtain ⟨-, h⟩ := gdS h
    exact EQ.tr q_M1m (k_X7_tellPlay_b54  h)
theorem k_X7_tellSetting   {x1 : Int32} {x2 : Int32} {M N : Mem} {r : Int32} (h : f_X7_tellSetting x1 x2 M = some (r, N)) : EQ M N := by
  unfold f_X7_tellSetting at h
  obtain ⟨r1, M1m, c_M1m, h⟩ := clS h
  have q_M1m : EQ M M1m := EQ.tr (EQ.refl M) (k_X7_takeNumber  c_M1m)
  rcases ifS h with ⟨-, h⟩ | ⟨-, h⟩
  · obtain ⟨-, e⟩ := retS h
    rw [← e]
    exact q_M1m
  · obtain ⟨-, h⟩ := gdS h
    obtain ⟨-, h⟩ := gdS h
    obtain ⟨M2m, e_M2m, h⟩ := bndS h
    have q_M2m : EQ M M2m := EQ.tr q_M1m (by rw [e_M2m]; exact EQ_I _ _ _ _)
    obtain ⟨M3m, e_M3m, h⟩ := bndS h
    have q_M3m : EQ M M3m := EQ.tr q_M2m (by rw [e_M3m]; exact EQ_I _ _ _ _)
    obtain ⟨-, e⟩ := retS h
    rw [← e]
    exact q_M3m
theorem k_X7_tellSide    {M N : Mem} {r : Int32} (h : f_X7_tellSide M = some (r, N)) : EQ M N := by
  unfold f_X7_tellSide at h
  obtain ⟨-, h⟩ := gdS h
  obtain ⟨r1, M1m, c_M1m, h⟩ := clS h
  have q_M1m : EQ M M1m := EQ.tr (EQ.refl M) (k_X7_giveName  c_M1m)
  rcases ifS h with ⟨-, h⟩ | ⟨-, h⟩
  · obtain ⟨-, e⟩ := retS h
    rw [← e]
    exact q_M1m
  · obtain ⟨r2, M2m, c_M2m, h⟩ := clS h
    have q_M2m : EQ M M2m := EQ.tr q_M1m (k_X7_takeNumber  c_M2m)
    rcases ifS h with ⟨-, h⟩ | ⟨-, h⟩
    · obtain ⟨-, e⟩ := retS h
      rw [← e]
      exact q_M2m
    · obtain ⟨-, h⟩ := gdS h
      obtain ⟨-, h⟩ := gdS h
      obtain ⟨M3m, e_M3m, h⟩ := bndS h
      have q_M3m : EQ M M3m := EQ.tr q_M2m (by rw [e_M3m]; exact EQ_I _ _ _ _)
      obtain ⟨-, h⟩ := gdS h
      obtain ⟨M4m, e_M4m, h⟩ := bndS h
      have q_M4m : EQ M M4m := EQ.tr q_M3m (by rw [e_M4m]; exact EQ_I _ _ _ _)
      obtain ⟨-, e⟩ := retS h
      rw [← e]
      exact q_M4m
theorem k_X7_tellLine    {M N : Mem} {r : Int32} (h : f_X7_tellLine M = some (r, N)) : EQ M N := by
  unfold f_X7_tellLine at h
  obtain ⟨o1, e_o1, h⟩ := bndS h
  obtain ⟨r1, M1m, c_M1m, h⟩ := clS h
  have q_M1m : EQ M M1m := EQ.tr (EQ.refl M) (k_X7_startLine  c_M1m)
  rcases ifS h with ⟨-, h⟩ | ⟨-, h⟩
  · obtain ⟨-, e⟩ := retS h
    rw [← e]
    exact q_M1m
  · obtain ⟨-, h⟩ := gdS h
    obtain ⟨-, h⟩ := gdS h
    rcases ifS h with ⟨-, h⟩ | ⟨-, h⟩
    · obtain ⟨r2, M2m, c_M2m, h⟩ := clS h
      have q_M2m : EQ M M2m := EQ.tr q_M1m (k_X7_tellCamera  c_M2m)
      obtain ⟨-, h⟩ := gdS h
      obtain ⟨-, e⟩ := retS h
      rw [← e]
      exact q_M2m
    · rcases ifS h with ⟨-, h⟩ | ⟨-, h⟩
      · obtain ⟨r3, M3m, c_M3m, h⟩ := clS h
        have q_M3m : EQ M M3m := EQ.tr q_M1m (k_X7_tellFlash  c_M3m)
        obtain ⟨-, h⟩ := gdS h
        obtain ⟨-, e⟩ := retS h
        rw [← e]
        exact q_M3m
      · rcases ifS h with ⟨-, h⟩ | ⟨-, h⟩
        · obtain ⟨r4, M4m, c_M4m, h⟩ := clS h
          have q_M4m : EQ M M4m := EQ.tr q_M1m (k_X7_tellSide  c_M4m)
          obtain ⟨-, h⟩ := gdS h
          obtain ⟨-, e⟩ := retS h
          rw [← e]
          exact q_M4m
        · rcases ifS h with ⟨-, h⟩ | ⟨-, h⟩
          · obtain ⟨r5, M5m, c_M5m, h⟩ := clS h
            have q_M5m : EQ M M5m := EQ.tr q_M1m (k_X7_tellKind  c_M5m)
            obtain ⟨-, h⟩ := gdS h
            obtain ⟨-, e⟩ := retS h
            rw [← e]
            exact q_M5m
          · rcases ifS h with ⟨-, h⟩ | ⟨-, h⟩
            · obtain ⟨r6, M6m, c_M6m, h⟩ := clS h
              have q_M6m : EQ M M6m := EQ.tr q_M1m (k_X7_tellBoard  c_M6m)
              obtain ⟨-, h⟩ := gdS h
              obtain ⟨-, e⟩ := retS h
              rw [← e]
              exact q_M6m
            · rcases ifS h with ⟨-, h⟩ | ⟨-, h⟩
              · obtain ⟨r7, M7m, c_M7m, h⟩ := clS h
                have q_M7m : EQ M M7m := EQ.tr q_M1m (k_X7_tellPlay  c_M7m)
                obtain ⟨-, h⟩ := gdS h
                obtain ⟨-, e⟩ := retS h
                rw [← e]
                exact q_M7m
              · rcases ifS h with ⟨-, h⟩ | ⟨-, h⟩
                · obtain ⟨r8, M8m, c_M8m, h⟩ := clS h
                  have q_M8m : EQ M M8m := EQ.tr q_M1m (k_X7_tellSetting  c_M8m)
                  obtain ⟨-, h⟩ := gdS h
                  obtain ⟨-, e⟩ := retS h
                  rw [← e]
                  exact q_M8m
                · rcases ifS h with ⟨-, h⟩ | ⟨-, h⟩
                  · obtain ⟨r9, M9m, c_M9m, h⟩ := clS h
                    have q_M9m : EQ M M9m := EQ.tr q_M1m (k_X7_tellSetting  c_M9m)
                    obtain ⟨-, h⟩ := gdS h
                    obtain ⟨-, e⟩ := retS h
                    rw [← e]
                    exact q_M9m
                  · rcases ifS h with ⟨-, h⟩ | ⟨-, h⟩
                    · obtain ⟨r10, M10m, c_M10m, h⟩ := clS h
                      have q_M10m : EQ M M10m := EQ.tr q_M1m (k_X7_tellSetting  c_M10m)
                      obtain ⟨-, h⟩ := gdS h
                      obtain ⟨-, e⟩ := retS h
                      rw [← e]
                      exact q_M10m
                    · rcases ifS h with ⟨-, h⟩ | ⟨-, h⟩
                      · obtain ⟨r11, M11m, c_M11m, h⟩ := clS h
                        have q_M11m : EQ M M11m := EQ.tr q_M1m (k_X7_tellSetting  c_M11m)
                        obtain ⟨-, h⟩ := gdS h
                        obtain ⟨-, e⟩ := retS h
                        rw [← e]
                        exact q_M11m
                      · obtain ⟨r12, M12m, c_M12m, h⟩ := clS h
                        have q_M12m : EQ M M12m := EQ.tr q_M1m (k_X7_fail  c_M12m)
                        obtain ⟨-, h⟩ := gdS h
                        obtain ⟨-, e⟩ := retS h
                        rw [← e]
                        exact q_M12m
theorem k_X10_tapeNumber_b3_s {rec3 : Int32 → Int32 → Mem → Option Mem} (hrec3 : ∀ (a0 : Int32) (a1 : Int32) (M N : Mem), rec3 a0 a1 M = some N → EQ M N) {x1 : Int32} {x2 : Int32} {M N : Mem}  (h : f_X10_tapeNumber_b3_s rec3 x1 x2 M = some N) : EQ M N := by
  unfold f_X10_tapeNumber_b3_s at h
  rcases ifS h with ⟨-, h⟩ | ⟨-, h⟩
  · rw [← Option.some.inj h]
    exact (EQ.refl M)
  · rcases ifS h with ⟨-, h⟩ | ⟨-, h⟩
    · rw [← Option.some.inj h]
      exact (EQ.refl M)
    · obtain ⟨-, h⟩ := gdS h
      obtain ⟨M1m, e_M1m, h⟩ := bndS h
      have q_M1m : EQ M M1m := EQ.tr (EQ.refl M) (by rw [e_M1m]; exact EQ_I _ _ _ _)
      obtain ⟨M2m, e_M2m, h⟩ := bndS h
      have q_M2m : EQ M M2m := EQ.tr q_M1m (by rw [e_M2m]; exact EQ_I _ _ _ _)
      obtain ⟨a1, e_a1, h⟩ := bndS h
      exact EQ.tr q_M2m (hrec3 _ _ _ _ h)
theorem k_X10_tapeNumber_b3   (k : Nat) : ∀ (a0 : Int32) (a1 : Int32) (M N : Mem), f_X10_tapeNumber_b3 k a0 a1 M = some N → EQ M N :=
  lpN_ind (P := fun (f : Int32 → Int32 → Mem → Option Mem) => ∀ (a0 : Int32) (a1 : Int32) (M N : Mem), f a0 a1 M = some N → EQ M N) (fun _ _ _ _ h => by cases h) (fun f hf _ _ _ _ h => k_X10_tapeNumber_b3_s  hf h) k
theorem k_X10_tapeNumber   {x1 : Int32} {M N : Mem}  (h : f_X10_tapeNumber x1 M = some N) : EQ M N := by
  unfold f_X10_tapeNumber at h
  exact EQ.tr (EQ.refl M) (k_X10_tapeNumber_b3  _ _ _ _ _ h)
theorem k_X10_feed   {x1 : Int32} {x2 : Int32} {x3 : Int32} {x4 : Int32} {x5 : Int32} {M N : Mem} {r : Int32} (h : f_X10_feed x1 x2 x3 x4 x5 M = some (r, N)) : EQ M N := by
  unfold f_X10_feed at h
  rcases ifS h with ⟨-, h⟩ | ⟨-, h⟩
  · obtain ⟨M1m, c_M1m, h⟩ := clvS h
    have q_M1m : EQ M M1m := EQ.tr (EQ.refl M) (k_X10_tapeNumber  c_M1m)
    obtain ⟨M2m, c_M2m, h⟩ := clvS h
    have q_M2m : EQ M M2m := EQ.tr q_M1m (k_X10_tapeNumber  c_M2m)
    obtain ⟨M3m, c_M3m, h⟩ := clvS h
    have q_M3m : EQ M M3m := EQ.tr q_M2m (k_X10_tapeNumber  c_M3m)
    obtain ⟨M4m, c_M4m, h⟩ := clvS h
    have q_M4m : EQ M M4m := EQ.tr q_M3m (k_X10_tapeNumber  c_M4m)
    obtain ⟨M5m, c_M5m, h⟩ := clvS h
    have q_M5m : EQ M M5m := EQ.tr q_M4m (k_X10_tapeNumber  c_M5m)
    obtain ⟨-, e⟩ := retS h
    rw [← e]
    exact q_M5m
  · obtain ⟨-, e⟩ := retS h
    rw [← e]
    exact (EQ.refl M)
theorem k_X10_text_b129_s {rec129 : Int32 → Mem → Option (Int32 × Mem)} (hrec129 : ∀ (a0 : Int32) (M N : Mem) (r : Int32), rec129 a0 M = some (r, N) → EQ M N) {x3 : Int32} {M N : Mem} {r : Int32} (h : f_X10_text_b129_s rec129 x3 M = some (r, N)) : EQ M N := by
  unfold f_X10_text_b129_s at h
  rcases ifS h with ⟨-, h⟩ | ⟨-, h⟩
  · obtain ⟨-, h⟩ := gdS h
    obtain ⟨-, e⟩ := retS h
    rw [← e]
    exact (EQ.refl M)
  · obtain ⟨-, h⟩ := gdS h
    obtain ⟨M1m, e_M1m, h⟩ := bndS h
    have q_M1m : EQ M M1m := EQ.tr (EQ.refl M) (by rw [e_M1m]; exact EQ_I _ _ _ _)
    obtain ⟨a1, e_a1, h⟩ := bndS h
    exact EQ.tr q_M1m (hrec129 _ _ _ _ h)
theorem k_X10_text_b129   (k : Nat) : ∀ (a0 : Int32) (M N : Mem) (r : Int32), f_X10_text_b129 k a0 M = some (r, N) → EQ M N :=
  lpN_ind (P := fun (f : Int32 → Mem → Option (Int32 × Mem)) => ∀ (a0 : Int32) (M N : Mem) (r : Int32), f a0 M = some (r, N) → EQ M N) (fun _ _ _ _ h => by cases h) (fun f hf _ _ _ _ h => k_X10_text_b129_s  hf h) k
theorem k_X10_text_b93    {M N : Mem} {r : Int32} (h : f_X10_text_b93 M = some (r, N)) : EQ M N := by
  unfold f_X10_text_b93 at h
  obtain ⟨o1, e_o1, h⟩ := bndS h
  obtain ⟨M1m, e_M1m, h⟩ := bndS h
  have q_M1m : EQ M M1m := EQ.tr (EQ.refl M) (by rw [e_M1m]; exact EQ_R _ _ _ (by decide))
  obtain ⟨M2m, e_M2m, h⟩ := bndS h
  have q_M2m : EQ M M2m := EQ.tr q_M1m (by rw [e_M2m]; exact EQ_R _ _ _ (by decide))
  obtain ⟨M3m, c_M3m, h⟩ := clvS h
  have q_M3m : EQ M M3m := EQ.tr q_M2m (k_X3_begin  c_M3m)
  obtain ⟨M4m, e_M4m, h⟩ := bndS h
  have q_M4m : EQ M M4m := EQ.tr q_M3m (by rw [e_M4m]; exact EQ_I _ _ _ _)
  exact EQ.tr q_M4m (k_X10_text_b129  _ _ _ _ _ h)
theorem k_X10_text_b76    {M N : Mem} {r : Int32} (h : f_X10_text_b76 M = some (r, N)) : EQ M N := by
  unfold f_X10_text_b76 at h
  obtain ⟨-, e⟩ := retS h
  rw [← e]
  exact (EQ.refl M)
theorem k_X10_text_b33_s {rec33 : Int32 → Mem → Option (Int32 × Mem)} (hrec33 : ∀ (a0 : Int32) (M N : Mem) (r : Int32), rec33 a0 M = some (r, N) → EQ M N) {x2 : Int32} {M N : Mem} {r : Int32} (h : f_X10_text_b33_s rec33 x2 M = some (r, N)) : EQ M N := by
  unfold f_X10_text_b33_s at h
  rcases ifS h with ⟨-, h⟩ | ⟨-, h⟩
  · exact EQ.tr (EQ.refl M) (k_X10_text_b93  h)
  · obtain ⟨-, h⟩ := gdS h
    rcases ifS h with ⟨-, h⟩ | ⟨-, h⟩
    · exact EQ.tr (EQ.refl M) (k_X10_text_b93  h)
    · obtain ⟨r1, M1m, c_M1m, h⟩ := clS h
      have q_M1m : EQ M M1m := EQ.tr (EQ.refl M) (k_X7_tellLine  c_M1m)
      rcases ifS h with ⟨-, h⟩ | ⟨-, h⟩
      · exact EQ.tr q_M1m (k_X10_text_b76  h)
      · obtain ⟨r2, M2m, c_M2m, h⟩ := clS h
        have q_M2m : EQ M M2m := EQ.tr q_M1m (k_X7_take  c_M2m)
        rcases ifS h with ⟨-, h⟩ | ⟨-, h⟩
        · exact EQ.tr q_M2m (k_X10_text_b76  h)
        · obtain ⟨a1, e_a1, h⟩ := bndS h
          exact EQ.tr q_M2m (hrec33 _ _ _ _ h)
theorem k_X10_text_b33   (k : Nat) : ∀ (a0 : Int32) (M N : Mem) (r : Int32), f_X10_text_b33 k a0 M = some (r, N) → EQ M N :=
  lpN_ind (P := fun (f : Int32 → Mem → Option (Int32 × Mem)) => ∀ (a0 : Int32) (M N : Mem) (r : Int32), f a0 M = some (r, N) → EQ M N) (fun _ _ _ _ h => by cases h) (fun f hf _ _ _ _ h => k_X10_text_b33_s  hf h) k
theorem k_X10_text   {x1 : Int32} {M N : Mem} {r : Int32} (h : f_X10_text x1 M = some (r, N)) : EQ M N := by
  unfold f_X10_text at h
  rcases ifS h with ⟨-, h⟩ | ⟨-, h⟩
  · obtain ⟨-, e⟩ := retS h
    rw [← e]
    exact (EQ.refl M)
  · rcases ifS h with ⟨-, h⟩ | ⟨-, h⟩
    · obtain ⟨M1m, e_M1m, h⟩ := bndS h
      have q_M1m : EQ M M1m := EQ.tr (EQ.refl M) (by rw [e_M1m]; exact EQ_I _ _ _ _)
      obtain ⟨M2m, c_M2m, h⟩ := clvS h
      have q_M2m : EQ M M2m := EQ.tr q_M1m (k_X7_begin  c_M2m)
      exact EQ.tr q_M2m (k_X10_text_b33  _ _ _ _ _ h)
    · obtain ⟨-, e⟩ := retS h
      rw [← e]
      exact (EQ.refl M)
theorem k_X10_camera   {x1 : Int32} {x2 : Int32} {M N : Mem} {r : Int32} (h : f_X10_camera x1 x2 M = some (r, N)) : EQ M N := by
  unfold f_X10_camera at h
  rcases ifS h with ⟨-, h⟩ | ⟨-, h⟩
  · obtain ⟨-, e⟩ := retS h
    rw [← e]
    exact (EQ.refl M)
  · obtain ⟨-, h⟩ := gdS h
    rcases ifS h with ⟨-, h⟩ | ⟨-, h⟩
    · rcases ifS h with ⟨-, h⟩ | ⟨-, h⟩
      · obtain ⟨-, h⟩ := gdS h
        obtain ⟨-, e⟩ := retS h
        rw [← e]
        exact (EQ.refl M)
      · rcases ifS h with ⟨-, h⟩ | ⟨-, h⟩
        · obtain ⟨-, h⟩ := gdS h
          obtain ⟨-, e⟩ := retS h
          rw [← e]
          exact (EQ.refl M)
        · rcases ifS h with ⟨-, h⟩ | ⟨-, h⟩
          · rcases ifS h with ⟨-, h⟩ | ⟨-, h⟩
            · obtain ⟨r1, M1m, c_M1m, h⟩ := clS h
              have q_M1m : EQ M M1m := EQ.tr (EQ.refl M) (k_X2_lateLeast  c_M1m)
              obtain ⟨-, e⟩ := retS h
              rw [← e]
              exact q_M1m
            · obtain ⟨-, e⟩ := retS h
              rw [← e]
              exact (EQ.refl M)
          · rcases ifS h with ⟨-, h⟩ | ⟨-, h⟩
            · rcases ifS h with ⟨-, h⟩ | ⟨-, h⟩
              · obtain ⟨r2, M2m, c_M2m, h⟩ := clS h
                have q_M2m : EQ M M2m := EQ.tr (EQ.refl M) (k_X2_lateMost  c_M2m)
                obtain ⟨-, e⟩ := retS h
                rw [← e]
                exact q_M2m
              · obtain ⟨-, e⟩ := retS h
                rw [← e]
                exact (EQ.refl M)
            · obtain ⟨-, e⟩ := retS h
              rw [← e]
              exact (EQ.refl M)
    · obtain ⟨-, e⟩ := retS h
      rw [← e]
      exact (EQ.refl M)
theorem k_X10_kind   {x1 : Int32} {x2 : Int32} {M N : Mem} {r : Int32} (h : f_X10_kind x1 x2 M = some (r, N)) : EQ M N := by
  unfold f_X10_kind at h
  rcases ifS h with ⟨-, h⟩ | ⟨-, h⟩
  · obtain ⟨-, e⟩ := retS h
    rw [← e]
    exact (EQ.refl M)
  · obtain ⟨-, h⟩ := gdS h
    rcases ifS h with ⟨-, h⟩ | ⟨-, h⟩
    · obtain ⟨-, h⟩ := gdS h
      obtain ⟨o1, e_o1, h⟩ := bndS h
      rcases ifS h with ⟨-, h⟩ | ⟨-, h⟩
      · obtain ⟨-, e⟩ := retS h
        rw [← e]
        exact (EQ.refl M)
      · rcases ifS h with ⟨-, h⟩ | ⟨-, h⟩
        · rcases ifS h with ⟨-, h⟩ | ⟨-, h⟩
          · obtain ⟨-, e⟩ := retS h
            rw [← e]
            exact (EQ.refl M)
          · obtain ⟨-, e⟩ := retS h
            rw [← e]
            exact (EQ.refl M)
        · rcases ifS h with ⟨-, h⟩ | ⟨-, h⟩
          · rcases ifS h with ⟨-, h⟩ | ⟨-, h⟩
            · obtain ⟨-, e⟩ := retS h
              rw [← e]
              exact (EQ.refl M)
            · obtain ⟨-, e⟩ := retS h
              rw [← e]
              exact (EQ.refl M)
          · rcases ifS h with ⟨-, h⟩ | ⟨-, h⟩
            · obtain ⟨-, e⟩ := retS h
              rw [← e]
              exact (EQ.refl M)
            · obtain ⟨-, e⟩ := retS h
              rw [← e]
              exact (EQ.refl M)
    · obtain ⟨-, e⟩ := retS h
      rw [← e]
      exact (EQ.refl M)
theorem k_X10_isSide   {x1 : Int32} {M N : Mem} {r : Int32} (h : f_X10_isSide x1 M = some (r, N)) : EQ M N := by
  unfold f_X10_isSide at h
  rcases ifS h with ⟨-, h⟩ | ⟨-, h⟩
  · obtain ⟨-, e⟩ := retS h
    rw [← e]
    exact (EQ.refl M)
  · obtain ⟨-, h⟩ := gdS h
    rcases ifS h with ⟨-, h⟩ | ⟨-, h⟩
    · obtain ⟨-, e⟩ := retS h
      rw [← e]
      exact (EQ.refl M)
    · obtain ⟨-, e⟩ := retS h
      rw [← e]
      exact (EQ.refl M)
theorem k_X10_pointsNow_b4_s {rec4 : Int32 → Int32 → Int32 → Mem → Option (Int32 × Mem)} (hrec4 : ∀ (a0 : Int32) (a1 : Int32) (a2 : Int32) (M N : Mem) (r : Int32), rec4 a0 a1 a2 M = some (r, N) → EQ M N) {x1 : Int32} {x2 : Int32} {x3 : Int32} {M N : Mem} {r : Int32} (h : f_X10_pointsNow_b4_s rec4 x1 x2 x3 M = some (r, N)) : EQ M N := by
  unfold f_X10_pointsNow_b4_s at h
  rcases ifS h with ⟨-, h⟩ | ⟨-, h⟩
  · obtain ⟨-, e⟩ := retS h
    rw [← e]
    exact (EQ.refl M)
  · obtain ⟨-, h⟩ := gdS h
    obtain ⟨-, h⟩ := gdS h
    rcases ifS h with ⟨-, h⟩ | ⟨-, h⟩
    · obtain ⟨r1, M1m, c_M1m, h⟩ := clS h
      have q_M1m : EQ M M1m := EQ.tr (EQ.refl M) (k_X3_call  c_M1m)
      rcases ifS h with ⟨-, h⟩ | ⟨-, h⟩
      · obtain ⟨-, h⟩ := gdS h
        obtain ⟨a1, e_a1, h⟩ := bndS h
        obtain ⟨a2, e_a2, h⟩ := bndS h
        exact EQ.tr q_M1m (hrec4 _ _ _ _ _ _ h)
      · obtain ⟨a3, e_a3, h⟩ := bndS h
        exact EQ.tr q_M1m (hrec4 _ _ _ _ _ _ h)
    · obtain ⟨a4, e_a4, h⟩ := bndS h
      exact EQ.tr (EQ.refl M) (hrec4 _ _ _ _ _ _ h)
theorem k_X10_pointsNow_b4   (k : Nat) : ∀ (a0 : Int32) (a1 : Int32) (a2 : Int32) (M N : Mem) (r : Int32), f_X10_pointsNow_b4 k a0 a1 a2 M = some (r, N) → EQ M N :=
  lpN_ind (P := fun (f : Int32 → Int32 → Int32 → Mem → Option (Int32 × Mem)) => ∀ (a0 : Int32) (a1 : Int32) (a2 : Int32) (M N : Mem) (r : Int32), f a0 a1 a2 M = some (r, N) → EQ M N) (fun _ _ _ _ _ _ h => by cases h) (fun f hf _ _ _ _ _ _ h => k_X10_pointsNow_b4_s  hf h) k
theorem k_X10_pointsNow   {x1 : Int32} {M N : Mem} {r : Int32} (h : f_X10_pointsNow x1 M = some (r, N)) : EQ M N := by
  unfold f_X10_pointsNow at h
  exact EQ.tr (EQ.refl M) (k_X10_pointsNow_b4  _ _ _ _ _ _ _ h)
theorem k_X10_side   {x1 : Int32} {x2 : Int32} {M N : Mem} {r : Int32} (h : f_X10_side x1 x2 M = some (r, N)) : EQ M N := by
  unfold f_X10_side at h
  obtain ⟨r1, M1m, c_M1m, h⟩ := clS h
  have q_M1m : EQ M M1m := EQ.tr (EQ.refl M) (k_X10_isSide  c_M1m)
  rcases ifS h with ⟨-, h⟩ | ⟨-, h⟩
  · obtain ⟨-, e⟩ := retS h
    rw [← e]
    exact q_M1m
  · rcases ifS h with ⟨-, h⟩ | ⟨-, h⟩
    · obtain ⟨-, h⟩ := gdS h
      obtain ⟨-, h⟩ := gdS h
      obtain ⟨-, e⟩ := retS h
      rw [← e]
      exact q_M1m
    · rcases ifS h with ⟨-, h⟩ | ⟨-, h⟩
      · obtain ⟨-, h⟩ := gdS h
        obtain ⟨-, e⟩ := retS h
        rw [← e]
        exact q_M1m
      · rcases ifS h with ⟨-, h⟩ | ⟨-, h⟩
        · obtain ⟨-, h⟩ := gdS h
          obtain ⟨-, e⟩ := retS h
          rw [← e]
          exact q_M1m
        · rcases ifS h with ⟨-, h⟩ | ⟨-, h⟩
          · obtain ⟨r2, M2m, c_M2m, h⟩ := clS h
            have q_M2m : EQ M M2m := EQ.tr q_M1m (k_X10_pointsNow  c_M2m)
            obtain ⟨-, e⟩ := retS h
            rw [← e]
            exact q_M2m
          · obtain ⟨-, e⟩ := retS h
            rw [← e]
            exact q_M1m
theorem k_X10_isPlay   {x1 : Int32} {M N : Mem} {r : Int32} (h : f_X10_isPlay x1 M = some (r, N)) : EQ M N := by
  unfold f_X10_isPlay at h
  rcases ifS h with ⟨-, h⟩ | ⟨-, h⟩
  · obtain ⟨-, e⟩ := retS h
    rw [← e]
    exact (EQ.refl M)
  · obtain ⟨-, h⟩ := gdS h
    rcases ifS h with ⟨-, h⟩ | ⟨-, h⟩
    · obtain ⟨-, e⟩ := retS h
      rw [← e]
      exact (EQ.refl M)
    · obtain ⟨-, e⟩ := retS h
      rw [← e]
      exact (EQ.refl M)
theorem k_X10_play   {x1 : Int32} {x2 : Int32} {M N : Mem} {r : Int32} (h : f_X10_play x1 x2 M = some (r, N)) : EQ M N := by
  unfold f_X10_play at h
  obtain ⟨r1, M1m, c_M1m, h⟩ := clS h
  have q_M1m : EQ M M1m := EQ.tr (EQ.refl M) (k_X10_isPlay  c_M1m)
  rcases ifS h with ⟨-, h⟩ | ⟨-, h⟩
  · obtain ⟨-, e⟩ := retS h
    rw [← e]
    exact q_M1m
  · obtain ⟨-, h⟩ := gdS h
    obtain ⟨-, h⟩ := gdS h
    obtain ⟨o1, e_o1, h⟩ := bndS h
    rcases ifS h with ⟨-, h⟩ | ⟨-, h⟩
    · obtain ⟨-, e⟩ := retS h
      rw [← e]
      exact q_M1m
    · rcases ifS h with ⟨-, h⟩ | ⟨-, h⟩
      · obtain ⟨-, e⟩ := retS h
        rw [← e]
        exact q_M1m
      · rcases ifS h with ⟨-, h⟩ | ⟨-, h⟩
        · obtain ⟨-, e⟩ := retS h
          rw [← e]
          exact q_M1m
        · rcases ifS h with ⟨-, h⟩ | ⟨-, h⟩
          · obtain ⟨-, e⟩ := retS h
            rw [← e]
            exact q_M1m
          · rcases ifS h with ⟨-, h⟩ | ⟨-, h⟩
            · obtain ⟨-, e⟩ := retS h
              rw [← e]
              exact q_M1m
            · rcases ifS h with ⟨-, h⟩ | ⟨-, h⟩
              · obtain ⟨-, e⟩ := retS h
                rw [← e]
                exact q_M1m
              · rcases ifS h with ⟨-, h⟩ | ⟨-, h⟩
                · rcases ifS h with ⟨-, h⟩ | ⟨-, h⟩
                  · obtain ⟨-, e⟩ := retS h
                    rw [← e]
                    exact q_M1m
                  · obtain ⟨r2, M2m, c_M2m, h⟩ := clS h
                    have q_M2m : EQ M M2m := EQ.tr q_M1m (k_X3_call  c_M2m)
                    obtain ⟨-, e⟩ := retS h
                    rw [← e]
                    exact q_M2m
                · rcases ifS h with ⟨-, h⟩ | ⟨-, h⟩
                  · obtain ⟨r3, M3m, c_M3m, h⟩ := clS h
                    have q_M3m : EQ M M3m := EQ.tr q_M1m (k_X3_isReviewed  c_M3m)
                    rcases ifS h with ⟨-, h⟩ | ⟨-, h⟩
                    · obtain ⟨-, e⟩ := retS h
                      rw [← e]
                      exact q_M3m
                    · obtain ⟨-, e⟩ := retS h
                      rw [← e]
                      exact q_M3m
                  · rcases ifS h with ⟨-, h⟩ | ⟨-, h⟩
                    · obtain ⟨r4, M4m, c_M4m, h⟩ := clS h
                      have q_M4m : EQ M M4m := EQ.tr q_M1m (k_X3_isBoarded  c_M4m)
                      rcases ifS h with ⟨-, h⟩ | ⟨-, h⟩
                      · obtain ⟨-, e⟩ := retS h
                        rw [← e]
                        exact q_M4m
                      · obtain ⟨-, e⟩ := retS h
                        rw [← e]
                        exact q_M4m
                    · obtain ⟨-, e⟩ := retS h
                      rw [← e]
                      exact q_M1m
theorem k_X10_isBoard   {x1 : Int32} {M N : Mem} {r : Int32} (h : f_X10_isBoard x1 M = some (r, N)) : EQ M N := by
  unfold f_X10_isBoard at h
  rcases ifS h with ⟨-, h⟩ | ⟨-, h⟩
  · obtain ⟨-, e⟩ := retS h
    rw [← e]
    exact (EQ.refl M)
  · obtain ⟨-, h⟩ := gdS h
    rcases ifS h with ⟨-, h⟩ | ⟨-, h⟩
    · obtain ⟨-, e⟩ := retS h
      rw [← e]
      exact (EQ.refl M)
    · obtain ⟨-, e⟩ := retS h
      rw [← e]
      exact (EQ.refl M)
theorem k_X10_verdict   {x1 : Int32} {x2 : Int32} {M N : Mem} {r : Int32} (h : f_X10_verdict x1 x2 M = some (r, N)) : EQ M N := by
  unfold f_X10_verdict at h
  obtain ⟨r1, M1m, c_M1m, h⟩ := clS h
  have q_M1m : EQ M M1m := EQ.tr (EQ.refl M) (k_X10_isPlay  c_M1m)
  rcases ifS h with ⟨-, h⟩ | ⟨-, h⟩
  · obtain ⟨-, e⟩ := retS h
    rw [← e]
    exact q_M1m
  · rcases ifS h with ⟨-, h⟩ | ⟨-, h⟩
    · obtain ⟨-, e⟩ := retS h
      rw [← e]
      exact q_M1m
    · obtain ⟨-, h⟩ := gdS h
      obtain ⟨-, h⟩ := gdS h
      rcases ifS h with ⟨-, h⟩ | ⟨-, h⟩
      · obtain ⟨r2, M2m, c_M2m, h⟩ := clS h
        have q_M2m : EQ M M2m := EQ.tr q_M1m (k_X4_byFrames  c_M2m)
        obtain ⟨-, e⟩ := retS h
        rw [← e]
        exact q_M2m
      · obtain ⟨-, e⟩ := retS h
        rw [← e]
        exact q_M1m
theorem k_X10_by   {x1 : Int32} {x2 : Int32} {M N : Mem} {r : Int32} (h : f_X10_by x1 x2 M = some (r, N)) : EQ M N := by
  unfold f_X10_by at h
  obtain ⟨r1, M1m, c_M1m, h⟩ := clS h
  have q_M1m : EQ M M1m := EQ.tr (EQ.refl M) (k_X10_isPlay  c_M1m)
  rcases ifS h with ⟨-, h⟩ | ⟨-, h⟩
  · obtain ⟨-, e⟩ := retS h
    rw [← e]
    exact q_M1m
  · obtain ⟨-, h⟩ := gdS h
    obtain ⟨r2, M2m, c_M2m, h⟩ := clS h
    have q_M2m : EQ M M2m := EQ.tr q_M1m (k_X9_allCameras  c_M2m)
    rcases ifS h with ⟨-, h⟩ | ⟨-, h⟩
    · obtain ⟨-, h⟩ := gdS h
      obtain ⟨-, h⟩ := gdS h
      obtain ⟨r3, M3m, c_M3m, h⟩ := clS h
      have q_M3m : EQ M M3m := EQ.tr q_M2m (k_X6_framesOf  c_M3m)
      obtain ⟨r4, M4m, c_M4m, h⟩ := clS h
      have q_M4m : EQ M M4m := EQ.tr q_M3m (k_X4_byFrames  c_M4m)
      obtain ⟨-, e⟩ := retS h
      rw [← e]
      exact q_M4m
    · obtain ⟨-, e⟩ := retS h
      rw [← e]
      exact q_M2m
theorem k_X10_gap_b96   {x4 : Int32} {xs0 : Int32} {M N : Mem} {r : Int32} (h : f_X10_gap_b96 x4 xs0 M = some (r, N)) : EQ M N := by
  unfold f_X10_gap_b96 at h
  rcases ifS h with ⟨-, h⟩ | ⟨-, h⟩
  · obtain ⟨-, e⟩ := retS h
    rw [← e]
    exact (EQ.refl M)
  · rcases ifS h with ⟨-, h⟩ | ⟨-, h⟩
    · obtain ⟨-, e⟩ := retS h
      rw [← e]
      exact (EQ.refl M)
    · obtain ⟨-, e⟩ := retS h
      rw [← e]
      exact (EQ.refl M)
theorem k_X10_gap   {x1 : Int32} {x2 : Int32} {x3 : Int32} {x4 : Int32} {M N : Mem} {r : Int32} (h : f_X10_gap x1 x2 x3 x4 M = some (r, N)) : EQ M N := by
  unfold f_X10_gap at h
  obtain ⟨r1, M1m, c_M1m, h⟩ := clS h
  have q_M1m : EQ M M1m := EQ.tr (EQ.refl M) (k_X10_isPlay  c_M1m)
  rcases ifS h with ⟨-, h⟩ | ⟨-, h⟩
  · obtain ⟨-, e⟩ := retS h
    rw [← e]
    exact q_M1m
  · rcases ifS h with ⟨-, h⟩ | ⟨-, h⟩
    · obtain ⟨-, e⟩ := retS h
      rw [← e]
      exact q_M1m
    · rcases ifS h with ⟨-, h⟩ | ⟨-, h⟩
      · obtain ⟨-, e⟩ := retS h
        rw [← e]
        exact q_M1m
      · rcases ifS h with ⟨-, h⟩ | ⟨-, h⟩
        · obtain ⟨-, e⟩ := retS h
          rw [← e]
          exact q_M1m
        · rcases ifS h with ⟨-, h⟩ | ⟨-, h⟩
          · obtain ⟨-, h⟩ := gdS h
            obtain ⟨-, h⟩ := gdS h
            obtain ⟨r2, M2m, c_M2m, h⟩ := clS h
            have q_M2m : EQ M M2m := EQ.tr q_M1m (k_X6_allFrames  c_M2m)
            obtain ⟨o1, M3m, c_M3m, h⟩ := clS h
            have q_M3m : EQ M M3m := EQ.tr q_M2m (k_X4_sureOf  c_M3m)
            obtain ⟨-, h⟩ := gdS h
            rcases ifS h with ⟨-, h⟩ | ⟨-, h⟩
            · rcases ifS h with ⟨-, h⟩ | ⟨-, h⟩
              · obtain ⟨r3, M4m, c_M4m, h⟩ := clS h
                have q_M4m : EQ M M4m := EQ.tr q_M3m (k_X2_markLess  c_M4m)
                exact EQ.tr q_M4m (k_X10_gap_b96  h)
              · obtain ⟨r4, M5m, c_M5m, h⟩ := clS h
                have q_M5m : EQ M M5m := EQ.tr q_M3m (k_X2_markLess  c_M5m)
                exact EQ.tr q_M5m (k_X10_gap_b96  h)
            · obtain ⟨-, e⟩ := retS h
              rw [← e]
              exact q_M3m
          · obtain ⟨-, e⟩ := retS h
            rw [← e]
            exact q_M1m
theorem k_X10_fewest   {x1 : Int32} {M N : Mem} {r : Int32} (h : f_X10_fewest x1 M = some (r, N)) : EQ M N := by
  unfold f_X10_fewest at h
  obtain ⟨r1, M1m, c_M1m, h⟩ := clS h
  have q_M1m : EQ M M1m := EQ.tr (EQ.refl M) (k_X10_isPlay  c_M1m)
  rcases ifS h with ⟨-, h⟩ | ⟨-, h⟩
  · obtain ⟨-, e⟩ := retS h
    rw [← e]
    exact q_M1m
  · obtain ⟨-, h⟩ := gdS h
    obtain ⟨-, h⟩ := gdS h
    obtain ⟨r2, M2m, c_M2m, h⟩ := clS h
    have q_M2m : EQ M M2m := EQ.tr q_M1m (k_X4_fewestFrames  c_M2m)
    obtain ⟨-, e⟩ := retS h
    rw [← e]
    exact q_M2m
theorem k_X10_key   {x1 : Int32} {M N : Mem} {r : Int32} (h : f_X10_key x1 M = some (r, N)) : EQ M N := by
  unfold f_X10_key at h
  obtain ⟨r1, M1m, c_M1m, h⟩ := clS h
  have q_M1m : EQ M M1m := EQ.tr (EQ.refl M) (k_X10_isPlay  c_M1m)
  rcases ifS h with ⟨-, h⟩ | ⟨-, h⟩
  · obtain ⟨-, e⟩ := retS h
    rw [← e]
    exact q_M1m
  · obtain ⟨-, h⟩ := gdS h
    obtain ⟨-, h⟩ := gdS h
    obtain ⟨r2, M2m, c_M2m, h⟩ := clS h
    have q_M2m : EQ M M2m := EQ.tr q_M1m (k_X4_keyFrames  c_M2m)
    obtain ⟨-, e⟩ := retS h
    rw [← e]
    exact q_M2m
theorem k_X10_enough   {x1 : Int32} {M N : Mem} {r : Int32} (h : f_X10_enough x1 M = some (r, N)) : EQ M N := by
  unfold f_X10_enough at h
  obtain ⟨r1, M1m, c_M1m, h⟩ := clS h
  have q_M1m : EQ M M1m := EQ.tr (EQ.refl M) (k_X10_isPlay  c_M1m)
  rcases ifS h with ⟨-, h⟩ | ⟨-, h⟩
  · obtain ⟨-, e⟩ := retS h
    rw [← e]
    exact q_M1m
  · obtain ⟨-, h⟩ := gdS h
    obtain ⟨-, h⟩ := gdS h
    obtain ⟨r2, M2m, c_M2m, h⟩ := clS h
    have q_M2m : EQ M M2m := EQ.tr q_M1m (k_X4_fewestCameras  c_M2m)
    obtain ⟨-, e⟩ := retS h
    rw [← e]
    exact q_M2m
theorem k_X10_mend   {x1 : Int32} {M N : Mem} {r : Int32} (h : f_X10_mend x1 M = some (r, N)) : EQ M N := by
  unfold f_X10_mend at h
  obtain ⟨r1, M1m, c_M1m, h⟩ := clS h
  have q_M1m : EQ M M1m := EQ.tr (EQ.refl M) (k_X10_isPlay  c_M1m)
  rcases ifS h with ⟨-, h⟩ | ⟨-, h⟩
  · obtain ⟨-, e⟩ := retS h
    rw [← e]
    exact q_M1m
  · obtain ⟨-, h⟩ := gdS h
    obtain ⟨-, h⟩ := gdS h
    obtain ⟨r2, M2m, c_M2m, h⟩ := clS h
    have q_M2m : EQ M M2m := EQ.tr q_M1m (k_X4_fewestLeftOut  c_M2m)
    obtain ⟨-, e⟩ := retS h
    rw [← e]
    exact q_M2m
theorem k_X10_callNow   {x1 : Int32} {M N : Mem} {r : Int32} (h : f_X10_callNow x1 M = some (r, N)) : EQ M N := by
  unfold f_X10_callNow at h
  rcases ifS h with ⟨-, h⟩ | ⟨-, h⟩
  · obtain ⟨-, h⟩ := gdS h
    obtain ⟨-, h⟩ := gdS h
    obtain ⟨-, e⟩ := retS h
    rw [← e]
    exact (EQ.refl M)
  · obtain ⟨r1, M1m, c_M1m, h⟩ := clS h
    have q_M1m : EQ M M1m := EQ.tr (EQ.refl M) (k_X3_call  c_M1m)
    obtain ⟨-, e⟩ := retS h
    rw [← e]
    exact q_M1m
theorem k_X10_look   {x1 : Int32} {x2 : Int32} {M N : Mem} {r : Int32} (h : f_X10_look x1 x2 M = some (r, N)) : EQ M N := by
  unfold f_X10_look at h
  obtain ⟨r1, M1m, c_M1m, h⟩ := clS h
  have q_M1m : EQ M M1m := EQ.tr (EQ.refl M) (k_X10_isPlay  c_M1m)
  rcases ifS h with ⟨-, h⟩ | ⟨-, h⟩
  · obtain ⟨-, e⟩ := retS h
    rw [← e]
    exact q_M1m
  · rcases ifS h with ⟨-, h⟩ | ⟨-, h⟩
    · obtain ⟨-, e⟩ := retS h
      rw [← e]
      exact q_M1m
    · rcases ifS h with ⟨-, h⟩ | ⟨-, h⟩
      · obtain ⟨-, h⟩ := gdS h
        obtain ⟨-, h⟩ := gdS h
        obtain ⟨r2, M2m, c_M2m, h⟩ := clS h
        have q_M2m : EQ M M2m := EQ.tr q_M1m (k_X10_callNow  c_M2m)
        obtain ⟨r3, M3m, c_M3m, h⟩ := clS h
        have q_M3m : EQ M M3m := EQ.tr q_M2m (k_X4_review  c_M3m)
        rcases ifS h with ⟨-, h⟩ | ⟨-, h⟩
        · obtain ⟨-, e⟩ := retS h
          rw [← e]
          exact q_M3m
        · rcases ifS h with ⟨-, h⟩ | ⟨-, h⟩
          · obtain ⟨-, e⟩ := retS h
            rw [← e]
            exact q_M3m
          · obtain ⟨-, e⟩ := retS h
            rw [← e]
            exact q_M3m
      · obtain ⟨-, e⟩ := retS h
        rw [← e]
        exact q_M1m
theorem k_X10_reviewNow   {x1 : Int32} {x2 : Int32} {M N : Mem} {r : Int32} (h : f_X10_reviewNow x1 x2 M = some (r, N)) : EQ M N := by
  unfold f_X10_reviewNow at h
  obtain ⟨-, h⟩ := gdS h
  obtain ⟨-, h⟩ := gdS h
  obtain ⟨r1, M1m, c_M1m, h⟩ := clS h
  have q_M1m : EQ M M1m := EQ.tr (EQ.refl M) (k_X3_call  c_M1m)
  obtain ⟨r2, M2m, c_M2m, h⟩ := clS h
  have q_M2m : EQ M M2m := EQ.tr q_M1m (k_X4_review  c_M2m)
  obtain ⟨M3m, e_M3m, h⟩ := bndS h
  have q_M3m : EQ M M3m := EQ.tr q_M2m (by rw [e_M3m]; exact EQ_I _ _ _ _)
  obtain ⟨M4m, e_M4m, h⟩ := bndS h
  have q_M4m : EQ M M4m := EQ.tr q_M3m (by rw [e_M4m]; exact EQ_I _ _ _ _)
  obtain ⟨M5m, c_M5m, h⟩ := clvS h
  have q_M5m : EQ M M5m := EQ.tr q_M4m (k_X3_addLog  c_M5m)
  rcases ifS h with ⟨-, h⟩ | ⟨-, h⟩
  · obtain ⟨M6m, c_M6m, h⟩ := clvS h
    have q_M6m : EQ M M6m := EQ.tr q_M5m (k_X3_turn  c_M6m)
    obtain ⟨-, h⟩ := gdS h
    obtain ⟨-, h⟩ := gdS h
    rcases ifS h with ⟨-, h⟩ | ⟨-, h⟩
    · obtain ⟨-, e⟩ := retS h
      rw [← e]
      exact q_M6m
    · obtain ⟨M7m, c_M7m, h⟩ := clvS h
      have q_M7m : EQ M M7m := EQ.tr q_M6m (k_X3_restartBehind  c_M7m)
      obtain ⟨-, e⟩ := retS h
      rw [← e]
      exact q_M7m
  · obtain ⟨-, e⟩ := retS h
    rw [← e]
    exact q_M5m
theorem k_X10_startAct    {M N : Mem}  (h : f_X10_startAct M = some N) : EQ M N := by
  unfold f_X10_startAct at h
  obtain ⟨-, h⟩ := gdS h
  obtain ⟨M1m, c_M1m, h⟩ := clvS h
  have q_M1m : EQ M M1m := EQ.tr (EQ.refl M) (k_X3_copyFrom  c_M1m)
  obtain ⟨M2m, e_M2m, h⟩ := bndS h
  have q_M2m : EQ M M2m := EQ.tr q_M1m (by rw [e_M2m]; exact EQ_I _ _ _ _)
  obtain ⟨M3m, e_M3m, h⟩ := bndS h
  have q_M3m : EQ M M3m := EQ.tr q_M2m (by rw [e_M3m]; exact EQ_I _ _ _ _)
  rw [← Option.some.inj h]
  exact q_M3m
theorem k_X10_next    {M N : Mem} {r : Int32} (h : f_X10_next M = some (r, N)) : EQ M N := by
  unfold f_X10_next at h
  obtain ⟨a1, e_a1, h⟩ := bndS h
  obtain ⟨r1, M1m, c_M1m, h⟩ := clS h
  have q_M1m : EQ M M1m := EQ.tr (EQ.refl M) (k_X10_isPlay  c_M1m)
  rcases ifS h with ⟨-, h⟩ | ⟨-, h⟩
  · obtain ⟨-, e⟩ := retS h
    rw [← e]
    exact q_M1m
  · obtain ⟨M2m, c_M2m, h⟩ := clvS h
    have q_M2m : EQ M M2m := EQ.tr q_M1m (k_X10_startAct  c_M2m)
    obtain ⟨-, h⟩ := gdS h
    obtain ⟨-, h⟩ := gdS h
    obtain ⟨M3m, c_M3m, h⟩ := clvS h
    have q_M3m : EQ M M3m := EQ.tr q_M2m (k_X3_happen  c_M3m)
    obtain ⟨-, h⟩ := gdS h
    obtain ⟨r2, M4m, c_M4m, h⟩ := clS h
    have q_M4m : EQ M M4m := EQ.tr q_M3m (k_X9_isReviewedAtOnce  c_M4m)
    rcases ifS h with ⟨-, h⟩ | ⟨-, h⟩
    · obtain ⟨-, e⟩ := retS h
      rw [← e]
      exact q_M4m
    · obtain ⟨r3, M5m, c_M5m, h⟩ := clS h
      have q_M5m : EQ M M5m := EQ.tr q_M4m (k_X10_reviewNow  c_M5m)
      obtain ⟨-, e⟩ := retS h
      rw [← e]
      exact q_M5m
theorem k_X10_canChallenge   {x1 : Int32} {x2 : Int32} {M N : Mem} {r : Int32} (h : f_X10_canChallenge x1 x2 M = some (r, N)) : EQ M N := by
  unfold f_X10_canChallenge at h
  obtain ⟨-, h⟩ := gdS h
  rcases ifS h with ⟨-, h⟩ | ⟨-, h⟩
  · obtain ⟨-, e⟩ := retS h
    rw [← e]
    exact (EQ.refl M)
  · rcases ifS h with ⟨-, h⟩ | ⟨-, h⟩
    · obtain ⟨-, e⟩ := retS h
      rw [← e]
      exact (EQ.refl M)
    · obtain ⟨-, h⟩ := gdS h
      rcases ifS h with ⟨-, h⟩ | ⟨-, h⟩
      · obtain ⟨-, e⟩ := retS h
        rw [← e]
        exact (EQ.refl M)
      · obtain ⟨r1, M1m, c_M1m, h⟩ := clS h
        have q_M1m : EQ M M1m := EQ.tr (EQ.refl M) (k_X3_isReviewed  c_M1m)
        rcases ifS h with ⟨-, h⟩ | ⟨-, h⟩
        · obtain ⟨r2, M2m, c_M2m, h⟩ := clS h
          have q_M2m : EQ M M2m := EQ.tr q_M1m (k_X3_isBoarded  c_M2m)
          rcases ifS h with ⟨-, h⟩ | ⟨-, h⟩
          · obtain ⟨-, e⟩ := retS h
            rw [← e]
            exact q_M2m
          · obtain ⟨-, e⟩ := retS h
            rw [← e]
            exact q_M2m
        · obtain ⟨-, e⟩ := retS h
          rw [← e]
          exact q_M1m
theorem k_X10_challenge   {x1 : Int32} {x2 : Int32} {M N : Mem} {r : Int32} (h : f_X10_challenge x1 x2 M = some (r, N)) : EQ M N := by
  unfold f_X10_challenge at h
  obtain ⟨r1, M1m, c_M1m, h⟩ := clS h
  have q_M1m : EQ M M1m := EQ.tr (EQ.refl M) (k_X10_isSide  c_M1m)
  rcases ifS h with ⟨-, h⟩ | ⟨-, h⟩
  · obtain ⟨-, e⟩ := retS h
    rw [← e]
    exact q_M1m
  · obtain ⟨r2, M2m, c_M2m, h⟩ := clS h
    have q_M2m : EQ M M2m := EQ.tr q_M1m (k_X10_isPlay  c_M2m)
    rcases ifS h with ⟨-, h⟩ | ⟨-, h⟩
    · obtain ⟨-, e⟩ := retS h
      rw [← e]
      exact q_M2m
    · obtain ⟨r3, M3m, c_M3m, h⟩ := clS h
      have q_M3m : EQ M M3m := EQ.tr q_M2m (k_X10_canChallenge  c_M3m)
      rcases ifS h with ⟨-, h⟩ | ⟨-, h⟩
      · obtain ⟨-, e⟩ := retS h
        rw [← e]
        exact q_M3m
      · obtain ⟨M4m, c_M4m, h⟩ := clvS h
        have q_M4m : EQ M M4m := EQ.tr q_M3m (k_X10_startAct  c_M4m)
        obtain ⟨r4, M5m, c_M5m, h⟩ := clS h
        have q_M5m : EQ M M5m := EQ.tr q_M4m (k_X10_reviewNow  c_M5m)
        rcases ifS h with ⟨-, h⟩ | ⟨-, h⟩
        · obtain ⟨-, h⟩ := gdS h
          obtain ⟨M6m, e_M6m, h⟩ := bndS h
          have q_M6m : EQ M M6m := EQ.tr q_M5m (by rw [e_M6m]; exact EQ_I _ _ _ _)
          obtain ⟨-, h⟩ := gdS h
          obtain ⟨r5, M7m, c_M7m, h⟩ := clS h
          have q_M7m : EQ M M7m := EQ.tr q_M6m (k_X9_leftWhenWon  c_M7m)
          obtain ⟨M8m, e_M8m, h⟩ := bndS h
          have q_M8m : EQ M M8m := EQ.tr q_M7m (by rw [e_M8m]; exact EQ_I _ _ _ _)
          obtain ⟨-, e⟩ := retS h
          rw [← e]
          exact q_M8m
        · obtain ⟨-, h⟩ := gdS h
          obtain ⟨M9m, e_M9m, h⟩ := bndS h
          have q_M9m : EQ M M9m := EQ.tr q_M5m (by rw [e_M9m]; exact EQ_I _ _ _ _)
          obtain ⟨-, h⟩ := gdS h
          obtain ⟨M10m, e_M10m, h⟩ := bndS h
          have q_M10m : EQ M M10m := EQ.tr q_M9m (by rw [e_M10m]; exact EQ_I _ _ _ _)
          obtain ⟨-, e⟩ := retS h
          rw [← e]
          exact q_M10m
theorem k_X10_wouldOverturn   {x1 : Int32} {x2 : Int32} {M N : Mem} {r : Int32} (h : f_X10_wouldOverturn x1 x2 M = some (r, N)) : EQ M N := by
  unfold f_X10_wouldOverturn at h
  obtain ⟨-, h⟩ := gdS h
  obtain ⟨-, h⟩ := gdS h
  obtain ⟨o1, e_o1, h⟩ := bndS h
  obtain ⟨-, h⟩ := gdS h
  obtain ⟨r1, M1m, c_M1m, h⟩ := clS h
  have q_M1m : EQ M M1m := EQ.tr (EQ.refl M) (k_X10_callNow  c_M1m)
  obtain ⟨r2, M2m, c_M2m, h⟩ := clS h
  have q_M2m : EQ M M2m := EQ.tr q_M1m (k_X4_membersAgainst  c_M2m)
  obtain ⟨r3, M3m, c_M3m, h⟩ := clS h
  have q_M3m : EQ M M3m := EQ.tr q_M2m (k_J6_bitCount_0f7a4  c_M3m)
  rcases ifS h with ⟨-, h⟩ | ⟨-, h⟩
  · obtain ⟨-, e⟩ := retS h
    rw [← e]
    exact q_M3m
  · obtain ⟨-, e⟩ := retS h
    rw [← e]
    exact q_M3m
theorem k_X10_put_b111   {x3 : Int32} {M N : Mem} {r : Int32} (h : f_X10_put_b111 x3 M = some (r, N)) : EQ M N := by
  unfold f_X10_put_b111 at h
  rcases ifS h with ⟨-, h⟩ | ⟨-, h⟩
  · obtain ⟨-, e⟩ := retS h
    rw [← e]
    exact (EQ.refl M)
  · obtain ⟨-, e⟩ := retS h
    rw [← e]
    exact (EQ.refl M)
theorem k_X10_put_b87   {x2 : Int32} {x3 : Int32} {xs1 : Int32} {xs2 : Int32} {xs3 : Int32} {M N : Mem} {r : Int32} (h : f_X10_put_b87 x2 x3 xs1 xs2 xs3 M = some (r, N)) : EQ M N := by
  unfold f_X10_put_b87 at h
  obtain ⟨M1m, c_M1m, h⟩ := clvS h
  have q_M1m : EQ M M1m := EQ.tr (EQ.refl M) (k_X3_addLog  c_M1m)
  rcases ifS h with ⟨-, h⟩ | ⟨-, h⟩
  · exact EQ.tr q_M1m (k_X10_put_b111  h)
  · obtain ⟨M2m, c_M2m, h⟩ := clvS h
    have q_M2m : EQ M M2m := EQ.tr q_M1m (k_X3_turn  c_M2m)
    obtain ⟨M3m, c_M3m, h⟩ := clvS h
    have q_M3m : EQ M M3m := EQ.tr q_M2m (k_X3_giveBack  c_M3m)
    exact EQ.tr q_M3m (k_X10_put_b111  h)
theorem k_X10_put   {x1 : Int32} {x2 : Int32} {M N : Mem} {r : Int32} (h : f_X10_put x1 x2 M = some (r, N)) : EQ M N := by
  unfold f_X10_put at h
  obtain ⟨r1, M1m, c_M1m, h⟩ := clS h
  have q_M1m : EQ M M1m := EQ.tr (EQ.refl M) (k_X10_isBoard  c_M1m)
  rcases ifS h with ⟨-, h⟩ | ⟨-, h⟩
  · obtain ⟨-, e⟩ := retS h
    rw [← e]
    exact q_M1m
  · obtain ⟨r2, M2m, c_M2m, h⟩ := clS h
    have q_M2m : EQ M M2m := EQ.tr q_M1m (k_X10_isPlay  c_M2m)
    rcases ifS h with ⟨-, h⟩ | ⟨-, h⟩
    · obtain ⟨-, e⟩ := retS h
      rw [← e]
      exact q_M2m
    · rcases ifS h with ⟨-, h⟩ | ⟨-, h⟩
      · obtain ⟨-, e⟩ := retS h
        rw [← e]
        exact q_M2m
      · obtain ⟨r3, M3m, c_M3m, h⟩ := clS h
        have q_M3m : EQ M M3m := EQ.tr q_M2m (k_X3_isBoarded  c_M3m)
        rcases ifS h with ⟨-, h⟩ | ⟨-, h⟩
        · obtain ⟨M4m, c_M4m, h⟩ := clvS h
          have q_M4m : EQ M M4m := EQ.tr q_M3m (k_X10_startAct  c_M4m)
          obtain ⟨r4, M5m, c_M5m, h⟩ := clS h
          have q_M5m : EQ M M5m := EQ.tr q_M4m (k_X10_wouldOverturn  c_M5m)
          obtain ⟨M6m, e_M6m, h⟩ := bndS h
          have q_M6m : EQ M M6m := EQ.tr q_M5m (by rw [e_M6m]; exact EQ_I _ _ _ _)
          rcases ifS h with ⟨-, h⟩ | ⟨-, h⟩
          · exact EQ.tr q_M6m (k_X10_put_b87  h)
          · exact EQ.tr q_M6m (k_X10_put_b87  h)
        · obtain ⟨-, e⟩ := retS h
          rw [← e]
          exact q_M3m
theorem k_X10_votes   {x1 : Int32} {x2 : Int32} {M N : Mem} {r : Int32} (h : f_X10_votes x1 x2 M = some (r, N)) : EQ M N := by
  unfold f_X10_votes at h
  obtain ⟨r1, M1m, c_M1m, h⟩ := clS h
  have q_M1m : EQ M M1m := EQ.tr (EQ.refl M) (k_X10_isBoard  c_M1m)
  rcases ifS h with ⟨-, h⟩ | ⟨-, h⟩
  · obtain ⟨-, e⟩ := retS h
    rw [← e]
    exact q_M1m
  · obtain ⟨r2, M2m, c_M2m, h⟩ := clS h
    have q_M2m : EQ M M2m := EQ.tr q_M1m (k_X10_isPlay  c_M2m)
    rcases ifS h with ⟨-, h⟩ | ⟨-, h⟩
    · obtain ⟨-, e⟩ := retS h
      rw [← e]
      exact q_M2m
    · obtain ⟨-, h⟩ := gdS h
      obtain ⟨-, h⟩ := gdS h
      obtain ⟨-, h⟩ := gdS h
      obtain ⟨r3, M3m, c_M3m, h⟩ := clS h
      have q_M3m : EQ M M3m := EQ.tr q_M2m (k_X10_callNow  c_M3m)
      obtain ⟨r4, M4m, c_M4m, h⟩ := clS h
      have q_M4m : EQ M M4m := EQ.tr q_M3m (k_X4_membersAgainst  c_M4m)
      obtain ⟨-, e⟩ := retS h
      rw [← e]
      exact q_M4m
theorem k_X10_pivot   {x1 : Int32} {x2 : Int32} {M N : Mem} {r : Int32} (h : f_X10_pivot x1 x2 M = some (r, N)) : EQ M N := by
  unfold f_X10_pivot at h
  obtain ⟨r1, M1m, c_M1m, h⟩ := clS h
  have q_M1m : EQ M M1m := EQ.tr (EQ.refl M) (k_X10_isBoard  c_M1m)
  rcases ifS h with ⟨-, h⟩ | ⟨-, h⟩
  · obtain ⟨-, e⟩ := retS h
    rw [← e]
    exact q_M1m
  · obtain ⟨r2, M2m, c_M2m, h⟩ := clS h
    have q_M2m : EQ M M2m := EQ.tr q_M1m (k_X10_isPlay  c_M2m)
    rcases ifS h with ⟨-, h⟩ | ⟨-, h⟩
    · obtain ⟨-, e⟩ := retS h
      rw [← e]
      exact q_M2m
    · obtain ⟨-, h⟩ := gdS h
      obtain ⟨-, h⟩ := gdS h
      obtain ⟨-, h⟩ := gdS h
      obtain ⟨r3, M3m, c_M3m, h⟩ := clS h
      have q_M3m : EQ M M3m := EQ.tr q_M2m (k_X10_callNow  c_M3m)
      obtain ⟨r4, M4m, c_M4m, h⟩ := clS h
      have q_M4m : EQ M M4m := EQ.tr q_M3m (k_X4_membersAgainst  c_M4m)
      obtain ⟨r5, M5m, c_M5m, h⟩ := clS h
      have q_M5m : EQ M M5m := EQ.tr q_M4m (k_J6_bitCount_0f7a4  c_M5m)
      obtain ⟨-, h⟩ := gdS h
      rcases ifS h with ⟨-, h⟩ | ⟨-, h⟩
      · obtain ⟨-, e⟩ := retS h
        rw [← e]
        exact q_M5m
      · obtain ⟨-, e⟩ := retS h
        rw [← e]
        exact q_M5m
theorem k_X10_boards_b14_s {rec14 : Int32 → Int32 → Int32 → Mem → Option (Int32 × Mem)} (hrec14 : ∀ (a0 : Int32) (a1 : Int32) (a2 : Int32) (M N : Mem) (r : Int32), rec14 a0 a1 a2 M = some (r, N) → EQ M N) {x1 : Int32} {x2 : Int32} {x3 : Int32} {M N : Mem} {r : Int32} (h : f_X10_boards_b14_s rec14 x1 x2 x3 M = some (r, N)) : EQ M N := by
  unfold f_X10_boards_b14_s at h
  obtain ⟨-, h⟩ := gdS h
  rcases ifS h with ⟨-, h⟩ | ⟨-, h⟩
  · obtain ⟨-, e⟩ := retS h
    rw [← e]
    exact (EQ.refl M)
  · obtain ⟨r1, M1m, c_M1m, h⟩ := clS h
    have q_M1m : EQ M M1m := EQ.tr (EQ.refl M) (k_X10_wouldOverturn  c_M1m)
    rcases ifS h with ⟨-, h⟩ | ⟨-, h⟩
    · obtain ⟨a1, e_a1, h⟩ := bndS h
      exact EQ.tr q_M1m (hrec14 _ _ _ _ _ _ h)
    · obtain ⟨a2, e_a2, h⟩ := bndS h
      obtain ⟨a3, e_a3, h⟩ := bndS h
      exact EQ.tr q_M1m (hrec14 _ _ _ _ _ _ h)
theorem k_X10_boards_b14   (k : Nat) : ∀ (a0 : Int32) (a1 : Int32) (a2 : Int32) (M N : Mem) (r : Int32), f_X10_boards_b14 k a0 a1 a2 M = some (r, N) → EQ M N :=
  lpN_ind (P := fun (f : Int32 → Int32 → Int32 → Mem → Option (Int32 × Mem)) => ∀ (a0 : Int32) (a1 : Int32) (a2 : Int32) (M N : Mem) (r : Int32), f a0 a1 a2 M = some (r, N) → EQ M N) (fun _ _ _ _ _ _ h => by cases h) (fun f hf _ _ _ _ _ _ h => k_X10_boards_b14_s  hf h) k
theorem k_X10_boards   {x1 : Int32} {M N : Mem} {r : Int32} (h : f_X10_boards x1 M = some (r, N)) : EQ M N := by
  unfold f_X10_boards at h
  obtain ⟨r1, M1m, c_M1m, h⟩ := clS h
  have q_M1m : EQ M M1m := EQ.tr (EQ.refl M) (k_X10_isPlay  c_M1m)
  rcases ifS h with ⟨-, h⟩ | ⟨-, h⟩
  · obtain ⟨-, e⟩ := retS h
    rw [← e]
    exact q_M1m
  · exact EQ.tr q_M1m (k_X10_boards_b14  _ _ _ _ _ _ _ h)
theorem k_X10_pointsInTruth_b43 {rec5 : Int32 → Int32 → Int32 → Int32 → Mem → Option (Int32 × Mem)} (hrec5 : ∀ (a0 : Int32) (a1 : Int32) (a2 : Int32) (a3 : Int32) (M N : Mem) (r : Int32), rec5 a0 a1 a2 a3 M = some (r, N) → EQ M N) {x1 : Int32} {x2 : Int32} {x3 : Int32} {x4 : Int32} {n5 : Nat} {xs0 : Int32} {M N : Mem} {r : Int32} (h : f_X10_pointsInTruth_b43 rec5 x1 x2 x3 x4 n5 xs0 M = some (r, N)) : EQ M N := by
  unfold f_X10_pointsInTruth_b43 at h
  obtain ⟨-, h⟩ := gdS h
  rcases ifS h with ⟨-, h⟩ | ⟨-, h⟩
  · obtain ⟨r1, M1m, c_M1m, h⟩ := clS h
    have q_M1m : EQ M M1m := EQ.tr (EQ.refl M) (k_X4_trueCall  c_M1m)
    rcases ifS h with ⟨-, h⟩ | ⟨-, h⟩
    · obtain ⟨a1, e_a1, h⟩ := bndS h
      obtain ⟨a2, e_a2, h⟩ := bndS h
      exact EQ.tr q_M1m (hrec5 _ _ _ _ _ _ _ h)
    · obtain ⟨a3, e_a3, h⟩ := bndS h
      exact EQ.tr q_M1m (hrec5 _ _ _ _ _ _ _ h)
  · obtain ⟨a4, e_a4, h⟩ := bndS h
    exact EQ.tr (EQ.refl M) (hrec5 _ _ _ _ _ _ _ h)
theorem k_X10_pointsInTruth_b5_s {rec5 : Int32 → Int32 → Int32 → Int32 → Mem → Option (Int32 × Mem)} (hrec5 : ∀ (a0 : Int32) (a1 : Int32) (a2 : Int32) (a3 : Int32) (M N : Mem) (r : Int32), rec5 a0 a1 a2 a3 M = some (r, N) → EQ M N) {x1 : Int32} {x2 : Int32} {x3 : Int32} {x4 : Int32} {M N : Mem} {r : Int32} (h : f_X10_pointsInTruth_b5_s rec5 x1 x2 x3 x4 M = some (r, N)) : EQ M N := by
  unfold f_X10_pointsInTruth_b5_s at h
  obtain ⟨-, h⟩ := gdS h
  rcases ifS h with ⟨-, h⟩ | ⟨-, h⟩
  · obtain ⟨-, e⟩ := retS h
    rw [← e]
    exact (EQ.refl M)
  · obtain ⟨-, h⟩ := gdS h
    obtain ⟨o1, e_o1, h⟩ := bndS h
    rcases ifS h with ⟨-, h⟩ | ⟨-, h⟩
    · exact EQ.tr (EQ.refl M) (k_X10_pointsInTruth_b43 hrec5 h)
    · exact EQ.tr (EQ.refl M) (k_X10_pointsInTruth_b43 hrec5 h)
theorem k_X10_pointsInTruth_b5   (k : Nat) : ∀ (a0 : Int32) (a1 : Int32) (a2 : Int32) (a3 : Int32) (M N : Mem) (r : Int32), f_X10_pointsInTruth_b5 k a0 a1 a2 a3 M = some (r, N) → EQ M N :=
  lpN_ind (P := fun (f : Int32 → Int32 → Int32 → Int32 → Mem → Option (Int32 × Mem)) => ∀ (a0 : Int32) (a1 : Int32) (a2 : Int32) (a3 : Int32) (M N : Mem) (r : Int32), f a0 a1 a2 a3 M = some (r, N) → EQ M N) (fun _ _ _ _ _ _ _ h => by cases h) (fun f hf _ _ _ _ _ _ _ h => k_X10_pointsInTruth_b5_s  hf h) k
theorem k_X10_pointsInTruth   {x1 : Int32} {x2 : Int32} {M N : Mem} {r : Int32} (h : f_X10_pointsInTruth x1 x2 M = some (r, N)) : EQ M N := by
  unfold f_X10_pointsInTruth at h
  exact EQ.tr (EQ.refl M) (k_X10_pointsInTruth_b5  _ _ _ _ _ _ _ _ h)
theorem k_X10_truth   {x1 : Int32} {M N : Mem} {r : Int32} (h : f_X10_truth x1 M = some (r, N)) : EQ M N := by
  unfold f_X10_truth at h
  obtain ⟨r1, M1m, c_M1m, h⟩ := clS h
  have q_M1m : EQ M M1m := EQ.tr (EQ.refl M) (k_X10_isSide  c_M1m)
  rcases ifS h with ⟨-, h⟩ | ⟨-, h⟩
  · obtain ⟨-, e⟩ := retS h
    rw [← e]
    exact q_M1m
  · obtain ⟨r2, M2m, c_M2m, h⟩ := clS h
    have q_M2m : EQ M M2m := EQ.tr q_M1m (k_X10_pointsInTruth  c_M2m)
    obtain ⟨-, e⟩ := retS h
    rw [← e]
    exact q_M2m
theorem k_X10_range_b19   {xs1 : Int32} {xs2 : Int32} {M N : Mem} {r : Int32} (h : f_X10_range_b19 xs1 xs2 M = some (r, N)) : EQ M N := by
  unfold f_X10_range_b19 at h
  obtain ⟨r1, M1m, c_M1m, h⟩ := clS h
  have q_M1m : EQ M M1m := EQ.tr (EQ.refl M) (k_X10_pointsInTruth  c_M1m)
  obtain ⟨-, e⟩ := retS h
  rw [← e]
  exact q_M1m
theorem k_X10_range   {x1 : Int32} {x2 : Int32} {M N : Mem} {r : Int32} (h : f_X10_range x1 x2 M = some (r, N)) : EQ M N := by
  unfold f_X10_range at h
  obtain ⟨r1, M1m, c_M1m, h⟩ := clS h
  have q_M1m : EQ M M1m := EQ.tr (EQ.refl M) (k_X10_isSide  c_M1m)
  rcases ifS h with ⟨-, h⟩ | ⟨-, h⟩
  · obtain ⟨-, e⟩ := retS h
    rw [← e]
    exact q_M1m
  · rcases ifS h with ⟨-, h⟩ | ⟨-, h⟩
    · exact EQ.tr q_M1m (k_X10_range_b19  h)
    · exact EQ.tr q_M1m (k_X10_range_b19  h)
theorem k_X10_wrong_b4_s {rec4 : Int32 → Int32 → Mem → Option (Int32 × Mem)} (hrec4 : ∀ (a0 : Int32) (a1 : Int32) (M N : Mem) (r : Int32), rec4 a0 a1 M = some (r, N) → EQ M N) {x1 : Int32} {x2 : Int32} {M N : Mem} {r : Int32} (h : f_X10_wrong_b4_s rec4 x1 x2 M = some (r, N)) : EQ M N := by
  unfold f_X10_wrong_b4_s at h
  obtain ⟨-, h⟩ := gdS h
  rcases ifS h with ⟨-, h⟩ | ⟨-, h⟩
  · obtain ⟨-, e⟩ := retS h
    rw [← e]
    exact (EQ.refl M)
  · obtain ⟨-, h⟩ := gdS h
    obtain ⟨o1, e_o1, h⟩ := bndS h
    obtain ⟨r1, M1m, c_M1m, h⟩ := clS h
    have q_M1m : EQ M M1m := EQ.tr (EQ.refl M) (k_X4_trueCall  c_M1m)
    rcases ifS h with ⟨-, h⟩ | ⟨-, h⟩
    · obtain ⟨a1, e_a1, h⟩ := bndS h
      exact EQ.tr q_M1m (hrec4 _ _ _ _ _ h)
    · obtain ⟨a2, e_a2, h⟩ := bndS h
      obtain ⟨a3, e_a3, h⟩ := bndS h
      exact EQ.tr q_M1m (hrec4 _ _ _ _ _ h)
theorem k_X10_wrong_b4   (k : Nat) : ∀ (a0 : Int32) (a1 : Int32) (M N : Mem) (r : Int32), f_X10_wrong_b4 k a0 a1 M = some (r, N) → EQ M N :=
  lpN_ind (P := fun (f : Int32 → Int32 → Mem → Option (Int32 × Mem)) => ∀ (a0 : Int32) (a1 : Int32) (M N : Mem) (r : Int32), f a0 a1 M = some (r, N) → EQ M N) (fun _ _ _ _ _ h => by cases h) (fun f hf _ _ _ _ _ h => k_X10_wrong_b4_s  hf h) k
theorem k_X10_wrong    {M N : Mem} {r : Int32} (h : f_X10_wrong M = some (r, N)) : EQ M N := by
  unfold f_X10_wrong at h
  exact EQ.tr (EQ.refl M) (k_X10_wrong_b4  _ _ _ _ _ _ h)
theorem k_X10_callUnchallenged_b46   {n2 : Nat} {xs0 : Int32} {M N : Mem} {r : Int32} (h : f_X10_callUnchallenged_b46 n2 xs0 M = some (r, N)) : EQ M N := by
  unfold f_X10_callUnchallenged_b46 at h
  rcases ifS h with ⟨-, h⟩ | ⟨-, h⟩
  · obtain ⟨-, h⟩ := gdS h
    obtain ⟨-, e⟩ := retS h
    rw [← e]
    exact (EQ.refl M)
  · obtain ⟨-, h⟩ := gdS h
    obtain ⟨-, e⟩ := retS h
    rw [← e]
    exact (EQ.refl M)
theorem k_X10_callUnchallenged_b45   {n2 : Nat} {M N : Mem} {r : Int32} (h : f_X10_callUnchallenged_b45 n2 M = some (r, N)) : EQ M N := by
  unfold f_X10_callUnchallenged_b45 at h
  exact EQ.tr (EQ.refl M) (k_X10_callUnchallenged_b46  h)
theorem k_X10_callUnchallenged   {x1 : Int32} {M N : Mem} {r : Int32} (h : f_X10_callUnchallenged x1 M = some (r, N)) : EQ M N := by
  unfold f_X10_callUnchallenged at h
  obtain ⟨-, h⟩ := gdS h
  obtain ⟨-, h⟩ := gdS h
  obtain ⟨o1, e_o1, h⟩ := bndS h
  obtain ⟨r1, M1m, c_M1m, h⟩ := clS h
  have q_M1m : EQ M M1m := EQ.tr (EQ.refl M) (k_X9_isReviewedAtOnce  c_M1m)
  rcases ifS h with ⟨-, h⟩ | ⟨-, h⟩
  · exact EQ.tr q_M1m (k_X10_callUnchallenged_b45  h)
  · obtain ⟨r2, M2m, c_M2m, h⟩ := clS h
    have q_M2m : EQ M M2m := EQ.tr q_M1m (k_X4_review  c_M2m)
    rcases ifS h with ⟨-, h⟩ | ⟨-, h⟩
    · exact EQ.tr q_M2m (k_X10_callUnchallenged_b46  h)
    · exact EQ.tr q_M2m (k_X10_callUnchallenged_b45  h)
theorem k_X10_left_b14_s {rec14 : Int32 → Int32 → Int32 → Mem → Option (Int32 × Mem)} (hrec14 : ∀ (a0 : Int32) (a1 : Int32) (a2 : Int32) (M N : Mem) (r : Int32), rec14 a0 a1 a2 M = some (r, N) → EQ M N) {x1 : Int32} {x2 : Int32} {x3 : Int32} {M N : Mem} {r : Int32} (h : f_X10_left_b14_s rec14 x1 x2 x3 M = some (r, N)) : EQ M N := by
  unfold f_X10_left_b14_s at h
  obtain ⟨-, h⟩ := gdS h
  rcases ifS h with ⟨-, h⟩ | ⟨-, h⟩
  · obtain ⟨-, e⟩ := retS h
    rw [← e]
    exact (EQ.refl M)
  · obtain ⟨-, h⟩ := gdS h
    rcases ifS h with ⟨-, h⟩ | ⟨-, h⟩
    · obtain ⟨r1, M1m, c_M1m, h⟩ := clS h
      have q_M1m : EQ M M1m := EQ.tr (EQ.refl M) (k_X10_callUnchallenged  c_M1m)
      rcases ifS h with ⟨-, h⟩ | ⟨-, h⟩
      · obtain ⟨-, h⟩ := gdS h
        obtain ⟨a1, e_a1, h⟩ := bndS h
        obtain ⟨a2, e_a2, h⟩ := bndS h
        exact EQ.tr q_M1m (hrec14 _ _ _ _ _ _ h)
      · obtain ⟨a3, e_a3, h⟩ := bndS h
        exact EQ.tr q_M1m (hrec14 _ _ _ _ _ _ h)
    · obtain ⟨a4, e_a4, h⟩ := bndS h
      exact EQ.tr (EQ.refl M) (hrec14 _ _ _ _ _ _ h)
theorem k_X10_left_b14   (k : Nat) : ∀ (a0 : Int32) (a1 : Int32) (a2 : Int32) (M N : Mem) (r : Int32), f_X10_left_b14 k a0 a1 a2 M = some (r, N) → EQ M N :=
  lpN_ind (P := fun (f : Int32 → Int32 → Int32 → Mem → Option (Int32 × Mem)) => ∀ (a0 : Int32) (a1 : Int32) (a2 : Int32) (M N : Mem) (r : Int32), f a0 a1 a2 M = some (r, N) → EQ M N) (fun _ _ _ _ _ _ h => by cases h) (fun f hf _ _ _ _ _ _ h => k_X10_left_b14_s  hf h) k
theorem k_X10_left   {x1 : Int32} {M N : Mem} {r : Int32} (h : f_X10_left x1 M = some (r, N)) : EQ M N := by
  unfold f_X10_left at h
  obtain ⟨r1, M1m, c_M1m, h⟩ := clS h
  have q_M1m : EQ M M1m := EQ.tr (EQ.refl M) (k_X10_isSide  c_M1m)
  rcases ifS h with ⟨-, h⟩ | ⟨-, h⟩
  · obtain ⟨-, e⟩ := retS h
    rw [← e]
    exact q_M1m
  · exact EQ.tr q_M1m (k_X10_left_b14  _ _ _ _ _ _ _ h)
theorem k_X10_isAgainst   {x0 : Int32} {n1 : Nat} {M N : Mem} {r : Int32} (h : f_X10_isAgainst x0 n1 M = some (r, N)) : EQ M N := by
  unfold f_X10_isAgainst at h
  obtain ⟨-, h⟩ := gdS h
  rcases ifS h with ⟨-, h⟩ | ⟨-, h⟩
  · rcases ifS h with ⟨-, h⟩ | ⟨-, h⟩
    · obtain ⟨-, e⟩ := retS h
      rw [← e]
      exact (EQ.refl M)
    · obtain ⟨-, e⟩ := retS h
      rw [← e]
      exact (EQ.refl M)
  · rcases ifS h with ⟨-, h⟩ | ⟨-, h⟩
    · obtain ⟨-, e⟩ := retS h
      rw [← e]
      exact (EQ.refl M)
    · obtain ⟨-, e⟩ := retS h
      rw [← e]
      exact (EQ.refl M)
theorem k_X10_neverLacks_b9_s {rec9 : Int32 → Int32 → Int32 → Int32 → Int32 → Mem → Option (Int32 × Mem)} (hrec9 : ∀ (a0 : Int32) (a1 : Int32) (a2 : Int32) (a3 : Int32) (a4 : Int32) (M N : Mem) (r : Int32), rec9 a0 a1 a2 a3 a4 M = some (r, N) → EQ M N) {x2 : Int32} {x3 : Int32} {x4 : Int32} {x5 : Int32} {x6 : Int32} {M N : Mem} {r : Int32} (h : f_X10_neverLacks_b9_s rec9 x2 x3 x4 x5 x6 M = some (r, N)) : EQ M N := by
  unfold f_X10_neverLacks_b9_s at h
  obtain ⟨-, h⟩ := gdS h
  rcases ifS h with ⟨-, h⟩ | ⟨-, h⟩
  · obtain ⟨-, e⟩ := retS h
    rw [← e]
    exact (EQ.refl M)
  · rcases ifS h with ⟨-, h⟩ | ⟨-, h⟩
    · obtain ⟨a1, e_a1, h⟩ := bndS h
      exact EQ.tr (EQ.refl M) (hrec9 _ _ _ _ _ _ _ _ h)
    · rcases ifS h with ⟨-, h⟩ | ⟨-, h⟩
      · obtain ⟨-, e⟩ := retS h
        rw [← e]
        exact (EQ.refl M)
      · rcases ifS h with ⟨-, h⟩ | ⟨-, h⟩
        · obtain ⟨a2, e_a2, h⟩ := bndS h
          obtain ⟨a3, e_a3, h⟩ := bndS h
          exact EQ.tr (EQ.refl M) (hrec9 _ _ _ _ _ _ _ _ h)
        · obtain ⟨a4, e_a4, h⟩ := bndS h
          obtain ⟨r1, M1m, c_M1m, h⟩ := clS h
          have q_M1m : EQ M M1m := EQ.tr (EQ.refl M) (k_X9_leftWhenWon  c_M1m)
          obtain ⟨a5, e_a5, h⟩ := bndS h
          exact EQ.tr q_M1m (hrec9 _ _ _ _ _ _ _ _ h)
theorem k_X10_neverLacks_b9   (k : Nat) : ∀ (a0 : Int32) (a1 : Int32) (a2 : Int32) (a3 : Int32) (a4 : Int32) (M N : Mem) (r : Int32), f_X10_neverLacks_b9 k a0 a1 a2 a3 a4 M = some (r, N) → EQ M N :=
  lpN_ind (P := fun (f : Int32 → Int32 → Int32 → Int32 → Int32 → Mem → Option (Int32 × Mem)) => ∀ (a0 : Int32) (a1 : Int32) (a2 : Int32) (a3 : Int32) (a4 : Int32) (M N : Mem) (r : Int32), f a0 a1 a2 a3 a4 M = some (r, N) → EQ M N) (fun _ _ _ _ _ _ _ _ h => by cases h) (fun f hf _ _ _ _ _ _ _ _ h => k_X10_neverLacks_b9_s  hf h) k
theorem k_X10_neverLacks   {x1 : Int32} {x2 : Int32} {x3 : Int32} {M N : Mem} {r : Int32} (h : f_X10_neverLacks x1 x2 x3 M = some (r, N)) : EQ M N := by
  unfold f_X10_neverLacks at h
  exact EQ.tr (EQ.refl M) (k_X10_neverLacks_b9  _ _ _ _ _ _ _ _ _ h)
theorem k_X10_need_b119_s {rec119 : Int32 → Int32 → Int32 → Mem → Option (Int32 × Mem)} (hrec119 : ∀ (a0 : Int32) (a1 : Int32) (a2 : Int32) (M N : Mem) (r : Int32), rec119 a0 a1 a2 M = some (r, N) → EQ M N) {x2 : Int32} {x3 : Int32} {x4 : Int32} {M N : Mem} {r : Int32} (h : f_X10_need_b119_s rec119 x2 x3 x4 M = some (r, N)) : EQ M N := by
  unfold f_X10_need_b119_s at h
  rcases ifS h with ⟨-, h⟩ | ⟨-, h⟩
  · obtain ⟨-, e⟩ := retS h
    rw [← e]
    exact (EQ.refl M)
  · obtain ⟨r1, M1m, c_M1m, h⟩ := clS h
    have q_M1m : EQ M M1m := EQ.tr (EQ.refl M) (k_X10_neverLacks  c_M1m)
    rcases ifS h with ⟨-, h⟩ | ⟨-, h⟩
    · obtain ⟨a1, e_a1, h⟩ := bndS h
      exact EQ.tr q_M1m (hrec119 _ _ _ _ _ _ h)
    · obtain ⟨-, e⟩ := retS h
      rw [← e]
      exact q_M1m
theorem k_X10_need_b119   (k : Nat) : ∀ (a0 : Int32) (a1 : Int32) (a2 : Int32) (M N : Mem) (r : Int32), f_X10_need_b119 k a0 a1 a2 M = some (r, N) → EQ M N :=
  lpN_ind (P := fun (f : Int32 → Int32 → Int32 → Mem → Option (Int32 × Mem)) => ∀ (a0 : Int32) (a1 : Int32) (a2 : Int32) (M N : Mem) (r : Int32), f a0 a1 a2 M = some (r, N) → EQ M N) (fun _ _ _ _ _ _ h => by cases h) (fun f hf _ _ _ _ _ _ h => k_X10_need_b119_s  hf h) k
theorem k_X10_need_b17_s {rec17 : Int32 → Int32 → Int32 → Int32 → Mem → Option (Int32 × Mem)} (hrec17 : ∀ (a0 : Int32) (a1 : Int32) (a2 : Int32) (a3 : Int32) (M N : Mem) (r : Int32), rec17 a0 a1 a2 a3 M = some (r, N) → EQ M N) {x1 : Int32} {x2 : Int32} {x3 : Int32} {x4 : Int32} {M N : Mem} {r : Int32} (h : f_X10_need_b17_s rec17 x1 x2 x3 x4 M = some (r, N)) : EQ M N := by
  unfold f_X10_need_b17_s at h
  obtain ⟨-, h⟩ := gdS h
  rcases ifS h with ⟨-, h⟩ | ⟨-, h⟩
  · exact EQ.tr (EQ.refl M) (k_X10_need_b119  _ _ _ _ _ _ _ h)
  · obtain ⟨-, h⟩ := gdS h
    obtain ⟨r1, M1m, c_M1m, h⟩ := clS h
    have q_M1m : EQ M M1m := EQ.tr (EQ.refl M) (k_X10_isAgainst  c_M1m)
    rcases ifS h with ⟨-, h⟩ | ⟨-, h⟩
    · obtain ⟨a1, e_a1, h⟩ := bndS h
      exact EQ.tr q_M1m (hrec17 _ _ _ _ _ _ _ h)
    · obtain ⟨-, h⟩ := gdS h
      obtain ⟨r2, M2m, c_M2m, h⟩ := clS h
      have q_M2m : EQ M M2m := EQ.tr q_M1m (k_X9_isReviewedAtOnce  c_M2m)
      rcases ifS h with ⟨-, h⟩ | ⟨-, h⟩
      · obtain ⟨a2, e_a2, h⟩ := bndS h
        obtain ⟨-, h⟩ := gdS h
        obtain ⟨r3, M3m, c_M3m, h⟩ := clS h
        have q_M3m : EQ M M3m := EQ.tr q_M2m (k_X4_review  c_M3m)
        rcases ifS h with ⟨-, h⟩ | ⟨-, h⟩
        · obtain ⟨a3, e_a3, h⟩ := bndS h
          obtain ⟨a4, e_a4, h⟩ := bndS h
          exact EQ.tr q_M3m (hrec17 _ _ _ _ _ _ _ h)
        · obtain ⟨a5, e_a5, h⟩ := bndS h
          exact EQ.tr q_M3m (hrec17 _ _ _ _ _ _ _ h)
      · obtain ⟨a6, e_a6, h⟩ := bndS h
        exact EQ.tr q_M2m (hrec17 _ _ _ _ _ _ _ h)
theorem k_X10_need_b17   (k : Nat) : ∀ (a0 : Int32) (a1 : Int32) (a2 : Int32) (a3 : Int32) (M N : Mem) (r : Int32), f_X10_need_b17 k a0 a1 a2 a3 M = some (r, N) → EQ M N :=
  lpN_ind (P := fun (f : Int32 → Int32 → Int32 → Int32 → Mem → Option (Int32 × Mem)) => ∀ (a0 : Int32) (a1 : Int32) (a2 : Int32) (a3 : Int32) (M N : Mem) (r : Int32), f a0 a1 a2 a3 M = some (r, N) → EQ M N) (fun _ _ _ _ _ _ _ h => by cases h) (fun f hf _ _ _ _ _ _ _ h => k_X10_need_b17_s  hf h) k
theorem k_X10_need   {x1 : Int32} {M N : Mem} {r : Int32} (h : f_X10_need x1 M = some (r, N)) : EQ M N := by
  unfold f_X10_need at h
  obtain ⟨r1, M1m, c_M1m, h⟩ := clS h
  have q_M1m : EQ M M1m := EQ.tr (EQ.refl M) (k_X10_isSide  c_M1m)
  rcases ifS h with ⟨-, h⟩ | ⟨-, h⟩
  · obtain ⟨-, e⟩ := retS h
    rw [← e]
    exact q_M1m
  · exact EQ.tr q_M1m (k_X10_need_b17  _ _ _ _ _ _ _ _ h)
theorem k_X10_secondsOf_b4_s {rec4 : Int32 → Int32 → Int32 → Mem → Option (Int32 × Mem)} (hrec4 : ∀ (a0 : Int32) (a1 : Int32) (a2 : Int32) (M N : Mem) (r : Int32), rec4 a0 a1 a2 M = some (r, N) → EQ M N) {x1 : Int32} {x2 : Int32} {x3 : Int32} {M N : Mem} {r : Int32} (h : f_X10_secondsOf_b4_s rec4 x1 x2 x3 M = some (r, N)) : EQ M N := by
  unfold f_X10_secondsOf_b4_s at h
  obtain ⟨-, h⟩ := gdS h
  rcases ifS h with ⟨-, h⟩ | ⟨-, h⟩
  · obtain ⟨-, e⟩ := retS h
    rw [← e]
    exact (EQ.refl M)
  · obtain ⟨-, h⟩ := gdS h
    rcases ifS h with ⟨-, h⟩ | ⟨-, h⟩
    · obtain ⟨a1, e_a1, h⟩ := bndS h
      obtain ⟨a2, e_a2, h⟩ := bndS h
      exact EQ.tr (EQ.refl M) (hrec4 _ _ _ _ _ _ h)
    · obtain ⟨a3, e_a3, h⟩ := bndS h
      exact EQ.tr (EQ.refl M) (hrec4 _ _ _ _ _ _ h)
theorem k_X10_secondsOf_b4   (k : Nat) : ∀ (a0 : Int32) (a1 : Int32) (a2 : Int32) (M N : Mem) (r : Int32), f_X10_secondsOf_b4 k a0 a1 a2 M = some (r, N) → EQ M N :=
  lpN_ind (P := fun (f : Int32 → Int32 → Int32 → Mem → Option (Int32 × Mem)) => ∀ (a0 : Int32) (a1 : Int32) (a2 : Int32) (M N : Mem) (r : Int32), f a0 a1 a2 M = some (r, N) → EQ M N) (fun _ _ _ _ _ _ h => by cases h) (fun f hf _ _ _ _ _ _ h => k_X10_secondsOf_b4_s  hf h) k
theorem k_X10_secondsOf   {x1 : Int32} {M N : Mem} {r : Int32} (h : f_X10_secondsOf x1 M = some (r, N)) : EQ M N := by
  unfold f_X10_secondsOf at h
  exact EQ.tr (EQ.refl M) (k_X10_secondsOf_b4  _ _ _ _ _ _ _ h)
theorem k_X10_seconds   {x1 : Int32} {M N : Mem} {r : Int32} (h : f_X10_seconds x1 M = some (r, N)) : EQ M N := by
  unfold f_X10_seconds at h
  rcases ifS h with ⟨-, h⟩ | ⟨-, h⟩
  · obtain ⟨-, e⟩ := retS h
    rw [← e]
    exact (EQ.refl M)
  · rcases ifS h with ⟨-, h⟩ | ⟨-, h⟩
    · obtain ⟨-, e⟩ := retS h
      rw [← e]
      exact (EQ.refl M)
    · obtain ⟨r1, M1m, c_M1m, h⟩ := clS h
      have q_M1m : EQ M M1m := EQ.tr (EQ.refl M) (k_X10_secondsOf  c_M1m)
      obtain ⟨-, e⟩ := retS h
      rw [← e]
      exact q_M1m
theorem k_X10_extra_b50 {rec4 : Int32 → Int32 → Mem → Option (Int32 × Mem)} (hrec4 : ∀ (a0 : Int32) (a1 : Int32) (M N : Mem) (r : Int32), rec4 a0 a1 M = some (r, N) → EQ M N) {x1 : Int32} {x2 : Int32} {x3 : Int32} {M N : Mem} {r : Int32} (h : f_X10_extra_b50 rec4 x1 x2 x3 M = some (r, N)) : EQ M N := by
  unfold f_X10_extra_b50 at h
  obtain ⟨r1, M1m, c_M1m, h⟩ := clS h
  have q_M1m : EQ M M1m := EQ.tr (EQ.refl M) (k_X10_secondsOf  c_M1m)
  obtain ⟨a1, e_a1, h⟩ := bndS h
  obtain ⟨a2, e_a2, h⟩ := bndS h
  exact EQ.tr q_M1m (hrec4 _ _ _ _ _ h)
theorem k_X10_extra_b4_s {rec4 : Int32 → Int32 → Mem → Option (Int32 × Mem)} (hrec4 : ∀ (a0 : Int32) (a1 : Int32) (M N : Mem) (r : Int32), rec4 a0 a1 M = some (r, N) → EQ M N) {x1 : Int32} {x2 : Int32} {M N : Mem} {r : Int32} (h : f_X10_extra_b4_s rec4 x1 x2 M = some (r, N)) : EQ M N := by
  unfold f_X10_extra_b4_s at h
  obtain ⟨-, h⟩ := gdS h
  rcases ifS h with ⟨-, h⟩ | ⟨-, h⟩
  · obtain ⟨-, e⟩ := retS h
    rw [← e]
    exact (EQ.refl M)
  · obtain ⟨-, h⟩ := gdS h
    obtain ⟨a1, e_a1, h⟩ := bndS h
    rcases ifS h with ⟨-, h⟩ | ⟨-, h⟩
    · exact EQ.tr (EQ.refl M) (k_X10_extra_b50 hrec4 h)
    · obtain ⟨-, h⟩ := gdS h
      rcases ifS h with ⟨-, h⟩ | ⟨-, h⟩
      · obtain ⟨a2, e_a2, h⟩ := bndS h
        exact EQ.tr (EQ.refl M) (hrec4 _ _ _ _ _ h)
      · exact EQ.tr (EQ.refl M) (k_X10_extra_b50 hrec4 h)
theorem k_X10_extra_b4   (k : Nat) : ∀ (a0 : Int32) (a1 : Int32) (M N : Mem) (r : Int32), f_X10_extra_b4 k a0 a1 M = some (r, N) → EQ M N :=
  lpN_ind (P := fun (f : Int32 → Int32 → Mem → Option (Int32 × Mem)) => ∀ (a0 : Int32) (a1 : Int32) (M N : Mem) (r : Int32), f a0 a1 M = some (r, N) → EQ M N) (fun _ _ _ _ _ h => by cases h) (fun f hf _ _ _ _ _ h => k_X10_extra_b4_s  hf h) k
theorem k_X10_extra    {M N : Mem} {r : Int32} (h : f_X10_extra M = some (r, N)) : EQ M N := by
  unfold f_X10_extra at h
  exact EQ.tr (EQ.refl M) (k_X10_extra_b4  _ _ _ _ _ _ h)
theorem k_X10_narrowed   {x0 : Int32} {x1 : Int32} {M N : Mem} {r : Int32} (h : f_X10_narrowed x0 x1 M = some (r, N)) : EQ M N := by
  unfold f_X10_narrowed at h
  rcases ifS h with ⟨-, h⟩ | ⟨-, h⟩
  · obtain ⟨-, e⟩ := retS h
    rw [← e]
    exact (EQ.refl M)
  · rcases ifS h with ⟨-, h⟩ | ⟨-, h⟩
    · obtain ⟨-, e⟩ := retS h
      rw [← e]
      exact (EQ.refl M)
    · obtain ⟨-, e⟩ := retS h
      rw [← e]
      exact (EQ.refl M)
theorem k_X10_sheet_b37_s {rec37 : Int32 → Int32 → Int32 → Int32 → Mem → Option (Int32 × Mem)} (hrec37 : ∀ (a0 : Int32) (a1 : Int32) (a2 : Int32) (a3 : Int32) (M N : Mem) (r : Int32), rec37 a0 a1 a2 a3 M = some (r, N) → EQ M N) {x1 : Int32} {x2 : Int32} {x3 : Int32} {x4 : Int32} {M N : Mem} {r : Int32} (h : f_X10_sheet_b37_s rec37 x1 x2 x3 x4 M = some (r, N)) : EQ M N := by
  unfold f_X10_sheet_b37_s at h
  rcases ifS h with ⟨-, h⟩ | ⟨-, h⟩
  · obtain ⟨M1m, e_M1m, h⟩ := bndS h
    have q_M1m : EQ M M1m := EQ.tr (EQ.refl M) (by rw [e_M1m]; exact EQ_I _ _ _ _)
    obtain ⟨-, e⟩ := retS h
    rw [← e]
    exact q_M1m
  · obtain ⟨-, h⟩ := gdS h
    obtain ⟨r1, M2m, c_M2m, h⟩ := clS h
    have q_M2m : EQ M M2m := EQ.tr (EQ.refl M) (k_X10_narrowed  c_M2m)
    obtain ⟨-, h⟩ := gdS h
    obtain ⟨M3m, e_M3m, h⟩ := bndS h
    have q_M3m : EQ M M3m := EQ.tr q_M2m (by rw [e_M3m]; exact EQ_I _ _ _ _)
    obtain ⟨a1, e_a1, h⟩ := bndS h
    exact EQ.tr q_M3m (hrec37 _ _ _ _ _ _ _ h)
theorem k_X10_sheet_b37   (k : Nat) : ∀ (a0 : Int32) (a1 : Int32) (a2 : Int32) (a3 : Int32) (M N : Mem) (r : Int32), f_X10_sheet_b37 k a0 a1 a2 a3 M = some (r, N) → EQ M N :=
  lpN_ind (P := fun (f : Int32 → Int32 → Int32 → Int32 → Mem → Option (Int32 × Mem)) => ∀ (a0 : Int32) (a1 : Int32) (a2 : Int32) (a3 : Int32) (M N : Mem) (r : Int32), f a0 a1 a2 a3 M = some (r, N) → EQ M N) (fun _ _ _ _ _ _ _ h => by cases h) (fun f hf _ _ _ _ _ _ _ h => k_X10_sheet_b37_s  hf h) k
theorem k_X10_sheet   {x1 : Int32} {x2 : Int32} {x3 : Int32} {M N : Mem} {r : Int32} (h : f_X10_sheet x1 x2 x3 M = some (r, N)) : EQ M N := by
  unfold f_X10_sheet at h
  rcases ifS h with ⟨-, h⟩ | ⟨-, h⟩
  · obtain ⟨-, e⟩ := retS h
    rw [← e]
    exact (EQ.refl M)
  · rcases ifS h with ⟨-, h⟩ | ⟨-, h⟩
    · obtain ⟨-, e⟩ := retS h
      rw [← e]
      exact (EQ.refl M)
    · rcases ifS h with ⟨-, h⟩ | ⟨-, h⟩
      · obtain ⟨-, e⟩ := retS h
        rw [← e]
        exact (EQ.refl M)
      · rcases ifS h with ⟨-, h⟩ | ⟨-, h⟩
        · rcases ifS h with ⟨-, h⟩ | ⟨-, h⟩
          · exact EQ.tr (EQ.refl M) (k_X10_sheet_b37  _ _ _ _ _ _ _ _ h)
          · obtain ⟨-, e⟩ := retS h
            rw [← e]
            exact (EQ.refl M)
        · obtain ⟨-, e⟩ := retS h
          rw [← e]
          exact (EQ.refl M)
theorem k_X10_undo    {M N : Mem} {r : Int32} (h : f_X10_undo M = some (r, N)) : EQ M N := by
  unfold f_X10_undo at h
  rcases ifS h with ⟨-, h⟩ | ⟨-, h⟩
  · obtain ⟨-, e⟩ := retS h
    rw [← e]
    exact (EQ.refl M)
  · obtain ⟨M1m, e_M1m, h⟩ := bndS h
    have q_M1m : EQ M M1m := EQ.tr (EQ.refl M) (by rw [e_M1m]; exact EQ_I _ _ _ _)
    obtain ⟨-, h⟩ := gdS h
    obtain ⟨M2m, c_M2m, h⟩ := clvS h
    have q_M2m : EQ M M2m := EQ.tr q_M1m (k_X3_copyFrom  c_M2m)
    obtain ⟨M3m, e_M3m, h⟩ := bndS h
    have q_M3m : EQ M M3m := EQ.tr q_M2m (by rw [e_M3m]; exact EQ_I _ _ _ _)
    obtain ⟨-, e⟩ := retS h
    rw [← e]
    exact q_M3m
theorem k_X10_keep   {x1 : Int32} {x2 : Int32} {M N : Mem} {r : Int32} (h : f_X10_keep x1 x2 M = some (r, N)) : EQ M N := by
  unfold f_X10_keep at h
  rcases ifS h with ⟨-, h⟩ | ⟨-, h⟩
  · obtain ⟨-, e⟩ := retS h
    rw [← e]
    exact (EQ.refl M)
  · rcases ifS h with ⟨-, h⟩ | ⟨-, h⟩
    · rcases ifS h with ⟨-, h⟩ | ⟨-, h⟩
      · obtain ⟨-, h⟩ := gdS h
        obtain ⟨M1m, c_M1m, h⟩ := clvS h
        have q_M1m : EQ M M1m := EQ.tr (EQ.refl M) (k_X3_copyFrom  c_M1m)
        obtain ⟨M2m, e_M2m, h⟩ := bndS h
        have q_M2m : EQ M M2m := EQ.tr q_M1m (by rw [e_M2m]; exact EQ_I _ _ _ _)
        obtain ⟨-, e⟩ := retS h
        rw [← e]
        exact q_M2m
      · obtain ⟨-, h⟩ := gdS h
        rcases ifS h with ⟨-, h⟩ | ⟨-, h⟩
        · obtain ⟨-, e⟩ := retS h
          rw [← e]
          exact (EQ.refl M)
        · obtain ⟨M3m, c_M3m, h⟩ := clvS h
          have q_M3m : EQ M M3m := EQ.tr (EQ.refl M) (k_X3_copyFrom  c_M3m)
          obtain ⟨M4m, e_M4m, h⟩ := bndS h
          have q_M4m : EQ M M4m := EQ.tr q_M3m (by rw [e_M4m]; exact EQ_I _ _ _ _)
          obtain ⟨-, e⟩ := retS h
          rw [← e]
          exact q_M4m
    · obtain ⟨-, e⟩ := retS h
      rw [← e]
      exact (EQ.refl M)
theorem k_X10_count   {x1 : Int32} {M N : Mem} {r : Int32} (h : f_X10_count x1 M = some (r, N)) : EQ M N := by
  unfold f_X10_count at h
  rcases ifS h with ⟨-, h⟩ | ⟨-, h⟩
  · obtain ⟨-, h⟩ := gdS h
    obtain ⟨-, e⟩ := retS h
    rw [← e]
    exact (EQ.refl M)
  · rcases ifS h with ⟨-, h⟩ | ⟨-, h⟩
    · obtain ⟨-, h⟩ := gdS h
      obtain ⟨-, e⟩ := retS h
      rw [← e]
      exact (EQ.refl M)
    · rcases ifS h with ⟨-, h⟩ | ⟨-, h⟩
      · obtain ⟨-, h⟩ := gdS h
        obtain ⟨-, e⟩ := retS h
        rw [← e]
        exact (EQ.refl M)
      · rcases ifS h with ⟨-, h⟩ | ⟨-, h⟩
        · obtain ⟨-, h⟩ := gdS h
          obtain ⟨-, e⟩ := retS h
          rw [← e]
          exact (EQ.refl M)
        · rcases ifS h with ⟨-, h⟩ | ⟨-, h⟩
          · obtain ⟨-, h⟩ := gdS h
            obtain ⟨-, e⟩ := retS h
            rw [← e]
            exact (EQ.refl M)
          · rcases ifS h with ⟨-, h⟩ | ⟨-, h⟩
            · obtain ⟨-, h⟩ := gdS h
              obtain ⟨-, e⟩ := retS h
              rw [← e]
              exact (EQ.refl M)
            · rcases ifS h with ⟨-, h⟩ | ⟨-, h⟩
              · obtain ⟨-, e⟩ := retS h
                rw [← e]
                exact (EQ.refl M)
              · rcases ifS h with ⟨-, h⟩ | ⟨-, h⟩
                · obtain ⟨-, e⟩ := retS h
                  rw [← e]
                  exact (EQ.refl M)
                · rcases ifS h with ⟨-, h⟩ | ⟨-, h⟩
                  · obtain ⟨-, e⟩ := retS h
                    rw [← e]
                    exact (EQ.refl M)
                  · rcases ifS h with ⟨-, h⟩ | ⟨-, h⟩
                    · obtain ⟨-, e⟩ := retS h
                      rw [← e]
                      exact (EQ.refl M)
                    · rcases ifS h with ⟨-, h⟩ | ⟨-, h⟩
                      · obtain ⟨-, e⟩ := retS h
                        rw [← e]
                        exact (EQ.refl M)
                      · rcases ifS h with ⟨-, h⟩ | ⟨-, h⟩
                        · obtain ⟨-, h⟩ := gdS h
                          obtain ⟨-, e⟩ := retS h
                          rw [← e]
                          exact (EQ.refl M)
                        · rcases ifS h with ⟨-, h⟩ | ⟨-, h⟩
                          · obtain ⟨-, h⟩ := gdS h
                            obtain ⟨-, e⟩ := retS h
                            rw [← e]
                            exact (EQ.refl M)
                          · rcases ifS h with ⟨-, h⟩ | ⟨-, h⟩
                            · obtain ⟨-, h⟩ := gdS h
                              obtain ⟨-, e⟩ := retS h
                              rw [← e]
                              exact (EQ.refl M)
                            · rcases ifS h with ⟨-, h⟩ | ⟨-, h⟩
                              · obtain ⟨-, h⟩ := gdS h
                                obtain ⟨-, e⟩ := retS h
                                rw [← e]
                                exact (EQ.refl M)
                              · obtain ⟨-, e⟩ := retS h
                                rw [← e]
                                exact (EQ.refl M)
theorem k_X10_frame_b37    {M N : Mem} {r : Int32} (h : f_X10_frame_b37 M = some (r, N)) : EQ M N := by
  unfold f_X10_frame_b37 at h
  cases h
theorem k_X10_frame   {x1 : Int32} {x2 : Int32} {x3 : Int32} {M N : Mem} {r : Int32} (h : f_X10_frame x1 x2 x3 M = some (r, N)) : EQ M N := by
  unfold f_X10_frame at h
  obtain ⟨r1, M1m, c_M1m, h⟩ := clS h
  have q_M1m : EQ M M1m := EQ.tr (EQ.refl M) (k_X10_isPlay  c_M1m)
  rcases ifS h with ⟨-, h⟩ | ⟨-, h⟩
  · exact EQ.tr q_M1m (k_X10_frame_b37  h)
  · rcases ifS h with ⟨-, h⟩ | ⟨-, h⟩
    · exact EQ.tr q_M1m (k_X10_frame_b37  h)
    · obtain ⟨-, h⟩ := gdS h
      obtain ⟨-, h⟩ := gdS h
      rcases ifS h with ⟨-, h⟩ | ⟨-, h⟩
      · exact EQ.tr q_M1m (k_X10_frame_b37  h)
      · rcases ifS h with ⟨-, h⟩ | ⟨-, h⟩
        · exact EQ.tr q_M1m (k_X10_frame_b37  h)
        · rcases ifS h with ⟨-, h⟩ | ⟨-, h⟩
          · obtain ⟨o1, e_o1, h⟩ := bndS h
            rcases ifS h with ⟨-, h⟩ | ⟨-, h⟩
            · obtain ⟨-, h⟩ := gdS h
              obtain ⟨-, e⟩ := retS h
              rw [← e]
              exact q_M1m
            · rcases ifS h with ⟨-, h⟩ | ⟨-, h⟩
              · obtain ⟨-, h⟩ := gdS h
                obtain ⟨-, e⟩ := retS h
                rw [← e]
                exact q_M1m
              · rcases ifS h with ⟨-, h⟩ | ⟨-, h⟩
                · obtain ⟨-, h⟩ := gdS h
                  obtain ⟨-, e⟩ := retS h
                  rw [← e]
                  exact q_M1m
                · obtain ⟨-, h⟩ := gdS h
                  obtain ⟨-, e⟩ := retS h
                  rw [← e]
                  exact q_M1m
          · exact EQ.tr q_M1m (k_X10_frame_b37  h)
