/-! a text, done -/
theorem over_inv {M Mc M1 Mr M2 : Mem} {T U n st c : Nat} {B : Nat → Nat} (hI : Inv M) (hT : TT T) (e203 : T + U = 203) (P : PP n B T st Mc Mr) (ec : c = rdN Mr 1) (fc : FCt T M Mc) (fr : FRt M1 Mr)
    (k2 : M1.2.2.1 64 2 = T ∧ M1.2.2.1 64 3 = U)
    (kd : (∀ k, k < 4 → M1.1 217 k = 0) ∧ M1.1 217 9 = 0 ∧ (∀ k, k < 4 → M1.1 219 k = if k < c then Mc.1 (T + 5) k else 0) ∧ (∀ k, k < 4 → M1.1 220 k = 0) ∧ (∀ k, k < 8 → M1.1 221 k = 0)) (k9 : M1.1 64 9 = 0) (k225 : M1.1 225 0 = 0 ∧ M1.1 225 1 = 0) (ko : ∀ a k, a ≠ 217 → a ≠ 219 → a ≠ 220 → a ≠ 221 → a ≠ 225 → ¬ (a = 64 ∧ k = 9) → M1.1 a k = Mc.1 a k)
    (o1 : M2.2 = Mr.2) (o2 : M2.1 311 40 = 0) (o3 : M2.1 343 0 = 0) (o4 : M2.1 343 1 = 0) (o5 : ∀ x, x < c → M2.1 340 (33 + x) = Mr.1 320 (4 + x)) (o6 : ∀ k, k < 114 → ¬ (33 ≤ k ∧ k < 33 + c) → M2.1 340 k = 0) (o7 : ∀ k, k < 5 → M2.1 322 k = vp_nar .boolean (Mr.1 322 (5 + k)) ∧ M2.1 323 k = vp_nar .boolean (Mr.1 323 (5 + k))) (o8 : ∀ a k, cpR a = true → a < 340 → k < hf a → M2.1 a k = Mr.1 a (hf a + k)) (o9 : ∀ a k, ¬ (a = 311 ∧ k = 40) → a ≠ 343 → a ≠ 340 → ¬ (313 ≤ a ∧ a ≤ 339) → M2.1 a k = Mr.1 a k) : Inv M2 := by
  have tc := tt_208 hT
  have c4 : c ≤ 4 := by
    have := (P.cnt (s := 1) (by omega)).2.1
    have m : mxS 1 = 4 := by decide
    omega
  obtain ⟨c1, c2, c3, c64, c5⟩ := fc
  obtain ⟨f1, f2, ⟨f3, f4⟩, f5⟩ := fr
  obtain ⟨kd1, kd2, kd3, kd4, kd5⟩ := kd
  obtain ⟨-, -, ⟨a, u, v, ⟨u8, -, ha, -⟩, -⟩, -, -, ⟨j, hj, j1, j2, j3⟩, -⟩ := hI
  -- cells of the class's part
  have low : ∀ a k, a ≤ 310 → M2.1 a k = M1.1 a k := fun a k h => by rw [o9 _ _ (by omega) (by omega) (by omega) (by omega), f5 _ _ (by omega) (by omega)]
  have cls : ∀ a k, a ≤ 310 → a ≠ 217 → a ≠ 219 → a ≠ 220 → a ≠ 221 → a ≠ 225 → ¬ (a = 64 ∧ k = 9) → M2.1 a k = Mc.1 a k := fun a k h h1 h2 h3 h4 h5 h6 => by rw [low a k h, ko a k h1 h2 h3 h4 h5 h6]
  have et : tld M2 = T := by
    show M2.2.2.1 64 2 = T
    rw [o1, f1]; exact k2.1
  have I := P.2.2.2.1
  obtain ⟨MX, dX⟩ : ∃ X, X = mixM Mc Mr := ⟨_, rfl⟩
  rw [← dX] at I
  have L : Low MX M2 := fun a k h1 h2 h3 h4 h5 hb => by
    have e : MX.1 a k = Mr.1 a (hf a + k) := by rw [dX]; exact mix_r _ _ h1 h2 k
    by_cases z : a = 322 ∨ a = 323
    · have h50 : hf 322 = 5 ∧ hf 323 = 5 := by decide
      have nb : ∀ x : Int32, x = 0 ∨ x = 1 → vp_nar .boolean x = x := fun x hx => by
        rcases hx with rfl | rfl
        · exact nar_b.1
        · exact nar_b.2
      have q := hb z
      rw [e] at q ⊢
      rcases z with rfl | rfl
      · rw [h50.1] at q h5 ⊢
        rw [(o7 k h5).1, nb _ q]
      · rw [h50.2] at q h5 ⊢
        rw [(o7 k h5).2, nb _ q]
    · rw [e]
      refine o8 a k ?_ (by omega) h5
      unfold cpR
      exact decide_eq_true (by omega)
  have H : TB M2 T ∧ Kept M2 T := Low.hb I.hb L (fun b h1 h2 => funext (fun k => by rw [cls b k (by omega) (by omega) (by omega) (by omega) (by omega) (by omega) (by omega), dX, mix_c _ _ (by omega)]))
  have n1 : Cn M2 1 = c := by
    rw [L.cn (by omega), dX, cn_mix, ec]
  refine ⟨by unfold HB; rw [et]; exact H, ?_, ⟨a, 0, v, ⟨?_, ?_, ha, by omega, fun j hj => absurd hj (by omega)⟩, ⟨o2, by omega, fun j hj => absurd hj (by omega)⟩⟩, fun i hi => Or.inl ?_, ⟨0, by omega, ?_, ?_, fun k hk => absurd hk (by omega)⟩, ⟨j, hj, ?_, ?_, fun k hk => ?_⟩, ?_⟩
  · have s0 : ∀ k, k < 114 → ¬ (33 ≤ k ∧ k < 37) → M2.1 340 k = 0 := fun k h1 h2 => o6 k h1 (by omega)
    refine ⟨⟨0, by omega, by rw [low 217 0 (by omega), kd1 0 (by omega)]; rfl, by rw [s0 0 (by omega) (by omega)]; rfl, 0, 0, 0, ⟨by omega, by omega, by omega⟩, ⟨by rw [low 217 1 (by omega), kd1 1 (by omega)]; rfl, by rw [low 217 2 (by omega), kd1 2 (by omega)]; rfl, by rw [low 217 3 (by omega), kd1 3 (by omega)]; rfl⟩, fun p hp => absurd hp (by omega), fun p _ hp => ⟨Nat.zero_testBit _, Nat.zero_testBit _, s0 _ (by omega) (by omega), s0 _ (by omega) (by omega), s0 _ (by omega) (by omega)⟩⟩, fun k hk => ?_, fun k hk => ?_, fun p hp => ?_, ⟨0, by omega, by rw [low 217 9 (by omega), kd2]; rfl, by rw [s0 49 (by omega) (by omega)]; rfl⟩, fun k hk => Or.inl ?_⟩
    · rw [show 217 + 2 = 219 from rfl, low 219 k (by omega), kd3 k hk]
      by_cases z : k < c
      · have is := I.2.2.2.2.1 k (by rw [dX, cn_mix, ← ec]; exact z)
        obtain ⟨⟨b1, b2⟩, b3⟩ := is
        have e3 : MX.1 320 k = Mr.1 320 (4 + k) := by rw [dX, mix_r _ _ (by omega) (by omega)]; rfl
        have e4 : MX.1 (T + 5) k = Mc.1 (T + 5) k := by rw [dX, mix_c _ _ (by omega)]
        rw [e3] at b1 b2 b3
        rw [e4] at b3
        rw [if_pos z, o5 k z, b3]
        exact ⟨rfl, b1, b2⟩
      · rw [if_neg z, o6 (33 + k) (by omega) (by omega)]
        decide
    · rw [show 217 + 3 = 220 from rfl, low 220 k (by omega), kd4 k hk, s0 (37 + k) (by omega) (by omega)]
    · rw [show 217 + 4 = 221 from rfl, low 221 p (by omega), kd5 p hp, s0 (41 + p) (by omega) (by omega)]
    · rw [low 217 9 (by omega), kd2]
      show 4 * 0 ≤ k
      omega
  · rw [cls 64 8 (by omega) (by omega) (by omega) (by omega) (by omega) (by omega) (by omega), c5 _ _ (by omega) (by omega) (by omega) (by omega) (by omega), u8]
  · rw [low 64 9 (by omega), k9]; rfl
  · have e : i = 0 ∨ i = 1 := by omega
    rcases e with rfl | rfl
    · exact ⟨by rw [low 225 0 (by omega)]; exact k225.1, o3⟩
    · exact ⟨by rw [low 225 1 (by omega)]; exact k225.2, o4⟩
  · rw [cls 64 1 (by omega) (by omega) (by omega) (by omega) (by omega) (by omega) (by omega), c64]; rfl
  · rw [o9 _ _ (by omega) (by omega) (by omega) (by omega), f4]; rfl
  · rw [cls 64 13 (by omega) (by omega) (by omega) (by omega) (by omega) (by omega) (by omega), c5 _ _ (by omega) (by omega) (by omega) (by omega) (by omega), j1]
  · rw [o9 _ _ (by omega) (by omega) (by omega) (by omega), f5 _ _ (by omega) (by omega), ko _ _ (by omega) (by omega) (by omega) (by omega) (by omega) (by omega), c5 _ _ (by omega) (by omega) (by omega) (by omega) (by omega), j2]
  · rw [cls 226 k (by omega) (by omega) (by omega) (by omega) (by omega) (by omega) (by omega), c5 _ _ (by omega) (by omega) (by omega) (by omega) (by omega), o9 _ _ (by omega) (by omega) (by omega) (by omega), f5 _ _ (by omega) (by omega), ko _ _ (by omega) (by omega) (by omega) (by omega) (by omega) (by omega), c5 _ _ (by omega) (by omega) (by omega) (by omega) (by omega)]
    exact j3 k hk
  · rw [o1, f1, k2.1, k2.2]; exact e203
