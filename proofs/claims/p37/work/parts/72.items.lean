/-! WHAT IS TOLD, item by item -/
def hf (a : Nat) : Nat := ([6, 4, 0, 0, 5, 5, 24, 4, 5, 5, 5, 5, 15, 15, 3, 3, 21, 8, 8, 8, 8, 8, 8, 80, 80, 80, 80] : List Nat).getD (a - 313) 0
/-- the class's memory, with what the reference has read in place of what it holds -/
def mixM (Mc Mr : Mem) : Mem := (fun a k => if 313 ≤ a ∧ a ≤ 339 then Mr.1 a (hf a + k) else Mc.1 a k, Mc.2)
theorem mix_c (Mc Mr : Mem) {a : Nat} (h : a < 313) : (mixM Mc Mr).1 a = Mc.1 a := funext (fun k => if_neg (by omega))
theorem mix_r (Mc Mr : Mem) {a : Nat} (h1 : 313 ≤ a) (h2 : a ≤ 339) (k : Nat) : (mixM Mc Mr).1 a k = Mr.1 a (hf a + k) := if_pos ⟨h1, h2⟩
def iC (M : Mem) (T c : Nat) : Prop := (0 ≤ (M.1 317 c).toInt ∧ (M.1 317 c).toInt ≤ (M.1 318 c).toInt ∧ (M.1 318 c).toInt ≤ 999) ∧ M.1 (T + 1) c = M.1 317 c ∧ M.1 (T + 2) c = M.1 318 c
def iF (M : Mem) (nc f : Nat) : Prop := (∃ a b, a < nc ∧ b < nc ∧ a ≠ b ∧ M.1 319 (4 * f) = nI a ∧ M.1 319 (4 * f + 2) = nI b) ∧ 0 ≤ (M.1 319 (4 * f + 1)).toInt ∧ (M.1 319 (4 * f + 1)).toInt ≤ 999 ∧ 0 ≤ (M.1 319 (4 * f + 3)).toInt ∧ (M.1 319 (4 * f + 3)).toInt ≤ 999
def iS (M : Mem) (T k : Nat) : Prop := (0 ≤ (M.1 320 k).toInt ∧ (M.1 320 k).toInt ≤ 9) ∧ M.1 (T + 5) k = M.1 320 k
def iK (M : Mem) (T k : Nat) : Prop := ((1 ≤ (M.1 321 k).toInt ∧ (M.1 321 k).toInt ≤ 60) ∧ (M.1 322 k = 0 ∨ M.1 322 k = 1) ∧ (M.1 323 k = 0 ∨ M.1 323 k = 1) ∧ (M.1 324 k = nI (Pn M k) ∧ 1 ≤ Pn M k ∧ Pn M k ≤ 3) ∧ ∀ i, i < Pn M k → ∃ a b, a < 4 ∧ b < 4 ∧ a ≠ b ∧ M.1 325 (3 * k + i) = nI a ∧ M.1 326 (3 * k + i) = nI b) ∧
  (M.1 (T + 10 + 3 * k) 0 = M.1 321 k ∧ M.1 (T + 10 + 3 * k) 1 = M.1 322 k ∧ M.1 (T + 10 + 3 * k) 2 = M.1 323 k ∧ M.1 (T + 10 + 3 * k) 3 = M.1 324 k ∧ ∀ i, i < Pn M k → M.1 (T + 11 + 3 * k) i = M.1 325 (3 * k + i) ∧ M.1 (T + 12 + 3 * k) i = M.1 326 (3 * k + i))
def iB (M : Mem) (T nc b : Nat) : Prop := ((1 ≤ (M.1 327 b).toInt ∧ (M.1 327 b).toInt ≤ 9) ∧ (M.1 328 b = nI (Bn M b) ∧ Bn M b ≤ 7) ∧ ∀ i, i < Bn M b → ∃ s, s < 2 ^ nc ∧ M.1 329 (7 * b + i) = nI s) ∧
  (M.1 (T + 25 + 2 * b) 0 = M.1 327 b ∧ M.1 (T + 25 + 2 * b) 1 = M.1 328 b ∧ ∀ i, i < Bn M b → M.1 (T + 26 + 2 * b) i = M.1 329 (7 * b + i))
def iP (M : Mem) (T nc ns nk p : Nat) : Prop := ((0 ≤ (M.1 330 p).toInt ∧ (M.1 330 p).toInt ≤ 999) ∧ (∃ k, k < nk ∧ M.1 331 p = nI k) ∧ (∃ s, s < ns ∧ M.1 332 p = nI s) ∧ (0 ≤ (M.1 333 p).toInt ∧ (M.1 333 p).toInt ≤ 99) ∧ (M.1 334 p = 0 ∨ M.1 334 p = 1) ∧ (M.1 335 p = nI (Fn M p) ∧ Fn M p ≤ 10) ∧
    ∀ k, k < Fn M p → (∃ c, c < nc ∧ M.1 336 (10 * p + k) = nI c) ∧ (0 ≤ (M.1 337 (10 * p + k)).toInt ∧ (M.1 337 (10 * p + k)).toInt ≤ 999) ∧ (∃ s, s < 16 ∧ M.1 338 (10 * p + k) = nI s) ∧ ∃ s, s < 16 ∧ M.1 339 (10 * p + k) = nI s) ∧
  (M.1 (T + 31 + 5 * p) 0 = M.1 330 p ∧ M.1 (T + 31 + 5 * p) 1 = M.1 331 p ∧ M.1 (T + 31 + 5 * p) 2 = M.1 332 p ∧ M.1 (T + 31 + 5 * p) 3 = M.1 333 p ∧ M.1 (T + 31 + 5 * p) 4 = M.1 334 p ∧ M.1 (T + 31 + 5 * p) 5 = M.1 335 p ∧
    ∀ k, k < Fn M p → M.1 (T + 32 + 5 * p) k = M.1 336 (10 * p + k) ∧ M.1 (T + 33 + 5 * p) k = M.1 337 (10 * p + k) ∧ M.1 (T + 34 + 5 * p) k = M.1 338 (10 * p + k) ∧ M.1 (T + 35 + 5 * p) k = M.1 339 (10 * p + k)) ∧
  M.1 (T + 31 + 5 * p) 10 = -3 ∧ M.1 (T + 31 + 5 * p) 11 = -3
def iR (M : Mem) (T : Nat) : Prop := ((0 ≤ (M.1 314 0).toInt ∧ (M.1 314 0).toInt ≤ 999) ∧ (0 ≤ (M.1 314 1).toInt ∧ (M.1 314 1).toInt ≤ 9) ∧ (0 ≤ (M.1 314 2).toInt ∧ (M.1 314 2).toInt ≤ 1000) ∧ (0 ≤ (M.1 314 3).toInt ∧ (M.1 314 3).toInt ≤ 9)) ∧ ∀ k, k < 4 → M.1 (T + 9) k = M.1 314 k
/-- where the class counts a sort -/
def sl (s : Nat) : Nat := ([0, 5, 7, 9, 11, 3] : List Nat).getD s 0
def iN (M : Mem) (T : Nat) : Prop := ∀ s, s < 6 → M.1 313 s = nI (Cn M s) ∧ Cn M s ≤ mxS s ∧ M.1 T (sl s) = M.1 313 s
def ITS (M : Mem) (T : Nat) : Prop := TT T ∧ iN M T ∧ (∀ c, c < Cn M 0 → iC M T c) ∧ (∀ f, f < Cn M 5 → iF M (Cn M 0) f) ∧ (∀ k, k < Cn M 1 → iS M T k) ∧ (∀ k, k < Cn M 2 → iK M T k) ∧ (∀ b, b < Cn M 3 → iB M T (Cn M 0) b) ∧ (∀ p, p < Cn M 4 → iP M T (Cn M 0) (Cn M 1) (Cn M 2) p) ∧ (∀ p, p + 1 < Cn M 4 → (M.1 330 p).toInt ≤ (M.1 330 (p + 1)).toInt) ∧ iR M T ∧ BB (CC M) M (T + 3)
theorem ITS.ok {M : Mem} {T : Nat} (h : ITS M T) : MOk M := by
  obtain ⟨-, hN, hC, hF, hS, hK, hB, hP, hm, hR, -⟩ := h
  have n0 := hN 0 (by omega)
  have n1 := hN 1 (by omega)
  have n2 := hN 2 (by omega)
  have n3 := hN 3 (by omega)
  have n4 := hN 4 (by omega)
  have n5 := hN 5 (by omega)
  exact ⟨⟨⟨n0.1, n0.2.1⟩, ⟨n1.1, n1.2.1⟩, ⟨n2.1, n2.2.1⟩, ⟨n3.1, n3.2.1⟩, ⟨n4.1, n4.2.1⟩, ⟨n5.1, n5.2.1⟩⟩, fun c hc => (hC c hc).1, fun f hf => hF f hf, fun k hk => (hS k hk).1, fun k hk => (hK k hk).1, fun b hb => (hB b hb).1, fun p hp => (hP p hp).1, hm, hR.1⟩
theorem ITS.told {M : Mem} {T : Nat} (h : ITS M T) : RTold M T := by
  obtain ⟨-, hN, hC, hF, hS, hK, hB, hP, hm, hR, -⟩ := h
  exact ⟨⟨(hN 0 (by omega)).2.2, (hN 1 (by omega)).2.2, (hN 2 (by omega)).2.2, (hN 3 (by omega)).2.2, (hN 4 (by omega)).2.2, (hN 5 (by omega)).2.2⟩, fun c hc => (hC c hc).2, fun k hk => (hS k hk).2, fun k hk => (hK k hk).2, fun b hb => (hB b hb).2, fun p hp => (hP p hp).2.1, hR.2⟩
theorem ITS.hb {M : Mem} {T : Nat} (h : ITS M T) : TB M T ∧ Kept M T := ⟨⟨h.1, h.ok, h.told, h.2.2.2.2.2.2.2.2.2.2⟩, fun p hp => ⟨Or.inl (h.2.2.2.2.2.2.2.1 p hp).2.2.1, Or.inl (h.2.2.2.2.2.2.2.1 p hp).2.2.2⟩⟩
/-! items stand where their cells stand -/
theorem iC.cong {M M' : Mem} {T c : Nat} (h : iC M T c) (e : M'.1 317 c = M.1 317 c ∧ M'.1 318 c = M.1 318 c ∧ M'.1 (T + 1) c = M.1 (T + 1) c ∧ M'.1 (T + 2) c = M.1 (T + 2) c) : iC M' T c := by
  obtain ⟨e1, e2, e3, e4⟩ := e
  unfold iC
  rw [e1, e2, e3, e4]
  exact h
theorem iF.cong {M M' : Mem} {nc nc' f : Nat} (h : iF M nc f) (hn : nc ≤ nc') (e : ∀ j, j < 4 → M'.1 319 (4 * f + j) = M.1 319 (4 * f + j)) : iF M' nc' f := by
  obtain ⟨⟨a, b, ha, hb, hab, e1, e2⟩, h2⟩ := h
  unfold iF
  have e0 := e 0 (by omega)
  rw [Nat.add_zero] at e0
  rw [e0, e 1 (by omega), e 2 (by omega), e 3 (by omega)]
  exact ⟨⟨a, b, by omega, by omega, hab, e1, e2⟩, h2⟩
theorem iS.cong {M M' : Mem} {T k : Nat} (h : iS M T k) (e : M'.1 320 k = M.1 320 k ∧ M'.1 (T + 5) k = M.1 (T + 5) k) : iS M' T k := by
  obtain ⟨e1, e2⟩ := e
  unfold iS
  rw [e1, e2]
  exact h
theorem iK.cong {M M' : Mem} {T k : Nat} (h : iK M T k) (e : ∀ a, 321 ≤ a → a ≤ 324 → M'.1 a k = M.1 a k) (e2 : ∀ i, i < 3 → M'.1 325 (3 * k + i) = M.1 325 (3 * k + i) ∧ M'.1 326 (3 * k + i) = M.1 326 (3 * k + i) ∧ M'.1 (T + 11 + 3 * k) i = M.1 (T + 11 + 3 * k) i ∧ M'.1 (T + 12 + 3 * k) i = M.1 (T + 12 + 3 * k) i) (e3 : ∀ j, j < 4 → M'.1 (T + 10 + 3 * k) j = M.1 (T + 10 + 3 * k) j) : iK M' T k := by
  have ep : Pn M' k = Pn M k := by unfold Pn; rw [e 324 (by omega) (by omega)]
  obtain ⟨⟨h1, h2, h3, h4, h5⟩, g0, g1, g2, g3, g4⟩ := h
  unfold iK
  rw [ep, e 321 (by omega) (by omega), e 322 (by omega) (by omega), e 323 (by omega) (by omega), e 324 (by omega) (by omega), e3 0 (by omega), e3 1 (by omega), e3 2 (by omega), e3 3 (by omega)]
  refine ⟨⟨h1, h2, h3, h4, fun i hi => ?_⟩, g0, g1, g2, g3, fun i hi => ?_⟩
  · obtain ⟨x1, x2, -⟩ := e2 i (by omega)
    rw [x1, x2]
    exact h5 i hi
  · obtain ⟨x1, x2, x3, x4⟩ := e2 i (by omega)
    rw [x1, x2, x3, x4]
    exact g4 i hi
theorem iB.cong {M M' : Mem} {T nc nc' b : Nat} (h : iB M T nc b) (hn : nc ≤ nc') (e : M'.1 327 b = M.1 327 b ∧ M'.1 328 b = M.1 328 b) (e2 : ∀ i, i < 7 → M'.1 329 (7 * b + i) = M.1 329 (7 * b + i) ∧ M'.1 (T + 26 + 2 * b) i = M.1 (T + 26 + 2 * b) i) (e3 : ∀ j, j < 2 → M'.1 (T + 25 + 2 * b) j = M.1 (T + 25 + 2 * b) j) : iB M' T nc' b := by
  obtain ⟨e0, e1⟩ := e
  have ep : Bn M' b = Bn M b := by unfold Bn; rw [e1]
  obtain ⟨⟨h1, h2, h3⟩, g0, g1, g2⟩ := h
  unfold iB
  rw [ep, e0, e1, e3 0 (by omega), e3 1 (by omega)]
  refine ⟨⟨h1, h2, fun i hi => ?_⟩, g0, g1, fun i hi => ?_⟩
  · rw [(e2 i (by omega)).1]
    obtain ⟨s, hs, es⟩ := h3 i hi
    exact ⟨s, Nat.lt_of_lt_of_le hs (Nat.pow_le_pow_right (by decide) hn), es⟩
  · rw [(e2 i (by omega)).1, (e2 i (by omega)).2]
    exact g2 i hi
theorem iP.cong {M M' : Mem} {T nc nc' ns ns' nk nk' p : Nat} (h : iP M T nc ns nk p) (hn : nc ≤ nc') (hs : ns ≤ ns') (hk : nk ≤ nk') (e : ∀ a, 330 ≤ a → a ≤ 335 → M'.1 a p = M.1 a p) (e2 : ∀ k, k < 10 → (∀ a, 336 ≤ a → a ≤ 339 → M'.1 a (10 * p + k) = M.1 a (10 * p + k)) ∧ ∀ a, T + 32 + 5 * p ≤ a → a ≤ T + 35 + 5 * p → M'.1 a k = M.1 a k) (e3 : ∀ j, j < 12 → M'.1 (T + 31 + 5 * p) j = M.1 (T + 31 + 5 * p) j) : iP M' T nc' ns' nk' p := by
  have ep : Fn M' p = Fn M p := by unfold Fn; rw [e 335 (by omega) (by omega)]
  obtain ⟨⟨h1, ⟨k, hk1, hk2⟩, ⟨s, hs1, hs2⟩, h4, h5, h6, h7⟩, ⟨g0, g1, g2, g3, g4, g5, g6⟩, g10, g11⟩ := h
  unfold iP
  rw [ep, e 330 (by omega) (by omega), e 331 (by omega) (by omega), e 332 (by omega) (by omega), e 333 (by omega) (by omega), e 334 (by omega) (by omega), e 335 (by omega) (by omega), e3 0 (by omega), e3 1 (by omega), e3 2 (by omega), e3 3 (by omega), e3 4 (by omega), e3 5 (by omega), e3 10 (by omega), e3 11 (by omega)]
  refine ⟨⟨h1, ⟨k, by omega, hk2⟩, ⟨s, by omega, hs2⟩, h4, h5, h6, fun k hk => ?_⟩, ⟨g0, g1, g2, g3, g4, g5, fun k hk => ?_⟩, g10, g11⟩
  · obtain ⟨x, -⟩ := e2 k (by omega)
    rw [x 336 (by omega) (by omega), x 337 (by omega) (by omega), x 338 (by omega) (by omega), x 339 (by omega) (by omega)]
    obtain ⟨⟨c, hc, ec⟩, y⟩ := h7 k hk
    exact ⟨⟨c, by omega, ec⟩, y⟩
  · obtain ⟨x, y⟩ := e2 k (by omega)
    rw [x 336 (by omega) (by omega), x 337 (by omega) (by omega), x 338 (by omega) (by omega), x 339 (by omega) (by omega), y (T + 32 + 5 * p) (by omega) (by omega), y (T + 33 + 5 * p) (by omega) (by omega), y (T + 34 + 5 * p) (by omega) (by omega), y (T + 35 + 5 * p) (by omega) (by omega)]
    exact g6 k hk
theorem iR.cong {M M' : Mem} {T : Nat} (h : iR M T) (e : ∀ k, k < 4 → M'.1 314 k = M.1 314 k ∧ M'.1 (T + 9) k = M.1 (T + 9) k) : iR M' T := by
  obtain ⟨h1, h2⟩ := h
  unfold iR
  rw [(e 0 (by omega)).1, (e 1 (by omega)).1, (e 2 (by omega)).1, (e 3 (by omega)).1]
  exact ⟨h1, fun k hk => by rw [(e k hk).1, (e k hk).2]; exact h2 k hk⟩
/-- the clocks' claims stand where their cells stand -/
theorem CC_cong {M M' : Mem} (n0 : Cn M' 0 = Cn M 0) (n5 : Cn M' 5 = Cn M 5) (e1 : ∀ c, c < Cn M 0 → M'.1 317 c = M.1 317 c ∧ M'.1 318 c = M.1 318 c) (e2 : ∀ f, f < Cn M 5 → ∀ j, j < 4 → M'.1 319 (4 * f + j) = M.1 319 (4 * f + j)) (a b : Nat) (v : Int) : CC M' a b v ↔ CC M a b v := by
  have eC : ∀ c, c < Cn M 0 → (NC M' c a b v ↔ NC M c a b v) := fun c hc => by
    unfold NC
    rw [(e1 c hc).1, (e1 c hc).2]
  have eF : ∀ f, f < Cn M 5 → (NF M' f a b v ↔ NF M f a b v) := fun f hf => by
    have e0 := e2 f hf 0 (by omega)
    rw [Nat.add_zero] at e0
    unfold NF fi fj fby
    rw [e0, e2 f hf 1 (by omega), e2 f hf 2 (by omega), e2 f hf 3 (by omega)]
  constructor
  · rintro (⟨c, hc, h⟩ | ⟨f, hf, h⟩)
    · rw [n0] at hc
      exact Or.inl ⟨c, hc, (eC c hc).mp h⟩
    · rw [n5] at hf
      exact Or.inr ⟨f, hf, (eF f hf).mp h⟩
  · rintro (⟨c, hc, h⟩ | ⟨f, hf, h⟩)
    · exact Or.inl ⟨c, by rw [n0]; exact hc, (eC c hc).mpr h⟩
    · exact Or.inr ⟨f, by rw [n5]; exact hf, (eF f hf).mpr h⟩
