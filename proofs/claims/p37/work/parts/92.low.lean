/-! the lower halves alone tell -/
def Low (M M' : Mem) : Prop := ∀ a k, 313 ≤ a → a ≤ 339 → a ≠ 315 → a ≠ 316 → k < hf a → (a = 322 ∨ a = 323 → M.1 a k = 0 ∨ M.1 a k = 1) → M'.1 a k = M.1 a k
theorem Low.x {M M' : Mem} (L : Low M M') (a k : Nat) (h1 : 313 ≤ a) (h2 : a ≤ 339) (h3 : a ≠ 315 ∧ a ≠ 322) (h4 : a ≠ 316 ∧ a ≠ 323) (h5 : k < hf a) : M'.1 a k = M.1 a k := L a k h1 h2 h3.1 h4.1 h5 (fun q => absurd q (by omega))
theorem Low.cn {M M' : Mem} (L : Low M M') {s : Nat} (hs : s < 6) : Cn M' s = Cn M s := by
  have e : M'.1 313 s = M.1 313 s := L.x 313 s (by omega) (by omega) (by omega) (by omega) hs
  unfold Cn
  rw [e]
theorem Low.fn {M M' : Mem} (L : Low M M') {p : Nat} (hp : p < 8) : Fn M' p = Fn M p := by
  have e : M'.1 335 p = M.1 335 p := L.x 335 p (by omega) (by omega) (by omega) (by omega) hp
  unfold Fn
  rw [e]
theorem Low.pn {M M' : Mem} (L : Low M M') {k : Nat} (hk : k < 5) : Pn M' k = Pn M k := by
  have e : M'.1 324 k = M.1 324 k := L.x 324 k (by omega) (by omega) (by omega) (by omega) hk
  unfold Pn
  rw [e]
theorem Low.bn {M M' : Mem} (L : Low M M') {b : Nat} (hb : b < 3) : Bn M' b = Bn M b := by
  have e : M'.1 328 b = M.1 328 b := L.x 328 b (by omega) (by omega) (by omega) (by omega) hb
  unfold Bn
  rw [e]
theorem Low.k {M M' : Mem} (L : Low M M') {a k : Nat} (h1 : 321 ≤ a) (h2 : a ≤ 324) (hk : k < 5) (hb : a = 322 ∨ a = 323 → M.1 a k = 0 ∨ M.1 a k = 1) : M'.1 a k = M.1 a k := by
  have e : hf a = 5 := by
    have e : a = 321 ∨ a = 322 ∨ a = 323 ∨ a = 324 := by omega
    rcases e with rfl | rfl | rfl | rfl <;> rfl
  exact L a k (by omega) (by omega) (by omega) (by omega) (by omega) hb
theorem Low.p {M M' : Mem} (L : Low M M') {a k : Nat} (h1 : 330 ≤ a) (h2 : a ≤ 335) (hk : k < 8) : M'.1 a k = M.1 a k :=
  L.x a k (by omega) (by omega) (by omega) (by omega) (by rw [hf_p a (by omega) (by omega), if_pos h2]; exact hk)
theorem Low.f {M M' : Mem} (L : Low M M') {a k : Nat} (h1 : 336 ≤ a) (h2 : a ≤ 339) (hk : k < 80) : M'.1 a k = M.1 a k :=
  L.x a k (by omega) (by omega) (by omega) (by omega) (by rw [hf_p a (by omega) (by omega), if_neg (by omega)]; exact hk)
theorem Low.mok {M M' : Mem} (O : MOk M) (L : Low M M') : MOk M' := by
  obtain ⟨⟨⟨n0, m0⟩, ⟨n1, m1⟩, ⟨n2, m2⟩, ⟨n3, m3⟩, ⟨n4, m4⟩, ⟨n5, m5⟩⟩, hC, hF, hS, hK, hB, hP, hm, hR⟩ := O
  have c : ∀ s, s < 6 → M'.1 313 s = M.1 313 s := fun s hs => L.x 313 s (by omega) (by omega) (by omega) (by omega) hs
  refine ⟨⟨⟨?_, ?_⟩, ⟨?_, ?_⟩, ⟨?_, ?_⟩, ⟨?_, ?_⟩, ⟨?_, ?_⟩, ⟨?_, ?_⟩⟩, fun j hj => ?_, fun j hj => ?_, fun j hj => ?_, fun j hj => ?_, fun j hj => ?_, fun j hj => ?_, fun j hj => ?_, ?_⟩
  · rw [c 0 (by omega), L.cn (by omega)]; exact n0
  · rw [L.cn (by omega)]; exact m0
  · rw [c 1 (by omega), L.cn (by omega)]; exact n1
  · rw [L.cn (by omega)]; exact m1
  · rw [c 2 (by omega), L.cn (by omega)]; exact n2
  · rw [L.cn (by omega)]; exact m2
  · rw [c 3 (by omega), L.cn (by omega)]; exact n3
  · rw [L.cn (by omega)]; exact m3
  · rw [c 4 (by omega), L.cn (by omega)]; exact n4
  · rw [L.cn (by omega)]; exact m4
  · rw [c 5 (by omega), L.cn (by omega)]; exact n5
  · rw [L.cn (by omega)]; exact m5
  · rw [L.cn (by omega)] at hj
    have e1 : M'.1 317 j = M.1 317 j := L.x 317 j (by omega) (by omega) (by omega) (by omega) (show j < 5 by omega)
    have e2 : M'.1 318 j = M.1 318 j := L.x 318 j (by omega) (by omega) (by omega) (by omega) (show j < 5 by omega)
    rw [e1, e2]; exact hC j hj
  · rw [L.cn (by omega)] at hj
    have e : ∀ i, i < 24 → M'.1 319 i = M.1 319 i := fun i hi => L.x 319 i (by omega) (by omega) (by omega) (by omega) hi
    rw [e (4 * j) (by omega), e (4 * j + 1) (by omega), e (4 * j + 2) (by omega), e (4 * j + 3) (by omega), L.cn (by omega)]
    exact hF j hj
  · rw [L.cn (by omega)] at hj
    have e : M'.1 320 j = M.1 320 j := L.x 320 j (by omega) (by omega) (by omega) (by omega) (show j < 4 by omega)
    rw [e]; exact hS j hj
  · rw [L.cn (by omega)] at hj
    have e : ∀ a i, a = 325 ∨ a = 326 → i < 15 → M'.1 a i = M.1 a i := fun a i ha hi => by
      rcases ha with rfl | rfl
      · exact L.x 325 i (by omega) (by omega) (by omega) (by omega) hi
      · exact L.x 326 i (by omega) (by omega) (by omega) (by omega) hi
    rw [L.k (a := 321) (by omega) (by omega) (by omega) (fun q => absurd q (by omega)), L.k (a := 322) (by omega) (by omega) (by omega) (fun _ => (hK j hj).2.1), L.k (a := 323) (by omega) (by omega) (by omega) (fun _ => (hK j hj).2.2.1), L.k (a := 324) (by omega) (by omega) (by omega) (fun q => absurd q (by omega)), L.pn (by omega)]
    obtain ⟨k1, k2, k3, k4, k5⟩ := hK j hj
    refine ⟨k1, k2, k3, k4, fun i hi => ?_⟩
    rw [e 325 _ (Or.inl rfl) (by omega), e 326 _ (Or.inr rfl) (by omega)]
    exact k5 i hi
  · rw [L.cn (by omega)] at hj
    have e1 : M'.1 327 j = M.1 327 j := L.x 327 j (by omega) (by omega) (by omega) (by omega) (show j < 3 by omega)
    have e2 : M'.1 328 j = M.1 328 j := L.x 328 j (by omega) (by omega) (by omega) (by omega) (show j < 3 by omega)
    obtain ⟨k1, k2, k3⟩ := hB j hj
    rw [e1, e2, L.bn (by omega), L.cn (by omega)]
    refine ⟨k1, k2, fun i hi => ?_⟩
    have e3 : M'.1 329 (7 * j + i) = M.1 329 (7 * j + i) := L.x 329 _ (by omega) (by omega) (by omega) (by omega) (show 7 * j + i < 21 by omega)
    rw [e3]; exact k3 i hi
  · rw [L.cn (by omega)] at hj
    obtain ⟨k1, k2, k3, k4, k5, k6, k7⟩ := hP j hj
    rw [L.p (a := 330) (by omega) (by omega) (by omega), L.p (a := 331) (by omega) (by omega) (by omega), L.p (a := 332) (by omega) (by omega) (by omega), L.p (a := 333) (by omega) (by omega) (by omega), L.p (a := 334) (by omega) (by omega) (by omega), L.p (a := 335) (by omega) (by omega) (by omega), L.fn (by omega), L.cn (s := 2) (by omega), L.cn (s := 1) (by omega), L.cn (s := 0) (by omega)]
    refine ⟨k1, k2, k3, k4, k5, k6, fun i hi => ?_⟩
    rw [L.f (a := 336) (by omega) (by omega) (by omega), L.f (a := 337) (by omega) (by omega) (by omega), L.f (a := 338) (by omega) (by omega) (by omega), L.f (a := 339) (by omega) (by omega) (by omega)]
    exact k7 i hi
  · rw [L.cn (by omega)] at hj
    rw [L.p (a := 330) (by omega) (by omega) (by omega), L.p (a := 330) (by omega) (by omega) (by omega)]
    exact hm j hj
  · have e : ∀ i, i < 4 → M'.1 314 i = M.1 314 i := fun i hi => L.x 314 i (by omega) (by omega) (by omega) (by omega) hi
    rw [e 0 (by omega), e 1 (by omega), e 2 (by omega), e 3 (by omega)]
    exact hR
theorem Low.told {M M' : Mem} {T : Nat} (O : MOk M) (L : Low M M') (R : RTold M T) (w : ∀ a, T ≤ a → a ≤ T + 70 → M'.1 a = M.1 a) : RTold M' T := by
  obtain ⟨⟨⟨n0, m0⟩, ⟨n1, m1⟩, ⟨n2, m2⟩, ⟨n3, m3⟩, ⟨n4, m4⟩, ⟨n5, m5⟩⟩, -, -, -, hK, hB, hP, -⟩ := O
  obtain ⟨⟨r0, r1, r2, r3, r4, r5⟩, rC, rS, rK, rB, rP, rR⟩ := R
  have c : ∀ s, s < 6 → M'.1 313 s = M.1 313 s := fun s hs => L.x 313 s (by omega) (by omega) (by omega) (by omega) hs
  refine ⟨⟨?_, ?_, ?_, ?_, ?_, ?_⟩, fun j hj => ?_, fun j hj => ?_, fun j hj => ?_, fun j hj => ?_, fun j hj => ?_, fun j hj => ?_⟩
  · rw [c 0 (by omega), w T (by omega) (by omega)]; exact r0
  · rw [c 1 (by omega), w T (by omega) (by omega)]; exact r1
  · rw [c 2 (by omega), w T (by omega) (by omega)]; exact r2
  · rw [c 3 (by omega), w T (by omega) (by omega)]; exact r3
  · rw [c 4 (by omega), w T (by omega) (by omega)]; exact r4
  · rw [c 5 (by omega), w T (by omega) (by omega)]; exact r5
  · rw [L.cn (by omega)] at hj
    have e1 : M'.1 317 j = M.1 317 j := L.x 317 j (by omega) (by omega) (by omega) (by omega) (show j < 5 by omega)
    have e2 : M'.1 318 j = M.1 318 j := L.x 318 j (by omega) (by omega) (by omega) (by omega) (show j < 5 by omega)
    rw [e1, e2, w _ (by omega) (by omega), w _ (by omega) (by omega)]; exact rC j hj
  · rw [L.cn (by omega)] at hj
    have e : M'.1 320 j = M.1 320 j := L.x 320 j (by omega) (by omega) (by omega) (by omega) (show j < 4 by omega)
    rw [e, w _ (by omega) (by omega)]; exact rS j hj
  · rw [L.cn (by omega)] at hj
    have e : ∀ a i, a = 325 ∨ a = 326 → i < 15 → M'.1 a i = M.1 a i := fun a i ha hi => by
      rcases ha with rfl | rfl
      · exact L.x 325 i (by omega) (by omega) (by omega) (by omega) hi
      · exact L.x 326 i (by omega) (by omega) (by omega) (by omega) hi
    have p3 := (hK j hj).2.2.2.1.2.2
    rw [L.k (a := 321) (by omega) (by omega) (by omega) (fun q => absurd q (by omega)), L.k (a := 322) (by omega) (by omega) (by omega) (fun _ => (hK j hj).2.1), L.k (a := 323) (by omega) (by omega) (by omega) (fun _ => (hK j hj).2.2.1), L.k (a := 324) (by omega) (by omega) (by omega) (fun q => absurd q (by omega)), L.pn (by omega), w (T + 10 + 3 * j) (by omega) (by omega), w (T + 11 + 3 * j) (by omega) (by omega), w (T + 12 + 3 * j) (by omega) (by omega)]
    obtain ⟨k1, k2, k3, k4, k5⟩ := rK j hj
    refine ⟨k1, k2, k3, k4, fun i hi => ?_⟩
    rw [e 325 _ (Or.inl rfl) (by omega), e 326 _ (Or.inr rfl) (by omega)]
    exact k5 i hi
  · rw [L.cn (by omega)] at hj
    have e1 : M'.1 327 j = M.1 327 j := L.x 327 j (by omega) (by omega) (by omega) (by omega) (show j < 3 by omega)
    have e2 : M'.1 328 j = M.1 328 j := L.x 328 j (by omega) (by omega) (by omega) (by omega) (show j < 3 by omega)
    have b7 := (hB j hj).2.1.2
    obtain ⟨k1, k2, k3⟩ := rB j hj
    rw [e1, e2, L.bn (by omega), w (T + 25 + 2 * j) (by omega) (by omega), w (T + 26 + 2 * j) (by omega) (by omega)]
    refine ⟨k1, k2, fun i hi => ?_⟩
    have e3 : M'.1 329 (7 * j + i) = M.1 329 (7 * j + i) := L.x 329 _ (by omega) (by omega) (by omega) (by omega) (show 7 * j + i < 21 by omega)
    rw [e3]; exact k3 i hi
  · rw [L.cn (by omega)] at hj
    have f10 := (hP j hj).2.2.2.2.2.1.2
    obtain ⟨k1, k2, k3, k4, k5, k6, k7⟩ := rP j hj
    rw [L.p (a := 330) (by omega) (by omega) (by omega), L.p (a := 331) (by omega) (by omega) (by omega), L.p (a := 332) (by omega) (by omega) (by omega), L.p (a := 333) (by omega) (by omega) (by omega), L.p (a := 334) (by omega) (by omega) (by omega), L.p (a := 335) (by omega) (by omega) (by omega), L.fn (by omega), w (T + 31 + 5 * j) (by omega) (by omega), w (T + 32 + 5 * j) (by omega) (by omega), w (T + 33 + 5 * j) (by omega) (by omega), w (T + 34 + 5 * j) (by omega) (by omega), w (T + 35 + 5 * j) (by omega) (by omega)]
    refine ⟨k1, k2, k3, k4, k5, k6, fun i hi => ?_⟩
    rw [L.f (a := 336) (by omega) (by omega) (by omega), L.f (a := 337) (by omega) (by omega) (by omega), L.f (a := 338) (by omega) (by omega) (by omega), L.f (a := 339) (by omega) (by omega) (by omega)]
    exact k7 i hi
  · have e : M'.1 314 j = M.1 314 j := L.x 314 j (by omega) (by omega) (by omega) (by omega) hj
    rw [e, w _ (by omega) (by omega)]; exact rR j hj
theorem Low.cc {M M' : Mem} (O : MOk M) (L : Low M M') : CC M' = CC M := by
  have m0 := O.1.1.2
  have m5 := O.1.2.2.2.2.2.2
  funext a b v
  exact propext (CC_cong (L.cn (by omega)) (L.cn (by omega)) (fun c hc => ⟨L.x 317 c (by omega) (by omega) (by omega) (by omega) (show c < 5 by omega), L.x 318 c (by omega) (by omega) (by omega) (by omega) (show c < 5 by omega)⟩) (fun f hf j hj => L.x 319 _ (by omega) (by omega) (by omega) (by omega) (show 4 * f + j < 24 by omega)) a b v)
theorem Low.ck {M M' : Mem} (O : MOk M) (L : Low M M') {p : Nat} (hp : p < Cn M 4) (s : Nat) : CK M' p s = CK M p s := by
  have m4 := O.1.2.2.2.2.1.2
  have f10 := (O.2.2.2.2.2.2.1 p hp).2.2.2.2.2.1.2
  have eN : ∀ k, k < 10 → ∀ m, NM M' (10 * p + k) m = NM M (10 * p + k) m := fun k hk m => by
    unfold NM qs qc qn
    rw [L.f (a := 336) (by omega) (by omega) (by omega), L.f (a := 337) (by omega) (by omega) (by omega), L.f (a := 338) (by omega) (by omega) (by omega), L.f (a := 339) (by omega) (by omega) (by omega)]
  funext a b v
  unfold CK
  rw [L.cc O, L.fn (by omega)]
  refine propext ⟨?_, ?_⟩
  · rintro (h | ⟨k, h1, h2, m, h3, h4⟩)
    · exact Or.inl h
    · rw [eN k (by omega)] at h4
      exact Or.inr ⟨k, h1, h2, m, h3, h4⟩
  · rintro (h | ⟨k, h1, h2, m, h3, h4⟩)
    · exact Or.inl h
    · refine Or.inr ⟨k, h1, h2, m, h3, ?_⟩
      rw [eN k (by omega)]
      exact h4
theorem Low.pr {M M' : Mem} (O : MOk M) (L : Low M M') {p : Nat} (hp : p < Cn M 4) : PR M' (kp M' p) = PR M (kp M p) := by
  have m4 := O.1.2.2.2.2.1.2
  have m2 := O.1.2.2.1.2
  have kk := (play_kind O hp).1
  have ek : kp M' p = kp M p := by unfold kp; rw [L.p (a := 331) (by omega) (by omega) (by omega)]
  have p3 := (O.2.2.2.2.1 (kp M p) kk).2.2.2.1.2.2
  have e : ∀ a i, a = 325 ∨ a = 326 → i < 15 → M'.1 a i = M.1 a i := fun a i ha hi => by
    rcases ha with rfl | rfl
    · exact L.x 325 i (by omega) (by omega) (by omega) (by omega) hi
    · exact L.x 326 i (by omega) (by omega) (by omega) (by omega) hi
  funext f s
  unfold PR
  rw [ek, L.pn (by omega)]
  refine propext ⟨?_, ?_⟩
  · rintro ⟨i, h1, h2, h3⟩
    unfold pf at h2
    unfold ps at h3
    rw [e 325 _ (Or.inl rfl) (by omega)] at h2
    rw [e 326 _ (Or.inr rfl) (by omega)] at h3
    exact ⟨i, h1, h2, h3⟩
  · rintro ⟨i, h1, h2, h3⟩
    refine ⟨i, h1, ?_, ?_⟩
    · unfold pf
      rw [e 325 _ (Or.inl rfl) (by omega)]; exact h2
    · unfold ps
      rw [e 326 _ (Or.inr rfl) (by omega)]; exact h3
theorem Low.vq {M M' : Mem} (O : MOk M) (L : Low M M') {p s : Nat} (hp : p < Cn M 4) (hs : s < 1024) : vq M' p s = vq M p s := by
  obtain ⟨d1, -, h1⟩ := vq_ref O hp hs
  obtain ⟨d2, -, h2⟩ := vq_ref (L.mok O) (by rw [L.cn (by omega)]; exact hp) hs
  rw [L.ck O hp, L.pr O hp] at h2
  exact h2.uniq h1
theorem Low.va {M M' : Mem} (O : MOk M) (L : Low M M') {p : Nat} (hp : p < Cn M 4) : vall M' p = vall M p := by
  have m4 := O.1.2.2.2.2.1.2
  have hF := (O.2.2.2.2.2.2.1 p hp).2.2.2.2.2.1.2
  have h2 := two_le hF
  have h1 : 1 ≤ 2 ^ Fn M p := Nat.one_le_two_pow
  unfold vall
  rw [L.fn (by omega), Low.vq O L hp (by omega)]
theorem Low.few {M M' : Mem} (O : MOk M) (L : Low M M') {p : Nat} (hp : p < Cn M 4) {r : Int32} (f : FewV M p r) : FewV M' p r := by
  have m4 := O.1.2.2.2.2.1.2
  have hF := (O.2.2.2.2.2.2.1 p hp).2.2.2.2.2.1.2
  have h2 := two_le hF
  unfold FewV at *
  rw [Low.va O L hp, L.fn (by omega)]
  rcases f with f | ⟨f1, m, e, b⟩
  · exact Or.inl f
  · exact Or.inr ⟨f1, m, e, b.cong (fun k hk => by rw [Low.vq O L hp (by omega)])⟩
theorem Low.left {M M' : Mem} (O : MOk M) (L : Low M M') {p : Nat} (hp : p < Cn M 4) {r : Int32} (f : LeftV M p r) : LeftV M' p r := by
  have m4 := O.1.2.2.2.2.1.2
  have em : ∀ s, mk M' p s = mk M p s := fun s => by unfold mk; rw [L.fn (by omega)]
  unfold LeftV at *
  rw [Low.vq O L hp (by omega), L.fn (by omega)]
  rcases f with f | ⟨f1, m, e, b⟩
  · exact Or.inl f
  · exact Or.inr ⟨f1, m, e, b.cong (fun k hk => by rw [em, Low.vq O L hp (mk_lt O hp k)])⟩
/-- what is told in both, told again by the lower halves -/
theorem Low.hb {M M' : Mem} {T : Nat} (h : TB M T ∧ Kept M T) (L : Low M M') (w : ∀ a, T ≤ a → a ≤ T + 70 → M'.1 a = M.1 a) : TB M' T ∧ Kept M' T := by
  obtain ⟨⟨hT, O, R, b⟩, K⟩ := h
  have tc := tt_208 hT
  have m4 := O.1.2.2.2.2.1.2
  obtain ⟨-, -, -, tr, -⟩ := tt_r hT
  refine ⟨⟨hT, L.mok O, L.told O R w, ?_⟩, fun p hp => ?_⟩
  · rw [L.cc O]
    exact b.cong (fun _ _ _ => Iff.rfl) (by rw [w (T + 3) (by omega) (by omega)]) (by rw [tr, w (T + 4) (by omega) (by omega)])
  · rw [L.cn (by omega)] at hp
    obtain ⟨k1, k2⟩ := K p hp
    rw [w (T + 31 + 5 * p) (by omega) (by omega)]
    refine ⟨?_, ?_⟩
    · rcases k1 with z | z
      · exact Or.inl z
      · exact Or.inr (L.few O hp z)
    · rcases k2 with z | z
      · exact Or.inl z
      · exact Or.inr (L.left O hp z)
