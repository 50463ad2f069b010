/-! THE RELATION WHEN ALL IS MADE -/
/-- the memory behind the constructors; the constants' rows, which no cell holds, as the shape has them; the ghost's rules as the class has them -/
def mmS : Mem := (fun n => if n = 314 then mm540.1 75 else mm540.1 n, mm540.2.1, fun n k => if n < 64 then cr n k else mm540.2.2.1 n k, 247)
set_option maxRecDepth 100000 in
theorem cr_all : ∀ q, q < 247 → ∀ k, k < (crT.getD q []).length → (crT.getD q []).getD k 0 = 0 ∨ mm540.2.2.1 (q + 64) k = (crT.getD q []).getD k 0 := by decide +kernel
theorem crT_len : crT.length ≤ 247 := by decide +kernel
theorem mmS_cr : ∀ n k, cr n k ≠ 0 → mmS.2.2.1 n k = cr n k := by
  intro n k h
  show (if n < 64 then cr n k else mm540.2.2.1 n k) = cr n k
  by_cases c : n < 64
  · rw [if_pos c]
  · rw [if_neg c]
    have hq : n - 64 < 247 := by
      rcases Nat.lt_or_ge (n - 64) 247 with h1 | h1
      · exact h1
      · exfalso
        apply h
        unfold cr
        rw [List.getD_eq_getElem?_getD (l := crT), List.getElem?_eq_none (Nat.le_trans crT_len h1)]
        rfl
    have hk : k < (crT.getD (n - 64) []).length := by
      rcases Nat.lt_or_ge k (crT.getD (n - 64) []).length with h1 | h1
      · exact h1
      · exfalso
        apply h
        unfold cr
        rw [List.getD_eq_getElem?_getD (l := crT.getD (n - 64) []), List.getElem?_eq_none h1]
        rfl
    have h1 := cr_all (n - 64) hq k hk
    rw [show n - 64 + 64 = n by omega] at h1
    exact h1.resolve_left h
set_option maxRecDepth 100000 in
theorem s_313 : ∀ s, s < 6 → mmS.1 313 s = 0 := by decide +kernel
set_option maxRecDepth 100000 in
theorem s_314 : (0 ≤ (mmS.1 314 0).toInt ∧ (mmS.1 314 0).toInt ≤ 999) ∧ (0 ≤ (mmS.1 314 1).toInt ∧ (mmS.1 314 1).toInt ≤ 9) ∧ (0 ≤ (mmS.1 314 2).toInt ∧ (mmS.1 314 2).toInt ≤ 1000) ∧ (0 ≤ (mmS.1 314 3).toInt ∧ (mmS.1 314 3).toInt ≤ 9) := by decide +kernel
set_option maxRecDepth 100000 in
theorem s_cnt : mmS.1 66 0 = mmS.1 313 0 ∧ mmS.1 66 5 = mmS.1 313 1 ∧ mmS.1 66 7 = mmS.1 313 2 ∧ mmS.1 66 9 = mmS.1 313 3 ∧ mmS.1 66 11 = mmS.1 313 4 ∧ mmS.1 66 3 = mmS.1 313 5 := by decide +kernel
set_option maxRecDepth 100000 in
theorem s_rul : ∀ k, k < 4 → mmS.1 75 k = mmS.1 314 k := by decide +kernel
set_option maxRecDepth 100000 in
theorem s_bnd : ∀ i, i < 100 → mmS.1 70 i = if i % 11 = 0 then 0 else 268435456 := by decide +kernel
set_option maxRecDepth 100000 in
theorem s_day : (mmS.1 217 0 = 0 ∧ mmS.1 217 1 = 0 ∧ mmS.1 217 2 = 0 ∧ mmS.1 217 3 = 0 ∧ mmS.1 217 9 = 0) ∧ (∀ k, k < 114 → mmS.1 340 k = 0) ∧ (∀ k, k < 4 → mmS.1 219 k = 0 ∧ mmS.1 220 k = 0) ∧ ∀ k, k < 8 → mmS.1 221 k = 0 := by decide +kernel
set_option maxRecDepth 100000 in
theorem s_oth : (mmS.1 64 1 = 0 ∧ mmS.1 64 8 = 0 ∧ mmS.1 64 9 = 0 ∧ mmS.1 64 13 = 0) ∧ (mmS.1 311 2 = 0 ∧ mmS.1 311 40 = 0 ∧ mmS.1 311 46 = 0 ∧ mmS.1 69 1 = 0) ∧ (∀ i, i < 2 → mmS.1 225 i = 0 ∧ mmS.1 343 i = 0) ∧ mmS.2.2.1 64 2 = 66 ∧ mmS.2.2.1 64 3 = 137 := by decide +kernel
theorem s_Cn : ∀ s, s < 6 → Cn mmS s = 0 := fun s hs => by
  unfold Cn
  rw [s_313 s hs]
  rfl
theorem s_CC : CC mmS = fun _ _ _ => False := by
  funext a b v
  apply propext
  constructor
  · rintro (⟨c, hc, -⟩ | ⟨f, hf, -⟩)
    · rw [s_Cn 0 (by omega)] at hc; omega
    · rw [s_Cn 5 (by omega)] at hf; omega
  · exact fun h => h.elim
theorem s_70 : mmS.1 70 = dgo 10 (fil 100 268435456 100 (mmS.1 70)) := by
  funext i
  show mmS.1 70 i = if i % 11 = 0 ∧ i / 11 < 10 then 0 else if i < 100 then 268435456 else mmS.1 70 i
  by_cases h : i < 100
  · rw [if_pos h, s_bnd i h]
    by_cases c : i % 11 = 0
    · rw [if_pos c, if_pos ⟨c, by omega⟩]
    · rw [if_neg c, if_neg (fun z => c z.1)]
  · rw [if_neg (by omega), if_neg h]
theorem s_cell : cr 69 0 = 70 := by decide +kernel
theorem inv_0 : Inv mmS := by
  have et : tld mmS = 66 := s_oth.2.2.2.1
  have n0 : ∀ s, s < 6 → mmS.1 313 s = nI (Cn mmS s) := fun s hs => by rw [s_313 s hs, s_Cn s hs]; rfl
  have c0 : ∀ s, s < 6 → ∀ c, ¬ c < Cn mmS s := fun s hs c => by rw [s_Cn s hs]; omega
  have O : MOk mmS := by
    refine ⟨⟨⟨n0 0 (by omega), ?_⟩, ⟨n0 1 (by omega), ?_⟩, ⟨n0 2 (by omega), ?_⟩, ⟨n0 3 (by omega), ?_⟩, ⟨n0 4 (by omega), ?_⟩, ⟨n0 5 (by omega), ?_⟩⟩, fun c hc => absurd hc (c0 0 (by omega) c), fun f hf => absurd hf (c0 5 (by omega) f), fun k hk => absurd hk (c0 1 (by omega) k), fun k hk => absurd hk (c0 2 (by omega) k), fun b hb => absurd hb (c0 3 (by omega) b), fun p hp => absurd hp (c0 4 (by omega) p), fun p hp => absurd hp (c0 4 (by omega) _), s_314⟩
    all_goals (rw [s_Cn _ (by omega)]; omega)
  have R : RTold mmS 66 := by
    refine ⟨s_cnt, fun c hc => absurd hc (c0 0 (by omega) c), fun k hk => absurd hk (c0 1 (by omega) k), fun k hk => absurd hk (c0 2 (by omega) k), fun b hb => absurd hb (c0 3 (by omega) b), fun p hp => absurd hp (c0 4 (by omega) p), fun k hk => s_rul k hk⟩
  have B : BB (CC mmS) mmS (66 + 3) := by
    refine Or.inl ⟨s_oth.2.1.2.2.2, ?_⟩
    rw [show (66 + 3 : Nat) = 69 from rfl, s_cell, s_CC, s_70]
    exact dini_ok _
  have hb : HB mmS := by
    unfold HB
    rw [et]
    exact ⟨⟨Or.inl rfl, O, R, B⟩, fun p hp => absurd hp (c0 4 (by omega) p)⟩
  obtain ⟨⟨d0, d1, d2, d3, d9⟩, ds, d4, d5⟩ := s_day
  obtain ⟨⟨o1, o8, o9, o13⟩, ⟨q2, q40, q46, -⟩, ok, or2, or3⟩ := s_oth
  refine ⟨hb, ⟨⟨0, Nat.zero_le _, d0, ds 0 (by omega), 0, 0, 0, ⟨by omega, by omega, by omega⟩, ⟨d1, d2, d3⟩, fun p hp => absurd hp (by omega), fun p _ h8 => ⟨Nat.zero_testBit p, Nat.zero_testBit p, ds _ (by omega), ds _ (by omega), ds _ (by omega)⟩⟩, fun k hk => ?_, fun k hk => ?_, fun p hp => ?_, ⟨0, by omega, d9, ds 49 (by omega)⟩, fun k hk => ?_⟩, ⟨0, 0, fun _ _ => 0, ⟨o8, o9, by omega, by omega, fun j hj => absurd hj (by omega)⟩, ⟨q40, by omega, fun j hj => absurd hj (by omega)⟩⟩, fun i hi => Or.inl (ok i hi), ⟨⟨0, by omega, o1, q2, fun k hk => absurd hk (by omega)⟩, ⟨0, by omega, o13, q46, fun k hk => absurd hk (by omega)⟩, by rw [or2, or3]⟩⟩
  · rw [ds _ (by omega)]
    exact ⟨(d4 k hk).1, by decide, by decide⟩
  · rw [ds _ (by omega)]
    exact (d4 k hk).2
  · rw [ds _ (by omega)]
    exact d5 p hp
  · rw [d9, ds _ (by omega)]
    exact Or.inl (Nat.zero_le _)
