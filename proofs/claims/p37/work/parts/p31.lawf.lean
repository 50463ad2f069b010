/-! THE LAW SAYS YES -/
theorem law_f {N : Nat} {xs : Nat → Int32} (hN : N < 2 ^ 30) : ∃ M', f_L_law_b8 N xs mmS = some (1, M') ∧ GX mmS M' ∧ Mk mmS M' 14000 700000 := by
  have hs := smN_ok N xs
  have h := inv_0.1
  have z4 : Cn mmS 4 = 0 := s_Cn 4 (by omega)
  obtain ⟨M1, e1, I1, T1, G1, K1⟩ := begins_f (xs := xs) hN inv_0 (Nat.le_refl 247) s_oth.1.1 s_oth.2.1.1
  have c1 : 247 ≤ M1.2.2.2 := Nat.le_trans (Nat.le_refl 247) G1.1
  obtain ⟨M2, e2, P2, K2⟩ := areClocks_f (xs := xs) hN I1.1 T1 c1
  have T2 := T1.dat P2.2.1
  have h3 := (s_c7 hs).2
  unfold f_L_law_b8
  rw [an_verdictE h z4, cl_s, if_pos rfl, an_wrongE h z4, cl_s, if_pos rfl, an_gapE h z4, cl_s, if_pos rfl, e1, cl_s]
  unfold f_L_law_b43
  rw [if_neg (by decide), e2, cl_s]
  unfold f_L_law_b51
  rw [if_neg (by decide)]
  refine lp_inv (s := f_L_law_b58_s N xs) (fun i a f => f (nI i) a) (fun i a => HB a ∧ TolS (smN N xs) a ∧ GX mmS a ∧ Mk mmS a (403 + 3300 * i) (600009 + 13000 * i)) (fun r => ∃ M', r = some (1, M') ∧ GX mmS M' ∧ Mk mmS M' 14000 700000) (snp (smN N xs)) (fun i hi a P f => Or.inr ?_) (fun a P f => ?_) fuel (show snp (smN N xs) < 5000 by omega) M2 ⟨P2.1, T2, G1.tr P2.2.2.1, (K1.tr K2).le (by omega) (by omega)⟩
  · obtain ⟨a1, a2, a3, a4⟩ := P
    obtain ⟨b, ⟨l1, l2, l3, l4⟩, e⟩ := playl_f (xs := xs) hN a1 a2 (Nat.le_trans (Nat.le_refl 247) a3.1) (show i < Cn a 4 by rw [(d_cn hs a2).2.2.1]; exact hi) f
    exact ⟨b, ⟨l1, a2.dat l2, a3.tr l3, (a4.tr l4).le (by omega) (by omega)⟩, e⟩
  · obtain ⟨a1, a2, a3, a4⟩ := P
    obtain ⟨q3, -, q4, -⟩ := d_cn hs a2
    show ∃ M', f_L_law_b58_s N xs f (nI (snp (smN N xs))) a = some (1, M') ∧ _
    unfold f_L_law_b58_s
    rw [an_count5 a1, cl_s, q4, if_pos (Int32.le_refl _)]
    obtain ⟨r1, b1, f1, v1, k1, o1⟩ := an_verdict11 a1 (p := 0) (by omega)
    have d1 : Dat a b1 := fun c c1 _ _ => o1.far a1 c1
    rw [show f_X10_verdict 0 11 a = some (r1, b1) from f1, cl_s, if_pos v1]
    obtain ⟨r2, b2, f2, v2, k2, o2⟩ := an_by8 k1 (by rw [Cn_dat d1]; exact q3) (p := 0) (by rw [Cn_dat d1]; omega)
    rw [show f_X10_by 0 8 b1 = some (r2, b2) from f2, cl_s, if_pos v2, an_fewest99 k2, cl_s, if_pos rfl]
    have x1 : EQ a b1 := ⟨by rw [o1.1], by rw [o1.1]⟩
    have x2 : EQ b1 b2 := ⟨by rw [o2.1], by rw [o2.1]⟩
    exact ⟨b2, rfl, a3.tr (x1.gx.tr x2.gx), ((a4.tr x1.mk).tr x2.mk).le (by omega) (by omega)⟩
