/-! THE BUILDER'S BEGINNING AND ITS TEXT AS A STRING -/
theorem init_f {M : Mem} (hc : 247 ≤ M.2.2.2) : ∃ M', f_J4_init_da8c8 (nn M) (nwA 11 0 4 M) = some M' ∧ Bc M 0 (nn M) [] M' := by
  obtain ⟨M1, e1⟩ : ∃ X, X = nwA 11 0 4 M := ⟨_, rfl⟩
  obtain ⟨n, en⟩ : ∃ n, n = nn M := ⟨_, rfl⟩
  obtain ⟨d1, -⟩ := dyo_nw (M := M) 11 0 4 hc
  have L1 : Lt M M1 := by rw [e1]; exact lt_nw hc
  have K1 : Mk M M1 1 4 := by rw [e1]; exact mk_nw _ _ _ _
  have i1 : M1.1 (nn M) = fun _ => 0 := by rw [e1]; exact nwA_Is
  have hc1 : 247 ≤ M1.2.2.2 := Nat.le_trans hc L1.1.1
  rw [← e1] at d1 ⊢
  rw [← en] at d1 i1 ⊢
  obtain ⟨M2, e2⟩ : ∃ X, X = nwA 22 16 16 M1 := ⟨_, rfl⟩
  obtain ⟨b, eb⟩ : ∃ b, b = nn M1 := ⟨_, rfl⟩
  obtain ⟨d2, l2⟩ := dyo_nw (M := M1) 22 16 16 hc1
  have L2 : Lt M1 M2 := by rw [e2]; exact lt_nw hc1
  have K2 : Mk M1 M2 1 16 := by rw [e2]; exact mk_nw _ _ _ _
  have i2 : M2.1 (nn M1) = fun _ => 0 := by rw [e2]; exact nwA_Is
  have nb : n ≠ nn M1 := d1.ne
  have r2 : M2.1 n = M1.1 n := by rw [e2]; exact nwA_I nb
  rw [← e2, ← eb] at d2 l2
  rw [← eb] at i2 nb
  have dn2 : dyo M2 n 11 := L2.1.dyo d1
  have u : f_J5_init_d00df n 16 M1 = some (setI (setR M2 n 0 b) n 1 0) := by
    unfold f_J5_init_d00df
    rw [gd_t (dq3 d1), if_neg (by decide), gd_t (by decide), bnd_e, show (16 : Int32).toNatClampNeg = 16 by decide, ← e2, ← eb]
    unfold f_J5_init_d00df_b14
    rw [gd_t (dq3 dn2), bnd_e]
    have L3 : Lt M2 (setR M2 n 0 b) := lt_R d1.1
    rw [gd_t (dq3 (L3.1.dyo dn2)), bnd_e]
  have L3 : Lt M2 (setI (setR M2 n 0 b) n 1 0) := (lt_R d1.1).tr (lt_I d1.1)
  have K3 : Mk M2 (setI (setR M2 n 0 b) n 1 0) 0 0 := ((EQ_R M2 0 b (by have := d1.1; omega)).mk).tr (EQ_I _ _ _ _).mk
  refine ⟨setI (setR M2 n 0 b) n 1 0, ?_, (L1.tr L2).tr L3, ((K1.tr K2).tr K3).le (by omega) (by omega), ?_, Nat.le_trans hc1 (L2.tr L3).1.1⟩
  · unfold f_J4_init_da8c8
    rw [gd_t (dq3 d1), u, clv_s]
    rfl
  · refine ⟨b, L3.1.dyo dn2, setI_s, ?_, by decide, fun _ h => (by cases h), ?_, fun z => nb z.symm, L3.1.dyo d2, Nat.zero_le _, ?_, fun k hk => absurd hk (Nat.not_lt_zero k), fun k => ?_⟩
    · rw [setI_n (Or.inr (by omega))]
      show M2.1 n 3 = nI 0
      rw [r2, i1]
      rfl
    · show (if n = n ∧ 0 = 0 then b else M2.2.2.1 n 0) = b
      rw [if_pos ⟨rfl, rfl⟩]
    · rw [L3.1.dl d2 l2]
      decide
    · rw [setI_n (Or.inl (fun z => nb z.symm))]
      show (-128 : Int32) ≤ M2.1 b k ∧ M2.1 b k ≤ 127
      rw [i2]
      show (-128 : Int32) ≤ 0 ∧ (0 : Int32) ≤ 127
      decide
/-- the string s holds the bytes l -/
def Str (M : Mem) (s : Nat) (l : List Nat) : Prop := dyo M s 10 ∧ M.1 s 1 = 0 ∧ l.length ≤ 600 ∧ (∀ b, b ∈ l → b < 128) ∧ ∃ a, M.2.2.1 s 0 = a ∧ dyo M a 22 ∧ dln M a = l.length ∧ ∀ k, k < l.length → M.1 a k = nI (l.getD k 0)
theorem rng_f {M : Mem} {n a : Nat} {l : List Nat} (hc : 247 ≤ M.2.2.2) (S : Sa M n a l) : ∃ o M', f_J7_copyOfRange_39247 a 0 (nI l.length) M = some (o, M') ∧ Lt M M' ∧ Mk M M' 1 1300 ∧ o = nn M ∧ dyo M' o 22 ∧ dln M' o = l.length ∧ (∀ k, k < l.length → M'.1 o k = nI (l.getD k 0)) ∧ (∀ q, q ≠ o → M'.1 q = M.1 q) ∧ ∀ q, q ≠ o → q ≠ 0 → M'.2.2.1 q = M.2.2.1 q := by
  obtain ⟨d, s1, s3, sl, sb, ea, an, da, la, lb, sv, sy⟩ := S
  obtain ⟨o, eo⟩ : ∃ o, o = nn M := ⟨_, rfl⟩
  have nao : a ≠ o := by rw [eo]; exact da.ne
  unfold f_J7_copyOfRange_39247
  rw [if_pos rfl, gd_t (dq3 da)]
  by_cases h : l.length = dln M a
  · rw [if_pos (by rw [ofN, h])]
    obtain ⟨M1, e1⟩ : ∃ X, X = nwA 22 (dln M a) (dln M a) M := ⟨_, rfl⟩
    obtain ⟨d1, l1⟩ := dyo_nw (M := M) 22 (dln M a) (dln M a) hc
    have L1 : Lt M M1 := by rw [e1]; exact lt_nw hc
    have K1 : Mk M M1 1 (dln M a) := by rw [e1]; exact mk_nw _ _ _ _
    have r1 : ∀ q, q ≠ o → M1.1 q = M.1 q := fun q h => by rw [e1]; exact nwA_I (by rw [← eo]; exact h)
    have t1 : ∀ q, q ≠ o → q ≠ 0 → M1.2.2.1 q = M.2.2.1 q := fun q h h0 => by rw [e1]; exact nwA_R (by rw [← eo]; exact h) h0
    rw [← e1, ← eo] at d1 l1
    refine ⟨o, cpRow a o M1, ?_, L1.tr (lt_cpRow d1.1), (K1.tr (EQ_cpRow _ _ _).mk).le (by omega) (by omega), eo, (EQ_cpRow a o M1).dyo d1, by rw [(EQ_cpRow a o M1).dlq, l1, h], fun k hk => ?_, fun q hq => ?_, t1⟩
    · refine (gd_t (fun i _ => sy i)).trans ?_
      rw [bnd_e, ← e1, ← eo]
      unfold f_J7_copyOfRange_39247_b21
      rw [gd_t (dq3 ((EQ_cpRow a o M1).dyo d1))]
    · rw [cpRow_s, r1 a nao]
      exact sv k hk
    · rw [cpRow_n hq]
      exact r1 q hq
  · have hne : ¬ nI l.length = Int32.ofNat (dln M a) := fun z => h (inj_nI (by omega) (by omega) z)
    rw [if_neg hne]
    obtain ⟨M1, e1⟩ : ∃ X, X = nwA 22 l.length l.length M := ⟨_, rfl⟩
    obtain ⟨d1, l1⟩ := dyo_nw (M := M) 22 l.length l.length hc
    have L1 : Lt M M1 := by rw [e1]; exact lt_nw hc
    have K1 : Mk M M1 1 l.length := by rw [e1]; exact mk_nw _ _ _ _
    have r1 : ∀ q, q ≠ o → M1.1 q = M.1 q := fun q h => by rw [e1]; exact nwA_I (by rw [← eo]; exact h)
    have t1 : ∀ q, q ≠ o → q ≠ 0 → M1.2.2.1 q = M.2.2.1 q := fun q h h0 => by rw [e1]; exact nwA_R (by rw [← eo]; exact h) h0
    rw [← e1, ← eo] at d1 l1
    have da1 : dyo M1 a 22 := L1.1.dyo da
    have dl1 : dln M1 a = dln M a := L1.1.dl da rfl
    have cl : (nI l.length).toNatClampNeg = l.length := nI_clamp (by omega)
    have z0 : nI l.length - 0 = nI l.length := by
      show nI l.length - nI 0 = _
      rw [nI_sub (Nat.zero_le _), Nat.sub_zero]
    have em : min32 (Int32.ofNat (dln M1 a) - 0) (nI l.length) = nI l.length := by
      rw [ofN, dl1, show nI (dln M a) - 0 = nI (dln M a) from (show nI (dln M a) - nI 0 = _ by rw [nI_sub (Nat.zero_le _), Nat.sub_zero]), min_nI (by omega) (by omega), show min (dln M a) l.length = l.length by omega]
    have cb : f_J7_copyOfRangeByte_39247 a 0 (nI l.length) M = some (o, cpG M1 a o 0 0 l.length) := by
      unfold f_J7_copyOfRangeByte_39247 f_J7_checkLength_df160
      rw [if_pos (nI_pos' (by omega)), clv_s, z0, bnd_e]
      refine (gd_t ⟨nI_pos (by omega), by rw [cl]; omega⟩).trans ?_
      rw [bnd_e, cl, ← e1, ← eo]
      unfold f_J7_copyOfRangeByte_39247_b12
      rw [gd_t (dq3 da1), gd_t (dq3 d1), em, cl0]
      refine (gd_t (by decide)).trans ((gd_t (nI_pos (by omega))).trans ((gd_t (by rw [cl]; omega)).trans ((gd_t (by rw [cl]; omega)).trans ((gd_t (fun i _ => by rw [r1 a nao]; exact sy _)).trans ?_))))
      rw [bnd_e, cl]
    have L2 : Lt M1 (cpG M1 a o 0 0 l.length) := lt_cpG d1.1
    refine ⟨o, cpG M1 a o 0 0 l.length, ?_, L1.tr L2, (K1.tr (EQ_cpG _ _ _ _ _ _).mk).le (by omega) (by omega), eo, L2.1.dyo d1, L2.1.dl d1 l1, fun k hk => ?_, fun q hq => ?_, t1⟩
    · unfold f_J7_copyOfRange_39247_b10
      rw [cb, cl_s]
      rfl
    · show (if o = o then va_cpy (M1.1 a) (M1.1 o) 0 0 l.length else M1.1 o) k = _
      rw [if_pos rfl]
      show (if 0 ≤ k ∧ k < 0 + l.length then M1.1 a (0 + (k - 0)) else M1.1 o k) = _
      rw [if_pos ⟨Nat.zero_le _, by omega⟩, r1 a nao, Nat.zero_add, Nat.sub_zero]
      exact sv k hk
    · show (if q = o then _ else M1.1 q) = _
      rw [if_neg hq]
      exact r1 q hq
theorem toStr_f {M : Mem} {n : Nat} {l : List Nat} (hc : 247 ≤ M.2.2.2) (S : Sb M n l) : ∃ s M', f_J4_toString_0e30d n M = some (s, M') ∧ Lt M M' ∧ Mk M M' 2 1304 ∧ Str M' s l := by
  obtain ⟨a, S⟩ := S
  obtain ⟨d, s1, s3, sl, sb, ea, an, da, la, lb, sv, sy⟩ := S
  obtain ⟨M1, e1⟩ : ∃ X, X = nwA 10 0 4 M := ⟨_, rfl⟩
  obtain ⟨s, es⟩ : ∃ s, s = nn M := ⟨_, rfl⟩
  obtain ⟨d1, -⟩ := dyo_nw (M := M) 10 0 4 hc
  have L1 : Lt M M1 := by rw [e1]; exact lt_nw hc
  have K1 : Mk M M1 1 4 := by rw [e1]; exact mk_nw _ _ _ _
  have r1 : ∀ q, q ≠ s → M1.1 q = M.1 q := fun q h => by rw [e1]; exact nwA_I (by rw [← es]; exact h)
  have t1 : ∀ q, q ≠ s → q ≠ 0 → M1.2.2.1 q = M.2.2.1 q := fun q h h0 => by rw [e1]; exact nwA_R (by rw [← es]; exact h) h0
  have ns : n ≠ s := by rw [es]; exact d.ne
  have as : a ≠ s := by rw [es]; exact da.ne
  rw [← e1, ← es] at d1
  have dn1 : dyo M1 n 11 := L1.1.dyo d
  obtain ⟨M2, e2⟩ : ∃ X, X = setI M1 s 1 0 := ⟨_, rfl⟩
  have L2 : Lt M1 M2 := by rw [e2]; exact lt_I d1.1
  have r2 : ∀ q, q ≠ s → M2.1 q = M1.1 q := fun q h => by rw [e2]; exact funext (fun k => setI_n (Or.inl h))
  have n0 : n ≠ 0 := by have := d.1; omega
  have S2 : Sa M2 n a l := by
    refine ⟨L2.1.dyo dn1, by rw [r2 n ns, r1 n ns]; exact s1, by rw [r2 n ns, r1 n ns]; exact s3, sl, sb, ?_, an, L2.1.dyo (L1.1.dyo da), ?_, ?_, fun k hk => by rw [r2 a as, r1 a as]; exact sv k hk, fun k => by rw [r2 a as, r1 a as]; exact sy k⟩
    · rw [e2]
      show M1.2.2.1 n 0 = a
      rw [t1 n ns n0]
      exact ea
    · rw [L2.1.dl (L1.1.dyo da) (L1.1.dl da rfl)]
      exact la
    · rw [L2.1.dl (L1.1.dyo da) (L1.1.dl da rfl)]
      exact lb
  have hc2 : 247 ≤ M2.2.2.2 := Nat.le_trans hc (L1.tr L2).1.1
  obtain ⟨o, M3, h1, L3, K3, eo, d3, l3, v3, r3, t3⟩ := rng_f hc2 S2
  have d2s : dyo M2 s 10 := L2.1.dyo d1
  have so : s ≠ o := by rw [eo]; exact d2s.ne
  have d3s : dyo M3 s 10 := L3.1.dyo d2s
  have L4 : Lt M3 (setR M3 s 0 o) := lt_R d1.1
  have len : f_J4_length_8abf5 n M1 = some (nI l.length, M1) := by
    unfold f_J4_length_8abf5 f_J5_length_8abf5
    rw [gd_t (dq3 dn1), gd_t (dq3 dn1), cl_s, r1 n ns, s3]
  have val : f_J5_getValue_6d5f1 n M1 = some (a, M1) := by
    unfold f_J5_getValue_6d5f1
    rw [gd_t (dq3 dn1), t1 n ns n0, ea]
  have i4 : f_J0_init_db425 s n 0 M1 = some (setR M3 s 0 o) := by
    unfold f_J0_init_db425
    rw [gd_t (dq3 d1), gd_t (dq3 dn1), val, cl_s, len, cl_s, lat1 dn1 (by rw [r1 n ns]; exact s1), cl_s, if_neg (by decide), bnd_e, ← e2, h1, cl_s]
    unfold f_J0_init_db425_b35
    rw [gd_t (dq3 d3s), bnd_e]
  refine ⟨s, setR M3 s 0 o, ?_, ((L1.tr L2).tr L3).tr L4, (((K1.tr (by rw [e2]; exact (EQ_I _ _ _ _).mk : Mk M1 M2 0 0)).tr K3).tr (EQ_R M3 0 o (by have := d1.1; omega)).mk).le (by omega) (by omega), L4.1.dyo d3s, ?_, sl, sb, o, ?_, L4.1.dyo d3, L4.1.dl d3 l3, fun k hk => v3 k hk⟩
  · unfold f_J4_toString_0e30d
    rw [bnd_e, ← e1, ← es]
    unfold f_J4_toString_0e30d_b3 f_J0_init_81219
    rw [gd_t (dq3 d1), gd_t (dq3 d1), i4, clv_s]
    rfl
  · show M3.1 s 1 = 0
    rw [r3 s so, e2, setI_s]
  · show (if s = s ∧ 0 = 0 then o else M3.2.2.1 s 0) = o
    rw [if_pos ⟨rfl, rfl⟩]
