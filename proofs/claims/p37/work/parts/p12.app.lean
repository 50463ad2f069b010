/-! APPENDING -/
def lsT : List (List Nat) := [[99, 97, 109, 101, 114, 97, 32, 99], [32], [59], [102, 108, 97, 115, 104, 32, 99], [32, 99], [115, 105, 100, 101, 32, 115, 97, 32], [59, 115, 105, 100, 101, 32, 115, 98, 32], [107, 105, 110, 100, 32, 107], [32, 102, 111, 114, 99, 101, 100], [32, 97, 103, 97, 105, 110], [32, 98, 101, 102, 111, 114, 101, 32], [32, 97, 110, 100, 32, 48, 32, 98, 101, 102, 111, 114, 101, 32], [98, 111, 97, 114, 100, 32, 98, 97, 32], [40, 99, 97, 41, 40, 99, 98, 41, 40, 99, 99, 41, 59, 98, 111, 97, 114, 100, 32, 98, 98, 32], [40, 99, 97, 32, 99, 98, 41, 40, 99, 98, 32, 99, 99, 41, 40, 99, 97, 32, 99, 98, 32, 99, 99, 41, 59], [112, 108, 97, 121, 32, 112], [32, 107], [32, 115], [32, 121, 101, 115], [32, 110, 111], [33], [63], [108, 105, 109, 105, 116, 32], [59, 98, 111, 110, 117, 115, 32], [59, 108, 97, 115, 116, 32], [59, 119, 105, 110, 100, 111, 119, 32]]
def lsN (i : Nat) : List Nat := lsT.getD i []
theorem lsN_ok : ∀ i, i < 26 → (lsN i).length = lsL.getD i 0 ∧ (∀ k, k < lsL.getD i 0 → (lsBy.getD i []).getD k 0 = nI ((lsN i).getD k 0)) ∧ (∀ b, b ∈ lsN i → b < 128) ∧ (lsN i).length ≤ 25 := by decide +kernel
theorem coderK {n : Nat} (h : 400 ≤ n ∧ n < 426) (M : Mem) : f_J0_coder_7d493K n M = some (0, M) := by
  unfold f_J0_coder_7d493K
  rw [if_neg (by decide), gd_t h]
theorem lenK {i : Nat} (hi : i < 26) (M : Mem) : f_J0_length_8abf5K (400 + i) M = some (nI (lsN i).length, M) := by
  unfold f_J0_length_8abf5K
  rw [gd_t ⟨by omega, by omega⟩, coderK ⟨by omega, by omega⟩, cl_s, shr0, show 400 + i + 50 - 450 = i by omega, ofN, (lsN_ok i hi).1]
theorem lat1 {M : Mem} {n : Nat} (d : dyo M n 11) (s1 : M.1 n 1 = 0) : f_J5_isLatin1_aae02 n M = some (1, M) := by
  unfold f_J5_isLatin1_aae02
  rw [if_neg (by decide), gd_t (dq3 d), if_pos s1]
theorem Sa.dy {M : Mem} {n a : Nat} {l : List Nat} (S : Sa M n a l) : dyo M n 11 := S.1
theorem Sb.dy {M : Mem} {n : Nat} {l : List Nat} (S : Sb M n l) : dyo M n 11 := by
  obtain ⟨a, S⟩ := S
  exact S.1
theorem Sb.le {M : Mem} {n : Nat} {l : List Nat} (S : Sb M n l) : l.length ≤ 600 := by
  obtain ⟨a, S⟩ := S
  exact S.2.2.2.1
/-- the row's end is written: new bytes x -/
theorem Sa.ext {M M1 M2 : Mem} {n a : Nat} {l x : List Nat} (S : Sa M n a l) (L : Lt M M1) (e1 : M1.1 n = M.1 n) (et : M1.2.2.1 n = M.2.2.1 n) (hx : l.length + x.length ≤ dln M a) (h6 : l.length + x.length ≤ 600) (hb : ∀ b, b ∈ x → b < 128) (v : ∀ k, M1.1 a k = if l.length ≤ k ∧ k < l.length + x.length then nI (x.getD (k - l.length) 0) else M.1 a k) (e2 : M2 = setI M1 n 3 (nI (l.length + x.length))) : Sa M2 n a (l ++ x) := by
  obtain ⟨d, s1, s3, sl, sb, ea, an, da, la, lb, sv, sy⟩ := S
  have L2 : Lt M1 M2 := by rw [e2]; exact lt_I d.1
  have ra : M2.1 a = M1.1 a := by rw [e2]; exact funext (fun k => setI_n (Or.inl an))
  have dl : dln M2 a = dln M a := by rw [e2]; exact L.1.dl da rfl
  refine ⟨L2.1.dyo (L.1.dyo d), ?_, ?_, by rw [List.length_append]; exact h6, fun b hb2 => ?_, ?_, an, L2.1.dyo (L.1.dyo da), by rw [List.length_append, dl]; exact hx, by rw [dl]; exact lb, fun k hk => ?_, fun k => ?_⟩
  · rw [e2, setI_n (Or.inr (by omega)), e1]; exact s1
  · rw [e2, setI_s, List.length_append]
  · rcases List.mem_append.mp hb2 with h | h
    · exact sb b h
    · exact hb b h
  · rw [e2]
    show M1.2.2.1 n 0 = a
    rw [et]; exact ea
  · rw [List.length_append] at hk
    rw [ra, v]
    by_cases z : l.length ≤ k
    · rw [if_pos ⟨z, hk⟩, List.getD_eq_getElem?_getD, List.getD_eq_getElem?_getD, List.getElem?_append_right z]
    · rw [if_neg (fun q => z q.1), sv k (by omega), List.getD_eq_getElem?_getD, List.getD_eq_getElem?_getD, List.getElem?_append_left (by omega)]
  · rw [ra, v]
    split
    · have h1 : ∀ b, b < 128 → (-128 : Int32) ≤ nI b ∧ nI b ≤ 127 := by decide +kernel
      exact h1 _ (getD_all (P := fun b => b < 128) hb (by decide) _)
    · exact sy k
theorem aps_5 {M : Mem} {n i : Nat} {l : List Nat} (hc : 247 ≤ M.2.2.2) (S : Sb M n l) (hi : i < 26) (hl : l.length + (lsN i).length ≤ 600) : ∃ M', f_J5_append_cf1ce n (400 + i) M = some (n, M') ∧ Lt M M' ∧ Mk M M' 1 1300 ∧ Sb M' n (l ++ lsN i) := by
  obtain ⟨k1, k2, k3, k4⟩ := lsN_ok i hi
  have s3 : M.1 n 3 = nI l.length := by
    obtain ⟨a, S⟩ := S
    exact S.2.2.1
  obtain ⟨M2, q1, L2, K2, a, S2, la⟩ := ens_f hc S hl
  unfold f_J5_append_cf1ce
  rw [gd_t ⟨by omega, by omega⟩, lenK hi, cl_s, gd_t (dq3 S.dy), s3, nI_add, q1, clv_s]
  have S0 := S2
  obtain ⟨d, s1, s3', sl, sb, ea, an, da, -, lb, sv, sy⟩ := S2
  unfold f_J5_append_cf1ce_b24
  rw [gd_t (dq3 d), s3']
  obtain ⟨M3, e3⟩ : ∃ X, X = cpK (fun j => (lsBy.getD i []).getD j 0) a 0 l.length (lsN i).length M2 := ⟨_, rfl⟩
  have L3 : Lt M2 M3 := by rw [e3]; exact lt_cpK da.1
  have K3 : Mk M2 M3 0 0 := by rw [e3]; exact (EQ_cpK _ _ _ _ _ _).mk
  have r3 : ∀ q, q ≠ a → M3.1 q = M2.1 q := fun q h => by rw [e3]; exact cpK_n h
  have t3 : M3.2.2.1 = M2.2.2.1 := by rw [e3]; rfl
  have v3 : M3.1 a = va_cpy (fun j => (lsBy.getD i []).getD j 0) (M2.1 a) 0 l.length (lsN i).length := by rw [e3]; exact cpK_s
  have gb : f_J0_getBytes_840e7K (400 + i) a (nI l.length) 0 M2 = some M3 := by
    unfold f_J0_getBytes_840e7K
    rw [gd_t ⟨by omega, by omega⟩, coderK ⟨by omega, by omega⟩, cl_s, if_pos rfl, gd_t (dq3 da), shl0, show 400 + i + 50 - 450 = i by omega, show 400 + i - 400 = i by omega, ofN, ← k1, cl0]
    have c1 : (nI (lsN i).length).toNatClampNeg = (lsN i).length := nI_clamp (by omega)
    have c2 : (nI l.length).toNatClampNeg = l.length := nI_clamp (by omega)
    refine (gd_t (nI_pos (by omega))).trans ((gd_t (nI_pos (by omega))).trans ((gd_t (by rw [c1]; omega)).trans ((gd_t (by rw [c1, c2]; exact la)).trans ?_)))
    rw [bnd_e, c1, c2, e3]
  have ps : f_J5_putStringAt_47b60 n (nI l.length) (400 + i) M2 = some M3 := by
    unfold f_J5_putStringAt_47b60 f_J5_inflateIfNeededFor_a7421
    rw [gd_t (dq3 d), if_neg (by decide), gd_t (dq3 d), gd_t ⟨by omega, by omega⟩, coderK ⟨by omega, by omega⟩, cl_s, if_pos s1, clv_s, gd_t ⟨by omega, by omega⟩, ea, s1, gb, clv_s]
  rw [ps, clv_s]
  unfold f_J5_append_cf1ce_b33
  rw [gd_t (dq3 (L3.1.dyo d)), bnd_e]
  have n3 : M3.1 n 3 = nI l.length := by rw [r3 n an.symm]; exact s3'
  rw [n3, nI_add]
  refine ⟨_, rfl, (L2.tr L3).tr (lt_I d.1), ((K2.tr K3).tr (EQ_I _ _ _ _).mk).le (by omega) (by omega), a, S0.ext L3 (r3 n an.symm) (by rw [t3]) la hl k3 (fun k => ?_) rfl⟩
  rw [v3]
  show (if l.length ≤ k ∧ k < l.length + (lsN i).length then (lsBy.getD i []).getD (0 + (k - l.length)) 0 else M2.1 a k) = _
  by_cases z : l.length ≤ k ∧ k < l.length + (lsN i).length
  · rw [if_pos z, if_pos z, Nat.zero_add, k2 _ (by rw [← k1]; omega)]
  · rw [if_neg z, if_neg z]
theorem aps_f {M : Mem} {n i : Nat} {l : List Nat} (hc : 247 ≤ M.2.2.2) (S : Sb M n l) (hi : i < 26) (hl : l.length + (lsN i).length ≤ 600) : ∃ M', f_J4_append_15ec4 n (400 + i) M = some (n, M') ∧ Lt M M' ∧ Mk M M' 1 1300 ∧ Sb M' n (l ++ lsN i) := by
  obtain ⟨M', e, r⟩ := aps_5 hc S hi hl
  refine ⟨M', ?_, r⟩
  unfold f_J4_append_15ec4
  rw [gd_t (dq3 S.dy), e, cl_s]
  rfl
theorem chr_b : ∀ b, b < 128 → vp_nar .byte ((nI b).toInt8.toInt32) = nI b ∧ ¬ (255 : Int32) < nI b := by decide +kernel
theorem apc_5 {M : Mem} {n b : Nat} {l : List Nat} (hc : 247 ≤ M.2.2.2) (S : Sb M n l) (hb : b < 128) (hl : l.length + 1 ≤ 600) : ∃ M', f_J5_append_3fe6f n (nI b) M = some (n, M') ∧ Lt M M' ∧ Mk M M' 1 1300 ∧ Sb M' n (l ++ [b]) := by
  obtain ⟨k1, k2⟩ := chr_b b hb
  have s3 : M.1 n 3 = nI l.length := by
    obtain ⟨a, S⟩ := S
    exact S.2.2.1
  obtain ⟨M2, q1, L2, K2, a, S2, la⟩ := ens_f hc S hl
  unfold f_J5_append_3fe6f
  rw [gd_t (dq3 S.dy), s3, show nI l.length + 1 = nI (l.length + 1) from nI_add _ 1, q1, clv_s]
  have S0 := S2
  obtain ⟨d, s1, s3', sl, sb, ea, an, da, -, lb, sv, sy⟩ := S2
  unfold f_J5_append_3fe6f_b10
  rw [gd_t (dq3 d), lat1 d s1, cl_s, if_neg (by decide)]
  have ce : f_J1_canEncode_fc78d (nI b) M2 = some (1, M2) := by
    unfold f_J1_canEncode_fc78d
    rw [if_neg k2]
  rw [ce, cl_s, if_neg (by decide), bnd_e, ea, s3', show nI l.length + 1 = nI (l.length + 1) from nI_add _ 1, k1]
  obtain ⟨M3, e3⟩ : ∃ X, X = setI M2 n 3 (nI (l.length + 1)) := ⟨_, rfl⟩
  have L3 : Lt M2 M3 := by rw [e3]; exact lt_I d.1
  rw [← e3]
  have da3 : dyo M3 a 22 := L3.1.dyo da
  have dl3 : dln M3 a = dln M2 a := L3.1.dl da rfl
  rw [gd_t (dq3 da3)]
  refine ⟨setI M3 a l.length (nI b), ?_, (L2.tr L3).tr (lt_I da.1), (K2.tr (((by rw [e3]; exact (EQ_I _ _ _ _).mk : Mk M2 M3 0 0)).tr (EQ_I _ _ _ _).mk)).le (by omega) (by omega), a, ?_⟩
  · refine (gd_t (inb_nI (by rw [dl3]; omega) (by rw [dl3]; omega))).trans ?_
    rw [bnd_e, nI_clamp (by omega)]
  · refine S0.ext (x := [b]) (M1 := setI M2 a l.length (nI b)) (lt_I da.1) (funext (fun k => setI_n (Or.inl an.symm))) rfl (by show l.length + 1 ≤ _; omega) (by show l.length + 1 ≤ 600; omega) (fun c hcm => by rw [List.mem_singleton.mp hcm]; exact hb) (fun k => ?_) ?_
    · show _ = if l.length ≤ k ∧ k < l.length + 1 then _ else _
      by_cases z : l.length ≤ k ∧ k < l.length + 1
      · rw [if_pos z, show k = l.length by omega, setI_s, Nat.sub_self]
        rfl
      · rw [if_neg z, setI_n (Or.inr (by omega))]
    · rw [e3]
      show _ = setI (setI M2 a l.length (nI b)) n 3 (nI (l.length + 1))
      have e : ∀ (x y : Int32), setI (setI M2 n 3 x) a l.length y = setI (setI M2 a l.length y) n 3 x := fun x y => by
        refine Prod.ext (funext (fun q => funext (fun k => ?_))) rfl
        show (if q = a ∧ k = l.length then y else if q = n ∧ k = 3 then x else M2.1 q k) = (if q = n ∧ k = 3 then x else if q = a ∧ k = l.length then y else M2.1 q k)
        by_cases z : q = a ∧ k = l.length
        · rw [if_pos z, if_neg (fun w => an (z.1.symm.trans w.1)), if_pos z]
        · rw [if_neg z, if_neg z]
      exact e _ _
theorem apc_f {M : Mem} {n b : Nat} {l : List Nat} (hc : 247 ≤ M.2.2.2) (S : Sb M n l) (hb : b < 128) (hl : l.length + 1 ≤ 600) : ∃ M', f_J4_append_cf468 n (nI b) M = some (n, M') ∧ Lt M M' ∧ Mk M M' 1 1300 ∧ Sb M' n (l ++ [b]) := by
  obtain ⟨M', e, r⟩ := apc_5 hc S hb hl
  refine ⟨M', ?_, r⟩
  unfold f_J4_append_cf468
  rw [gd_t (dq3 S.dy), e, cl_s]
  rfl
