/-! NUMBERS APPENDED -/
theorem gc_4 : ∀ v, v < 1000 → 100 ≤ v → vp_nar .byte (dgt 481 (nI (v % 100)).toNatClampNeg) = nI (48 + v % 10) ∧ vp_nar .byte (dgt 480 (nI (v % 100)).toNatClampNeg) = nI (48 + v / 10 % 10) ∧ -(nI v) / 100 = -(nI (v / 100)) ∧ -(nI (v / 100)) * 100 - -(nI v) = nI (v % 100) ∧ ¬ (-100 : Int32) < -(nI v) := by decide +kernel
theorem chars_f {M : Mem} {a v e : Nat} (da : dyo M a 22) (hv : v < 1000) (he : (dec v).length ≤ e) (hd : e ≤ dln M a) (hd2 : dln M a ≤ 1300) : ∃ r M', f_J6_getChars_ba4f3 (nI v) (nI e) a M = some (r, M') ∧ M'.2 = M.2 ∧ (∀ q, q ≠ a → M'.1 q = M.1 q) ∧ ∀ k, M'.1 a k = if e - (dec v).length ≤ k ∧ k < e then nI ((dec v).getD (k - (e - (dec v).length)) 0) else M.1 a k := by
  have u : f_J6_getChars_ba4f3 (nI v) (nI e) a M = f_J6_getChars_ba4f3_b22_s (f_J6_getChars_ba4f3_b22 4999) (-(nI v)) a (nI e) 0 M := by
    unfold f_J6_getChars_ba4f3
    rw [if_pos (nI_pos' (by omega))]
    rfl
  rw [u]
  by_cases c : v < 100
  · exact chars_1 da c he hd hd2 _
  · obtain ⟨g1, g2, g3, g4, g5⟩ := gc_4 v hv (by omega)
    have hl := dec_len v
    rw [if_neg (by omega), if_neg c] at hl
    rw [hl] at he ⊢
    obtain ⟨e2, rfl⟩ : ∃ e2, e = e2 + 2 := ⟨e - 2, by omega⟩
    obtain ⟨M1, e1⟩ : ∃ X, X = setI M a (e2 + 1) (nI (48 + v % 10)) := ⟨_, rfl⟩
    obtain ⟨M2, e2'⟩ : ∃ X, X = setI M1 a e2 (nI (48 + v / 10 % 10)) := ⟨_, rfl⟩
    have L1 : Lt M M1 := by rw [e1]; exact lt_I da.1
    have L2 : Lt M1 M2 := by rw [e2']; exact lt_I da.1
    have d1 := L1.1.dyo da
    have d2 := L2.1.dyo d1
    have l1 : dln M1 a = dln M a := L1.1.dl da rfl
    have l2 : dln M2 a = dln M a := (L2.1.dl d1 rfl).trans l1
    have st : f_J6_getChars_ba4f3_b22_s (f_J6_getChars_ba4f3_b22 4999) (-(nI v)) a (nI (e2 + 2)) 0 M = f_J6_getChars_ba4f3_b22_s (f_J6_getChars_ba4f3_b22 4998) (-(nI (v / 100))) a (nI e2) 0 M2 := by
      have p1 : nI (e2 + 2) + (-1) = nI (e2 + 1) := pos_1 (e2 + 1) (by omega)
      rw [f_J6_getChars_ba4f3_b22_s, if_neg g5, bnd_e, g3, bnd_e, g4, bnd_e, p1, g1]
      refine (gd_t (inb_nI (Nat.mod_lt _ (by omega)) (by omega))).trans ((gd_t (dq3 da)).trans ((gd_t (inb_nI (by omega) (by omega))).trans ?_))
      rw [bnd_e, nI_clamp (by omega), ← e1, bnd_e, pos_1 e2 (by omega), g2]
      refine (gd_t (dq3 d1)).trans ((gd_t (inb_nI (by omega) (by omega))).trans ?_)
      rw [bnd_e, nI_clamp (by omega), ← e2']
      rfl
    have dl : (dec (v / 100)).length = 1 := by rw [dec_len, if_pos (by omega)]
    obtain ⟨r, M', h1, h2, h3, h4⟩ := chars_1 (v := v / 100) (e := e2) d2 (by omega) (by omega) (by omega) (by omega) (f_J6_getChars_ba4f3_b22 4998)
    rw [st]
    refine ⟨r, M', h1, h2.trans (by rw [e2', e1]; rfl), fun q h => ?_, fun k => ?_⟩
    · rw [h3 q h, e2', e1]
      exact funext (fun k => by rw [setI_n (Or.inl h), setI_n (Or.inl h)])
    · rw [h4, dl]
      have ed : dec v = [48 + v / 100, 48 + v / 10 % 10, 48 + v % 10] := by unfold dec; rw [if_neg (by omega), if_neg c]
      have ed1 : dec (v / 100) = [48 + v / 100] := by unfold dec; rw [if_pos (by omega)]
      rw [ed, ed1]
      by_cases z : e2 - 1 ≤ k ∧ k < e2
      · rw [if_pos z, if_pos (by omega), show k = e2 - 1 by omega, Nat.sub_self, show e2 - 1 - (e2 + 2 - 3) = 0 by omega]
        rfl
      · rw [if_neg z]
        by_cases y : e2 + 2 - 3 ≤ k ∧ k < e2 + 2
        · rw [if_pos y]
          rcases (show k = e2 ∨ k = e2 + 1 by omega) with rfl | rfl
          · rw [e2', setI_s, show k - (k + 2 - 3) = 1 by omega]
            rfl
          · rw [e2', setI_n (Or.inr (by omega)), e1, setI_s, show e2 + 1 - (e2 + 2 - 3) = 2 by omega]
            rfl
        · rw [if_neg y, e2', setI_n (Or.inr (by omega)), e1, setI_n (Or.inr (by omega))]
theorem api_5 {M : Mem} {n v : Nat} {l : List Nat} (hc : 247 ≤ M.2.2.2) (S : Sb M n l) (hv : v < 1000) (hl : l.length + (dec v).length ≤ 600) : ∃ M', f_J5_append_c97b9 n (nI v) M = some (n, M') ∧ Lt M M' ∧ Mk M M' 1 1300 ∧ Sb M' n (l ++ dec v) := by
  obtain ⟨k1, k2, k3⟩ := dec_b v hv
  have s3 : M.1 n 3 = nI l.length := by
    obtain ⟨a, S⟩ := S
    exact S.2.2.1
  obtain ⟨M2, q1, L2, K2, a, S2, la⟩ := ens_f hc S hl
  unfold f_J5_append_c97b9
  rw [gd_t (dq3 S.dy), bnd_e, size_f hv, cl_s, s3, bnd_e, nI_add, q1, clv_s]
  have S0 := S2
  obtain ⟨d, s1, s3', sl, sb, ea, an, da, -, lb, sv, sy⟩ := S2
  obtain ⟨r, M3, h1, h2, h3, h4⟩ := chars_f da hv (e := l.length + (dec v).length) (by omega) la lb
  unfold f_J5_append_c97b9_b17
  rw [gd_t (dq3 d), lat1 d s1, cl_s, if_neg (by decide), ea, h1, cl_s]
  have q3 : EQ M2 M3 := ⟨by rw [h2], by rw [h2]⟩
  have L3 : Lt M2 M3 := ⟨q3.gx, fun q hq => h3 q (by have := da.1; omega), fun q _ _ => by rw [h2]⟩
  unfold f_J5_append_c97b9_b48
  rw [gd_t (dq3 (L3.1.dyo d)), bnd_e]
  refine ⟨_, rfl, (L2.tr L3).tr (lt_I d.1), ((K2.tr q3.mk).tr (EQ_I _ _ _ _).mk).le (by omega) (by omega), a, S0.ext L3 (h3 n an.symm) (by rw [h2]) la hl k1 (fun k => ?_) rfl⟩
  rw [h4, show l.length + (dec v).length - (dec v).length = l.length by omega]
theorem api_f {M : Mem} {n v : Nat} {l : List Nat} (hc : 247 ≤ M.2.2.2) (S : Sb M n l) (hv : v < 1000) (hl : l.length + (dec v).length ≤ 600) : ∃ M', f_J4_append_bf812 n (nI v) M = some (n, M') ∧ Lt M M' ∧ Mk M M' 1 1300 ∧ Sb M' n (l ++ dec v) := by
  obtain ⟨M', e, r⟩ := api_5 hc S hv hl
  refine ⟨M', ?_, r⟩
  unfold f_J4_append_bf812
  rw [gd_t (dq3 S.dy), e, cl_s]
  rfl
/-! STEPS: what a stretch of appends does to what follows -/
/-- j appends since M0; the builder n holds l -/
def Bc (M0 : Mem) (j n : Nat) (l : List Nat) (M : Mem) : Prop := Lt M0 M ∧ Mk M0 M (j + 2) (1300 * j + 30) ∧ Sb M n l ∧ 247 ≤ M.2.2.2
theorem Bc.step {M0 M M' : Mem} {j n : Nat} {l l' : List Nat} (C : Bc M0 j n l M) (L : Lt M M') (k : Mk M M' 1 1300) (S : Sb M' n l') : Bc M0 (j + 1) n l' M' :=
  ⟨C.1.tr L, (C.2.1.tr k).le (by omega) (by omega), S, Nat.le_trans C.2.2.2 L.1.1⟩
section STEPS
variable {R : Type} {Q : Option R → Prop} {M0 M : Mem} {j n : Nat} {l : List Nat} {f : Nat → Mem → Option R}
theorem st_s0 {i : Nat} (C : Bc M0 j n l M) (hi : i < 26) (hl : l.length + (lsN i).length ≤ 600) (k : ∀ M' l', Bc M0 (j + 1) n l' M' → l' = l ++ lsN i → l'.length = l.length + (lsN i).length → Q (f n M')) : Q (gd (1000 ≤ n ∧ dsc M n = 11 ∧ n - 753 < M.2.2.2) (cl (f_J4_append_15ec4 n (400 + i) M) f)) := by
  obtain ⟨M', e, L, K, S⟩ := aps_f C.2.2.2 C.2.2.1 hi hl
  rw [gd_t (dq3 C.2.2.1.dy), e, cl_s]
  exact k M' _ (C.step L K S) rfl List.length_append
theorem st_c {b : Nat} {x : Int32} (C : Bc M0 j n l M) (hb : b < 128) (e : x = nI b) (hl : l.length + 1 ≤ 600) (k : ∀ M' l', Bc M0 (j + 1) n l' M' → l' = l ++ [b] → l'.length = l.length + 1 → Q (f n M')) : Q (gd (1000 ≤ n ∧ dsc M n = 11 ∧ n - 753 < M.2.2.2) (cl (f_J4_append_cf468 n x M) f)) := by
  obtain ⟨M', e1, L, K, S⟩ := apc_f C.2.2.2 C.2.2.1 hb hl
  rw [gd_t (dq3 C.2.2.1.dy), e, e1, cl_s]
  exact k M' _ (C.step L K S) rfl List.length_append
theorem st_i {v : Nat} {x : Int32} (C : Bc M0 j n l M) (hv : v < 1000) (e : x = nI v) (hl : l.length + 3 ≤ 600) (k : ∀ M' l', Bc M0 (j + 1) n l' M' → l' = l ++ dec v → l'.length ≤ l.length + 3 → Q (f n M')) : Q (gd (1000 ≤ n ∧ dsc M n = 11 ∧ n - 753 < M.2.2.2) (cl (f_J4_append_bf812 n x M) f)) := by
  have h3 := (dec_b v hv).2.1
  obtain ⟨M', e1, L, K, S⟩ := api_f C.2.2.2 C.2.2.1 hv (by omega)
  rw [gd_t (dq3 C.2.2.1.dy), e, e1, cl_s]
  exact k M' _ (C.step L K S) rfl (by rw [List.length_append]; omega)
end STEPS
theorem chr_n {b : Nat} (hb : b < 100) : (((97 : Int32) + nI b).toUInt32 % 65536).toInt32 = nI (97 + b) := by
  have h : ∀ b, b < 100 → (((97 : Int32) + nI b).toUInt32 % 65536).toInt32 = nI (97 + b) := by decide +kernel
  exact h b hb
