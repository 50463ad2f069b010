/-! NUMBERS -/
theorem sz_1 : ∀ v, v < 1000 → ¬ (nI v < 0) ∧ ((nI 10 * 0 = 0) ∧ ((-(nI v) ≤ (-10) ↔ 10 ≤ v) ∧ (-(nI v) ≤ (-100) ↔ 100 ≤ v) ∧ ¬ -(nI v) ≤ (-1000))) := by decide +kernel
theorem dec_len (v : Nat) : (dec v).length = if v < 10 then 1 else if v < 100 then 2 else 3 := by
  unfold dec
  split
  · rfl
  · split <;> rfl
theorem dec_b : ∀ v, v < 1000 → (∀ b, b ∈ dec v → b < 128) ∧ (dec v).length ≤ 3 ∧ 1 ≤ (dec v).length := by decide +kernel
theorem size_f {v : Nat} (hv : v < 1000) (M : Mem) : f_J6_stringSize_0f7a4 (nI v) M = some (nI (dec v).length, M) := by
  obtain ⟨h0, -, h1, h2, h3⟩ := sz_1 v hv
  have u : f_J6_stringSize_0f7a4 (nI v) M = if nI v < 0 then f_J6_stringSize_0f7a4_b16 fuel (nI v) 1 (-10) 1 M else bnd (-(nI v)) fun a1 => f_J6_stringSize_0f7a4_b16_s (f_J6_stringSize_0f7a4_b16 4999) a1 0 (-10) 1 M := rfl
  rw [u, if_neg h0, bnd_e, dec_len]
  unfold f_J6_stringSize_0f7a4_b16_s
  rw [if_neg (by decide)]
  by_cases c1 : v < 10
  · rw [if_neg (fun z => absurd (h1.mp z) (by omega)), if_pos c1]
    rfl
  · rw [if_pos (h1.mpr (by omega)), bnd_e, bnd_e, if_neg c1]
    have u2 : f_J6_stringSize_0f7a4_b16 4999 (-(nI v)) 0 (10 * (-10)) (1 + 1) M = f_J6_stringSize_0f7a4_b16_s (f_J6_stringSize_0f7a4_b16 4998) (-(nI v)) 0 (-100) 2 M := rfl
    rw [u2]
    unfold f_J6_stringSize_0f7a4_b16_s
    rw [if_neg (by decide)]
    by_cases c2 : v < 100
    · rw [if_neg (fun z => absurd (h2.mp z) (by omega)), if_pos c2]
      rfl
    · rw [if_pos (h2.mpr (by omega)), bnd_e, bnd_e, if_neg c2]
      have u3 : f_J6_stringSize_0f7a4_b16 4998 (-(nI v)) 0 (10 * (-100)) (2 + 1) M = f_J6_stringSize_0f7a4_b16_s (f_J6_stringSize_0f7a4_b16 4997) (-(nI v)) 0 (-1000) 3 M := rfl
      rw [u3]
      unfold f_J6_stringSize_0f7a4_b16_s
      rw [if_neg (by decide), if_neg h3]
      rfl
theorem pos_1 : ∀ e, e < 1400 → nI (e + 1) + (-1) = nI e := by decide +kernel
theorem gc_1 : ∀ v, v < 100 → (-100 : Int32) < -(nI v) ∧ -(-(nI v)) = nI v ∧ ((-9 : Int32) ≤ -(nI v) ↔ v < 10) ∧ vp_nar .byte (dgt 481 (nI v).toNatClampNeg) = nI (48 + v % 10) ∧ vp_nar .byte (dgt 480 (nI v).toNatClampNeg) = nI (48 + v / 10) := by decide +kernel
theorem gc_2 : ∀ v, v < 1000 → 100 ≤ v → ¬ (-100 : Int32) < -(nI v) ∧ -(nI v) / 100 = -(nI (v / 100)) ∧ (-(nI v) / 100) * 100 - -(nI v) = nI (v % 100) := by decide +kernel
theorem gc_3 : ∀ w, w < 10 → -(nI w) * 100 = -(nI (100 * w)) := by decide +kernel
/-- one number's digits before e -/
theorem chars_1 {M : Mem} {a v e : Nat} (da : dyo M a 22) (hv : v < 100) (he : (dec v).length ≤ e) (hd : e ≤ dln M a) (hd2 : dln M a ≤ 1300) (rec : Int32 → Nat → Int32 → Int32 → Mem → Option (Int32 × Mem)) : ∃ r M', f_J6_getChars_ba4f3_b22_s rec (-(nI v)) a (nI e) 0 M = some (r, M') ∧ M'.2 = M.2 ∧ (∀ q, q ≠ a → M'.1 q = M.1 q) ∧ ∀ k, M'.1 a k = if e - (dec v).length ≤ k ∧ k < e then nI ((dec v).getD (k - (e - (dec v).length)) 0) else M.1 a k := by
  obtain ⟨g1, g2, g3, g4, g5⟩ := gc_1 v hv
  have hl := dec_len v
  obtain ⟨e1, rfl⟩ : ∃ e1, e = e1 + 1 := ⟨e - 1, by split at hl <;> omega⟩
  unfold f_J6_getChars_ba4f3_b22_s
  rw [if_pos g1, bnd_e, g2, pos_1 e1 (by omega), g4]
  refine Exists.elim (?_ : ∃ (q : Int32 × Mem), _) (fun q hq => ⟨q.1, q.2, hq⟩)
  by_cases c : v < 10
  · rw [if_pos c] at hl
    rw [hl]
    refine ⟨(nI e1, setI M a e1 (nI (48 + v % 10))), ?_, rfl, fun q h => funext (fun k => setI_n (Or.inl h)), fun k => ?_⟩
    · refine (gd_t (inb_nI hv (by omega))).trans ((gd_t (dq3 da)).trans ((gd_t (inb_nI (by omega) (by omega))).trans ?_))
      rw [bnd_e, nI_clamp (by omega), if_pos (g3.mpr c)]
      rfl
    · have ed : dec v = [48 + v] := by unfold dec; rw [if_pos c]
      rw [ed, Nat.add_sub_cancel]
      by_cases z : e1 ≤ k ∧ k < e1 + 1
      · rw [if_pos z, show k = e1 by omega, setI_s, Nat.sub_self, show v % 10 = v by omega]
        rfl
      · rw [if_neg z, setI_n (Or.inr (by omega))]
  · rw [if_neg c, if_pos hv] at hl
    rw [hl] at he ⊢
    obtain ⟨e2, rfl⟩ : ∃ e2, e1 = e2 + 1 := ⟨e1 - 1, by omega⟩
    refine ⟨(nI e2, setI (setI M a (e2 + 1) (nI (48 + v % 10))) a e2 (nI (48 + v / 10))), ?_, rfl, fun q h => funext (fun k => by rw [setI_n (Or.inl h), setI_n (Or.inl h)]), fun k => ?_⟩
    · refine (gd_t (inb_nI hv (by omega))).trans ((gd_t (dq3 da)).trans ((gd_t (inb_nI (by omega) (by omega))).trans ?_))
      rw [bnd_e, nI_clamp (by omega), if_neg (fun z => c (g3.mp z)), bnd_e, pos_1 e2 (by omega)]
      have L : Lt M (setI M a (e2 + 1) (nI (48 + v % 10))) := lt_I da.1
      refine (gd_t (dq3 (L.1.dyo da))).trans ((gd_t (inb_nI (show e2 < dln M a by omega) (show dln M a < 2 ^ 31 by omega))).trans ?_)
      rw [bnd_e, nI_clamp (by omega), g5]
      rfl
    · have ed : dec v = [48 + v / 10, 48 + v % 10] := by unfold dec; rw [if_neg c, if_pos hv]
      rw [ed, show e2 + 1 + 1 - 2 = e2 by omega]
      by_cases z : e2 ≤ k ∧ k < e2 + 1 + 1
      · rw [if_pos z]
        rcases (show k = e2 ∨ k = e2 + 1 by omega) with rfl | rfl
        · rw [setI_s, Nat.sub_self]
          rfl
        · rw [setI_n (Or.inr (by omega)), setI_s, Nat.add_sub_cancel_left]
          rfl
      · rw [if_neg z, setI_n (Or.inr (by omega)), setI_n (Or.inr (by omega))]
