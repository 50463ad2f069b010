/-! THE TEXT FED -/
theorem byte_n {q : Nat} (hq : q < 2 ^ 31) : vp_nar .byte (nI q).toInt8.toInt32 = sb (q % 256) := by
  have e : (nI (un (nI q &&& 255))).toInt8.toInt32 = (nI q).toInt8.toInt32 := by rw [un_e, fa_byte_low]
  have e2 : un (nI q &&& 255) = q % 256 := by
    rw [un_and, un_nI (by omega), show un 255 = 2 ^ 8 - 1 from rfl, Nat.and_two_pow_sub_one_eq_mod]
  rw [e2] at e
  show vp_nar .byte (nI q).toInt8.toInt32 = (nI (q % 256)).toInt8.toInt32
  rw [e, vp_nar_byte, Int8.toInt8_toInt32]
/-- a word after m bytes -/
def wdG (g : Nat → Nat) (w : Nat) : Nat → Nat
  | 0 => 0
  | m + 1 => 256 * wdG g w m + g (4 * w + m)
theorem wdG_lt {g : Nat → Nat} (hg : ∀ k, g k < 128) (w : Nat) : ∀ m, m ≤ 4 → wdG g w m < 128 * 256 ^ (m - 1) ∨ m = 0
  | 0, _ => Or.inr rfl
  | 1, _ => Or.inl (by have := hg (4 * w + 0); show 256 * 0 + g (4 * w + 0) < 128 * 256 ^ 0; omega)
  | 2, _ => Or.inl (by have := hg (4 * w + 0); have := hg (4 * w + 1); show 256 * (256 * 0 + g (4 * w + 0)) + g (4 * w + 1) < 128 * 256 ^ 1; omega)
  | 3, _ => Or.inl (by have := hg (4 * w + 0); have := hg (4 * w + 1); have := hg (4 * w + 2); show 256 * (256 * (256 * 0 + g (4 * w + 0)) + g (4 * w + 1)) + g (4 * w + 2) < 128 * 256 ^ 2; omega)
  | 4, _ => Or.inl (by have := hg (4 * w + 0); have := hg (4 * w + 1); have := hg (4 * w + 2); have := hg (4 * w + 3); show 256 * (256 * (256 * (256 * 0 + g (4 * w + 0)) + g (4 * w + 1)) + g (4 * w + 2)) + g (4 * w + 3) < 128 * 256 ^ 3; omega)
  | m + 5, h => absurd h (by omega)
theorem wdG_3 {g : Nat → Nat} (hg : ∀ k, g k < 128) (w : Nat) {m : Nat} (hm : m < 4) : wdG g w m < 2 ^ 23 := by
  rcases wdG_lt hg w m (by omega) with h | h
  · rcases (show m = 0 ∨ m = 1 ∨ m = 2 ∨ m = 3 by omega) with rfl | rfl | rfl | rfl <;> omega
  · subst h
    show 0 < 2 ^ 23
    omega
theorem wd_put {w b : Nat} (hw : w < 2 ^ 23) (hb : b < 256) : (nI w <<< ((8 : Int32) &&& 31)) ||| nI b = nI (256 * w + b) := by
  rw [pk_shlN _ 8 (by decide) (by omega), show w * 2 ^ 8 = 2 ^ 8 * w by omega]
  exact fa_or_sum (k := 8) w hb
theorem wd_get4 {g : Nat → Nat} (hg : ∀ k, g k < 128) (w : Nat) {j : Nat} (hj : j < 4) : vp_nar .byte ((nI (wdG g w 4) >>> (nI (24 - 8 * j) &&& 31)).toInt8.toInt32) = sb (g (4 * w + j)) := by
  have h4 : wdG g w 4 = 256 * (256 * (256 * (256 * 0 + g (4 * w + 0)) + g (4 * w + 1)) + g (4 * w + 2)) + g (4 * w + 3) := rfl
  have g0 := hg (4 * w + 0)
  have g1 := hg (4 * w + 1)
  have g2 := hg (4 * w + 2)
  have g3 := hg (4 * w + 3)
  have hs : ∀ j, j < 4 → ((nI (24 - 8 * j) &&& 31).toBitVec.smod 32).toNat = 24 - 8 * j := by decide
  rw [pk_shrN (by omega) _ (24 - 8 * j) (hs j hj), byte_n (Nat.lt_of_le_of_lt (Nat.div_le_self _ _) (by omega))]
  congr 1
  rcases (show j = 0 ∨ j = 1 ∨ j = 2 ∨ j = 3 by omega) with rfl | rfl | rfl | rfl
  · show wdG g w 4 / 2 ^ 24 % 256 = _
    rw [h4]; omega
  · show wdG g w 4 / 2 ^ 16 % 256 = _
    rw [h4]; omega
  · show wdG g w 4 / 2 ^ 8 % 256 = _
    rw [h4]; omega
  · show wdG g w 4 / 2 ^ 0 % 256 = _
    rw [h4]; omega
theorem putB_at (x : Int32) (t j : Nat) (d : Nat → Int32) (k : Nat) : putB x t j d k = if t ≤ k ∧ k < t + j then vp_nar .byte ((x >>> (nI (24 - 8 * (k - t)) &&& 31)).toInt8.toInt32) else d k := rfl
theorem five_g {g : Nat → Nat} (hg : ∀ k, g k < 128) (t : Nat) (d : Nat → Int32) (k : Nat) : five (nI (wdG g 0 4)) (nI (wdG g 1 4)) (nI (wdG g 2 4)) (nI (wdG g 3 4)) (nI (wdG g 4 4)) t d k = if t ≤ k ∧ k < t + 20 then sb (g (k - t)) else d k := by
  unfold five
  rw [putB_at, putB_at, putB_at, putB_at, putB_at]
  by_cases h4 : t + 16 ≤ k ∧ k < t + 16 + 4
  · rw [if_pos h4, if_pos (by omega), wd_get4 hg 4 (by omega), show 4 * 4 + (k - (t + 16)) = k - t by omega]
  · rw [if_neg h4]
    by_cases h3 : t + 12 ≤ k ∧ k < t + 12 + 4
    · rw [if_pos h3, if_pos (by omega), wd_get4 hg 3 (by omega), show 4 * 3 + (k - (t + 12)) = k - t by omega]
    · rw [if_neg h3]
      by_cases h2 : t + 8 ≤ k ∧ k < t + 8 + 4
      · rw [if_pos h2, if_pos (by omega), wd_get4 hg 2 (by omega), show 4 * 2 + (k - (t + 8)) = k - t by omega]
      · rw [if_neg h2]
        by_cases h1 : t + 4 ≤ k ∧ k < t + 4 + 4
        · rw [if_pos h1, if_pos (by omega), wd_get4 hg 1 (by omega), show 4 * 1 + (k - (t + 4)) = k - t by omega]
        · rw [if_neg h1]
          by_cases h0 : t ≤ k ∧ k < t + 4
          · rw [if_pos h0, if_pos (by omega), wd_get4 hg 0 (by omega), show 4 * 0 + (k - t) = k - t by omega]
          · rw [if_neg h0, if_neg (by omega)]
/-- the tape's bytes: the text, then blanks -/
def tpB (l : List Nat) (k : Nat) : Nat := if k < l.length then l.getD k 0 else 32
theorem tpB_lt {l : List Nat} (hl : ∀ b, b ∈ l → b < 128) (k : Nat) : tpB l k < 128 := by
  unfold tpB
  split
  · exact getD_all (P := fun b => b < 128) hl (by decide) k
  · decide
theorem chr_at {M : Mem} {s i : Nat} {l : List Nat} (S : Str M s l) (hi : i < l.length) : f_J0_charAt_5068eD s (nI i) M = some (nI (l.getD i 0), M) := by
  obtain ⟨d, s1, sl, sb, a, ea, da, la, sv⟩ := S
  have hb : l.getD i 0 < 128 := getD_all (P := fun b => b < 128) sb (by decide) i
  have e1 : ∀ b, b < 128 → (((nI b) &&& 255).toUInt32 % 65536).toInt32 = nI b ∧ vp_nar .char (nI b) = nI b := by decide +kernel
  have il : f_J0_isLatin1_aae02D s M = some (1, M) := by
    unfold f_J0_isLatin1_aae02D
    rw [if_neg (by decide), gd_t (dq3 d), if_pos s1]
  have ci : f_J0_checkIndex_df160 (nI i) (Int32.ofNat (dln M a)) M = some M := by
    unfold f_J0_checkIndex_df160 f_J3_checkIndex_8e157
    rw [if_neg (nI_pos (by omega)), if_pos (by rw [ofN, la]; exact (lt_nI (by omega) (by omega)).mpr hi)]
    rfl
  have ca : f_J1_charAt_3b067D a (nI i) M = some (nI (l.getD i 0), M) := by
    unfold f_J1_charAt_3b067D
    rw [gd_t (dq3 da), ci, clv_s]
    refine (gd_t (inb_nI (by rw [la]; exact hi) (by rw [la]; omega))).trans ?_
    rw [nI_clamp (by omega), sv i hi, (e1 _ hb).1, gd_t (e1 _ hb).2]
  unfold f_J0_charAt_5068eD
  rw [gd_t (dq3 d), il, cl_s, if_neg (by decide), ea, ca, cl_s, gd_t (e1 _ hb).2]
theorem Str.off {M M' : Mem} {s : Nat} {l : List Nat} (S : Str M s l) (g : GX M M') (e : ∀ q, 1000 ≤ q → q - 753 < M.2.2.2 → M'.1 q = M.1 q ∧ M'.2.2.1 q = M.2.2.1 q) : Str M' s l := by
  obtain ⟨d, s1, sl, sb, a, ea, da, la, sv⟩ := S
  have es := e s d.1 d.2.2
  have ea' := e a da.1 da.2.2
  exact ⟨g.dyo d, by rw [es.1]; exact s1, sl, sb, a, by rw [es.2]; exact ea, g.dyo da, g.dl da la, fun k hk => by rw [ea'.1]; exact sv k hk⟩
