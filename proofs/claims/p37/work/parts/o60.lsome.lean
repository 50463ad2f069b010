/-! THE SCRIPT'S VALUES: cell, some, first, second, pairs -/
theorem nI_div {a b : Nat} (ha : a < 2 ^ 31) (hb : b < 2 ^ 31) : nI a / nI b = nI (a / b) := by
  apply Int32.toInt_inj.mp
  have hd : a / b < 2 ^ 31 := Nat.lt_of_le_of_lt (Nat.div_le_self a b) ha
  rw [nI_toInt hd, Int32.toInt_div, nI_toInt ha, nI_toInt hb]
  have e : (Int.tdiv (a : Int) (b : Int)) = ((a / b : Nat) : Int) := by
    rw [Int.ofNat_tdiv]
  rw [e]
  apply Int.bmod_eq_of_le
  · have : (0 : Int) ≤ ((a / b : Nat) : Int) := Int.natCast_nonneg _
    omega
  · omega
theorem nI_rem {a b : Nat} (ha : a < 2 ^ 31) (hb : b < 2 ^ 31) : nI a - nI a / nI b * nI b = nI (a % b) := by
  have h : a / b * b ≤ a := Nat.div_mul_le_self a b
  rw [nI_div ha hb, nI_mul', nI_sub h]
  congr 1
  have := Nat.div_add_mod a b
  rw [Nat.mul_comm] at this
  omega
def cellV (N : Nat) (xs : Nat → Int32) (k : Nat) : Int32 := if N = 0 then 0 else xs (k % N) ^^^ (40503 * nI (k / N))
/-- the script's k-th value below n -/
def smN (N : Nat) (xs : Nat → Int32) (k n : Nat) : Nat := un (cellV N xs k) % 65536 % n
theorem smN_ok (N : Nat) (xs : Nat → Int32) : SmO (smN N xs) := fun k n h => Nat.mod_lt _ h
section LSOME
variable {N : Nat} {xs : Nat → Int32}
theorem cell_f (hN : N < 2 ^ 30) {k : Nat} (hk : k < 2 ^ 30) (M : Mem) : f_L_cell N xs (nI k) M = some (cellV N xs k, M) := by
  unfold f_L_cell cellV
  by_cases h : N = 0
  · rw [if_pos (by rw [h]; rfl), if_pos h]
  · have hn : ¬ nI N = 0 := fun z => h (by
      have := congrArg Int32.toInt z
      rw [nI_toInt (by omega)] at this
      have z2 : (0 : Int32).toInt = 0 := by decide
      rw [z2] at this
      omega)
    have hm : k % N < N := Nat.mod_lt _ (by omega)
    rw [if_neg hn, if_neg h, gd_t hn, nI_rem (by omega) (by omega), gd_t (inb_nI hm (by omega)), nI_clamp (by omega), nI_div (by omega) (by omega)]
theorem some_f (hN : N < 2 ^ 30) {k n : Nat} (hk : k < 2 ^ 30) (h0 : 0 < n) (hn : n < 2 ^ 31) (M : Mem) : f_L_some N xs (nI k) (nI n) M = some (nI (smN N xs k n), M) := by
  have hz : ¬ nI n = 0 := fun z => by
    have := congrArg Int32.toInt z
    rw [nI_toInt hn] at this
    have z2 : (0 : Int32).toInt = 0 := by decide
    rw [z2] at this
    omega
  have e : cellV N xs k &&& 65535 = nI (un (cellV N xs k) % 65536) := by
    have z := fa_mask (un (cellV N xs k)) 16
    rw [un_e] at z
    exact z
  have lt : un (cellV N xs k) % 65536 < 65536 := Nat.mod_lt _ (by decide)
  unfold f_L_some
  rw [cell_f hN hk, cl_s, gd_t hz, e, nI_rem (by omega) hn]
  rfl
theorem first_f (hN : N < 2 ^ 30) {k j : Nat} (hk : k < 2) (hj : j < 2) (M : Mem) : f_L_first N xs (nI k) (nI j) M = some (nI (if j = 0 then skf (smN N xs) k else 0), M) := by
  unfold f_L_first
  rcases (show j = 0 ∨ j = 1 by omega) with rfl | rfl
  · have e : f_L_some N xs (17 + nI k) 3 M = some (nI (smN N xs (17 + k) 3), M) := by
      rw [show (17 : Int32) = nI 17 from rfl, nI_add]
      exact some_f (n := 3) hN (by omega) (by omega) (by omega) M
    rw [if_pos (show nI 0 = 0 from rfl), e, cl_s, if_pos rfl]
    rfl
  · rw [if_neg (show ¬ nI 1 = 0 by decide), if_neg (show ¬ (1 : Nat) = 0 by omega)]
    rfl
theorem second_f (hN : N < 2 ^ 30) {k j : Nat} (hk : k < 2) (hj : j < 2) (M : Mem) : f_L_second N xs (nI k) (nI j) M = some (nI (if j = 0 then skg (smN N xs) k else 1 + smN N xs (29 + k) 2), M) := by
  have l1 := smN_ok N xs (17 + k) 3 (by omega)
  have l2 := smN_ok N xs (25 + k) 2 (by omega)
  unfold f_L_second
  rcases (show j = 0 ∨ j = 1 by omega) with rfl | rfl
  · have e : f_L_some N xs (17 + nI k) 3 M = some (nI (smN N xs (17 + k) 3), M) := by
      rw [show (17 : Int32) = nI 17 from rfl, nI_add]
      exact some_f (n := 3) hN (by omega) (by omega) (by omega) M
    have e2 : f_L_some N xs (25 + nI k) 2 M = some (nI (smN N xs (25 + k) 2), M) := by
      rw [show (25 : Int32) = nI 25 from rfl, nI_add]
      exact some_f (n := 2) hN (by omega) (by omega) (by omega) M
    rw [if_pos (show nI 0 = 0 from rfl), e, cl_s, e2, cl_s, if_pos rfl, show (1 : Int32) = nI 1 from rfl, nI_add, nI_add, show (3 : Int32) = nI 3 from rfl, nI_rem (by omega) (by omega)]
    rfl
  · have e3 : f_L_some N xs (29 + nI k) 2 M = some (nI (smN N xs (29 + k) 2), M) := by
      rw [show (29 : Int32) = nI 29 from rfl, nI_add]
      exact some_f (n := 2) hN (by omega) (by omega) (by omega) M
    rw [if_neg (show ¬ nI 1 = 0 by decide), e3, cl_s, if_neg (show ¬ (1 : Nat) = 0 by omega), show (1 : Int32) = nI 1 from rfl, nI_add]
theorem pairs_f (hN : N < 2 ^ 30) {k : Nat} (hk : k < 2) (M : Mem) : f_L_pairs N xs (nI k) M = some (nI (if smN N xs (27 + k) 3 = 0 then 2 else 1), M) := by
  have l1 := smN_ok N xs (27 + k) 3 (by omega)
  have e : f_L_some N xs (27 + nI k) 3 M = some (nI (smN N xs (27 + k) 3), M) := by
    rw [show (27 : Int32) = nI 27 from rfl, nI_add]
    exact some_f (n := 3) hN (by omega) (by omega) (by omega) M
  unfold f_L_pairs
  rw [e, cl_s]
  by_cases z : smN N xs (27 + k) 3 = 0
  · rw [if_pos (by rw [z]; rfl), if_pos z]
    rfl
  · rw [if_neg (fun y => z (by
      have := inj_nI (a := smN N xs (27 + k) 3) (b := 0) (by omega) (by omega) y
      exact this)), if_neg z]
    rfl
end LSOME
