/-! CLOCKS THAT CAN BE: the law's canBe -/
theorem subN_toInt {x y : Nat} (hx : x < 2 ^ 29) (hy : y < 2 ^ 29) : (nI x - nI y).toInt = (x : Int) - y := by
  rw [Int32.toInt_sub, nI_toInt (by omega), nI_toInt (by omega)]
  apply Int.bmod_eq_of_le
  · omega
  · omega
theorem subN_eq {x y z w : Nat} (hx : x < 2 ^ 29) (hy : y < 2 ^ 29) (hz : z < 2 ^ 29) (hw : w < 2 ^ 29) : nI x - nI y = nI z - nI w ↔ (x : Int) - y = z - w := by
  rw [← Int32.toInt_inj, subN_toInt hx hy, subN_toInt hz hw]
/-- an array of ints made later, three clocks in it -/
def LateA (M : Mem) (n : Nat) (l : Nat → Nat) : Prop := (1000 ≤ n ∧ dsc M n = 20 ∧ n - 753 < M.2.2.2) ∧ dln M n = 3 ∧ (∀ c, c < 3 → M.1 n c = nI (l c)) ∧ ∀ c, c < 3 → l c < 2 ^ 20
section CANBE
variable {N : Nat} {xs : Nat → Int32} {M : Mem} {n : Nat} {l : Nat → Nat}
abbrev FlOk (sm : Nat → Nat → Nat) (l : Nat → Nat) (f : Nat) : Prop := (sfx sm f : Int) - (l (sfa sm f) : Int) = (sfy sm f : Int) - (l (sfb sm f) : Int)
theorem canBe_2 (hN : N < 2 ^ 30) (h : HB M) (T : TolS (smN N xs) M) (A : LateA M n l) : ∀ q j k, q = snf (smN N xs) - j → j ≤ snf (smN N xs) → q < k →
    ∃ r, f_L_canBe_b2 N xs k n (nI j) M = some (r, M) ∧ ((r = 1 ∧ ∀ f, j ≤ f → f < snf (smN N xs) → FlOk (smN N xs) l f) ∨ (r = 0 ∧ ∃ f, j ≤ f ∧ f < snf (smN N xs) ∧ ¬ FlOk (smN N xs) l f)) := by
  have hs := smN_ok N xs
  obtain ⟨-, -, -, c5⟩ := d_cn hs T
  have s2 := s_c2 hs
  obtain ⟨a1, a2, a3, a4⟩ := A
  intro q
  induction q with
  | zero =>
    intro j k hq hj hk
    obtain ⟨k, rfl⟩ : ∃ k', k = k' + 1 := ⟨k - 1, by omega⟩
    refine ⟨1, ?_, Or.inl ⟨rfl, fun f h1 h2 => absurd h2 (by omega)⟩⟩
    show f_L_canBe_b2_s N xs (f_L_canBe_b2 N xs k) n (nI j) M = _
    unfold f_L_canBe_b2_s
    rw [an_count1 h, cl_s, c5, if_pos (le_nI (by omega) (by omega) (by omega))]
  | succ q ih =>
    intro j k hq hj hk
    obtain ⟨k, rfl⟩ : ∃ k', k = k' + 1 := ⟨k - 1, by omega⟩
    have hjl : j < snf (smN N xs) := by omega
    obtain ⟨o1, o2, -, o4, o5⟩ := s_c3 hs j hjl
    have e2 : f_L_some N xs (7 + nI j) 3 M = some (nI (smN N xs (7 + j) 3), M) := by
      rw [show (7 : Int32) = nI 7 from rfl, nI_add]
      exact some_f (n := 3) hN (by omega) (by omega) (by omega) M
    have e3 : f_L_some N xs (11 + nI j) 2 M = some (nI (smN N xs (11 + j) 2), M) := by
      rw [show (11 : Int32) = nI 11 from rfl, nI_add]
      exact some_f (n := 2) hN (by omega) (by omega) (by omega) M
    have e4 : f_L_some N xs (9 + nI j) 4 M = some (nI (smN N xs (9 + j) 4), M) := by
      rw [show (9 : Int32) = nI 9 from rfl, nI_add]
      exact some_f (n := 4) hN (by omega) (by omega) (by omega) M
    have e5 : f_L_some N xs (13 + nI j) 4 M = some (nI (smN N xs (13 + j) 4), M) := by
      rw [show (13 : Int32) = nI 13 from rfl, nI_add]
      exact some_f (n := 4) hN (by omega) (by omega) (by omega) M
    have l1 := hs (7 + j) 3 (by omega)
    have l2 := hs (11 + j) 2 (by omega)
    have l3 := hs (9 + j) 4 (by omega)
    have l4 := hs (13 + j) 4 (by omega)
    have ea : ((nI (smN N xs (7 + j) 3) + 1) + nI (smN N xs (11 + j) 2)) - ((nI (smN N xs (7 + j) 3) + 1) + nI (smN N xs (11 + j) 2)) / 3 * 3 = nI (sfb (smN N xs) j) := by
      rw [show (1 : Int32) = nI 1 from rfl, nI_add, nI_add, show (3 : Int32) = nI 3 from rfl, nI_rem (by omega) (by omega)]
      rfl
    have ia : smN N xs (7 + j) 3 = sfa (smN N xs) j := rfl
    have la : M.1 n (nI (smN N xs (7 + j) 3)).toNatClampNeg = nI (l (sfa (smN N xs) j)) := by rw [nI_clamp (by omega), ia]; exact a3 _ o1
    have lb : M.1 n (nI (sfb (smN N xs) j)).toNatClampNeg = nI (l (sfb (smN N xs) j)) := by rw [nI_clamp (by omega)]; exact a3 _ o2
    have cmp : (10 + nI (smN N xs (9 + j) 4)) - nI (l (sfa (smN N xs) j)) = (10 + nI (smN N xs (13 + j) 4)) - nI (l (sfb (smN N xs) j)) ↔ FlOk (smN N xs) l j := by
      have b1 := a4 _ o1
      have b2 := a4 _ o2
      rw [show (10 : Int32) = nI 10 from rfl, nI_add, nI_add]
      exact subN_eq (by omega) (by omega) (by omega) (by omega)
    have step : f_L_canBe_b2 N xs (k + 1) n (nI j) M = if FlOk (smN N xs) l j then f_L_canBe_b2 N xs k n (nI (j + 1)) M else some (0, M) := by
      show f_L_canBe_b2_s N xs (f_L_canBe_b2 N xs k) n (nI j) M = _
      unfold f_L_canBe_b2_s
      simp only [bnd_e]
      rw [an_count1 h, cl_s, c5, if_neg (nI_ge hjl (by omega)), e2, cl_s, e3, cl_s, ea, e4, cl_s, gd_t a1, a2, gd_t (inb_nI (by omega) (by omega)), e5, cl_s, gd_t a1, a2, gd_t (inb_nI o2 (by omega)), la, lb, nI_1 j]
      by_cases z : FlOk (smN N xs) l j
      · rw [if_pos (cmp.mpr z), if_pos z]
      · rw [if_neg (fun y => z (cmp.mp y)), if_neg z]
    rw [step]
    by_cases z : FlOk (smN N xs) l j
    · rw [if_pos z]
      obtain ⟨r, e, v⟩ := ih (j + 1) k (by omega) (by omega) (by omega)
      refine ⟨r, e, ?_⟩
      rcases v with ⟨v1, v2⟩ | ⟨v1, f, v2, v3, v4⟩
      · refine Or.inl ⟨v1, fun f h1 h2 => ?_⟩
        rcases Nat.lt_or_ge j f with y | y
        · exact v2 f y h2
        · rw [show f = j by omega]; exact z
      · exact Or.inr ⟨v1, f, by omega, v3, v4⟩
    · rw [if_neg z]
      exact ⟨0, rfl, Or.inr ⟨rfl, j, Nat.le_refl j, hjl, z⟩⟩
theorem canBe_f (hN : N < 2 ^ 30) (h : HB M) (T : TolS (smN N xs) M) (A : LateA M n l) : ∃ r, f_L_canBe N xs n M = some (r, M) ∧ ((r = 1 ∧ ∀ f, f < snf (smN N xs) → FlOk (smN N xs) l f) ∨ (r = 0 ∧ ∃ f, f < snf (smN N xs) ∧ ¬ FlOk (smN N xs) l f)) := by
  have s2 := s_c2 (smN_ok N xs)
  obtain ⟨r, e, v⟩ := canBe_2 hN h T A _ 0 fuel rfl (Nat.zero_le _) (by unfold fuel; omega)
  refine ⟨r, ?_, ?_⟩
  · unfold f_L_canBe
    exact e
  · rcases v with ⟨v1, v2⟩ | ⟨v1, f, -, v3, v4⟩
    · exact Or.inl ⟨v1, fun f hf => v2 f (Nat.zero_le f) hf⟩
    · exact Or.inr ⟨v1, f, v3, v4⟩
end CANBE
