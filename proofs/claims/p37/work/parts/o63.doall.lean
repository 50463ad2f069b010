/-! THE LAW'S doAll: all pairs of a kind must hold -/
/-- an array of four ints made later -/
def FourA (M : Mem) (n : Nat) (v : Nat → Int) : Prop := (1000 ≤ n ∧ dsc M n = 20 ∧ n - 753 < M.2.2.2) ∧ dln M n = 4 ∧ ∀ m, m < 4 → (M.1 n m).toInt = v m
def PrsK (sm : Nat → Nat → Nat) (k : Nat) (P : Nat → Nat → Prop) : Prop := P (skf sm k) (skg sm k) ∧ (sm (27 + k) 3 = 0 → P 0 (1 + sm (29 + k) 2))
section DOALL
variable {N : Nat} {xs : Nat → Int32} {M : Mem} {n2 n3 : Nat} {lo hi : Nat → Int}
theorem doAll_step (hN : N < 2 ^ 30) {k j : Nat} (hk : k < 2) (hj : j < (if smN N xs (27 + k) 3 = 0 then 2 else 1)) (A : FourA M n2 lo) (B : FourA M n3 hi) (rec : Int32 → Nat → Nat → Int32 → Mem → Option (Int32 × Mem)) :
    (hi (if j = 0 then skf (smN N xs) k else 0) < lo (if j = 0 then skg (smN N xs) k else 1 + smN N xs (29 + k) 2) ∧ f_L_doAll_b3_s N xs rec (nI k) n2 n3 (nI j) M = rec (nI k) n2 n3 (nI (j + 1)) M) ∨ (¬ hi (if j = 0 then skf (smN N xs) k else 0) < lo (if j = 0 then skg (smN N xs) k else 1 + smN N xs (29 + k) 2) ∧ f_L_doAll_b3_s N xs rec (nI k) n2 n3 (nI j) M = some (0, M)) := by
  obtain ⟨p1, p2, -, p4⟩ := s_kpr (smN_ok N xs) (k := k)
  obtain ⟨a1, a2, a3⟩ := A
  obtain ⟨b1, b2, b3⟩ := B
  have hj2 : j < 2 := Nat.lt_of_lt_of_le hj (by split <;> omega)
  obtain ⟨f, hf⟩ : ∃ f, f = if j = 0 then skf (smN N xs) k else 0 := ⟨_, rfl⟩
  obtain ⟨g, hg⟩ : ∃ g, g = if j = 0 then skg (smN N xs) k else 1 + smN N xs (29 + k) 2 := ⟨_, rfl⟩
  have f4 : f < 4 := by rw [hf]; split <;> omega
  have g4 : g < 4 := by rw [hg]; split <;> omega
  have e1 := first_f (xs := xs) hN hk hj2 M
  have e2 := second_f (xs := xs) hN hk hj2 M
  rw [← hf] at e1
  rw [← hg] at e2
  rw [← hf, ← hg]
  have cmp : M.1 n3 f < M.1 n2 g ↔ hi f < lo g := by rw [Int32.lt_iff_toInt_lt, b3 f f4, a3 g g4]
  have run : f_L_doAll_b3_s N xs rec (nI k) n2 n3 (nI j) M = if M.1 n3 f < M.1 n2 g then rec (nI k) n2 n3 (nI (j + 1)) M else some (0, M) := by
    unfold f_L_doAll_b3_s
    simp only [bnd_e]
    rw [pairs_f hN hk, cl_s, if_neg (nI_ge hj (by split <;> omega)), e1, cl_s, gd_t b1, b2, gd_t (inb_nI f4 (by omega)), e2, cl_s, gd_t a1, a2, gd_t (inb_nI g4 (by omega)), nI_clamp (by omega), nI_clamp (by omega), nI_1 j]
  rw [run]
  by_cases z : hi f < lo g
  · exact Or.inl ⟨z, if_pos (cmp.mpr z)⟩
  · exact Or.inr ⟨z, if_neg (fun y => z (cmp.mp y))⟩
theorem doAll_end (hN : N < 2 ^ 30) {k : Nat} (hk : k < 2) (rec : Int32 → Nat → Nat → Int32 → Mem → Option (Int32 × Mem)) : f_L_doAll_b3_s N xs rec (nI k) n2 n3 (nI (if smN N xs (27 + k) 3 = 0 then 2 else 1)) M = some (1, M) := by
  unfold f_L_doAll_b3_s
  rw [pairs_f hN hk, cl_s, if_pos (Int32.le_refl _)]
theorem doAll_f (hN : N < 2 ^ 30) {k : Nat} (hk : k < 2) (A : FourA M n2 lo) (B : FourA M n3 hi) : ∃ r, f_L_doAll N xs (nI k) n2 n3 M = some (r, M) ∧ ((r = 1 ∧ PrsK (smN N xs) k (fun f g => hi f < lo g)) ∨ (r = 0 ∧ ¬ PrsK (smN N xs) k (fun f g => hi f < lo g))) := by
  have u : f_L_doAll N xs (nI k) n2 n3 M = f_L_doAll_b3_s N xs (f_L_doAll_b3 N xs 4999) (nI k) n2 n3 (nI 0) M := rfl
  rw [u]
  have en := fun rec => doAll_end (n2 := n2) (n3 := n3) (M := M) (xs := xs) hN hk rec
  rcases doAll_step hN hk (j := 0) (by split <;> omega) A B (f_L_doAll_b3 N xs 4999) with ⟨z, e⟩ | ⟨z, e⟩
  · rw [if_pos rfl, if_pos rfl] at z
    rw [e]
    have u1 : f_L_doAll_b3 N xs 4999 (nI k) n2 n3 (nI (0 + 1)) M = f_L_doAll_b3_s N xs (f_L_doAll_b3 N xs 4998) (nI k) n2 n3 (nI 1) M := rfl
    rw [u1]
    by_cases q : smN N xs (27 + k) 3 = 0
    · rcases doAll_step hN hk (j := 1) (by rw [if_pos q]; omega) A B (f_L_doAll_b3 N xs 4998) with ⟨y, e1⟩ | ⟨y, e1⟩
      · rw [if_neg (by omega), if_neg (by omega)] at y
        rw [e1]
        have u2 : f_L_doAll_b3 N xs 4998 (nI k) n2 n3 (nI (1 + 1)) M = f_L_doAll_b3_s N xs (f_L_doAll_b3 N xs 4997) (nI k) n2 n3 (nI 2) M := rfl
        have en2 := en (f_L_doAll_b3 N xs 4997)
        rw [if_pos q] at en2
        rw [u2, en2]
        exact ⟨1, rfl, Or.inl ⟨rfl, z, fun _ => y⟩⟩
      · rw [if_neg (by omega), if_neg (by omega)] at y
        rw [e1]
        exact ⟨0, rfl, Or.inr ⟨rfl, fun w => y (w.2 q)⟩⟩
    · have en2 := en (f_L_doAll_b3 N xs 4998)
      rw [if_neg q] at en2
      rw [en2]
      exact ⟨1, rfl, Or.inl ⟨rfl, z, fun w => absurd w q⟩⟩
  · rw [if_pos rfl, if_pos rfl] at z
    rw [e]
    exact ⟨0, rfl, Or.inr ⟨rfl, fun w => z w.1⟩⟩
end DOALL
