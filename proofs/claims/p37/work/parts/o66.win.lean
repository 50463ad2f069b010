/-! THE LAW'S WINDOWS: low and high as its loop makes them -/
def hiF (M : Mem) (p s : Nat) (l : Nat → Int) : Nat → Nat → Int
  | 0, _ => 1000
  | k + 1, m => if s.testBit k = true ∧ (qs M (10 * p + k)).testBit m = true then (if atk M p l k < hiF M p s l k m then atk M p l k else hiF M p s l k m) else hiF M p s l k m
def loF (M : Mem) (p s : Nat) (l : Nat → Int) : Nat → Nat → Int
  | 0, _ => -1000
  | k + 1, m => if s.testBit k = true ∧ (qn M (10 * p + k)).testBit m = true then (if loF M p s l k m < atk M p l k + 1 then atk M p l k + 1 else loF M p s l k m) else loF M p s l k m
section WINS
variable {M : Mem} {p s : Nat} {l : Nat → Int}
theorem hiF_k (m : Nat) : ∀ j, hiF M p s l j m ≤ 1000 ∧ (∀ k, k < j → s.testBit k = true → Seen M p k m → hiF M p s l j m ≤ atk M p l k) ∧ (hiF M p s l j m = 1000 ∨ ∃ k, k < j ∧ s.testBit k = true ∧ Seen M p k m ∧ hiF M p s l j m = atk M p l k)
  | 0 => ⟨Int.le_refl _, fun k hk => absurd hk (Nat.not_lt_zero k), Or.inl rfl⟩
  | j + 1 => by
    obtain ⟨a, b, c⟩ := hiF_k m j
    show (if s.testBit j = true ∧ (qs M (10 * p + j)).testBit m = true then (if atk M p l j < hiF M p s l j m then atk M p l j else hiF M p s l j m) else hiF M p s l j m) ≤ 1000 ∧ (∀ k, k < j + 1 → s.testBit k = true → Seen M p k m → (if s.testBit j = true ∧ (qs M (10 * p + j)).testBit m = true then (if atk M p l j < hiF M p s l j m then atk M p l j else hiF M p s l j m) else hiF M p s l j m) ≤ atk M p l k) ∧ ((if s.testBit j = true ∧ (qs M (10 * p + j)).testBit m = true then (if atk M p l j < hiF M p s l j m then atk M p l j else hiF M p s l j m) else hiF M p s l j m) = 1000 ∨ ∃ k, k < j + 1 ∧ s.testBit k = true ∧ Seen M p k m ∧ (if s.testBit j = true ∧ (qs M (10 * p + j)).testBit m = true then (if atk M p l j < hiF M p s l j m then atk M p l j else hiF M p s l j m) else hiF M p s l j m) = atk M p l k)
    by_cases z : s.testBit j = true ∧ (qs M (10 * p + j)).testBit m = true
    · rw [if_pos z]
      by_cases y : atk M p l j < hiF M p s l j m
      · rw [if_pos y]
        refine ⟨by omega, fun k hk h1 h2 => ?_, Or.inr ⟨j, by omega, z.1, z.2, rfl⟩⟩
        rcases Nat.lt_or_ge k j with w | w
        · have := b k w h1 h2
          omega
        · rw [show k = j by omega]; exact Int.le_refl _
      · rw [if_neg y]
        refine ⟨a, fun k hk h1 h2 => ?_, ?_⟩
        · rcases Nat.lt_or_ge k j with w | w
          · exact b k w h1 h2
          · rw [show k = j by omega]; omega
        · rcases c with c | ⟨k, c1, c2, c3, c4⟩
          · exact Or.inl c
          · exact Or.inr ⟨k, by omega, c2, c3, c4⟩
    · rw [if_neg z]
      refine ⟨a, fun k hk h1 h2 => ?_, ?_⟩
      · rcases Nat.lt_or_ge k j with w | w
        · exact b k w h1 h2
        · have e : k = j := by omega
          rw [e] at h1 h2
          exact absurd ⟨h1, h2⟩ z
      · rcases c with c | ⟨k, c1, c2, c3, c4⟩
        · exact Or.inl c
        · exact Or.inr ⟨k, by omega, c2, c3, c4⟩
theorem hiF_is (m : Nat) : IsHi M p s l m (hiF M p s l (Fn M p) m) := hiF_k m (Fn M p)
theorem loF_k (m : Nat) : ∀ j, -1000 ≤ loF M p s l j m ∧ (∀ k, k < j → s.testBit k = true → Nty M p k m → atk M p l k + 1 ≤ loF M p s l j m) ∧ (loF M p s l j m = -1000 ∨ ∃ k, k < j ∧ s.testBit k = true ∧ Nty M p k m ∧ loF M p s l j m = atk M p l k + 1)
  | 0 => ⟨Int.le_refl _, fun k hk => absurd hk (Nat.not_lt_zero k), Or.inl rfl⟩
  | j + 1 => by
    obtain ⟨a, b, c⟩ := loF_k m j
    show -1000 ≤ (if s.testBit j = true ∧ (qn M (10 * p + j)).testBit m = true then (if loF M p s l j m < atk M p l j + 1 then atk M p l j + 1 else loF M p s l j m) else loF M p s l j m) ∧ (∀ k, k < j + 1 → s.testBit k = true → Nty M p k m → atk M p l k + 1 ≤ (if s.testBit j = true ∧ (qn M (10 * p + j)).testBit m = true then (if loF M p s l j m < atk M p l j + 1 then atk M p l j + 1 else loF M p s l j m) else loF M p s l j m)) ∧ ((if s.testBit j = true ∧ (qn M (10 * p + j)).testBit m = true then (if loF M p s l j m < atk M p l j + 1 then atk M p l j + 1 else loF M p s l j m) else loF M p s l j m) = -1000 ∨ ∃ k, k < j + 1 ∧ s.testBit k = true ∧ Nty M p k m ∧ (if s.testBit j = true ∧ (qn M (10 * p + j)).testBit m = true then (if loF M p s l j m < atk M p l j + 1 then atk M p l j + 1 else loF M p s l j m) else loF M p s l j m) = atk M p l k + 1)
    by_cases z : s.testBit j = true ∧ (qn M (10 * p + j)).testBit m = true
    · rw [if_pos z]
      by_cases y : loF M p s l j m < atk M p l j + 1
      · rw [if_pos y]
        refine ⟨by omega, fun k hk h1 h2 => ?_, Or.inr ⟨j, by omega, z.1, z.2, rfl⟩⟩
        rcases Nat.lt_or_ge k j with w | w
        · have := b k w h1 h2
          omega
        · rw [show k = j by omega]; exact Int.le_refl _
      · rw [if_neg y]
        refine ⟨a, fun k hk h1 h2 => ?_, ?_⟩
        · rcases Nat.lt_or_ge k j with w | w
          · exact b k w h1 h2
          · rw [show k = j by omega]; omega
        · rcases c with c | ⟨k, c1, c2, c3, c4⟩
          · exact Or.inl c
          · exact Or.inr ⟨k, by omega, c2, c3, c4⟩
    · rw [if_neg z]
      refine ⟨a, fun k hk h1 h2 => ?_, ?_⟩
      · rcases Nat.lt_or_ge k j with w | w
        · exact b k w h1 h2
        · have e : k = j := by omega
          rw [e] at h1 h2
          exact absurd ⟨h1, h2⟩ z
      · rcases c with c | ⟨k, c1, c2, c3, c4⟩
        · exact Or.inl c
        · exact Or.inr ⟨k, by omega, c2, c3, c4⟩
theorem loF_is (m : Nat) : IsLo M p s l m (loF M p s l (Fn M p) m) := loF_k m (Fn M p)
end WINS
