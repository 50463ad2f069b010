/-! one row of ints put in another's place -/
def sA (M : Mem) (n : Nat) (d : Nat → Int32) : Mem := (fun a k => if a = n then d k else M.1 a k, M.2.1, M.2.2.1, M.2.2.2)
theorem sA_s (M : Mem) (n : Nat) (d : Nat → Int32) (k : Nat) : (sA M n d).1 n k = d k := if_pos rfl
theorem sA_n (M : Mem) {n a : Nat} (d : Nat → Int32) (k : Nat) (h : a ≠ n) : (sA M n d).1 a k = M.1 a k := if_neg h
theorem sA_set (M : Mem) (n : Nat) (d : Nat → Int32) (k : Nat) (x : Int32) : setI (sA M n d) n k x = sA M n (upd d k x) := by
  unfold setI sA
  congr 1
  funext a j
  show (if a = n ∧ j = k then x else if a = n then d j else M.1 a j) = if a = n then (if j = k then x else d j) else M.1 a j
  by_cases h : a = n
  · by_cases h2 : j = k
    · rw [if_pos ⟨h, h2⟩, if_pos h, if_pos h2]
    · rw [if_neg (fun z => h2 z.2), if_pos h, if_pos h, if_neg h2]
  · rw [if_neg (fun z => h z.1), if_neg h, if_neg h]
theorem sA_self (M : Mem) (n : Nat) : sA M n (M.1 n) = M := by
  unfold sA
  have : (fun a k => if a = n then M.1 n k else M.1 a k) = M.1 := by
    funext a k
    by_cases h : a = n
    · rw [if_pos h, h]
    · rw [if_neg h]
  rw [this]
theorem sA_sA (M : Mem) (n : Nat) (d e : Nat → Int32) : sA (sA M n d) n e = sA M n e := by
  unfold sA
  congr 1
  funext a k
  by_cases h : a = n
  · rw [if_pos h, if_pos h]
  · rw [if_neg h, if_neg h]; exact if_neg h
/-! numbers -/
theorem i10 {a b : Nat} : (10 * nI a) + nI b = nI (10 * a + b) := by
  rw [show (10 : Int32) = nI 10 from rfl, nI_mul', nI_add]
/-! the reference's matrix -/
def amd (d : Nat → Int32) (i : Nat) (v : Int32) : Nat → Int32 := if d i ≤ v then d else upd d i v
theorem atMost_f (M : Mem) (d : Nat → Int32) {a b : Nat} (ha : a < 10) (hb : b < 10) (v : Int32) : f_X11_atMost (nI a) (nI b) v (sA M 344 d) = some (sA M 344 (amd d (10 * a + b) v)) := by
  unfold f_X11_atMost amd
  rw [i10, gd_t (inb_nI (by omega) (by omega)), nI_clamp (by omega), sA_s]
  by_cases h : d (10 * a + b) ≤ v
  · rw [if_pos h, if_pos h]
  · rw [if_neg h, if_neg h, bnd_e, sA_set]
def stp32 (k a b : Nat) (d : Nat → Int32) : Nat → Int32 := if 100000000 ≤ d (10 * k + b) then d else amd d (10 * a + b) (d (10 * a + k) + d (10 * k + b))
def sgr32 (k a : Nat) (d : Nat → Int32) : Nat → Int32 := if d (10 * a + k) = 100000000 then d else it (fun b d => stp32 k a b d) 10 d
def sg32 (k : Nat) (d : Nat → Int32) : Nat → Int32 := it (fun a d => sgr32 k a d) 10 d
def fw32 (d : Nat → Int32) : Nat → Int32 := it sg32 10 d
theorem clo_38 (r2 : Int32 → Mem → Option (Int32 × Mem)) (r10 : Int32 → Int32 → Mem → Option (Int32 × Mem)) (M : Mem) (d : Nat → Int32) {k a : Nat} (hk : k < 10) (ha : a < 10) : f_X11_closes_b38 r2 r10 fuel (nI k) (nI a) 0 (sA M 344 d) = r10 (nI k) (nI (a + 1)) (sA M 344 (it (fun b d => stp32 k a b d) 10 d)) := by
  unfold f_X11_closes_b38
  refine lp_for (fun j (f : Int32 → Int32 → Int32 → Mem → Option (Int32 × Mem)) => f (nI k) (nI a) (nI j) (sA M 344 (it (fun b d => stp32 k a b d) j d))) 10 _ (fun j hj f => ?_) (fun f => ?_) fuel (by decide)
  · show f_X11_closes_b38_s r2 r10 f (nI k) (nI a) (nI j) (sA M 344 (it (fun b d => stp32 k a b d) j d)) = f (nI k) (nI a) (nI (j + 1)) (sA M 344 (it (fun b d => stp32 k a b d) (j + 1) d))
    unfold f_X11_closes_b38_s
    rw [if_neg (by rw [show (10 : Int32) = nI 10 from rfl]; exact nI_ge hj (by omega)), i10, gd_t (inb_nI (by omega) (by omega)), nI_clamp (by omega), sA_s, it_s]
    simp only [bnd_e]
    generalize it (fun b d => stp32 k a b d) j d = e
    unfold stp32
    by_cases h : 100000000 ≤ e (10 * k + j)
    · rw [if_pos h, if_pos h, nI_1]
    · rw [if_neg h, if_neg h, i10, gd_t (inb_nI (by omega) (by omega)), nI_clamp (by omega), sA_s, atMost_f M e ha hj, clv_s, nI_1]
  · show f_X11_closes_b38_s r2 r10 f (nI k) (nI a) (nI 10) _ = _
    unfold f_X11_closes_b38_s
    rw [if_pos (by decide), bnd_e, nI_1]
theorem clo_10 (r2 : Int32 → Mem → Option (Int32 × Mem)) (M : Mem) (d : Nat → Int32) {k : Nat} (hk : k < 10) : f_X11_closes_b10 r2 fuel (nI k) 0 (sA M 344 d) = r2 (nI (k + 1)) (sA M 344 (sg32 k d)) := by
  unfold f_X11_closes_b10
  refine lp_for (fun j (f : Int32 → Int32 → Mem → Option (Int32 × Mem)) => f (nI k) (nI j) (sA M 344 (it (fun a d => sgr32 k a d) j d))) 10 _ (fun j hj f => ?_) (fun f => ?_) fuel (by decide)
  · show f_X11_closes_b10_s r2 f (nI k) (nI j) (sA M 344 (it (fun a d => sgr32 k a d) j d)) = f (nI k) (nI (j + 1)) (sA M 344 (it (fun a d => sgr32 k a d) (j + 1) d))
    unfold f_X11_closes_b10_s
    rw [if_neg (by rw [show (10 : Int32) = nI 10 from rfl]; exact nI_ge hj (by omega)), i10, gd_t (inb_nI (by omega) (by omega)), nI_clamp (by omega), sA_s, it_s]
    simp only [bnd_e]
    generalize it (fun a d => sgr32 k a d) j d = e
    unfold sgr32
    by_cases h : e (10 * j + k) = 100000000
    · rw [if_pos h, if_pos h, nI_1]
    · rw [if_neg h, if_neg h, clo_38 r2 f M e hk hj]
  · show f_X11_closes_b10_s r2 f (nI k) (nI 10) _ = _
    unfold f_X11_closes_b10_s
    rw [if_pos (by decide), bnd_e, nI_1]
    rfl
theorem clo_110 (M : Mem) (d : Nat → Int32) : ((∀ a, a < 10 → 0 ≤ d (11 * a)) → f_X11_closes_b110 fuel 0 (sA M 344 d) = some (1, sA M 344 d)) ∧ ((¬ ∀ a, a < 10 → 0 ≤ d (11 * a)) → f_X11_closes_b110 fuel 0 (sA M 344 d) = some (0, sA M 344 d)) := by
  have e11 : ∀ j, (11 : Int32) * nI j = nI (11 * j) := fun j => by rw [show (11 : Int32) = nI 11 from rfl, nI_mul']
  have stay : ∀ j, j < 10 → 0 ≤ d (11 * j) → ∀ f, f_X11_closes_b110_s f (nI j) (sA M 344 d) = f (nI (j + 1)) (sA M 344 d) := by
    intro j hj h f
    unfold f_X11_closes_b110_s
    rw [if_neg (by rw [show (10 : Int32) = nI 10 from rfl]; exact nI_ge hj (by omega)), e11, gd_t (inb_nI (by omega) (by omega)), nI_clamp (by omega), sA_s, if_pos h, bnd_e, nI_1]
  refine ⟨fun hall => ?_, fun hall => ?_⟩
  · unfold f_X11_closes_b110
    refine lp_for (fun j (f : Int32 → Mem → Option (Int32 × Mem)) => f (nI j) (sA M 344 d)) 10 _ (fun j hj f => stay j hj (hall j hj) f) (fun f => ?_) fuel (by decide)
    show f_X11_closes_b110_s f (nI 10) _ = _
    unfold f_X11_closes_b110_s
    rw [if_pos (by decide)]
  · obtain ⟨n, hn, hbad, hlow⟩ : ∃ n, n < 10 ∧ ¬ 0 ≤ d (11 * n) ∧ ∀ a, a < n → 0 ≤ d (11 * a) := by
      have key : ∀ m, m ≤ 10 → (∀ a, a < m → 0 ≤ d (11 * a)) ∨ ∃ n, n < m ∧ ¬ 0 ≤ d (11 * n) ∧ ∀ a, a < n → 0 ≤ d (11 * a) := by
        intro m
        induction m with
        | zero => intro _; exact Or.inl (fun a h => absurd h (Nat.not_lt_zero a))
        | succ m ih =>
          intro hm
          rcases ih (by omega) with h | ⟨n, h1, h2⟩
          · by_cases h3 : 0 ≤ d (11 * m)
            · refine Or.inl (fun a ha => ?_)
              rcases Nat.lt_or_ge a m with h4 | h4
              · exact h a h4
              · rw [show a = m by omega]; exact h3
            · exact Or.inr ⟨m, by omega, h3, h⟩
          · exact Or.inr ⟨n, by omega, h2⟩
      rcases key 10 (Nat.le_refl _) with h | ⟨n, h1, h2, h3⟩
      · exact absurd h hall
      · exact ⟨n, h1, h2, h3⟩
    unfold f_X11_closes_b110
    refine lp_for (fun j (f : Int32 → Mem → Option (Int32 × Mem)) => f (nI j) (sA M 344 d)) n _ (fun j hj f => stay j (by omega) (hlow j hj) f) (fun f => ?_) fuel (by unfold fuel; omega)
    show f_X11_closes_b110_s f (nI n) _ = _
    unfold f_X11_closes_b110_s
    rw [if_neg (by rw [show (10 : Int32) = nI 10 from rfl]; exact nI_ge hn (by omega)), e11, gd_t (inb_nI (by omega) (by omega)), nI_clamp (by omega), sA_s, if_neg hbad]
theorem clo_2 (M : Mem) (d : Nat → Int32) : f_X11_closes (sA M 344 d) = f_X11_closes_b110 fuel 0 (sA M 344 (fw32 d)) := by
  unfold f_X11_closes f_X11_closes_b2
  refine lp_for (fun j (f : Int32 → Mem → Option (Int32 × Mem)) => f (nI j) (sA M 344 (it sg32 j d))) 10 _ (fun j hj f => ?_) (fun f => ?_) fuel (by decide)
  · show f_X11_closes_b2_s f (nI j) (sA M 344 (it sg32 j d)) = f (nI (j + 1)) (sA M 344 (it sg32 (j + 1) d))
    unfold f_X11_closes_b2_s
    rw [if_neg (by rw [show (10 : Int32) = nI 10 from rfl]; exact nI_ge hj (by omega)), clo_10 f M _ hj, it_s]
  · show f_X11_closes_b2_s f (nI 10) _ = _
    unfold f_X11_closes_b2_s
    rw [if_pos (by decide)]
    rfl
