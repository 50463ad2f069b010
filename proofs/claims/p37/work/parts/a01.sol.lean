/-! SOLUTIONS: numbers that keep all bounds (p37) -/
def Sol (C : Ct) (x : Nat → Int) : Prop := ∀ a b v, C a b v → x a - x b ≤ v
theorem Sol.der {C : Ct} {x : Nat → Int} (h : Sol C x) {a b : Nat} {v : Int} (d : Der C a b v) : x a - x b ≤ v :=
  d (fun a b v => x a - x b ≤ v) (fun a => by show x a - x a ≤ 0; omega) (fun a b u v huv h1 => by
    have h2 : x a - x b ≤ u := h1
    show x a - x b ≤ v
    omega) (fun a b c u v h1 h2 => by
    have e1 : x a - x b ≤ u := h1
    have e2 : x b - x c ≤ v := h2
    show x a - x c ≤ u + v
    omega) h
theorem Sol.noneg {C : Ct} {x : Nat → Int} (h : Sol C x) : ¬ Neg C := by
  rintro ⟨a, v, hv, d⟩
  have := h.der d
  omega
/-- the least of a row's first n, and 0 -/
def mn (f : Nat → Int) : Nat → Int
  | 0 => 0
  | n + 1 => if f n < mn f n then f n else mn f n
theorem mn_0 (f : Nat → Int) : ∀ n, mn f n ≤ 0
  | 0 => Int.le_refl 0
  | n + 1 => by
    have h := mn_0 f n
    show (if f n < mn f n then f n else mn f n) ≤ 0
    split <;> omega
theorem mn_le (f : Nat → Int) : ∀ n j, j < n → mn f n ≤ f j
  | 0, _, h => absurd h (Nat.not_lt_zero _)
  | n + 1, j, h => by
    show (if f n < mn f n then f n else mn f n) ≤ f j
    rcases Nat.lt_or_ge j n with c | c
    · have := mn_le f n j c
      split <;> omega
    · rw [show j = n by omega]
      split <;> omega
theorem mn_at (f : Nat → Int) : ∀ n, mn f n = 0 ∨ ∃ j, j < n ∧ mn f n = f j
  | 0 => Or.inl rfl
  | n + 1 => by
    show (if f n < mn f n then f n else mn f n) = 0 ∨ ∃ j, j < n + 1 ∧ (if f n < mn f n then f n else mn f n) = f j
    by_cases c : f n < mn f n
    · rw [if_pos c]; exact Or.inr ⟨n, Nat.lt_succ_self n, rfl⟩
    · rw [if_neg c]
      rcases mn_at f n with h | ⟨j, hj, h⟩
      · exact Or.inl h
      · exact Or.inr ⟨j, by omega, h⟩
theorem Tig.sol {C : Ct} {G : Mx} (h10 : In10 C) (t : Tig C G) : Sol C (fun a => mn (G a) 10) := by
  intro a b v hc
  obtain ⟨ha, hb, hv⟩ := h10 a b v hc
  have h1 := t.2.1 a b v hc
  have iN : IN = 100000000 := rfl
  show mn (G a) 10 - mn (G b) 10 ≤ v
  rcases mn_at (G b) 10 with e | ⟨j, hj, e⟩
  · have := mn_le (G a) 10 b hb
    omega
  · have h0 := mn_0 (G b) 10
    have h2 := t.1.2 a b j ha hb hj (by omega) (by omega)
    have := mn_le (G a) 10 j hj
    omega
theorem Rep.sol {C : Ct} (h : Rep C) (hn : ¬ Neg C) : ∃ x, Sol C x := by
  obtain ⟨G, t, -⟩ := h.tig hn
  exact ⟨_, t.sol h.1⟩
theorem Sol.add {C : Ct} {a b : Nat} {v : Int} {x : Nat → Int} (h : Sol (cadd C a b v) x) : Sol C x ∧ x a - x b ≤ v :=
  ⟨fun a' b' v' hc => h a' b' v' (Or.inl hc), h a b v (Or.inr ⟨rfl, rfl, rfl⟩)⟩
/-- what holds of all solutions follows -/
theorem must_iff {C : Ct} (h : Rep C) (hn : ¬ Neg C) {l k : Nat} (hl : l < 10) (hk : k < 10) (hlk : l ≠ k) : (∃ v, v < 0 ∧ Der C k l v) ↔ ∀ x, Sol C x → x k - x l < 0 := by
  constructor
  · rintro ⟨v, hv, d⟩ x hx
    have := hx.der d
    omega
  · intro hall
    apply Classical.byContradiction
    intro hno
    obtain ⟨G, t, -⟩ := h.tig hn
    have hb : G k l = IN ∨ 0 ≤ G k l + 0 := by
      by_cases e : G k l = IN
      · exact Or.inl e
      · refine Or.inr ?_
        have d := t.2.2.1 k l e
        rcases Int.lt_or_le (G k l) 0 with q | q
        · exact absurd ⟨_, q, d⟩ hno
        · omega
    have t2 := tell_in h t hl hk hlk (v := 0) ⟨by omega, by omega⟩ hb
    obtain ⟨s1, s2⟩ := (t2.sol (h.add hl hk hlk ⟨by omega, by omega⟩).1).add
    have := hall _ s1
    omega
/-- what stands in the picture is met by a solution -/
theorem tight {C : Ct} (h : Rep C) {G : Mx} (t : Tig C G) {l k : Nat} (hl : l < 10) (hk : k < 10) (hlk : l ≠ k) (hne : G k l ≠ IN) (hv : -1000 ≤ G k l ∧ G k l ≤ 1000) : ∃ x, Sol C x ∧ x k - x l = G k l := by
  have t2 := tell_in h t hl hk hlk (v := -G k l) ⟨by omega, by omega⟩ (Or.inr (by omega))
  obtain ⟨s1, s2⟩ := (t2.sol (h.add hl hk hlk ⟨by omega, by omega⟩).1).add
  refine ⟨_, s1, ?_⟩
  have := s1.der (t.2.2.1 k l hne)
  omega
