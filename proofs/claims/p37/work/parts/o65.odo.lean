/-! ALL CLOCKS, one behind the other -/
def NxO (a b l l' : Nat → Nat) : Prop := ∃ c, c < 3 ∧ l c < b c ∧ l' c = l c + 1 ∧ (∀ d, c < d → d < 3 → l d = b d ∧ l' d = a d) ∧ ∀ d, d < c ∨ 3 ≤ d → l' d = l d
def LxO (l l' : Nat → Nat) : Prop := l 0 < l' 0 ∨ (l 0 = l' 0 ∧ (l 1 < l' 1 ∨ (l 1 = l' 1 ∧ l 2 < l' 2)))
def EqO (l l' : Nat → Nat) : Prop := l 0 = l' 0 ∧ l 1 = l' 1 ∧ l 2 = l' 2
def BxO (a b l : Nat → Nat) : Prop := ∀ c, c < 3 → a c ≤ l c ∧ l c ≤ b c
/-- how far it is to the last -/
def far3 (b l : Nat → Nat) : Nat := 16 * (b 0 - l 0) + 4 * (b 1 - l 1) + (b 2 - l 2)
section ODO
variable {a b l l' m : Nat → Nat}
theorem odo_first (h : BxO a b m) (e : ∀ c, c < 3 → l c = a c) : ¬ LxO m l := by
  have h0 := h 0 (by omega)
  have h1 := h 1 (by omega)
  have h2 := h 2 (by omega)
  have e0 := e 0 (by omega)
  have e1 := e 1 (by omega)
  have e2 := e 2 (by omega)
  unfold LxO
  omega
theorem odo_last (h : BxO a b m) (e : ∀ c, c < 3 → l c = b c) : LxO m l ∨ EqO m l := by
  have h0 := h 0 (by omega)
  have h1 := h 1 (by omega)
  have h2 := h 2 (by omega)
  have e0 := e 0 (by omega)
  have e1 := e 1 (by omega)
  have e2 := e 2 (by omega)
  unfold LxO EqO
  omega
theorem odo_next (hm : BxO a b m) (hl : BxO a b l) (n : NxO a b l l') : LxO m l' ↔ LxO m l ∨ EqO m l := by
  obtain ⟨c, hc, n1, n2, n3, n4⟩ := n
  have h0 := hm 0 (by omega)
  have h1 := hm 1 (by omega)
  have h2 := hm 2 (by omega)
  unfold LxO EqO
  rcases (show c = 0 ∨ c = 1 ∨ c = 2 by omega) with rfl | rfl | rfl
  · have d1 := n3 1 (by omega) (by omega)
    have d2 := n3 2 (by omega) (by omega)
    omega
  · have d0 := n4 0 (by omega)
    have d2 := n3 2 (by omega) (by omega)
    omega
  · have d0 := n4 0 (by omega)
    have d1 := n4 1 (by omega)
    omega
theorem odo_far (w : ∀ c, c < 3 → b c ≤ a c + 3) (hl : BxO a b l) (n : NxO a b l l') : far3 b l' < far3 b l := by
  obtain ⟨c, hc, n1, n2, n3, n4⟩ := n
  have w1 := w 1 (by omega)
  have w2 := w 2 (by omega)
  have l0 := hl 0 (by omega)
  have l1 := hl 1 (by omega)
  have l2 := hl 2 (by omega)
  unfold far3
  rcases (show c = 0 ∨ c = 1 ∨ c = 2 by omega) with rfl | rfl | rfl
  · have d1 := n3 1 (by omega) (by omega)
    have d2 := n3 2 (by omega) (by omega)
    omega
  · have d0 := n4 0 (by omega)
    have d2 := n3 2 (by omega) (by omega)
    omega
  · have d0 := n4 0 (by omega)
    have d1 := n4 1 (by omega)
    omega
theorem odo_le (w : ∀ c, c < 3 → b c ≤ a c + 3) (hl : BxO a b l) : far3 b l ≤ 63 := by
  have w0 := w 0 (by omega)
  have w1 := w 1 (by omega)
  have w2 := w 2 (by omega)
  have l0 := hl 0 (by omega)
  have l1 := hl 1 (by omega)
  have l2 := hl 2 (by omega)
  unfold far3
  omega
end ODO
theorem s_w {sm : Nat → Nat → Nat} (hs : SmO sm) : ∀ c, c < 3 → scb sm c ≤ sca sm c + 3 := fun c _ => by
  have := hs (3 + c) 4 (by omega)
  unfold sca scb
  omega
/-- the law's step, as an odometer -/
theorem goes_f {N : Nat} {xs : Nat → Int32} {n : Nat} (hN : N < 2 ^ 30) (hn : 1000 ≤ n) {M : Mem} {l : Nat → Nat} (h : HB M) (T : TolS (smN N xs) M) (A : LateA M n l) (B : Box (smN N xs) l) :
    ∃ r M' l', f_L_goesOn N xs n M = some (r, M') ∧ HB M' ∧ TolS (smN N xs) M' ∧ LateA M' n l' ∧ Box (smN N xs) l' ∧ KL n M M' ∧ ((r = 1 ∧ NxO (sca (smN N xs)) (scb (smN N xs)) l l') ∨ (r = 0 ∧ ∀ c, c < 3 → l c = scb (smN N xs) c)) := by
  obtain ⟨r, M', l', e, h', T', A', B', k', v⟩ := goes_2 hN hn 3 (Nat.le_refl 3) M l fuel (by unfold fuel; omega) h T A B
  refine ⟨r, M', l', ?_, h', T', A', B', k', ?_⟩
  · have u : f_L_goesOn N xs n M = f_L_goesOn_b2 N xs fuel n 2 M := rfl
    rw [u]
    have i : nI 3 + (-1) = 2 := by decide
    rw [i] at e
    exact e
  · rcases v with ⟨w1, c, w2, w3, w4, w5, w6⟩ | ⟨w1, w2, -⟩
    · exact Or.inl ⟨w1, c, w2, w3, w4, w5, w6⟩
    · exact Or.inr ⟨w1, fun c hc => (w2 c hc).1⟩
