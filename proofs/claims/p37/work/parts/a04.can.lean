/-! CAN ALL PAIRS HOLD: the law's search for times (p37) -/
/-- g comes behind f -/
def pu (f g : Nat) (a : Nat → Int) : Nat → Int := fun m => if m = g then (if a g ≤ a f + 1 then a f + 1 else a g) else a m
theorem pu_ge (f g : Nat) (a : Nat → Int) (m : Nat) : a m ≤ pu f g a m := by
  show a m ≤ if m = g then (if a g ≤ a f + 1 then a f + 1 else a g) else a m
  by_cases h : m = g
  · rw [if_pos h, h]
    split <;> omega
  · rw [if_neg h]; exact Int.le_refl _
theorem pu_n {f g : Nat} (a : Nat → Int) {m : Nat} (h : m ≠ g) : pu f g a m = a m := if_neg h
theorem pu_s (f g : Nat) (a : Nat → Int) : a f + 1 ≤ pu f g a g := by
  show a f + 1 ≤ if g = g then (if a g ≤ a f + 1 then a f + 1 else a g) else a g
  rw [if_pos rfl]
  split <;> omega
theorem pu_id {f g : Nat} {a : Nat → Int} (h : a f < a g) : pu f g a = a := by
  funext m
  show (if m = g then (if a g ≤ a f + 1 then a f + 1 else a g) else a m) = a m
  by_cases c : m = g
  · rw [if_pos c, c]
    split <;> omega
  · rw [if_neg c]
def rdp (F G : Nat → Nat) (n : Nat) (a : Nat → Int) : Nat → Int := it (fun k a => pu (F k) (G k) a) n a
def rd5 (F G : Nat → Nat) (n : Nat) (a : Nat → Int) : Nat → Int := it (fun _ a => rdp F G n a) 5 a
theorem rdp_ge (F G : Nat → Nat) (n : Nat) (a : Nat → Int) (m : Nat) : a m ≤ rdp F G n a m :=
  it_ind (P := fun _ (b : Nat → Int) => a m ≤ b m) (Int.le_refl _) n (fun i _ b h => Int.le_trans h (pu_ge _ _ b m))
theorem rd5_ge (F G : Nat → Nat) (n : Nat) (a : Nat → Int) (m : Nat) : a m ≤ rd5 F G n a m :=
  it_ind (P := fun _ (b : Nat → Int) => a m ≤ b m) (Int.le_refl _) 5 (fun i _ b h => Int.le_trans h (rdp_ge F G n b m))
/-- below a true picture, or far below -/
def Bdl (t : Nat → Int) (j : Int) (a : Nat → Int) : Prop := ∀ m, m < 4 → (a m ≤ t m ∨ a m ≤ -1000 + j) ∧ a m ≤ 500 + j
theorem pu_bd {f g : Nat} {t a : Nat → Int} {j : Int} (hf : f < 4) (hg : g < 4) (h : t f < t g) (b : Bdl t j a) : Bdl t (j + 1) (pu f g a) := by
  intro m hm
  obtain ⟨b1, b2⟩ := b m hm
  obtain ⟨c1, c2⟩ := b f hf
  by_cases e : m = g
  · subst e
    show ((if m = m then (if a m ≤ a f + 1 then a f + 1 else a m) else a m) ≤ t m ∨ (if m = m then (if a m ≤ a f + 1 then a f + 1 else a m) else a m) ≤ -1000 + (j + 1)) ∧ (if m = m then (if a m ≤ a f + 1 then a f + 1 else a m) else a m) ≤ 500 + (j + 1)
    rw [if_pos rfl]
    split <;> omega
  · rw [pu_n a e]
    omega
theorem rdp_bd {F G : Nat → Nat} {n : Nat} {t a : Nat → Int} {j : Int} (hF : ∀ k, k < n → F k < 4 ∧ G k < 4) (h : ∀ k, k < n → t (F k) < t (G k)) (b : Bdl t j a) : Bdl t (j + n) (rdp F G n a) := by
  have := it_ind (f := fun k a => pu (F k) (G k) a) (P := fun i (c : Nat → Int) => Bdl t (j + i) c) (x := a) (by simpa using b) n (fun i hi c hc => by
    have h1 := pu_bd (hF i hi).1 (hF i hi).2 (h i hi) hc
    have e : j + (i : Int) + 1 = j + ((i + 1 : Nat) : Int) := by omega
    rw [e] at h1
    exact h1)
  exact this
theorem rd5_bd {F G : Nat → Nat} {n : Nat} (hn : n ≤ 2) {t a : Nat → Int} (hF : ∀ k, k < n → F k < 4 ∧ G k < 4) (h : ∀ k, k < n → t (F k) < t (G k)) (b : Bdl t 0 a) : Bdl t 10 (rd5 F G n a) := by
  have h1 := rdp_bd hF h b
  have h2 := rdp_bd hF h h1
  have h3 := rdp_bd hF h h2
  have h4 := rdp_bd hF h h3
  have h5 := rdp_bd hF h h4
  intro m hm
  have := h5 m hm
  have e : rd5 F G n a = rdp F G n (rdp F G n (rdp F G n (rdp F G n (rdp F G n a)))) := rfl
  rw [e]
  omega
/-- where the pairs can hold, they hold behind the five rounds -/
theorem rd5_sat {F G : Nat → Nat} {n : Nat} (hn : n ≤ 2) (hne : ∀ k, k < n → F k ≠ G k) (hcy : ∀ i k, i < n → k < n → ¬ (G i = F k ∧ G k = F i)) (a : Nat → Int) : ∀ k, k < n → rd5 F G n a (F k) < rd5 F G n a (G k) := by
  have e5 : rd5 F G n a = rdp F G n (rdp F G n (rdp F G n (rdp F G n (rdp F G n a)))) := rfl
  have stay : ∀ b : Nat → Int, (∀ k, k < n → b (F k) < b (G k)) → rdp F G n b = b := by
    intro b hb
    have := it_ind (f := fun k a => pu (F k) (G k) a) (P := fun _ (c : Nat → Int) => c = b) (x := b) rfl n (fun i hi c hc => by
      rw [hc]; exact pu_id (hb i hi))
    exact this
  have two : ∀ b : Nat → Int, ∀ k, k < n → rdp F G n (rdp F G n b) (F k) < rdp F G n (rdp F G n b) (G k) := by
    rcases (show n = 0 ∨ n = 1 ∨ n = 2 by omega) with rfl | rfl | rfl
    · intro b k hk
      exact absurd hk (Nat.not_lt_zero k)
    · intro b k hk
      obtain rfl : k = 0 := by omega
      have e : rdp F G 1 (rdp F G 1 b) = pu (F 0) (G 0) (pu (F 0) (G 0) b) := rfl
      rw [e, pu_n (m := F 0) _ (hne 0 (by omega))]
      have := pu_s (F 0) (G 0) (pu (F 0) (G 0) b)
      omega
    · intro b
      have n0 := hne 0 (by omega)
      have n1 := hne 1 (by omega)
      have e : ∀ c, rdp F G 2 c = pu (F 1) (G 1) (pu (F 0) (G 0) c) := fun c => rfl
      have s1 : ∀ c, rdp F G 2 c (F 1) < rdp F G 2 c (G 1) := by
        intro c
        rw [e, pu_n (m := F 1) _ n1]
        have := pu_s (F 1) (G 1) (pu (F 0) (G 0) c)
        omega
      have s0 : rdp F G 2 (rdp F G 2 b) (F 0) < rdp F G 2 (rdp F G 2 b) (G 0) := by
        have p0 : ∀ c, pu (F 0) (G 0) c (F 0) < pu (F 0) (G 0) c (G 0) := fun c => by
          rw [pu_n (m := F 0) _ n0]
          have := pu_s (F 0) (G 0) c
          omega
        by_cases c : G 1 = F 0
        · have c2 : G 0 ≠ F 1 := fun z => hcy 0 1 (by omega) (by omega) ⟨z, c⟩
          have h1 := s1 b
          rw [e (rdp F G 2 b), pu_id (f := F 1) (g := G 1)]
          · exact p0 _
          · rw [pu_n (m := F 1) _ (fun z => c2 z.symm), pu_n (m := G 1) _ (fun z => n0 (c.symm.trans z))]
            exact h1
        · rw [e (rdp F G 2 b), pu_n (m := F 0) _ (fun z => c z.symm)]
          have h1 := p0 (rdp F G 2 b)
          have h2 := pu_ge (F 1) (G 1) (pu (F 0) (G 0) (rdp F G 2 b)) (G 0)
          omega
      intro k hk
      rcases (show k = 0 ∨ k = 1 by omega) with rfl | rfl
      · exact s0
      · exact s1 _
  intro k hk
  have h2 := two a
  rw [e5, stay _ h2, stay _ h2, stay _ h2]
  exact h2 k hk
theorem can_iff {M : Mem} {p s : Nat} {l lo hi : Nat → Int} {F G : Nat → Nat} {n : Nat} (hn : n ≤ 2) (hF : ∀ k, k < n → F k < 4 ∧ G k < 4 ∧ F k ≠ G k) (hlo : ∀ m, m < 4 → IsLo M p s l m (lo m)) (hhi : ∀ m, m < 4 → IsHi M p s l m (hi m)) (hb : ∀ m, m < 4 → lo m ≤ 500 ∧ -500 ≤ hi m) :
    (∃ t, Tim M p s l t ∧ ∀ k, k < n → t (F k) < t (G k)) ↔ (∀ k, k < n → rd5 F G n lo (F k) < rd5 F G n lo (G k)) ∧ ∀ m, m < 4 → rd5 F G n lo m ≤ hi m := by
  constructor
  · rintro ⟨t, ht, hp⟩
    have b0 : Bdl t 0 lo := by
      intro m hm
      have h1 := hb m hm
      rcases (hlo m hm).2.2 with e | ⟨k, hk, hs, q, e⟩
      · omega
      · have := (ht k hk hs m hm).2 q
        omega
    have bd := rd5_bd hn (fun k hk => ⟨(hF k hk).1, (hF k hk).2.1⟩) hp b0
    refine ⟨rd5_sat hn (fun k hk => (hF k hk).2.2) (fun i k hi hk z => ?_) lo, fun m hm => ?_⟩
    · have h1 := hp i hi
      have h2 := hp k hk
      rw [z.1] at h1
      rw [z.2] at h2
      omega
    · have h1 := bd m hm
      have h2 := hb m hm
      rcases (hhi m hm).2.2 with e | ⟨k, hk, hs, q, e⟩
      · omega
      · have := (ht k hk hs m hm).1 q
        omega
  · rintro ⟨h1, h2⟩
    refine ⟨rd5 F G n lo, fun k hk hs m hm => ⟨fun q => ?_, fun q => ?_⟩, h1⟩
    · have a1 := (hhi m hm).2.1 k hk hs q
      have a2 := h2 m hm
      omega
    · have a1 := (hlo m hm).2.1 k hk hs q
      have a2 := rd5_ge F G n lo m
      omega
