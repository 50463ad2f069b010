/-! THE LAW'S TEXT out of its script (p37): sm k n is the script's k-th value below n -/
def SmO (sm : Nat → Nat → Nat) : Prop := ∀ k n, 0 < n → sm k n < n
section DATA
variable (sm : Nat → Nat → Nat)
def sca (c : Nat) : Nat := sm c 3
def scb (c : Nat) : Nat := sm c 3 + sm (3 + c) 4
def snf : Nat := sm 6 3
def sfa (k : Nat) : Nat := sm (7 + k) 3
def sfx (k : Nat) : Nat := 10 + sm (9 + k) 4
def sfb (k : Nat) : Nat := (sm (7 + k) 3 + 1 + sm (11 + k) 2) % 3
def sfy (k : Nat) : Nat := 10 + sm (13 + k) 4
def ssv (k : Nat) : Nat := sm (15 + k) 3
def sks (k : Nat) : Nat := 1 + sm (19 + k) 40
def sfo (k : Nat) : Bool := sm (21 + k) 3 == 0
def sag (k : Nat) : Bool := sm (23 + k) 2 == 0
def skf (k : Nat) : Nat := sm (17 + k) 3
def skg (k : Nat) : Nat := (sm (17 + k) 3 + 1 + sm (25 + k) 2) % 3
def skl (k : Nat) : List (Nat × Nat) := if sm (27 + k) 3 = 0 then [(0, 1 + sm (29 + k) 2)] else []
def sbn (b : Nat) : Nat := if b = 0 then 1 + sm 31 2 else 1 + sm 32 3
def sbm (b : Nat) : List (List Nat) := if b = 0 then [[0], [1], [2]] else [[0, 1], [1, 2], [0, 1, 2]]
def snp : Nat := 3 + sm 33 2
/-- the minute after so many plays -/
def smi : Nat → Nat
  | 0 => 0
  | p + 1 => smi p + sm (34 + p) 3
def spm (p : Nat) : Nat := smi sm (p + 1)
def spk (p : Nat) : Nat := sm (40 + p) 2
def sps (p : Nat) : Nat := sm (46 + p) 2
def spp (p : Nat) : Nat := sm (52 + p) 8
def spy (p : Nat) : Bool := sm (58 + p) 2 == 0
def sfn (p : Nat) : Nat := sm (64 + p) 5
def sat (p k : Nat) : Nat := 70 + 20 * p + 5 * k
def smk (p k : Nat) : List (Bool × Nat) := (sm (sat p k + 3) 2 == 0, sm (sat p k) 3) :: (if sm (sat p k + 4) 2 = 0 then [(sm (sat p k + 3) 3 == 0, (sm (sat p k) 3 + 1) % 3)] else [])
def sfd (p k : Nat) : FrD := (sm (sat p k + 1) 3, 8 + sm (sat p k + 2) 9, smk sm p k)
def spf (p : Nat) : List FrD := (List.range (sfn sm p)).map (sfd sm p)
def srv (x : Nat) : Nat := if x = 0 then 20 + sm 180 100 else if x = 1 then sm 181 3 else if x = 2 then sm 182 12 else sm 183 3
variable {sm : Nat → Nat → Nat}
theorem s_c1 (hs : SmO sm) : ∀ c, c < 3 → sca sm c ≤ scb sm c ∧ scb sm c ≤ 999 := fun c _ => by
  have := hs c 3 (by omega)
  have := hs (3 + c) 4 (by omega)
  unfold sca scb
  omega
theorem s_c2 (hs : SmO sm) : snf sm ≤ 6 := by
  have := hs 6 3 (by omega)
  unfold snf
  omega
theorem s_c3 (hs : SmO sm) : ∀ f, f < snf sm → sfa sm f < 3 ∧ sfb sm f < 3 ∧ sfa sm f ≠ sfb sm f ∧ sfx sm f ≤ 999 ∧ sfy sm f ≤ 999 := fun f _ => by
  have := hs (7 + f) 3 (by omega)
  have := hs (9 + f) 4 (by omega)
  have := hs (11 + f) 2 (by omega)
  have := hs (13 + f) 4 (by omega)
  unfold sfa sfb sfx sfy
  omega
theorem s_c4 (hs : SmO sm) : ∀ k, k < 2 → ssv sm k ≤ 9 := fun k _ => by
  have := hs (15 + k) 3 (by omega)
  unfold ssv
  omega
theorem skl_at (hs : SmO sm) {k j a b : Nat} (h : ((skf sm k, skg sm k) :: skl sm k)[j]? = some (a, b)) : (j = 0 ∧ a = skf sm k ∧ b = skg sm k) ∨ (j = 1 ∧ sm (27 + k) 3 = 0 ∧ a = 0 ∧ b = 1 + sm (29 + k) 2) := by
  have e0 : (skl sm k) = if sm (27 + k) 3 = 0 then [(0, 1 + sm (29 + k) 2)] else [] := rfl
  match j, h with
  | 0, h =>
    have : (skf sm k, skg sm k) = (a, b) := by simpa using h
    have := Prod.mk.inj this
    exact Or.inl ⟨rfl, this.1.symm, this.2.symm⟩
  | 1, h =>
    have h' : (skl sm k)[0]? = some (a, b) := h
    rw [e0] at h'
    by_cases q : sm (27 + k) 3 = 0
    · rw [if_pos q] at h'
      have : ((0 : Nat), 1 + sm (29 + k) 2) = (a, b) := by simpa using h'
      have := Prod.mk.inj this
      exact Or.inr ⟨rfl, q, this.1.symm, this.2.symm⟩
    · rw [if_neg q] at h'
      exact absurd h' (by simp)
  | j + 2, h =>
    have h' : (skl sm k)[j + 1]? = some (a, b) := h
    rw [e0] at h'
    by_cases q : sm (27 + k) 3 = 0
    · rw [if_pos q] at h'
      exact absurd h' (by simp)
    · rw [if_neg q] at h'
      exact absurd h' (by simp)
theorem s_kpr (hs : SmO sm) {k : Nat} : skf sm k < 3 ∧ skg sm k < 3 ∧ skf sm k ≠ skg sm k ∧ 1 + sm (29 + k) 2 < 3 := by
  have := hs (17 + k) 3 (by omega)
  have := hs (25 + k) 2 (by omega)
  have := hs (29 + k) 2 (by omega)
  unfold skf skg
  omega
theorem s_c5 (hs : SmO sm) : ∀ k, k < 2 → (1 ≤ sks sm k ∧ sks sm k ≤ 60) ∧ (skl sm k).length ≤ 2 ∧ ∀ (j a b : Nat), ((skf sm k, skg sm k) :: skl sm k)[j]? = some (a, b) → a < 4 ∧ b < 4 ∧ a ≠ b := fun k _ => by
  have h1 := hs (19 + k) 40 (by omega)
  obtain ⟨p1, p2, p3, p4⟩ := s_kpr (k := k) hs
  refine ⟨by unfold sks; omega, ?_, fun j a b h => ?_⟩
  · unfold skl
    split
    · exact Nat.le_succ 1
    · exact Nat.zero_le _
  · rcases skl_at hs h with ⟨-, e1, e2⟩ | ⟨-, -, e1, e2⟩
    · subst e1; subst e2; exact ⟨by omega, by omega, p3⟩
    · subst e1; subst e2; exact ⟨by omega, by omega, by omega⟩
theorem s_c6 (hs : SmO sm) : ∀ b, b < 2 → (1 ≤ sbn sm b ∧ sbn sm b ≤ 9) ∧ 0 < (sbm b).length ∧ (sbm b).length ≤ 7 ∧ ∀ m, m ∈ sbm b → ∃ c l, m = c :: l ∧ l.length < 100 ∧ ∀ d, d ∈ m → d < 3 := fun b _ => by
  have h1 := hs 31 2 (by omega)
  have h2 := hs 32 3 (by omega)
  have all : ∀ (L : List (List Nat)), L = [[0], [1], [2]] ∨ L = [[0, 1], [1, 2], [0, 1, 2]] → 0 < L.length ∧ L.length ≤ 7 ∧ ∀ m, m ∈ L → ∃ c l, m = c :: l ∧ l.length < 100 ∧ ∀ d, d ∈ m → d < 3 := by
    intro L hL
    rcases hL with rfl | rfl
    · refine ⟨by decide, by decide, fun m hm => ?_⟩
      have : m = [0] ∨ m = [1] ∨ m = [2] := by simpa using hm
      rcases this with rfl | rfl | rfl <;> exact ⟨_, _, rfl, by decide, by decide⟩
    · refine ⟨by decide, by decide, fun m hm => ?_⟩
      have : m = [0, 1] ∨ m = [1, 2] ∨ m = [0, 1, 2] := by simpa using hm
      rcases this with rfl | rfl | rfl <;> exact ⟨_, _, rfl, by decide, by decide⟩
  refine ⟨by unfold sbn; split <;> omega, all _ ?_⟩
  unfold sbm
  split
  · exact Or.inl rfl
  · exact Or.inr rfl
theorem s_c7 (hs : SmO sm) : snp sm ≤ 8 ∧ 3 ≤ snp sm ∧ snp sm ≤ 4 := by
  have := hs 33 2 (by omega)
  unfold snp
  omega
theorem smi_le (hs : SmO sm) : ∀ p, smi sm p ≤ 2 * p
  | 0 => Nat.le_refl 0
  | p + 1 => by
    have := smi_le hs p
    have := hs (34 + p) 3 (by omega)
    show smi sm p + sm (34 + p) 3 ≤ _
    omega
theorem s_c8 : ∀ p, p + 1 < snp sm → spm sm p ≤ spm sm (p + 1) := fun p _ => by
  show smi sm (p + 1) ≤ smi sm (p + 1) + _
  omega
theorem s_mk (hs : SmO sm) {p k : Nat} : mkOk 0 (smk sm p k) ∧ (smk sm p k).length < 100 := by
  have h1 := hs (sat p k) 3 (by omega)
  unfold smk
  by_cases q : sm (sat p k + 4) 2 = 0
  · rw [if_pos q]
    refine ⟨⟨by omega, Nat.zero_testBit _, by omega, ?_, trivial⟩, by show 2 < 100; omega⟩
    obtain ⟨m, e⟩ : ∃ m, m = sm (sat p k) 3 := ⟨_, rfl⟩
    rw [← e] at h1 ⊢
    rcases (show m = 0 ∨ m = 1 ∨ m = 2 by omega) with rfl | rfl | rfl <;> decide
  · rw [if_neg q]
    exact ⟨⟨by omega, Nat.zero_testBit _, trivial⟩, by show 1 < 100; omega⟩
theorem spf_at {p i : Nat} {f : FrD} : (spf sm p)[i]? = some f ↔ i < sfn sm p ∧ f = sfd sm p i := by
  unfold spf
  rw [List.getElem?_map]
  rcases Nat.lt_or_ge i (sfn sm p) with q | q
  · rw [List.getElem?_range q]
    exact ⟨fun h => ⟨q, (Option.some.inj h).symm⟩, fun h => by rw [h.2]; rfl⟩
  · rw [List.getElem?_eq_none (by rw [List.length_range]; exact q)]
    exact ⟨fun h => absurd h (by simp), fun h => absurd h.1 (by omega)⟩
theorem spf_len {p : Nat} : (spf sm p).length = sfn sm p := by
  unfold spf
  rw [List.length_map, List.length_range]
theorem s_c9 (hs : SmO sm) : ∀ p, p < snp sm → spm sm p ≤ 999 ∧ spk sm p < 2 ∧ sps sm p < 2 ∧ spp sm p ≤ 99 ∧ (spf sm p).length ≤ 10 ∧ ∀ f, f ∈ spf sm p → f.1 < 3 ∧ f.2.1 ≤ 999 ∧ mkOk 0 f.2.2 ∧ f.2.2.length < 100 := fun p hp => by
  have := hs (40 + p) 2 (by omega)
  have := hs (46 + p) 2 (by omega)
  have := hs (52 + p) 8 (by omega)
  have := hs (64 + p) 5 (by omega)
  have := smi_le hs (p + 1)
  have := s_c7 hs
  refine ⟨by unfold spm; omega, by unfold spk; omega, by unfold sps; omega, by unfold spp; omega, by rw [spf_len]; unfold sfn; omega, fun f hf => ?_⟩
  obtain ⟨i, hi⟩ := List.getElem?_of_mem hf
  obtain ⟨-, e⟩ := spf_at.mp hi
  have h1 := hs (sat p i + 1) 3 (by omega)
  have h2 := hs (sat p i + 2) 9 (by omega)
  subst e
  exact ⟨h1, by show 8 + _ ≤ 999; omega, (s_mk hs).1, (s_mk hs).2⟩
theorem s_c10 (hs : SmO sm) : ∀ x, x < 4 → srv sm x ≤ (if x = 0 ∨ x = 2 then 999 else 9) := fun x hx => by
  have := hs 180 100 (by omega)
  have := hs 181 3 (by omega)
  have := hs 182 12 (by omega)
  have := hs 183 3 (by omega)
  rcases (show x = 0 ∨ x = 1 ∨ x = 2 ∨ x = 3 by omega) with rfl | rfl | rfl | rfl
  · show 20 + sm 180 100 ≤ 999; omega
  · show sm 181 3 ≤ 9; omega
  · show sm 182 12 ≤ 999; omega
  · show sm 183 3 ≤ 9; omega
end DATA
