/-! CLOCKS AND TIMES: the solutions as the law sees them (p37) -/
def Clk (M : Mem) (l : Nat → Int) : Prop := (∀ c, c < Cn M 0 → (M.1 317 c).toInt ≤ l c ∧ l c ≤ (M.1 318 c).toInt) ∧ ∀ f, f < Cn M 5 → (M.1 319 (4 * f + 1)).toInt - l (fi M f) = (M.1 319 (4 * f + 3)).toInt - l (fj M f)
def atk (M : Mem) (p : Nat) (l : Nat → Int) (k : Nat) : Int := (M.1 337 (10 * p + k)).toInt - l (qc M (10 * p + k))
def Seen (M : Mem) (p k m : Nat) : Prop := (qs M (10 * p + k)).testBit m = true
def Nty (M : Mem) (p k m : Nat) : Prop := (qn M (10 * p + k)).testBit m = true
def Tim (M : Mem) (p s : Nat) (l t : Nat → Int) : Prop := ∀ k, k < Fn M p → s.testBit k = true → ∀ m, m < 4 → (Seen M p k m → t m ≤ atk M p l k) ∧ (Nty M p k m → atk M p l k + 1 ≤ t m)
theorem fl_nat {M : Mem} (O : MOk M) {f : Nat} (hf : f < Cn M 5) : fi M f < Cn M 0 ∧ fj M f < Cn M 0 ∧ M.1 319 (4 * f) = nI (fi M f) ∧ M.1 319 (4 * f + 2) = nI (fj M f) := by
  have h0 := O.1.1.2
  obtain ⟨⟨a, b, ha, hb, -, e1, e2⟩, -⟩ := O.2.2.1 f hf
  have f1 : fi M f = a := toNat_nI (by omega) e1
  have f2 : fj M f = b := toNat_nI (by omega) e2
  rw [f1, f2]
  exact ⟨ha, hb, e1, e2⟩
theorem fr_nat {M : Mem} (O : MOk M) {p k : Nat} (hp : p < Cn M 4) (hk : k < Fn M p) : qc M (10 * p + k) < Cn M 0 ∧ M.1 336 (10 * p + k) = nI (qc M (10 * p + k)) ∧ 0 ≤ (M.1 337 (10 * p + k)).toInt ∧ (M.1 337 (10 * p + k)).toInt ≤ 999 := by
  have h0 := O.1.1.2
  obtain ⟨⟨c, hc, e⟩, ⟨t1, t2⟩, -⟩ := (O.2.2.2.2.2.2.1 p hp).2.2.2.2.2.2 k hk
  have f1 : qc M (10 * p + k) = c := toNat_nI (by omega) e
  rw [f1]
  exact ⟨hc, e, t1, t2⟩
theorem sol_of {M : Mem} (O : MOk M) {p s : Nat} (hp : p < Cn M 4) {x : Nat → Int} (h : Sol (CK M p s) x) : Clk M (fun c => x (1 + c) - x 0) ∧ Tim M p s (fun c => x (1 + c) - x 0) (fun m => x 0 - x (6 + m)) := by
  refine ⟨⟨fun c hc => ?_, fun f hf => ?_⟩, fun k hk hs m hm => ⟨fun q => ?_, fun q => ?_⟩⟩
  · have h1 := h 0 (1 + c) _ (Or.inl (Or.inl ⟨c, hc, Or.inl ⟨rfl, rfl, rfl⟩⟩))
    have h2 := h (1 + c) 0 _ (Or.inl (Or.inl ⟨c, hc, Or.inr ⟨rfl, rfl, rfl⟩⟩))
    show _ ≤ x (1 + c) - x 0 ∧ x (1 + c) - x 0 ≤ _
    omega
  · have h1 := h _ _ _ (Or.inl (Or.inr ⟨f, hf, Or.inl ⟨rfl, rfl, rfl⟩⟩))
    have h2 := h _ _ _ (Or.inl (Or.inr ⟨f, hf, Or.inr ⟨rfl, rfl, rfl⟩⟩))
    unfold fby at h1 h2
    show (M.1 319 (4 * f + 1)).toInt - (x (1 + fi M f) - x 0) = (M.1 319 (4 * f + 3)).toInt - (x (1 + fj M f) - x 0)
    omega
  · have h1 := h _ _ _ (Or.inr ⟨k, hk, hs, m, hm, Or.inl ⟨q, rfl, rfl, rfl⟩⟩)
    show x 0 - x (6 + m) ≤ (M.1 337 (10 * p + k)).toInt - (x (1 + qc M (10 * p + k)) - x 0)
    omega
  · have h1 := h _ _ _ (Or.inr ⟨k, hk, hs, m, hm, Or.inr ⟨q, rfl, rfl, rfl⟩⟩)
    show (M.1 337 (10 * p + k)).toInt - (x (1 + qc M (10 * p + k)) - x 0) + 1 ≤ x 0 - x (6 + m)
    omega
/-- numbers out of clocks and times -/
def xlt (l t : Nat → Int) : Nat → Int := fun n => if n = 0 then 0 else if n < 6 then l (n - 1) else -t (n - 6)
theorem xlt_0 (l t : Nat → Int) : xlt l t 0 = 0 := rfl
theorem xlt_c (l t : Nat → Int) {c : Nat} (h : c < 5) : xlt l t (1 + c) = l c := by
  unfold xlt
  rw [if_neg (by omega), if_pos (by omega), show 1 + c - 1 = c by omega]
theorem xlt_m (l t : Nat → Int) (m : Nat) : xlt l t (6 + m) = -t m := by
  unfold xlt
  rw [if_neg (by omega), if_neg (by omega), show 6 + m - 6 = m by omega]
theorem sol_to {M : Mem} (O : MOk M) {p s : Nat} (hp : p < Cn M 4) {l t : Nat → Int} (hc : Clk M l) (ht : Tim M p s l t) : Sol (CK M p s) (xlt l t) := by
  have h0 := O.1.1.2
  intro a b v hv
  rcases hv with (⟨c, hcc, ⟨rfl, rfl, rfl⟩ | ⟨rfl, rfl, rfl⟩⟩ | ⟨f, hf, ⟨rfl, rfl, rfl⟩ | ⟨rfl, rfl, rfl⟩⟩) | ⟨k, hk, hs, m, hm, ⟨q, rfl, rfl, rfl⟩ | ⟨q, rfl, rfl, rfl⟩⟩
  · have := hc.1 c hcc
    rw [xlt_0, xlt_c l t (by omega)]
    omega
  · have := hc.1 c hcc
    rw [xlt_0, xlt_c l t (by omega)]
    omega
  · obtain ⟨f1, f2, -⟩ := fl_nat O hf
    have := hc.2 f hf
    rw [xlt_c l t (by omega), xlt_c l t (by omega)]
    unfold fby
    omega
  · obtain ⟨f1, f2, -⟩ := fl_nat O hf
    have := hc.2 f hf
    rw [xlt_c l t (by omega), xlt_c l t (by omega)]
    unfold fby
    omega
  · obtain ⟨f1, -⟩ := fr_nat O hp hk
    have := (ht k hk hs m hm).1 q
    unfold atk at this
    rw [xlt_c l t (by omega), xlt_m]
    omega
  · obtain ⟨f1, -⟩ := fr_nat O hp hk
    have := (ht k hk hs m hm).2 q
    unfold atk at this
    rw [xlt_c l t (by omega), xlt_m]
    omega
theorem atk_rng {M : Mem} (O : MOk M) {p k : Nat} (hp : p < Cn M 4) (hk : k < Fn M p) {l : Nat → Int} (hc : Clk M l) : -999 ≤ atk M p l k ∧ atk M p l k ≤ 999 := by
  obtain ⟨f1, -, t1, t2⟩ := fr_nat O hp hk
  obtain ⟨r1, r2, r3⟩ := O.2.1 _ f1
  have := hc.1 _ f1
  unfold atk
  omega
/-! windows -/
def IsHi (M : Mem) (p s : Nat) (l : Nat → Int) (m : Nat) (v : Int) : Prop := v ≤ 1000 ∧ (∀ k, k < Fn M p → s.testBit k = true → Seen M p k m → v ≤ atk M p l k) ∧ (v = 1000 ∨ ∃ k, k < Fn M p ∧ s.testBit k = true ∧ Seen M p k m ∧ v = atk M p l k)
def IsLo (M : Mem) (p s : Nat) (l : Nat → Int) (m : Nat) (v : Int) : Prop := -1000 ≤ v ∧ (∀ k, k < Fn M p → s.testBit k = true → Nty M p k m → atk M p l k + 1 ≤ v) ∧ (v = -1000 ∨ ∃ k, k < Fn M p ∧ s.testBit k = true ∧ Nty M p k m ∧ v = atk M p l k + 1)
section WIN
variable {M : Mem} {p s : Nat} {l lo hi : Nat → Int}
theorem tim_iff (O : MOk M) (hp : p < Cn M 4) (hc : Clk M l) (hlo : ∀ m, m < 4 → IsLo M p s l m (lo m)) (hhi : ∀ m, m < 4 → IsHi M p s l m (hi m)) : (∃ t, Tim M p s l t) ↔ ∀ m, m < 4 → lo m ≤ hi m := by
  constructor
  · rintro ⟨t, ht⟩ m hm
    rcases (hlo m hm).2.2 with e | ⟨k, hk, hs, q, e⟩
    · rcases (hhi m hm).2.2 with e' | ⟨k', hk', hs', q', e'⟩
      · omega
      · have := atk_rng O hp hk' hc
        omega
    · rcases (hhi m hm).2.2 with e' | ⟨k', hk', hs', q', e'⟩
      · have := atk_rng O hp hk hc
        omega
      · have h1 := (ht k hk hs m hm).2 q
        have h2 := (ht k' hk' hs' m hm).1 q'
        omega
  · intro h
    refine ⟨lo, fun k hk hs m hm => ⟨fun q => ?_, fun q => (hlo m hm).2.1 k hk hs q⟩⟩
    have h1 := (hhi m hm).2.1 k hk hs q
    have h2 := h m hm
    omega
theorem all_iff (O : MOk M) (hp : p < Cn M 4) (hc : Clk M l) (hlo : ∀ m, m < 4 → IsLo M p s l m (lo m)) (hhi : ∀ m, m < 4 → IsHi M p s l m (hi m)) (can : ∀ m, m < 4 → lo m ≤ hi m) {f g : Nat} (hf : f < 4) (hg : g < 4) (hfg : f ≠ g) : (∀ t, Tim M p s l t → t f < t g) ↔ hi f < lo g := by
  constructor
  · intro h
    have h1 := h (fun m => if m = f then hi f else lo m) (fun k hk hs m hm => ⟨fun q => ?_, fun q => ?_⟩)
    · have h2 : (if f = f then hi f else lo f) < (if g = f then hi f else lo g) := h1
      rw [if_pos rfl, if_neg (fun z => hfg z.symm)] at h2
      exact h2
    · show (if m = f then hi f else lo m) ≤ _
      have h1 := (hhi m hm).2.1 k hk hs q
      have h2 := can m hm
      by_cases c : m = f
      · rw [if_pos c, ← c]; exact h1
      · rw [if_neg c]; omega
    · show _ ≤ (if m = f then hi f else lo m)
      have h1 := (hlo m hm).2.1 k hk hs q
      have h2 := can m hm
      by_cases c : m = f
      · rw [if_pos c, ← c]; omega
      · rw [if_neg c]; exact h1
  · intro h t ht
    rcases (hhi f hf).2.2 with e | ⟨k, hk, hs, q, e⟩
    · rcases (hlo g hg).2.2 with e' | ⟨k', hk', hs', q', e'⟩
      · omega
      · have := atk_rng O hp hk' hc
        omega
    · rcases (hlo g hg).2.2 with e' | ⟨k', hk', hs', q', e'⟩
      · have := atk_rng O hp hk hc
        omega
      · have h1 := (ht k hk hs f hf).1 q
        have h2 := (ht k' hk' hs' g hg).2 q'
        omega
end WIN
