/-! WHAT A PLAY IS, by clocks and times (p37) -/
def PrA (M : Mem) (p : Nat) (t : Nat → Int) : Prop := ∀ f g, PR M (kp M p) f g → t f < t g
def SomeP (M : Mem) (p s : Nat) : Prop := ∃ l t, Clk M l ∧ Tim M p s l t
def AllP (M : Mem) (p s : Nat) : Prop := ∀ l t, Clk M l → Tim M p s l t → PrA M p t
def NoneP (M : Mem) (p s : Nat) : Prop := ∀ l t, Clk M l → Tim M p s l t → ¬ PrA M p t
/-- the law's word on a play -/
def wordOf (a b c : Prop) [Decidable a] [Decidable b] [Decidable c] : Int32 := if ¬ a then 3 else if b then 1 else if c then 0 else 2
theorem vq_word {M : Mem} (O : MOk M) {p s : Nat} (hp : p < Cn M 4) (hs : s < 1024) [Decidable (SomeP M p s)] [Decidable (AllP M p s)] [Decidable (NoneP M p s)] : vq M p s = wordOf (SomeP M p s) (AllP M p s) (NoneP M p s) := by
  obtain ⟨d', -, h⟩ := vq_ref O hp hs
  obtain ⟨h3, h1, h0, h2⟩ := isV_sol O hp h
  have toP : ∀ {l t : Nat → Int}, PrA M p t ↔ ∀ f g, PR M (kp M p) f g → xlt l t (6 + g) - xlt l t (6 + f) < 0 := by
    intro l t
    constructor
    · intro q f g hfg
      have := q f g hfg
      rw [xlt_m, xlt_m]
      omega
    · intro q f g hfg
      have := q f g hfg
      rw [xlt_m, xlt_m] at this
      show t f < t g
      omega
  have ofP : ∀ {x : Nat → Int}, PrA M p (fun m => x 0 - x (6 + m)) ↔ ∀ f g, PR M (kp M p) f g → x (6 + g) - x (6 + f) < 0 := by
    intro x
    constructor
    · intro q f g hfg
      have h1 : x 0 - x (6 + f) < x 0 - x (6 + g) := q f g hfg
      omega
    · intro q f g hfg
      have := q f g hfg
      show x 0 - x (6 + f) < x 0 - x (6 + g)
      omega
  have sS : SomeP M p s ↔ ∃ x, Sol (CK M p s) x := by
    constructor
    · rintro ⟨l, t, hc, ht⟩
      exact ⟨_, sol_to O hp hc ht⟩
    · rintro ⟨x, hx⟩
      obtain ⟨hc, ht⟩ := sol_of O hp hx
      exact ⟨_, _, hc, ht⟩
  have sA : AllP M p s ↔ ∀ x, Sol (CK M p s) x → ∀ f g, PR M (kp M p) f g → x (6 + g) - x (6 + f) < 0 := by
    constructor
    · intro q x hx
      obtain ⟨hc, ht⟩ := sol_of O hp hx
      exact ofP.mp (q _ _ hc ht)
    · intro q l t hc ht
      exact (toP (l := l)).mpr (q _ (sol_to O hp hc ht))
  have sN : NoneP M p s ↔ ∀ x, Sol (CK M p s) x → ¬ ∀ f g, PR M (kp M p) f g → x (6 + g) - x (6 + f) < 0 := by
    constructor
    · intro q x hx z
      obtain ⟨hc, ht⟩ := sol_of O hp hx
      exact q _ _ hc ht (ofP.mpr z)
    · intro q l t hc ht z
      exact q _ (sol_to O hp hc ht) ((toP (l := l)).mp z)
  unfold wordOf
  by_cases a : SomeP M p s
  · rw [if_neg (fun z => z a)]
    have a' := sS.mp a
    by_cases b : AllP M p s
    · rw [if_pos b]; exact h1 a' (sA.mp b)
    · rw [if_neg b]
      have b' := fun z => b (sA.mpr z)
      by_cases c : NoneP M p s
      · rw [if_pos c]; exact h0 a' b' (sN.mp c)
      · rw [if_neg c]
        refine h2 a' b' ?_
        apply Classical.byContradiction
        intro z
        exact c (sN.mpr (fun x hx q => z ⟨x, hx, q⟩))
  · rw [if_pos a]
    exact h3 (fun x hx => a (sS.mpr ⟨x, hx⟩))
/-! the clocks by all cameras and flashes -/
theorem sol_cc_of {M : Mem} {x : Nat → Int} (h : Sol (CC M) x) : Clk M (fun c => x (1 + c) - x 0) := by
  refine ⟨fun c hc => ?_, fun f hf => ?_⟩
  · have h1 := h 0 (1 + c) _ (Or.inl ⟨c, hc, Or.inl ⟨rfl, rfl, rfl⟩⟩)
    have h2 := h (1 + c) 0 _ (Or.inl ⟨c, hc, Or.inr ⟨rfl, rfl, rfl⟩⟩)
    show _ ≤ x (1 + c) - x 0 ∧ x (1 + c) - x 0 ≤ _
    omega
  · have h1 := h _ _ _ (Or.inr ⟨f, hf, Or.inl ⟨rfl, rfl, rfl⟩⟩)
    have h2 := h _ _ _ (Or.inr ⟨f, hf, Or.inr ⟨rfl, rfl, rfl⟩⟩)
    unfold fby at h1 h2
    show (M.1 319 (4 * f + 1)).toInt - (x (1 + fi M f) - x 0) = (M.1 319 (4 * f + 3)).toInt - (x (1 + fj M f) - x 0)
    omega
theorem sol_cc_to {M : Mem} (O : MOk M) {l : Nat → Int} (hc : Clk M l) : Sol (CC M) (xlt l (fun _ => 0)) := by
  have h0 := O.1.1.2
  intro a b v hv
  rcases hv with ⟨c, hcc, ⟨rfl, rfl, rfl⟩ | ⟨rfl, rfl, rfl⟩⟩ | ⟨f, hf, ⟨rfl, rfl, rfl⟩ | ⟨rfl, rfl, rfl⟩⟩
  · have := hc.1 c hcc
    rw [xlt_0, xlt_c l _ (by omega)]
    omega
  · have := hc.1 c hcc
    rw [xlt_0, xlt_c l _ (by omega)]
    omega
  · obtain ⟨f1, f2, -⟩ := fl_nat O hf
    have := hc.2 f hf
    rw [xlt_c l _ (by omega), xlt_c l _ (by omega)]
    unfold fby
    omega
  · obtain ⟨f1, f2, -⟩ := fl_nat O hf
    have := hc.2 f hf
    rw [xlt_c l _ (by omega), xlt_c l _ (by omega)]
    unfold fby
    omega
/-- what is asked of a camera: the least and the most of its clocks that can be -/
theorem camV_least {M : Mem} (O : MOk M) {c : Nat} (hc : c < Cn M 0) {r : Int32} (h : CamV (CC M) 0 (1 + c) True r) : ((∀ l, ¬ Clk M l) → r = -2) ∧ ((∃ l, Clk M l) → (∃ l, Clk M l ∧ l c = r.toInt) ∧ ∀ l, Clk M l → r.toInt ≤ l c) := by
  have h0 := O.1.1.2
  have R := rep_cc O
  constructor
  · intro q
    rcases h with ⟨-, e⟩ | ⟨n, -⟩
    · exact e
    · obtain ⟨x, hx⟩ := R.sol n
      exact absurd (sol_cc_of hx) (q _)
  · rintro ⟨l0, hl0⟩
    rcases h with ⟨n, -⟩ | ⟨n, G, t, ⟨-, e⟩ | ⟨q, -⟩⟩
    · exact absurd n (sol_cc_to O hl0).noneg
    · obtain ⟨g1, g2⟩ := cam_in O hc t.2.1
      have iN : IN = 100000000 := rfl
      obtain ⟨r1, r2, r3⟩ := O.2.1 c hc
      have low : ∀ l, Clk M l → r.toInt ≤ l c := by
        intro l hl
        have := (sol_cc_to O hl).der (t.2.2.1 0 (1 + c) (by omega))
        rw [xlt_0, xlt_c l _ (by omega)] at this
        omega
      refine ⟨?_, low⟩
      have b1 := t.2.1 0 (1 + c) _ (Or.inl ⟨c, hc, Or.inl ⟨rfl, rfl, rfl⟩⟩)
      have h3 := low l0 hl0
      have h4 := hl0.1 c hc
      obtain ⟨x, hx, e2⟩ := tight R t (l := 1 + c) (k := 0) (by omega) (by omega) (by omega) (by omega) ⟨by omega, by omega⟩
      refine ⟨_, sol_cc_of hx, ?_⟩
      show x (1 + c) - x 0 = r.toInt
      omega
    · exact absurd trivial q
theorem camV_most {M : Mem} (O : MOk M) {c : Nat} (hc : c < Cn M 0) {r : Int32} (h : CamV (CC M) (1 + c) 0 False r) : ((∀ l, ¬ Clk M l) → r = -2) ∧ ((∃ l, Clk M l) → (∃ l, Clk M l ∧ l c = r.toInt) ∧ ∀ l, Clk M l → l c ≤ r.toInt) := by
  have h0 := O.1.1.2
  have R := rep_cc O
  constructor
  · intro q
    rcases h with ⟨-, e⟩ | ⟨n, -⟩
    · exact e
    · obtain ⟨x, hx⟩ := R.sol n
      exact absurd (sol_cc_of hx) (q _)
  · rintro ⟨l0, hl0⟩
    rcases h with ⟨n, -⟩ | ⟨n, G, t, ⟨q, -⟩ | ⟨-, e⟩⟩
    · exact absurd n (sol_cc_to O hl0).noneg
    · exact absurd q id
    · obtain ⟨g1, g2⟩ := cam_in O hc t.2.1
      have iN : IN = 100000000 := rfl
      obtain ⟨r1, r2, r3⟩ := O.2.1 c hc
      have up : ∀ l, Clk M l → l c ≤ r.toInt := by
        intro l hl
        have := (sol_cc_to O hl).der (t.2.2.1 (1 + c) 0 (by omega))
        rw [xlt_0, xlt_c l _ (by omega)] at this
        omega
      refine ⟨?_, up⟩
      have b1 := t.2.1 (1 + c) 0 _ (Or.inl ⟨c, hc, Or.inr ⟨rfl, rfl, rfl⟩⟩)
      have h3 := up l0 hl0
      have h4 := hl0.1 c hc
      obtain ⟨x, hx, e2⟩ := tight R t (l := 0) (k := 1 + c) (by omega) (by omega) (by omega) (by omega) ⟨by omega, by omega⟩
      refine ⟨_, sol_cc_of hx, ?_⟩
      show x (1 + c) - x 0 = r.toInt
      omega
