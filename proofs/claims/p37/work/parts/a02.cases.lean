/-! WHAT A PLAY IS, by all clocks and times that can be (p37) -/
theorem Rep.cong {C C' : Ct} (h : Rep C) (e : ∀ a b v, C' a b v ↔ C a b v) : Rep C' := by
  have : C' = C := by
    funext a b v
    exact propext (e a b v)
  rw [this]; exact h
theorem rep_ck {M : Mem} (O : MOk M) {p s : Nat} (hp : p < Cn M 4) : Rep (CK M p s) := by
  obtain ⟨h1, h2, h3, h4, h5, -⟩ := lay_ok O (fun _ => 0) hp s
  exact ⟨h1, _, h2, h3, h4, fun a b => by
    rcases h5 a b with e | e
    · omega
    · unfold IN; omega, h5⟩
/-- the bounds and the pairs -/
def CP (C : Ct) (prs : Nat → Nat → Prop) : Ct := fun a b v => C a b v ∨ ∃ f s, prs f s ∧ a = 6 + s ∧ b = 6 + f ∧ v = -1
theorem rep_cp {M : Mem} (O : MOk M) {k : Nat} (hk : k < Cn M 2) {C : Ct} (h : Rep C) : Rep (CP C (PR M k)) := by
  have key : ∀ n, n ≤ Pn M k → Rep (C3 M k C n) := by
    intro n
    induction n with
    | zero =>
      intro _
      refine h.cong (fun a b v => ⟨fun q => ?_, Or.inl⟩)
      rcases q with q | ⟨i, hi, -⟩
      · exact q
      · exact absurd hi (Nat.not_lt_zero i)
    | succ n ih =>
      intro hn
      obtain ⟨p1, p2, p3, -⟩ := pair_nat O hk (show n < Pn M k by omega)
      refine ((ih (by omega)).add (a := 6 + ps M k n) (b := 6 + pf M k n) (v := -1) (by omega) (by omega) (by omega) ⟨by omega, by omega⟩).cong (fun a b v => ⟨fun q => ?_, fun q => ?_⟩)
      · rcases q with q | ⟨i, hi, e1, e2, e3⟩
        · exact Or.inl (Or.inl q)
        · rcases Nat.lt_or_ge i n with c | c
          · exact Or.inl (Or.inr ⟨i, c, e1, e2, e3⟩)
          · have : i = n := by omega
            subst this
            exact Or.inr ⟨e1, e2, e3⟩
      · rcases q with (q | ⟨i, hi, e⟩) | ⟨e1, e2, e3⟩
        · exact Or.inl q
        · exact Or.inr ⟨i, by omega, e⟩
        · exact Or.inr ⟨n, Nat.lt_succ_self n, e1, e2, e3⟩
  refine (key _ (Nat.le_refl _)).cong (fun a b v => ⟨fun q => ?_, fun q => ?_⟩)
  · rcases q with q | ⟨f, s, ⟨i, hi, e1, e2⟩, e3, e4, e5⟩
    · exact Or.inl q
    · exact Or.inr ⟨i, hi, by rw [e3, e2], by rw [e4, e1], e5⟩
  · rcases q with q | ⟨i, hi, e3, e4, e5⟩
    · exact Or.inl q
    · exact Or.inr ⟨_, _, ⟨i, hi, rfl, rfl⟩, e3, e4, e5⟩
/-- the verdict of all solutions -/
theorem isV_sol {M : Mem} (O : MOk M) {p s : Nat} (hp : p < Cn M 4) {r : Int32} (h : IsV (CK M p s) (PR M (kp M p)) r) :
    ((∀ x, ¬ Sol (CK M p s) x) → r = 3) ∧
    ((∃ x, Sol (CK M p s) x) → (∀ x, Sol (CK M p s) x → ∀ f g, PR M (kp M p) f g → x (6 + g) - x (6 + f) < 0) → r = 1) ∧
    ((∃ x, Sol (CK M p s) x) → (¬ ∀ x, Sol (CK M p s) x → ∀ f g, PR M (kp M p) f g → x (6 + g) - x (6 + f) < 0) → (∀ x, Sol (CK M p s) x → ¬ ∀ f g, PR M (kp M p) f g → x (6 + g) - x (6 + f) < 0) → r = 0) ∧
    ((∃ x, Sol (CK M p s) x) → (¬ ∀ x, Sol (CK M p s) x → ∀ f g, PR M (kp M p) f g → x (6 + g) - x (6 + f) < 0) → (∃ x, Sol (CK M p s) x ∧ ∀ f g, PR M (kp M p) f g → x (6 + g) - x (6 + f) < 0) → r = 2) := by
  obtain ⟨hk, -⟩ := play_kind O hp
  have R := rep_ck O hp (s := s)
  have R2 := rep_cp O hk R
  have iff1 : ¬ Neg (CK M p s) → ((∀ f g, PR M (kp M p) f g → ∃ v, v < 0 ∧ Der (CK M p s) (6 + g) (6 + f) v) ↔ ∀ x, Sol (CK M p s) x → ∀ f g, PR M (kp M p) f g → x (6 + g) - x (6 + f) < 0) := by
    intro hn
    constructor
    · intro q x hx f g hfg
      obtain ⟨v, hv, d⟩ := q f g hfg
      have := hx.der d
      omega
    · intro q f g hfg
      obtain ⟨i, hi, rfl, rfl⟩ := hfg
      obtain ⟨p1, p2, p3, -⟩ := pair_nat O hk hi
      exact (must_iff R hn (l := 6 + pf M (kp M p) i) (k := 6 + ps M (kp M p) i) (by omega) (by omega) (by omega)).mpr (fun x hx => q x hx _ _ ⟨i, hi, rfl, rfl⟩)
  have sp : ∀ x, Sol (CP (CK M p s) (PR M (kp M p))) x ↔ Sol (CK M p s) x ∧ ∀ f g, PR M (kp M p) f g → x (6 + g) - x (6 + f) < 0 := by
    intro x
    constructor
    · intro hx
      refine ⟨fun a b v hc => hx a b v (Or.inl hc), fun f g hfg => ?_⟩
      have := hx (6 + g) (6 + f) (-1) (Or.inr ⟨f, g, hfg, rfl, rfl, rfl⟩)
      omega
    · rintro ⟨h1, h2⟩ a b v hc
      rcases hc with hc | ⟨f, g, hfg, rfl, rfl, rfl⟩
      · exact h1 a b v hc
      · have := h2 f g hfg
        omega
  have eN : (fun a b v => CK M p s a b v ∨ ∃ f g, PR M (kp M p) f g ∧ a = 6 + g ∧ b = 6 + f ∧ v = -1) = CP (CK M p s) (PR M (kp M p)) := rfl
  unfold IsV at h
  rw [eN] at h
  refine ⟨fun q => ?_, fun q q2 => ?_, fun q q2 q3 => ?_, fun q q2 q3 => ?_⟩
  · have n : Neg (CK M p s) := Classical.byContradiction (fun hn => by
      obtain ⟨x, hx⟩ := R.sol hn
      exact q x hx)
    rcases h with ⟨-, e⟩ | ⟨c, -⟩ | ⟨c, -⟩ | ⟨c, -⟩
    · exact e
    · exact absurd n c
    · exact absurd n c
    · exact absurd n c
  · obtain ⟨x, hx⟩ := q
    have n := hx.noneg
    have m := (iff1 n).mpr q2
    rcases h with ⟨c, -⟩ | ⟨-, -, e⟩ | ⟨-, c, -⟩ | ⟨-, c, -⟩
    · exact absurd c n
    · exact e
    · exact absurd m c
    · exact absurd m c
  · obtain ⟨x, hx⟩ := q
    have n := hx.noneg
    have m : ¬ _ := fun z => q2 ((iff1 n).mp z)
    have n2 : Neg (CP (CK M p s) (PR M (kp M p))) := Classical.byContradiction (fun hn => by
      obtain ⟨y, hy⟩ := R2.sol hn
      obtain ⟨y1, y2⟩ := (sp y).mp hy
      exact q3 y y1 y2)
    rcases h with ⟨c, -⟩ | ⟨-, c, -⟩ | ⟨-, -, -, e⟩ | ⟨-, -, c, -⟩
    · exact absurd c n
    · exact absurd c m
    · exact e
    · exact absurd n2 c
  · obtain ⟨x, hx⟩ := q
    have n := hx.noneg
    have m : ¬ _ := fun z => q2 ((iff1 n).mp z)
    obtain ⟨y, y1, y2⟩ := q3
    have n2 : ¬ Neg (CP (CK M p s) (PR M (kp M p))) := ((sp y).mpr ⟨y1, y2⟩).noneg
    rcases h with ⟨c, -⟩ | ⟨-, c, -⟩ | ⟨-, -, c, -⟩ | ⟨-, -, -, e⟩
    · exact absurd c n
    · exact absurd c m
    · exact absurd c n2
    · exact e
