/-! THE REFERENCE LAYS CLOCKS AND FRAMES -/
theorem neg_toInt {x : Int32} (h : -2147483648 < x.toInt) : (-x).toInt = -x.toInt := by
  have := Int32.toInt_lt x
  rw [Int32.toInt_neg, Int.bmod_eq_of_le (by omega) (by omega)]
theorem sub_toInt {x y : Int32} (h1 : -2147483648 ≤ x.toInt - y.toInt) (h2 : x.toInt - y.toInt < 2147483648) : (x - y).toInt = x.toInt - y.toInt := by
  rw [Int32.toInt_sub, Int.bmod_eq_of_le (by omega) (by omega)]
def LayOk (C : Ct) (d : Nat → Int32) : Prop := In10 C ∧ Snd C (mx d) ∧ Bel C (mx d) ∧ Dia (mx d) ∧ Rng 1000 1000 (mx d) ∧ (∀ a, a < 10 → 0 ≤ mx d a 0) ∧ 0 ≤ mx d 1 0 + mx d 0 1
theorem LayOk.cong {C C' : Ct} {d : Nat → Int32} (e : ∀ a b v, C a b v ↔ C' a b v) (h : LayOk C d) : LayOk C' d := by
  have : C = C' := by funext a b v; exact propext (e a b v)
  rw [← this]; exact h
theorem lay_add {C : Ct} {d : Nat → Int32} {a b : Nat} {v : Int32} (h : LayOk C d) (ha : a < 10) (hb : b < 10) (hab : a ≠ b) (a0 : a ≠ 0) (b0 : b ≠ 0) (hv : -1000 ≤ v.toInt ∧ v.toInt ≤ 1000) : LayOk (cadd C a b v.toInt) (amd d (10 * a + b) v) := by
  obtain ⟨h1, h2, h3, h4, h5, h6, h7⟩ := h
  unfold LayOk
  rw [mx_amd d ha hb]
  have off : ∀ x y, ¬ (x = a ∧ y = b) → am (mx d) a b v.toInt x y = mx d x y := fun x y hn => by
    rcases am_or (D := mx d) (a := a) (b := b) (v := v.toInt) x y with e | ⟨e1, e2, -⟩
    · exact e
    · exact absurd ⟨e1, e2⟩ hn
  refine ⟨fun x y w hw => ?_, am_snd (h2.sub (fun _ _ _ h => Or.inl h)) (Der.base (Or.inr ⟨rfl, rfl, rfl⟩)), fun x y w hw => ?_, fun x hx => ?_, fun x y => ?_, fun x hx => ?_, ?_⟩
  · rcases hw with hw | ⟨rfl, rfl, rfl⟩
    · exact h1 x y w hw
    · exact ⟨ha, hb, by unfold IN; omega⟩
  · rcases hw with hw | ⟨rfl, rfl, rfl⟩
    · exact Int.le_trans (am_le x y) (h3 x y w hw)
    · exact am_v
  · rw [off x x (by omega)]; exact h4 x hx
  · rcases am_or (D := mx d) (a := a) (b := b) (v := v.toInt) x y with e | ⟨-, -, e, -⟩
    · rw [e]; exact h5 x y
    · rw [e]; exact Or.inr ⟨hv.1, hv.2⟩
  · rw [off x 0 (by omega)]; exact h6 x hx
  · rw [off 1 0 (by omega), off 0 1 (by omega)]; exact h7
theorem lay_cam {C : Ct} {d : Nat → Int32} {c : Nat} {x y : Int32} (h : LayOk C d) (hc : c < 5) (hx : 0 ≤ x.toInt) (hxy : x.toInt ≤ y.toInt) (hy : y.toInt ≤ 999) (hf : ∀ a b v, C a b v → ¬ (a = 0 ∧ b = 1 + c) ∧ ¬ (a = 1 + c ∧ b = 0)) (hI : mx d 0 (1 + c) = IN ∧ mx d (1 + c) 0 = IN) :
    LayOk (cadd (cadd C 0 (1 + c) (-x.toInt)) (1 + c) 0 y.toInt) (amd (amd d (10 * 0 + (1 + c)) (-x)) (10 * (1 + c) + 0) y) := by
  obtain ⟨h1, h2, h3, h4, h5, h6, h7⟩ := h
  have nx : (-x).toInt = -x.toInt := neg_toInt (by omega)
  have iN : IN = 100000000 := rfl
  unfold LayOk
  rw [mx_amd _ (by omega) (by omega), mx_amd _ (by omega) (by omega), nx]
  generalize hE : am (mx d) 0 (1 + c) (-x.toInt) = E
  have offE : ∀ p q, ¬ (p = 0 ∧ q = 1 + c) → E p q = mx d p q := fun p q hn => by
    rw [← hE]
    rcases am_or (D := mx d) (a := 0) (b := 1 + c) (v := -x.toInt) p q with e | ⟨e1, e2, -⟩
    · exact e
    · exact absurd ⟨e1, e2⟩ hn
  have atE : E 0 (1 + c) = -x.toInt := by
    rw [← hE]
    unfold am
    rw [if_pos (by omega), u2_s]
  generalize hF : am E (1 + c) 0 y.toInt = F
  have offF : ∀ p q, ¬ (p = 1 + c ∧ q = 0) → F p q = E p q := fun p q hn => by
    rw [← hF]
    rcases am_or (D := E) (a := 1 + c) (b := 0) (v := y.toInt) p q with e | ⟨e1, e2, -⟩
    · exact e
    · exact absurd ⟨e1, e2⟩ hn
  have atF : F (1 + c) 0 = y.toInt := by
    rw [← hF]
    unfold am
    rw [if_pos (by rw [offE _ _ (by omega)]; omega), u2_s]
  have all : ∀ p q, F p q = mx d p q ∨ (p = 0 ∧ q = 1 + c ∧ F p q = -x.toInt) ∨ (p = 1 + c ∧ q = 0 ∧ F p q = y.toInt) := by
    intro p q
    by_cases e : p = 1 + c ∧ q = 0
    · exact Or.inr (Or.inr ⟨e.1, e.2, by rw [e.1, e.2]; exact atF⟩)
    · by_cases e2 : p = 0 ∧ q = 1 + c
      · exact Or.inr (Or.inl ⟨e2.1, e2.2, by rw [e2.1, e2.2, offF _ _ (by omega)]; exact atE⟩)
      · exact Or.inl (by rw [offF p q e, offE p q e2])
  refine ⟨fun p q w hw => ?_, fun p q hne => ?_, fun p q w hw => ?_, fun p hp => ?_, fun p q => ?_, fun p hp => ?_, ?_⟩
  · rcases hw with (hw | ⟨rfl, rfl, rfl⟩) | ⟨rfl, rfl, rfl⟩
    · exact h1 p q w hw
    · exact ⟨by omega, by omega, by omega⟩
    · exact ⟨by omega, by omega, by omega⟩
  · rcases all p q with e | ⟨e1, e2, e⟩ | ⟨e1, e2, e⟩
    · rw [e] at hne ⊢
      exact (h2 p q hne).sub (fun _ _ _ h => Der.base (Or.inl (Or.inl h)))
    · rw [e]; exact Der.base (Or.inl (Or.inr ⟨e1, e2, rfl⟩))
    · rw [e]; exact Der.base (Or.inr ⟨e1, e2, rfl⟩)
  · rcases hw with (hw | ⟨rfl, rfl, rfl⟩) | ⟨rfl, rfl, rfl⟩
    · have := hf p q w hw
      rcases all p q with e | ⟨e1, e2, e⟩ | ⟨e1, e2, e⟩
      · rw [e]; exact h3 p q w hw
      · exact absurd ⟨e1, e2⟩ this.1
      · exact absurd ⟨e1, e2⟩ this.2
    · rw [offF _ _ (by omega), atE]; exact Int.le_refl _
    · rw [atF]; exact Int.le_refl _
  · rcases all p p with e | ⟨e1, e2, e⟩ | ⟨e1, e2, e⟩
    · rw [e]; exact h4 p hp
    · omega
    · omega
  · rcases all p q with e | ⟨e1, e2, e⟩ | ⟨e1, e2, e⟩
    · rw [e]; exact h5 p q
    · rw [e]; exact Or.inr ⟨by omega, by omega⟩
    · rw [e]; exact Or.inr ⟨by omega, by omega⟩
  · rcases all p 0 with e | ⟨e1, e2, e⟩ | ⟨e1, e2, e⟩
    · rw [e]; exact h6 p hp
    · omega
    · rw [e]; omega
  · rcases Nat.eq_zero_or_pos c with rfl | hc0
    · rw [show F 1 0 = y.toInt from atF, offF 0 1 (by omega), show E 0 1 = -x.toInt from atE]; omega
    · rw [offF 1 0 (by omega), offE 1 0 (by omega), offF 0 1 (by omega), offE 0 1 (by omega)]; exact h7
/-! what the reference tells -/
def NC (M : Mem) (c : Nat) : Ct := fun a b v => (a = 0 ∧ b = 1 + c ∧ v = -(M.1 317 c).toInt) ∨ (a = 1 + c ∧ b = 0 ∧ v = (M.1 318 c).toInt)
def fi (M : Mem) (f : Nat) : Nat := (M.1 319 (4 * f)).toNatClampNeg
def fj (M : Mem) (f : Nat) : Nat := (M.1 319 (4 * f + 2)).toNatClampNeg
def fby (M : Mem) (f : Nat) : Int := (M.1 319 (4 * f + 3)).toInt - (M.1 319 (4 * f + 1)).toInt
def NF (M : Mem) (f : Nat) : Ct := fun a b v => (a = 1 + fj M f ∧ b = 1 + fi M f ∧ v = fby M f) ∨ (a = 1 + fi M f ∧ b = 1 + fj M f ∧ v = -fby M f)
def qc (M : Mem) (q : Nat) : Nat := (M.1 336 q).toNatClampNeg
def qs (M : Mem) (q : Nat) : Nat := (M.1 338 q).toNatClampNeg
def qn (M : Mem) (q : Nat) : Nat := (M.1 339 q).toNatClampNeg
def NM (M : Mem) (q m : Nat) : Ct := fun a b v => ((qs M q).testBit m = true ∧ a = 1 + qc M q ∧ b = 6 + m ∧ v = (M.1 337 q).toInt) ∨ ((qn M q).testBit m = true ∧ a = 6 + m ∧ b = 1 + qc M q ∧ v = -(M.1 337 q).toInt - 1)
def CC (M : Mem) : Ct := fun a b v => (∃ c, c < Cn M 0 ∧ NC M c a b v) ∨ ∃ f, f < Cn M 5 ∧ NF M f a b v
def CK (M : Mem) (p s : Nat) : Ct := fun a b v => CC M a b v ∨ ∃ k, k < Fn M p ∧ s.testBit k = true ∧ ∃ m, m < 4 ∧ NM M (10 * p + k) m a b v
def dini (d : Nat → Int32) : Nat → Int32 := fun i => if i < 100 then (if i % 11 = 0 then 0 else 100000000) else d i
def dcam (M : Mem) (c : Nat) (d : Nat → Int32) : Nat → Int32 := amd (amd d (10 * 0 + (1 + c)) (-(M.1 317 c))) (10 * (1 + c) + 0) (M.1 318 c)
def dfl (M : Mem) (f : Nat) (d : Nat → Int32) : Nat → Int32 := amd (amd d (10 * (1 + fj M f) + (1 + fi M f)) (M.1 319 (4 * f + 3) - M.1 319 (4 * f + 1))) (10 * (1 + fi M f) + (1 + fj M f)) (-(M.1 319 (4 * f + 3) - M.1 319 (4 * f + 1)))
def dclk (M : Mem) (d : Nat → Int32) : Nat → Int32 := it (dfl M) (Cn M 5) (it (dcam M) (Cn M 0) (dini d))
def dmk (M : Mem) (q m : Nat) (d : Nat → Int32) : Nat → Int32 :=
  let e := if (qs M q).testBit m then amd d (10 * (1 + qc M q) + (6 + m)) (M.1 337 q) else d
  if (qn M q).testBit m then amd e (10 * (6 + m) + (1 + qc M q)) (-(M.1 337 q) - 1) else e
def dfr (M : Mem) (p s k : Nat) (d : Nat → Int32) : Nat → Int32 := if s.testBit k then it (dmk M (10 * p + k)) 4 d else d
def dlay (M : Mem) (p s : Nat) (d : Nat → Int32) : Nat → Int32 := it (dfr M p s) (Fn M p) (dclk M d)
theorem ini_ok (d : Nat → Int32) : LayOk (fun _ _ _ => False) (dini d) := by
  have e : ∀ a b, a < 10 → b < 10 → mx (dini d) a b = if a = b then 0 else IN := by
    intro a b ha hb
    rw [mx_in _ ha hb]
    unfold dini
    rw [if_pos (by omega)]
    by_cases h : a = b
    · rw [if_pos h, if_pos (by omega)]; rfl
    · rw [if_neg h, if_neg (by omega)]; exact far_toInt
  have iN : IN = 100000000 := rfl
  refine ⟨fun _ _ _ h => h.elim, fun a b hne => ?_, fun _ _ _ h => h.elim, fun a ha => ?_, fun a b => ?_, fun a ha => ?_, ?_⟩
  · by_cases h10 : a < 10 ∧ b < 10
    · rw [e a b h10.1 h10.2] at hne ⊢
      by_cases h : a = b
      · rw [if_pos h, h]; exact Der.refl _ _
      · rw [if_neg h] at hne; exact absurd rfl hne
    · exact absurd (mx_out _ h10) hne
  · rw [e a a ha ha, if_pos rfl]
  · by_cases h10 : a < 10 ∧ b < 10
    · rw [e a b h10.1 h10.2]
      split
      · exact Or.inr ⟨by omega, by omega⟩
      · exact Or.inl rfl
    · exact Or.inl (mx_out _ h10)
  · rw [e a 0 ha (by omega)]
    split <;> omega
  · rw [e 1 0 (by omega) (by omega), e 0 1 (by omega) (by omega)]; decide
