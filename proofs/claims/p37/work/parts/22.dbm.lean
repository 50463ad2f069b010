/-! BOUNDS OF ALL FROM ONE ANOTHER: what follows from a set of bounds, closing them stage by stage -/
def it {α : Type} (f : Nat → α → α) : Nat → α → α
  | 0, x => x
  | n + 1, x => f n (it f n x)
theorem it_ind {α : Type} {f : Nat → α → α} {P : Nat → α → Prop} {x : α} (h0 : P 0 x) : ∀ n, (∀ i, i < n → ∀ y, P i y → P (i + 1) (f i y)) → P n (it f n x)
  | 0, _ => h0
  | n + 1, hs => hs n (Nat.lt_succ_self n) _ (it_ind h0 n (fun i hi => hs i (Nat.lt_succ_of_lt hi)))
abbrev Mx : Type := Nat → Nat → Int
def IN : Int := 100000000
def u2 (D : Mx) (a b : Nat) (v : Int) : Mx := fun a' b' => if a' = a ∧ b' = b then v else D a' b'
theorem u2_s {D : Mx} {a b : Nat} {v : Int} : u2 D a b v a b = v := if_pos ⟨rfl, rfl⟩
theorem u2_n {D : Mx} {a b a' b' : Nat} {v : Int} (h : ¬ (a' = a ∧ b' = b)) : u2 D a b v a' b' = D a' b' := if_neg h
/-- at most v from a to b -/
def am (D : Mx) (a b : Nat) (v : Int) : Mx := if v < D a b then u2 D a b v else D
def stp (k a b : Nat) (D : Mx) : Mx := if D a k = IN ∨ IN ≤ D k b then D else am D a b (D a k + D k b)
def sgr (k a : Nat) (D : Mx) : Mx := it (fun b D => stp k a b D) 10 D
def sg (k : Nat) (D : Mx) : Mx := it (fun a D => sgr k a D) 10 D
def fw (D : Mx) : Mx := it sg 10 D
abbrev Ct : Type := Nat → Nat → Int → Prop
/-- what follows from the bounds C -/
def Der (C : Ct) (a b : Nat) (v : Int) : Prop := ∀ P : Ct, (∀ a, P a a 0) → (∀ a b u v, u ≤ v → P a b u → P a b v) → (∀ a b c u v, P a b u → P b c v → P a c (u + v)) → (∀ a b v, C a b v → P a b v) → P a b v
def Neg (C : Ct) : Prop := ∃ a v, v < 0 ∧ Der C a a v
theorem Der.refl (C : Ct) (a : Nat) : Der C a a 0 := fun P h1 _ _ _ => h1 a
theorem Der.mono {C : Ct} {a b : Nat} {u v : Int} (h : u ≤ v) (d : Der C a b u) : Der C a b v := fun P h1 h2 h3 h4 => h2 _ _ _ _ h (d P h1 h2 h3 h4)
theorem Der.tr {C : Ct} {a b c : Nat} {u v : Int} (d1 : Der C a b u) (d2 : Der C b c v) : Der C a c (u + v) := fun P h1 h2 h3 h4 => h3 _ _ _ _ _ (d1 P h1 h2 h3 h4) (d2 P h1 h2 h3 h4)
theorem Der.base {C : Ct} {a b : Nat} {v : Int} (h : C a b v) : Der C a b v := fun P _ _ _ h4 => h4 _ _ _ h
theorem Der.sub {C C' : Ct} (h : ∀ a b v, C a b v → Der C' a b v) {a b : Nat} {v : Int} (d : Der C a b v) : Der C' a b v := d (Der C') (Der.refl C') (fun _ _ _ _ => Der.mono) (fun _ _ _ _ _ => Der.tr) h
theorem Neg.sub {C C' : Ct} (h : ∀ a b v, C a b v → Der C' a b v) (n : Neg C) : Neg C' := by
  obtain ⟨a, v, hv, d⟩ := n
  exact ⟨a, v, hv, d.sub h⟩
/-- each bound that stands follows -/
def Snd (C : Ct) (D : Mx) : Prop := ∀ a b, D a b ≠ IN → Der C a b (D a b)
/-- no bound is wider than told; where none is, IN stands -/
def Bel (C : Ct) (D : Mx) : Prop := ∀ a b v, C a b v → D a b ≤ v
def Cls (D : Mx) : Prop := (∀ a, a < 10 → D a a = 0) ∧ ∀ a b c, a < 10 → b < 10 → c < 10 → D a b ≠ IN → D b c ≠ IN → D a c ≤ D a b + D b c
/-- what stands lies within -lo .. up -/
def Rng (lo up : Int) (D : Mx) : Prop := ∀ a b, D a b = IN ∨ (-lo ≤ D a b ∧ D a b ≤ up)
/-- bounds are told of the first ten alone -/
def In10 (C : Ct) : Prop := ∀ a b v, C a b v → a < 10 ∧ b < 10 ∧ v < IN
theorem cls_der {C : Ct} {D : Mx} {lo up : Int} (h10 : In10 C) (hc : Cls D) (hb : Bel C D) (hr : Rng lo up D) (hu : up + up < IN) {a b : Nat} {v : Int} (d : Der C a b v) (ha : a < 10) (hb2 : b < 10) (hv : v < IN) : D a b ≠ IN ∧ D a b ≤ v := by
  have h := d (fun a b v => (a = b ∧ 0 ≤ v) ∨ (a < 10 ∧ b < 10 ∧ D a b ≠ IN ∧ D a b ≤ v)) (fun a => Or.inl ⟨rfl, Int.le_refl 0⟩) (fun a b u v huv h => ?_) (fun a b c u v h1 h2 => ?_) (fun a b v h => ?_)
  · rcases h with ⟨rfl, h⟩ | ⟨-, -, h1, h2⟩
    · have := hc.1 a ha
      rw [this]
      exact ⟨by unfold IN; omega, h⟩
    · exact ⟨h1, h2⟩
  · rcases h with ⟨e, h⟩ | ⟨h1, h2, h3, h4⟩
    · exact Or.inl ⟨e, by omega⟩
    · exact Or.inr ⟨h1, h2, h3, by omega⟩
  · rcases h1 with ⟨rfl, h1⟩ | ⟨p1, p2, p3, p4⟩
    · rcases h2 with ⟨rfl, h2⟩ | ⟨q1, q2, q3, q4⟩
      · exact Or.inl ⟨rfl, by omega⟩
      · exact Or.inr ⟨q1, q2, q3, by omega⟩
    · rcases h2 with ⟨rfl, h2⟩ | ⟨q1, q2, q3, q4⟩
      · exact Or.inr ⟨p1, p2, p3, by omega⟩
      · have h5 := hc.2 a b c p1 p2 q2 p3 q3
        rcases hr a b with e | ⟨r1, r2⟩
        · exact absurd e p3
        rcases hr b c with e | ⟨r3, r4⟩
        · exact absurd e q3
        exact Or.inr ⟨p1, q2, by omega, by omega⟩
  · obtain ⟨h1, h2, h3⟩ := h10 a b v h
    have h4 := hb a b v h
    exact Or.inr ⟨h1, h2, by omega, h4⟩
theorem cls_noneg {C : Ct} {D : Mx} {lo up : Int} (h10 : In10 C) (hc : Cls D) (hb : Bel C D) (hr : Rng lo up D) (hu : up + up < IN) : ¬ Neg C := by
  rintro ⟨a, v, hv, d⟩
  rcases Nat.lt_or_ge a 10 with ha | ha
  · have h := cls_der h10 hc hb hr hu d ha ha (by unfold IN; omega)
    have := hc.1 a ha
    omega
  · have h := d (fun x y w => (x = y ∧ 0 ≤ w) ∨ (x < 10 ∧ y < 10)) (fun a => Or.inl ⟨rfl, Int.le_refl 0⟩) (fun a b u v huv h => by
      rcases h with ⟨e, h⟩ | h
      · exact Or.inl ⟨e, by omega⟩
      · exact Or.inr h) (fun a b c u v h1 h2 => by
      rcases h1 with ⟨rfl, h1⟩ | h1
      · rcases h2 with ⟨rfl, h2⟩ | h2
        · exact Or.inl ⟨rfl, by omega⟩
        · exact Or.inr h2
      · rcases h2 with ⟨rfl, h2⟩ | h2
        · exact Or.inr h1
        · exact Or.inr ⟨h1.1, h2.2⟩) (fun a b v h => Or.inr ⟨(h10 a b v h).1, (h10 a b v h).2.1⟩)
    rcases h with ⟨-, h⟩ | ⟨h, -⟩ <;> omega
/-- two closed pictures of the same bounds are one -/
theorem cls_uniq {C : Ct} {D E : Mx} {lo up lo' up' : Int} (h10 : In10 C) (hc : Cls D) (hb : Bel C D) (hs : Snd C D) (hr : Rng lo up D) (hu : up + up < IN) (u0 : 0 ≤ up) (hc' : Cls E) (hb' : Bel C E) (hs' : Snd C E) (hr' : Rng lo' up' E) (hu' : up' + up' < IN) (u0' : 0 ≤ up') {a b : Nat} (ha : a < 10) (hb2 : b < 10) : D a b = E a b := by
  have key : ∀ {D E : Mx} {lo up lo' up' : Int}, Cls D → Bel C D → Rng lo up D → up + up < IN → Snd C E → Rng lo' up' E → up' + up' < IN → 0 ≤ up' → E a b ≠ IN → D a b ≠ IN ∧ D a b ≤ E a b := by
    intro D E lo up lo' up' hc hb hr hu hs' hr' hu' u0' h
    refine cls_der h10 hc hb hr hu (hs' a b h) ha hb2 ?_
    rcases hr' a b with e | ⟨-, e⟩
    · exact absurd e h
    · omega
  by_cases h1 : D a b = IN
  · by_cases h2 : E a b = IN
    · rw [h1, h2]
    · exact absurd h1 (key hc hb hr hu hs' hr' hu' u0' h2).1
  · by_cases h2 : E a b = IN
    · exact absurd h2 (key hc' hb' hr' hu' hs hr hu u0 h1).1
    · have e1 := (key hc hb hr hu hs' hr' hu' u0' h2).2
      have e2 := (key hc' hb' hr' hu' hs hr hu u0 h1).2
      omega
/-! one step -/
theorem am_le {D : Mx} {a b : Nat} {v : Int} (x y : Nat) : am D a b v x y ≤ D x y := by
  unfold am
  by_cases h : v < D a b
  · rw [if_pos h]
    by_cases e : x = a ∧ y = b
    · rw [e.1, e.2, u2_s]; omega
    · rw [u2_n e]; exact Int.le_refl _
  · rw [if_neg h]; exact Int.le_refl _
theorem am_v {D : Mx} {a b : Nat} {v : Int} : am D a b v a b ≤ v := by
  unfold am
  by_cases h : v < D a b
  · rw [if_pos h, u2_s]; exact Int.le_refl _
  · rw [if_neg h]; omega
theorem am_or {D : Mx} {a b : Nat} {v : Int} (x y : Nat) : am D a b v x y = D x y ∨ (x = a ∧ y = b ∧ am D a b v x y = v ∧ v < D a b) := by
  unfold am
  by_cases h : v < D a b
  · rw [if_pos h]
    by_cases e : x = a ∧ y = b
    · exact Or.inr ⟨e.1, e.2, by rw [e.1, e.2, u2_s], h⟩
    · exact Or.inl (u2_n e)
  · rw [if_neg h]; exact Or.inl rfl
theorem am_snd {C : Ct} {D : Mx} {a b : Nat} {v : Int} (hs : Snd C D) (hv : Der C a b v) : Snd C (am D a b v) := by
  intro x y h
  rcases am_or (D := D) (a := a) (b := b) (v := v) x y with e | ⟨rfl, rfl, e, -⟩
  · rw [e] at h ⊢; exact hs x y h
  · rw [e]; exact hv
theorem stp_snd {C : Ct} {D : Mx} {k a b : Nat} (hs : Snd C D) (hi : ∀ a b, D a b ≤ IN) : Snd C (stp k a b D) := by
  unfold stp
  by_cases h : D a k = IN ∨ IN ≤ D k b
  · rw [if_pos h]; exact hs
  · rw [if_neg h]
    refine am_snd hs ?_
    have h1 : D a k ≠ IN := fun e => h (Or.inl e)
    have h2 : D k b ≠ IN := fun e => h (Or.inr (by omega))
    exact (hs a k h1).tr (hs k b h2)
theorem stp_le {D : Mx} {k a b : Nat} (x y : Nat) : stp k a b D x y ≤ D x y := by
  unfold stp
  by_cases h : D a k = IN ∨ IN ≤ D k b
  · rw [if_pos h]; exact Int.le_refl _
  · rw [if_neg h]; exact am_le x y
