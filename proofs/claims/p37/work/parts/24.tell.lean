/-! ONE BOUND MORE, worked in at once -/
def cadd (C : Ct) (a b : Nat) (v : Int) : Ct := fun x y w => C x y w ∨ (x = a ∧ y = b ∧ w = v)
/-- bounds that some first picture holds -/
def Rep (C : Ct) : Prop := In10 C ∧ ∃ D : Mx, Snd C D ∧ Bel C D ∧ Dia D ∧ (∀ a b, D a b ≤ IN) ∧ Rng 1000 1000 D
theorem Snd.sub {C C' : Ct} {D : Mx} (hs : Snd C D) (h : ∀ a b v, C a b v → C' a b v) : Snd C' D := fun a b hne => (hs a b hne).sub (fun a b v hc => Der.base (h a b v hc))
theorem Rep.add {C : Ct} {a b : Nat} {v : Int} (h : Rep C) (ha : a < 10) (hb : b < 10) (hab : a ≠ b) (hv : -1000 ≤ v ∧ v ≤ 1000) : Rep (cadd C a b v) := by
  obtain ⟨h10, D, h1, h2, h3, h4, h5⟩ := h
  refine ⟨fun x y w hw => ?_, am D a b v, ?_, ?_, ?_, ?_, ?_⟩
  · rcases hw with hw | ⟨rfl, rfl, rfl⟩
    · exact h10 x y w hw
    · exact ⟨ha, hb, by unfold IN; omega⟩
  · exact am_snd (h1.sub (fun _ _ _ h => Or.inl h)) (Der.base (Or.inr ⟨rfl, rfl, rfl⟩))
  · intro x y w hw
    rcases hw with hw | ⟨rfl, rfl, rfl⟩
    · exact Int.le_trans (am_le x y) (h2 x y w hw)
    · exact am_v
  · intro x hx
    rcases am_or (D := D) (a := a) (b := b) (v := v) x x with e | ⟨e1, e2, -⟩
    · rw [e]; exact h3 x hx
    · exact absurd (e1.symm.trans e2) hab
  · exact fun x y => Int.le_trans (am_le x y) (h4 x y)
  · intro x y
    rcases am_or (D := D) (a := a) (b := b) (v := v) x y with e | ⟨-, -, e, -⟩
    · rw [e]; exact h5 x y
    · rw [e]; exact Or.inr ⟨hv.1, hv.2⟩
/-- the picture of what follows -/
def Tig (C : Ct) (G : Mx) : Prop := Cls G ∧ Bel C G ∧ Snd C G ∧ Rng 10000000 10000000 G
theorem Tig.noneg {C : Ct} {G : Mx} (h10 : In10 C) (h : Tig C G) : ¬ Neg C := cls_noneg h10 h.1 h.2.1 h.2.2.2 (by unfold IN; omega)
theorem Tig.uniq {C : Ct} {G G' : Mx} (h10 : In10 C) (h : Tig C G) (h' : Tig C G') {a b : Nat} (ha : a < 10) (hb : b < 10) : G a b = G' a b :=
  cls_uniq h10 h.1 h.2.1 h.2.2.1 h.2.2.2 (by unfold IN; omega) (by omega) h'.1 h'.2.1 h'.2.2.1 h'.2.2.2 (by unfold IN; omega) (by omega) ha hb
theorem Rep.tig {C : Ct} (h : Rep C) (hn : ¬ Neg C) : ∃ G, Tig C G ∧ Rng 1024000 1024000 G := by
  obtain ⟨h10, D, h1, h2, h3, h4, h5⟩ := h
  obtain ⟨c1, c2, c3, c4⟩ := (fw_ok h10 h1 h2 h3 h4 (by omega) (by omega) h5 (by unfold IN; omega)).2 hn
  have c5 : Rng 1024000 1024000 (fw D) := fun a b => by
    rcases c4 a b with e | e
    · exact Or.inl e
    · exact Or.inr ⟨by omega, by omega⟩
  refine ⟨fw D, ⟨c1, c2, c3, fun a b => ?_⟩, c5⟩
  rcases c5 a b with e | e
  · exact Or.inl e
  · exact Or.inr ⟨by omega, by omega⟩
/-- what follows is small -/
theorem Tig.small {C : Ct} {G : Mx} (hr : Rep C) (h : Tig C G) {a b : Nat} (ha : a < 10) (hb : b < 10) : G a b = IN ∨ (-1024000 ≤ G a b ∧ G a b ≤ 1024000) := by
  obtain ⟨G', h1, h2⟩ := hr.tig (h.noneg hr.1)
  rw [h.uniq hr.1 h1 ha hb]
  exact h2 a b
/-- the picture with one bound more -/
def tl (G : Mx) (l h : Nat) (v : Int) : Mx := fun a b => if a < 10 ∧ b < 10 ∧ G a l ≠ IN ∧ G h b ≠ IN ∧ G a l + v + G h b < G a b then G a l + v + G h b else G a b
theorem tl_le (G : Mx) (l h : Nat) (v : Int) (a b : Nat) : tl G l h v a b ≤ G a b := by
  unfold tl
  split
  · omega
  · exact Int.le_refl _
theorem tl_k {G : Mx} {l h : Nat} {v : Int} {a b : Nat} (ha : a < 10) (hb : b < 10) (h1 : G a l ≠ IN) (h2 : G h b ≠ IN) : tl G l h v a b ≤ G a l + v + G h b := by
  unfold tl
  split
  · exact Int.le_refl _
  · next hc =>
    rcases Int.lt_or_le (G a l + v + G h b) (G a b) with h3 | h3
    · exact absurd ⟨ha, hb, h1, h2, h3⟩ hc
    · exact h3
theorem tl_or (G : Mx) (l h : Nat) (v : Int) (a b : Nat) : tl G l h v a b = G a b ∨ (a < 10 ∧ b < 10 ∧ G a l ≠ IN ∧ G h b ≠ IN ∧ tl G l h v a b = G a l + v + G h b ∧ G a l + v + G h b < G a b) := by
  unfold tl
  split
  · next hc => exact Or.inr ⟨hc.1, hc.2.1, hc.2.2.1, hc.2.2.2.1, rfl, hc.2.2.2.2⟩
  · exact Or.inl rfl
theorem tell_more {C : Ct} {G : Mx} {l h : Nat} {v : Int} (t : Tig C G) (hv : G l h ≤ v) (hne : v < IN) : Tig (cadd C l h v) G := by
  refine ⟨t.1, fun x y w hw => ?_, t.2.2.1.sub (fun _ _ _ h => Or.inl h), t.2.2.2⟩
  rcases hw with hw | ⟨rfl, rfl, rfl⟩
  · exact t.2.1 x y w hw
  · exact hv
theorem tell_torn {C : Ct} {G : Mx} {l h : Nat} {v : Int} (t : Tig C G) (hb : G h l ≠ IN) (hv : G h l + v < 0) : Neg (cadd C l h v) :=
  ⟨h, G h l + v, hv, ((t.2.2.1 h l hb).sub (fun _ _ _ h => Der.base (Or.inl h))).tr (Der.base (Or.inr ⟨rfl, rfl, rfl⟩))⟩
theorem tell_in {C : Ct} {G : Mx} {l h : Nat} {v : Int} (hr : Rep C) (t : Tig C G) (hl : l < 10) (hh : h < 10) (hlh : l ≠ h) (hv : -1000 ≤ v ∧ v ≤ 1000) (hb : G h l = IN ∨ 0 ≤ G h l + v) : Tig (cadd C l h v) (tl G l h v) := by
  have sm := fun {a b : Nat} (ha : a < 10) (hb : b < 10) => t.small hr ha hb
  have iN : IN = 100000000 := rfl
  -- a way back through the new bound isn't below 0
  have back : ∀ a, a < 10 → G a l ≠ IN → G h a ≠ IN → 0 ≤ G h a + G a l + v := by
    intro a ha h1 h2
    have h3 := t.1.2 h a l hh ha hl h2 h1
    rcases sm hh ha with e | e
    · exact absurd e h2
    rcases sm ha hl with e2 | e2
    · exact absurd e2 h1
    rcases hb with e3 | e3
    · omega
    · omega
  have fin : ∀ a b c, a < 10 → b < 10 → c < 10 → G a b ≠ IN → G b c ≠ IN → G a c ≠ IN := by
    intro a b c ha hb hc h1 h2
    have h3 := t.1.2 a b c ha hb hc h1 h2
    rcases sm ha hb with e | e
    · exact absurd e h1
    rcases sm hb hc with e2 | e2
    · exact absurd e2 h2
    omega
  refine ⟨⟨fun a ha => ?_, fun a b c ha hb' hc h1 h2 => ?_⟩, fun x y w hw => ?_, fun x y hne => ?_, fun a b => ?_⟩
  · rcases tl_or G l h v a a with e | ⟨-, -, p1, p2, e, p3⟩
    · rw [e]; exact t.1.1 a ha
    · have := back a ha p1 p2
      have := t.1.1 a ha
      omega
  · rcases tl_or G l h v a b with e1 | ⟨-, -, p1, p2, e1, -⟩
    · rw [e1] at h1 ⊢
      rcases tl_or G l h v b c with e2 | ⟨-, -, q1, q2, e2, -⟩
      · rw [e2] at h2 ⊢
        exact Int.le_trans (tl_le G l h v a c) (t.1.2 a b c ha hb' hc h1 h2)
      · rw [e2]
        have h3 := t.1.2 a b l ha hb' hl h1 q1
        have h4 := fin a b l ha hb' hl h1 q1
        have := tl_k (v := v) ha hc h4 q2
        omega
    · rcases tl_or G l h v b c with e2 | ⟨-, -, q1, q2, e2, -⟩
      · rw [e2] at h2 ⊢
        rw [e1]
        have h3 := t.1.2 h b c hh hb' hc p2 h2
        have h4 := fin h b c hh hb' hc p2 h2
        have := tl_k (v := v) ha hc p1 h4
        omega
      · rw [e1, e2]
        have h3 := back b hb' q1 p2
        have := tl_k (v := v) ha hc p1 q2
        omega
  · rcases hw with hw | ⟨rfl, rfl, rfl⟩
    · exact Int.le_trans (tl_le G l h v x y) (t.2.1 x y w hw)
    · have e1 := t.1.1 x hl
      have e2 := t.1.1 y hh
      have := tl_k (G := G) (l := x) (h := y) (v := w) (a := x) (b := y) hl hh (by omega) (by omega)
      omega
  · have s1 : Snd (cadd C l h v) G := t.2.2.1.sub (fun _ _ _ h => Or.inl h)
    rcases tl_or G l h v x y with e | ⟨-, -, p1, p2, e, -⟩
    · rw [e] at hne ⊢; exact s1 x y hne
    · rw [e]
      exact ((s1 x l p1).tr (Der.base (Or.inr ⟨rfl, rfl, rfl⟩))).tr (s1 h y p2)
  · rcases tl_or G l h v a b with e | ⟨pa, pb, p1, p2, e, p3⟩
    · rw [e]; exact t.2.2.2 a b
    · rw [e]
      rcases sm pa hl with e1 | e1
      · exact absurd e1 p1
      rcases sm hh pb with e2 | e2
      · exact absurd e2 p2
      exact Or.inr ⟨by omega, by omega⟩
/-- what a play is -/
def IsV (C : Ct) (prs : Nat → Nat → Prop) (r : Int32) : Prop :=
  (Neg C ∧ r = 3) ∨ (¬ Neg C ∧ (∀ f s, prs f s → ∃ v, v < 0 ∧ Der C (6 + s) (6 + f) v) ∧ r = 1) ∨
  (¬ Neg C ∧ ¬ (∀ f s, prs f s → ∃ v, v < 0 ∧ Der C (6 + s) (6 + f) v) ∧ Neg (fun a b v => C a b v ∨ ∃ f s, prs f s ∧ a = 6 + s ∧ b = 6 + f ∧ v = -1) ∧ r = 0) ∨
  (¬ Neg C ∧ ¬ (∀ f s, prs f s → ∃ v, v < 0 ∧ Der C (6 + s) (6 + f) v) ∧ ¬ Neg (fun a b v => C a b v ∨ ∃ f s, prs f s ∧ a = 6 + s ∧ b = 6 + f ∧ v = -1) ∧ r = 2)
theorem IsV.uniq {C : Ct} {prs : Nat → Nat → Prop} {r r' : Int32} (h : IsV C prs r) (h' : IsV C prs r') : r = r' := by
  unfold IsV at h h'
  rcases h with ⟨a1, e⟩ | ⟨a1, a2, e⟩ | ⟨a1, a2, a3, e⟩ | ⟨a1, a2, a3, e⟩ <;> rcases h' with ⟨b1, e'⟩ | ⟨b1, b2, e'⟩ | ⟨b1, b2, b3, e'⟩ | ⟨b1, b2, b3, e'⟩ <;> first | (rw [e, e']; done) | (exact absurd a1 b1) | (exact absurd b1 a1) | (exact absurd a2 b2) | (exact absurd b2 a2) | (exact absurd a3 b3) | (exact absurd b3 a3)
