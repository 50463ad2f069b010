/-! STAGES -/
def fm (D : Mx) (k a b : Nat) : Int := if D a k = IN ∨ D k b = IN then D a b else if D a k + D k b < D a b then D a k + D k b else D a b
theorem fm_le (D : Mx) (k a b : Nat) : fm D k a b ≤ D a b := by
  unfold fm
  by_cases h : D a k = IN ∨ D k b = IN
  · rw [if_pos h]; exact Int.le_refl _
  · rw [if_neg h]
    by_cases h2 : D a k + D k b < D a b
    · rw [if_pos h2]; omega
    · rw [if_neg h2]; exact Int.le_refl _
theorem fm_k {D : Mx} {k a b : Nat} (h1 : D a k ≠ IN) (h2 : D k b ≠ IN) : fm D k a b ≤ D a k + D k b := by
  unfold fm
  rw [if_neg (fun h => h.elim h1 h2)]
  by_cases h2 : D a k + D k b < D a b
  · rw [if_pos h2]; exact Int.le_refl _
  · rw [if_neg h2]; omega
theorem fm_or (D : Mx) (k a b : Nat) : fm D k a b = D a b ∨ (D a k ≠ IN ∧ D k b ≠ IN ∧ fm D k a b = D a k + D k b ∧ D a k + D k b < D a b) := by
  unfold fm
  by_cases h : D a k = IN ∨ D k b = IN
  · rw [if_pos h]; exact Or.inl rfl
  · rw [if_neg h]
    by_cases h2 : D a k + D k b < D a b
    · rw [if_pos h2]; exact Or.inr ⟨fun e => h (Or.inl e), fun e => h (Or.inr e), rfl, h2⟩
    · rw [if_neg h2]; exact Or.inl rfl
theorem fm_row {D : Mx} {k : Nat} (hk : D k k = 0) (a : Nat) : fm D k a k = D a k := by
  unfold fm
  by_cases h : D a k = IN ∨ D k k = IN
  · rw [if_pos h]
  · rw [if_neg h, if_neg (by omega)]
theorem fm_col {D : Mx} {k : Nat} (hk : D k k = 0) (b : Nat) : fm D k k b = D k b := by
  unfold fm
  by_cases h : D k k = IN ∨ D k b = IN
  · rw [if_pos h]
  · rw [if_neg h, if_neg (by omega)]
/-- a stage whose own place is 0 does all at once -/
theorem sg_eq {D : Mx} {k : Nat} (hk : D k k = 0) (hi : ∀ a b, D a b ≤ IN) : ∀ x y, sg k D x y = if x < 10 ∧ y < 10 then fm D k x y else D x y := by
  have row : ∀ a, ∀ E : Mx, (∀ x y, E x y = if x < a ∧ y < 10 then fm D k x y else D x y) → ∀ x y, sgr k a E x y = if x < a + 1 ∧ y < 10 then fm D k x y else D x y := by
    intro a E hE
    have h := it_ind (f := fun b D => stp k a b D) (P := fun j (F : Mx) => ∀ x y, F x y = if (x < a ∧ y < 10) ∨ (x = a ∧ y < j) then fm D k x y else D x y) (x := E) (fun x y => by
      rw [hE x y]
      by_cases h : x < a ∧ y < 10
      · rw [if_pos h, if_pos (Or.inl h)]
      · rw [if_neg h, if_neg (by omega)]) 10 (fun b hb F hF x y => ?_)
    · intro x y
      rw [show sgr k a E x y = it (fun b D => stp k a b D) 10 E x y from rfl, h x y]
      by_cases h : (x < a ∧ y < 10) ∨ (x = a ∧ y < 10)
      · rw [if_pos h, if_pos (by omega)]
      · rw [if_neg h, if_neg (by omega)]
    · have f1 : F a k = D a k := by
        rw [hF a k]
        by_cases h : (a < a ∧ k < 10) ∨ (a = a ∧ k < b)
        · rw [if_pos h, fm_row hk]
        · rw [if_neg h]
      have f2 : F k b = D k b := by
        rw [hF k b]
        by_cases h : (k < a ∧ b < 10) ∨ (k = a ∧ b < b)
        · rw [if_pos h, fm_col hk]
        · rw [if_neg h]
      have f3 : F a b = D a b := by rw [hF a b, if_neg (by omega)]
      show stp k a b F x y = _
      have hst : stp k a b F a b = fm D k a b := by
        unfold stp fm
        rw [f1, f2]
        by_cases h : D a k = IN ∨ D k b = IN
        · rw [if_pos h, if_pos (by rcases h with h | h; exact Or.inl h; exact Or.inr (by omega)), f3]
        · have h2 : ¬ (D a k = IN ∨ IN ≤ D k b) := fun z => h (by rcases z with z | z; exact Or.inl z; exact Or.inr (by have := hi k b; omega))
          rw [if_neg h, if_neg h2]
          unfold am
          rw [f3]
          by_cases h3 : D a k + D k b < D a b
          · rw [if_pos h3, if_pos h3, u2_s]
          · rw [if_neg h3, if_neg h3, f3]
      by_cases e : x = a ∧ y = b
      · rw [e.1, e.2, hst, if_pos (by omega)]
      · have hso : stp k a b F x y = F x y := by
          unfold stp
          by_cases h : F a k = IN ∨ IN ≤ F k b
          · rw [if_pos h]
          · rw [if_neg h]
            rcases am_or (D := F) (a := a) (b := b) (v := F a k + F k b) x y with h | h
            · exact h
            · exact absurd ⟨h.1, h.2.1⟩ e
        rw [hso, hF x y]
        by_cases h : (x < a ∧ y < 10) ∨ (x = a ∧ y < b)
        · rw [if_pos h, if_pos (by omega)]
        · rw [if_neg h, if_neg (by omega)]
  have h := it_ind (f := fun a D => sgr k a D) (P := fun i (F : Mx) => ∀ x y, F x y = if x < i ∧ y < 10 then fm D k x y else D x y) (x := D) (fun x y => by rw [if_neg (by omega)]) 10 (fun a ha F hF => row a F hF)
  exact h
/-! what every stage keeps -/
theorem stp_in {D : Mx} {k a b : Nat} (hi : ∀ a b, D a b ≤ IN) : ∀ x y, stp k a b D x y ≤ IN := fun x y => by
  have := stp_le (D := D) (k := k) (a := a) (b := b) x y
  have := hi x y
  omega
theorem sg_ind {P : Mx → Prop} {k : Nat} (hs : ∀ a b, a < 10 → b < 10 → ∀ D, P D → P (stp k a b D)) {D : Mx} (h : P D) : P (sg k D) :=
  it_ind (P := fun _ F => P F) h 10 (fun a ha F hF => it_ind (P := fun _ G => P G) hF 10 (fun b hb G hG => hs a b ha hb G hG))
theorem sg_snd {C : Ct} {k : Nat} {D : Mx} (h : Snd C D ∧ ∀ a b, D a b ≤ IN) : Snd C (sg k D) ∧ ∀ a b, sg k D a b ≤ IN :=
  sg_ind (P := fun D => Snd C D ∧ ∀ a b, D a b ≤ IN) (fun a b _ _ D h => ⟨stp_snd h.1 h.2, stp_in h.2⟩) h
theorem sg_le {k : Nat} {D : Mx} (x y : Nat) : sg k D x y ≤ D x y :=
  sg_ind (P := fun E => E x y ≤ D x y) (fun a b _ _ E h => Int.le_trans (stp_le x y) h) (Int.le_refl _)
theorem it_s {α : Type} (f : Nat → α → α) (n : Nat) (x : α) : it f (n + 1) x = f n (it f n x) := rfl
theorem its_le {D : Mx} (x y : Nat) : ∀ i j, i ≤ j → it sg j D x y ≤ it sg i D x y := by
  intro i j
  induction j with
  | zero => intro h; rw [show i = 0 by omega]; exact Int.le_refl _
  | succ j ih =>
    intro h
    rcases Nat.eq_or_lt_of_le h with e | h
    · rw [e]; exact Int.le_refl _
    · rw [it_s]; exact Int.le_trans (sg_le (k := j) x y) (ih (by omega))
theorem its_snd {C : Ct} {D : Mx} (h : Snd C D ∧ ∀ a b, D a b ≤ IN) : ∀ j, Snd C (it sg j D) ∧ ∀ a b, it sg j D a b ≤ IN
  | 0 => h
  | j + 1 => by rw [it_s]; exact sg_snd (its_snd h j)
/-- closed through the first k -/
def Thr (k : Nat) (D : Mx) : Prop := ∀ a b m, a < 10 → b < 10 → m < k → D a m ≠ IN → D m b ≠ IN → D a b ≤ D a m + D m b
theorem sg_thr {D : Mx} {k : Nat} {lo up : Int} (hk10 : k < 10) (hk : D k k = 0) (hi : ∀ a b, D a b ≤ IN) (hr : Rng lo up D) (hu : up + up < IN) (ht : Thr k D) : Thr (k + 1) (sg k D) := by
  have fin : ∀ a b m, a < 10 → b < 10 → m < k → D a m ≠ IN → D m b ≠ IN → D a b ≠ IN := by
    intro a b m ha hb hm h1 h2
    have h := ht a b m ha hb hm h1 h2
    rcases hr a m with e | ⟨-, e1⟩
    · exact absurd e h1
    rcases hr m b with e | ⟨-, e2⟩
    · exact absurd e h2
    omega
  intro a b m ha hb hm h1 h2
  rw [sg_eq hk hi a m, if_pos ⟨ha, by omega⟩] at h1 ⊢
  rw [sg_eq hk hi m b, if_pos ⟨by omega, hb⟩] at h2 ⊢
  rw [sg_eq hk hi a b, if_pos ⟨ha, hb⟩]
  rcases Nat.lt_or_ge m k with hmk | hmk
  · rcases fm_or D k a m with e1 | ⟨p1, p2, e1, -⟩
    · rcases fm_or D k m b with e2 | ⟨q1, q2, e2, -⟩
      · rw [e1] at h1 ⊢; rw [e2] at h2 ⊢
        have := ht a b m ha hb hmk h1 h2
        have := fm_le D k a b
        omega
      · rw [e1] at h1 ⊢; rw [e2]
        have h3 := ht a k m ha hk10 hmk h1 q1
        have h4 := fin a k m ha hk10 hmk h1 q1
        have := fm_k h4 q2
        omega
    · rcases fm_or D k m b with e2 | ⟨q1, q2, e2, -⟩
      · rw [e1]; rw [e2] at h2 ⊢
        have h3 := ht k b m hk10 hb hmk p2 h2
        have h4 := fin k b m hk10 hb hmk p2 h2
        have := fm_k p1 h4
        omega
      · rw [e1, e2]
        have h3 := ht k k m hk10 hk10 hmk p2 q1
        have := fm_k p1 q2
        omega
  · have e : m = k := by omega
    subst e
    rw [fm_row hk] at h1 ⊢
    rw [fm_col hk] at h2 ⊢
    exact fm_k h1 h2
theorem sg_rng {D : Mx} {k : Nat} {lo up : Int} (hk : D k k = 0) (hi : ∀ a b, D a b ≤ IN) (hl : 0 ≤ lo) (hu0 : 0 ≤ up) (hr : Rng lo up D) : Rng (lo + lo) (up + up) (sg k D) := by
  intro a b
  rw [sg_eq hk hi a b]
  by_cases h10 : a < 10 ∧ b < 10
  · rw [if_pos h10]
    rcases fm_or D k a b with e | ⟨p1, p2, e, -⟩
    · rw [e]
      rcases hr a b with h | h
      · exact Or.inl h
      · exact Or.inr ⟨by omega, by omega⟩
    · rw [e]
      rcases hr a k with h | h
      · exact absurd h p1
      rcases hr k b with h2 | h2
      · exact absurd h2 p2
      exact Or.inr ⟨by omega, by omega⟩
  · rw [if_neg h10]
    rcases hr a b with h | h
    · exact Or.inl h
    · exact Or.inr ⟨by omega, by omega⟩
/-- the diagonal at the start -/
def Dia (D : Mx) : Prop := ∀ a, a < 10 → D a a = 0
def p2 : Nat → Int
  | 0 => 1
  | n + 1 => p2 n + p2 n
theorem p2_pos : ∀ n, 1 ≤ p2 n
  | 0 => Int.le_refl _
  | n + 1 => by have := p2_pos n; show 1 ≤ p2 n + p2 n; omega
/-- where no diagonal falls below 0, all is closed behind the last stage -/
theorem fw_cls {D : Mx} {lo up : Int} (hd : Dia D) (hi : ∀ a b, D a b ≤ IN) (hl : 0 ≤ lo) (hu0 : 0 ≤ up) (hr : Rng lo up D) (hu : up * 1024 < IN) (hz : ∀ a, a < 10 → 0 ≤ fw D a a) :
    Cls (fw D) ∧ Rng (lo * 1024) (up * 1024) (fw D) := by
  have diag : ∀ j, j ≤ 10 → ∀ a, a < 10 → it sg j D a a = 0 := by
    intro j hj a ha
    have h1 := its_le (D := D) a a 0 j (Nat.zero_le j)
    have h2 := its_le (D := D) a a j 10 hj
    have h3 := hz a ha
    have h4 := hd a ha
    have e : it sg 0 D a a = D a a := rfl
    have e2 : fw D a a = it sg 10 D a a := rfl
    omega
  have hi2 : ∀ j a b, it sg j D a b ≤ IN := fun j a b => by
    have h1 := its_le (D := D) a b 0 j (Nat.zero_le j)
    have e : it sg 0 D a b = D a b := rfl
    have := hi a b
    omega
  have main : ∀ j, j ≤ 10 → Thr j (it sg j D) ∧ Rng (lo * p2 j) (up * p2 j) (it sg j D) := by
    intro j
    induction j with
    | zero =>
      intro _
      refine ⟨fun a b m _ _ h => absurd h (Nat.not_lt_zero m), ?_⟩
      show Rng (lo * 1) (up * 1) D
      rw [Int.mul_one, Int.mul_one]; exact hr
    | succ j ih =>
      intro hj
      obtain ⟨h1, h2⟩ := ih (by omega)
      have hp : p2 j ≤ 512 := by
        have : ∀ i, i < 10 → p2 i ≤ 512 := by decide
        exact this j (by omega)
      have hpp := p2_pos j
      have hmu : up * p2 j ≤ up * 512 := Int.mul_le_mul_of_nonneg_left hp hu0
      have hml : 0 ≤ lo * p2 j := Int.mul_nonneg hl (by omega)
      have hmu0 : 0 ≤ up * p2 j := Int.mul_nonneg hu0 (by omega)
      rw [it_s]
      refine ⟨sg_thr (by omega) (diag j (by omega) j (by omega)) (hi2 j) h2 (by omega) h1, ?_⟩
      have h3 := sg_rng (diag j (by omega) j (by omega)) (hi2 j) hml hmu0 h2
      have e1 : lo * p2 (j + 1) = lo * p2 j + lo * p2 j := by show lo * (p2 j + p2 j) = _; rw [Int.mul_add]
      have e2 : up * p2 (j + 1) = up * p2 j + up * p2 j := by show up * (p2 j + p2 j) = _; rw [Int.mul_add]
      rw [e1, e2]
      exact h3
  obtain ⟨h1, h2⟩ := main 10 (Nat.le_refl _)
  have e : p2 10 = 1024 := by decide
  rw [e] at h2
  exact ⟨⟨fun a ha => diag 10 (Nat.le_refl _) a ha, fun a b c ha hb hc p q => h1 a c b ha hc hb p q⟩, h2⟩
/-- the first closing: it tells whether the bounds can be, and then what follows from them -/
theorem fw_ok {C : Ct} {D : Mx} {lo up : Int} (h10 : In10 C) (hs : Snd C D) (hb : Bel C D) (hd : Dia D) (hi : ∀ a b, D a b ≤ IN) (hl : 0 ≤ lo) (hu0 : 0 ≤ up) (hr : Rng lo up D) (hu : up * 2048 < IN) :
    ((∀ a, a < 10 → 0 ≤ fw D a a) ↔ ¬ Neg C) ∧ (¬ Neg C → Cls (fw D) ∧ Bel C (fw D) ∧ Snd C (fw D) ∧ Rng (lo * 1024) (up * 1024) (fw D)) := by
  have h1 := its_snd ⟨hs, hi⟩ 10
  have hb2 : Bel C (fw D) := fun a b v h => Int.le_trans (its_le (D := D) a b 0 10 (by omega)) (hb a b v h)
  have nn : ¬ Neg C → ∀ a, a < 10 → 0 ≤ fw D a a := by
    intro hn a ha
    rcases Int.lt_or_le (fw D a a) 0 with h | h
    · exact absurd ⟨a, _, h, h1.1 a a (by show fw D a a ≠ IN; unfold IN; omega)⟩ hn
    · exact h
  refine ⟨⟨fun hz => ?_, nn⟩, fun hn => ?_⟩
  · obtain ⟨c1, c2⟩ := fw_cls hd hi hl hu0 hr (by omega) hz
    exact cls_noneg h10 c1 hb2 c2 (by omega)
  · obtain ⟨c1, c2⟩ := fw_cls hd hi hl hu0 hr (by omega) (nn hn)
    exact ⟨c1, hb2, h1.1, c2⟩
