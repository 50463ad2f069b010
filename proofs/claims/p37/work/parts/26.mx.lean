/-! the reference's matrix as numbers without wrap-around -/
def mx (d : Nat → Int32) : Mx := fun a b => if a < 10 ∧ b < 10 then (d (10 * a + b)).toInt else IN
theorem mx_in (d : Nat → Int32) {a b : Nat} (ha : a < 10) (hb : b < 10) : mx d a b = (d (10 * a + b)).toInt := if_pos ⟨ha, hb⟩
theorem add_toInt {x y : Int32} (h1 : -2147483648 ≤ x.toInt + y.toInt) (h2 : x.toInt + y.toInt < 2147483648) : (x + y).toInt = x.toInt + y.toInt := by
  rw [Int32.toInt_add, Int.bmod_eq_of_le (by omega) (by omega)]
theorem far_toInt : (100000000 : Int32).toInt = IN := by decide
theorem mx_amd (d : Nat → Int32) {a b : Nat} (ha : a < 10) (hb : b < 10) (v : Int32) : mx (amd d (10 * a + b) v) = am (mx d) a b v.toInt := by
  funext x y
  unfold am amd
  rw [mx_in d ha hb]
  by_cases h : d (10 * a + b) ≤ v
  · rw [if_pos h, if_neg (by have := Int32.le_iff_toInt_le.mp h; omega)]
  · rw [if_neg h, if_pos (by have := Int32.lt_iff_toInt_lt.mp (Int32.not_le.mp h); omega)]
    show (if x < 10 ∧ y < 10 then ((if 10 * x + y = 10 * a + b then v else d (10 * x + y)) : Int32).toInt else IN) = if x = a ∧ y = b then v.toInt else (if x < 10 ∧ y < 10 then (d (10 * x + y)).toInt else IN)
    by_cases e : x = a ∧ y = b
    · rw [if_pos ⟨by omega, by omega⟩, if_pos (by omega), if_pos e]
    · rw [if_neg e]
      by_cases h10 : x < 10 ∧ y < 10
      · rw [if_pos h10, if_pos h10, if_neg (by omega)]
      · rw [if_neg h10, if_neg h10]
theorem it_ind2 {α β : Type} {f : Nat → α → α} {g : Nat → β → β} {P : Nat → α → β → Prop} {x : α} {y : β} (h0 : P 0 x y) : ∀ n, (∀ i, i < n → ∀ a b, P i a b → P (i + 1) (f i a) (g i b)) → P n (it f n x) (it g n y)
  | 0, _ => h0
  | n + 1, hs => hs n (Nat.lt_succ_self n) _ _ (it_ind2 h0 n (fun i hi => hs i (Nat.lt_succ_of_lt hi)))
/-- how low a place can lie behind stage k -/
def lw (k : Nat) (B : Int) (x y : Nat) : Int := if x ≤ k then (if y ≤ k then B + B else B + B + B) else (if y ≤ k then B + B + B else B + B + B + B + B + B)
/-- within a stage, ahead of the step a b -/
def Ist (k : Nat) (B U : Int) (a b : Nat) (E : Mx) : Prop := ∀ x y, E x y ≤ IN ∧ (E x y = IN ∨ E x y ≤ if x = k ∨ y = k then U else U + U) ∧ -(if x < a ∨ (x = a ∧ y < b) then lw k B x y else B) ≤ E x y
theorem Ist_sum {k a b : Nat} {B U : Int} {E : Mx} (hB : 0 ≤ B) (hU : U + U < IN) (hU0 : 0 ≤ U) (h : Ist k B U a b E) (hf : E a k ≠ IN) (hg : E k b < IN) :
    -(lw k B a b) ≤ E a k + E k b ∧ E a k + E k b ≤ U + U := by
  have h1 := h a k
  have h2 := h k b
  rw [if_pos (Or.inr rfl)] at h1
  rw [if_pos (Or.inl rfl)] at h2
  obtain ⟨-, u1, l1⟩ := h1
  obtain ⟨-, u2, l2⟩ := h2
  have u1' := u1.resolve_left hf
  have u2' := u2.resolve_left (by omega)
  refine ⟨?_, by omega⟩
  unfold lw at l1 l2 ⊢
  by_cases ak : a ≤ k
  · by_cases bk : b ≤ k
    · rw [if_pos ak, if_pos bk]
      rw [if_neg (by omega)] at l1
      rw [if_neg (by omega)] at l2
      omega
    · rw [if_pos ak, if_neg bk]
      rw [if_pos (by omega), if_pos ak, if_pos (Nat.le_refl k)] at l1
      rw [if_neg (by omega)] at l2
      omega
  · by_cases bk : b ≤ k
    · rw [if_neg ak, if_pos bk]
      rw [if_neg (by omega)] at l1
      rw [if_pos (by omega), if_pos (Nat.le_refl k), if_pos bk] at l2
      omega
    · rw [if_neg ak, if_neg bk]
      rw [if_pos (by omega), if_neg ak, if_pos (Nat.le_refl k)] at l1
      rw [if_pos (by omega), if_pos (Nat.le_refl k), if_neg bk] at l2
      omega
theorem lw_B {k x y : Nat} {B : Int} (hB : 0 ≤ B) : B ≤ lw k B x y := by
  unfold lw
  split <;> split <;> omega
theorem Ist_next {k a b : Nat} {B U : Int} {E : Mx} (hB : 0 ≤ B) (hU : U + U < IN) (hU0 : 0 ≤ U) (h : Ist k B U a b E) : Ist k B U a (b + 1) (stp k a b E) := by
  have keep : ∀ x y, E x y ≤ IN ∧ (E x y = IN ∨ E x y ≤ if x = k ∨ y = k then U else U + U) ∧ -(if x < a ∨ (x = a ∧ y < b + 1) then lw k B x y else B) ≤ E x y := by
    intro x y
    obtain ⟨h1, h2, h3⟩ := h x y
    refine ⟨h1, h2, ?_⟩
    by_cases e : x < a ∨ (x = a ∧ y < b)
    · rw [if_pos e] at h3
      rw [if_pos (by omega)]; exact h3
    · rw [if_neg e] at h3
      have := lw_B (k := k) (x := x) (y := y) hB
      split <;> omega
  intro x y
  unfold stp
  by_cases hc : E a k = IN ∨ IN ≤ E k b
  · rw [if_pos hc]; exact keep x y
  · rw [if_neg hc]
    have hf : E a k ≠ IN := fun e => hc (Or.inl e)
    have hg : E k b < IN := by
      rcases Int.lt_or_le (E k b) IN with z | z
      · exact z
      · exact absurd (Or.inr z) hc
    obtain ⟨p1, p2⟩ := Ist_sum hB hU hU0 h hf hg
    rcases am_or (D := E) (a := a) (b := b) (v := E a k + E k b) x y with e | ⟨rfl, rfl, e, hlt⟩
    · rw [e]; exact keep x y
    · rw [e]
      obtain ⟨h1, h2, -⟩ := h x y
      refine ⟨by omega, Or.inr ?_, ?_⟩
      · by_cases hk : x = k ∨ y = k
        · rw [if_pos hk] at h2 ⊢
          rcases h2 with z | z
          · rcases hk with rfl | rfl
            · omega
            · exact absurd z hf
          · omega
        · rw [if_neg hk]; exact p2
      · rw [if_pos (by omega)]; exact p1
theorem mx_stp (d : Nat → Int32) {k a b : Nat} (hk : k < 10) (ha : a < 10) (hb : b < 10) (hf : mx d a k ≠ IN) (hi : ∀ x y, mx d x y ≤ IN) (ho : mx d k b < IN → -2147483648 ≤ mx d a k + mx d k b ∧ mx d a k + mx d k b < 2147483648) : mx (stp32 k a b d) = stp k a b (mx d) := by
  unfold stp32 stp
  have e1 := mx_in d ha hk
  have e2 := mx_in d hk hb
  by_cases h : 100000000 ≤ d (10 * k + b)
  · rw [if_pos h, if_pos (Or.inr (by rw [e2, ← far_toInt]; exact Int32.le_iff_toInt_le.mp h))]
  · have h2 : mx d k b < IN := by rw [e2, ← far_toInt]; exact Int32.lt_iff_toInt_lt.mp (Int32.not_le.mp h)
    rw [if_neg h, if_neg (fun z => z.elim hf (fun z => by omega)), mx_amd d ha hb]
    have h3 := ho h2
    rw [e1, e2] at h3 ⊢
    rw [add_toInt h3.1 h3.2]
theorem mx_eqI (d : Nat → Int32) {a k : Nat} (ha : a < 10) (hk : k < 10) : d (10 * a + k) = 100000000 ↔ mx d a k = IN := by
  rw [mx_in d ha hk, ← far_toInt, Int32.toInt_inj]
/-- a stage on the reference's row is the stage on numbers, if nothing wraps -/
theorem sg_mx (d : Nat → Int32) {k : Nat} {B U : Int} (hk : k < 10) (hB : 0 ≤ B) (hU : U + U < IN) (hU0 : 0 ≤ U) (hl : ∀ x y, x < 10 → y < 10 → lw k B x y ≤ 2147483648) (h : ∀ x y, mx d x y ≤ IN ∧ (mx d x y = IN ∨ mx d x y ≤ U) ∧ -B ≤ mx d x y) :
    mx (sg32 k d) = sg k (mx d) ∧ ∀ x y, sg k (mx d) x y ≤ IN ∧ (sg k (mx d) x y = IN ∨ sg k (mx d) x y ≤ U + U) ∧ (x < 10 → y < 10 → -(lw k B x y) ≤ sg k (mx d) x y) := by
  have iN : IN = 100000000 := rfl
  have start : Ist k B U 0 0 (mx d) := by
    intro x y
    obtain ⟨h1, h2, h3⟩ := h x y
    refine ⟨h1, ?_, by rw [if_neg (by omega)]; exact h3⟩
    rcases h2 with z | z
    · exact Or.inl z
    · exact Or.inr (by split <;> omega)
  have row : ∀ a, a < 10 → ∀ e : Nat → Int32, Ist k B U a 0 (mx e) → mx (sgr32 k a e) = sgr k a (mx e) ∧ Ist k B U (a + 1) 0 (mx (sgr32 k a e)) := by
    intro a ha e he
    have shift : ∀ E : Mx, (∀ x y, ¬ (x < 10 ∧ y < 10) → E x y = IN) → Ist k B U a 10 E → Ist k B U (a + 1) 0 E := by
      intro E hE hE2 x y
      obtain ⟨h1, h2, h3⟩ := hE2 x y
      refine ⟨h1, h2, ?_⟩
      have := lw_B (k := k) (x := x) (y := y) hB
      by_cases h10 : x < 10 ∧ y < 10
      · by_cases c : x < a + 1 ∨ (x = a + 1 ∧ y < 0)
        · rw [if_pos c]
          rw [if_pos (by omega)] at h3; exact h3
        · rw [if_neg c]
          rw [if_neg (by omega)] at h3; exact h3
      · rw [hE x y h10]
        split <;> omega
    have out : ∀ g : Nat → Int32, ∀ x y, ¬ (x < 10 ∧ y < 10) → mx g x y = IN := fun g x y hn => if_neg hn
    unfold sgr32 sgr
    by_cases hrow : e (10 * a + k) = 100000000
    · rw [if_pos hrow]
      have hI := (mx_eqI e ha hk).mp hrow
      have idle : ∀ n, it (fun b D => stp k a b D) n (mx e) = mx e := by
        intro n
        induction n with
        | zero => rfl
        | succ n ih => rw [it_s, ih]; unfold stp; rw [if_pos (Or.inl hI)]
      refine ⟨(idle 10).symm, shift _ (out e) (fun x y => ?_)⟩
      obtain ⟨h1, h2, h3⟩ := he x y
      refine ⟨h1, h2, ?_⟩
      have := lw_B (k := k) (x := x) (y := y) hB
      by_cases c : x < a ∨ (x = a ∧ y < 0)
      · rw [if_pos c] at h3
        rw [if_pos (by omega)]; exact h3
      · rw [if_neg c] at h3
        split <;> omega
    · rw [if_neg hrow]
      have hne : mx e a k ≠ IN := fun z => hrow ((mx_eqI e ha hk).mpr z)
      have h2 := it_ind2 (f := fun b d => stp32 k a b d) (g := fun b D => stp k a b D) (P := fun j g G => mx g = G ∧ Ist k B U a j G ∧ G a k ≠ IN) (x := e) (y := mx e) ⟨rfl, he, hne⟩ 10 (fun j hj g G hG => by
        obtain ⟨hG1, hG2, hG3⟩ := hG
        subst hG1
        refine ⟨mx_stp g hk ha hj hG3 (fun x y => (hG2 x y).1) (fun hlt => ?_), Ist_next hB hU hU0 hG2, ?_⟩
        · obtain ⟨q1, q2⟩ := Ist_sum hB hU hU0 hG2 hG3 hlt
          have := hl a j ha hj
          omega
        · have h5 := stp_le (D := mx g) (k := k) (a := a) (b := j) a k
          have h6 := (hG2 a k).1
          intro z
          have : mx g a k < IN := by
            rcases Int.lt_or_le (mx g a k) IN with w | w
            · exact w
            · exact absurd (by omega) hG3
          omega)
      refine ⟨h2.1, shift _ (out _) ?_⟩
      rw [h2.1]; exact h2.2.1
  have all := it_ind2 (f := fun a d => sgr32 k a d) (g := fun a D => sgr k a D) (P := fun i g G => mx g = G ∧ Ist k B U i 0 (mx g)) (x := d) (y := mx d) ⟨rfl, start⟩ 10 (fun i hi g G hG => by
    obtain ⟨hG1, hG2⟩ := hG
    subst hG1
    exact row i hi g hG2)
  refine ⟨all.1, fun x y => ?_⟩
  have e : sg k (mx d) = mx (it (fun a d => sgr32 k a d) 10 d) := all.1.symm
  rw [e]
  obtain ⟨h1, h2, h3⟩ := all.2 x y
  refine ⟨h1, ?_, fun hx hy => ?_⟩
  · rcases h2 with z | z
    · exact Or.inl z
    · refine Or.inr (Int.le_trans z ?_)
      split <;> omega
  · rw [if_pos (by omega)] at h3; exact h3
