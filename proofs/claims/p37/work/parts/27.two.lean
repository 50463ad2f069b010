/-! THE TWO CLOSINGS of the reference: nothing wraps -/
def Bf : Nat → Int
  | 0 => 1000
  | 1 => 1000
  | 2 => 2000
  | n + 3 => 6 * Bf (n + 2)
theorem Bf_pos : ∀ j, j < 11 → 0 ≤ Bf j := by decide
theorem Bf_6 : ∀ j, j < 9 → 6 * Bf j ≤ 2147483648 := by decide
theorem Bf_s : ∀ j, j < 10 → 2 ≤ j → Bf (j + 1) = 6 * Bf j := by decide
theorem p2_le : ∀ j, j < 11 → p2 j ≤ 1024 := by decide
theorem lw_6 {k : Nat} {B : Int} (hB : 0 ≤ B) (x y : Nat) : lw k B x y ≤ 6 * B := by
  unfold lw
  split <;> split <;> omega
theorem lw_9 {B : Int} {x y : Nat} (hx : x < 10) (hy : y < 10) : lw 9 B x y = B + B := by
  unfold lw
  rw [if_pos (by omega), if_pos (by omega)]
theorem mx_out (g : Nat → Int32) {x y : Nat} (h : ¬ (x < 10 ∧ y < 10)) : mx g x y = IN := if_neg h
theorem fw_mx1 (d : Nat → Int32) (hd : Dia (mx d)) (hr : Rng 1000 1000 (mx d)) (h0 : ∀ a, a < 10 → 0 ≤ mx d a 0) (h1 : 0 ≤ mx d 1 0 + mx d 0 1) : mx (fw32 d) = fw (mx d) := by
  have iN : IN = 100000000 := rfl
  have hb0 : ∀ x y, mx d x y ≤ IN ∧ (mx d x y = IN ∨ mx d x y ≤ 1000 * p2 0) ∧ -(Bf 0) ≤ mx d x y := by
    intro x y
    rw [show p2 0 = 1 from rfl, show Bf 0 = 1000 from rfl]
    rcases hr x y with e | e
    · exact ⟨by omega, Or.inl e, by omega⟩
    · exact ⟨by omega, Or.inr (by omega), by omega⟩
  have h := it_ind2 (f := sg32) (g := sg) (P := fun j g G => mx g = G ∧ G = it sg j (mx d) ∧ ∀ x y, G x y ≤ IN ∧ (G x y = IN ∨ G x y ≤ 1000 * p2 j) ∧ -(Bf j) ≤ G x y) (x := d) (y := mx d) ⟨rfl, rfl, hb0⟩ 10 (fun j hj g G hG => by
    obtain ⟨e1, e2, hb⟩ := hG
    subst e1
    have hp := p2_le j (by omega)
    have hp1 := p2_pos j
    have hB := Bf_pos j (by omega)
    have hp9 : p2 j ≤ 512 := by
      have : ∀ i, i < 10 → p2 i ≤ 512 := by decide
      exact this j hj
    obtain ⟨q1, q2⟩ := sg_mx g hj hB (U := 1000 * p2 j) (by omega) (by omega) (fun x y hx hy => by
      rcases Nat.lt_or_ge j 9 with c | c
      · have := lw_6 (k := j) hB x y
        have := Bf_6 j c
        omega
      · have : j = 9 := by omega
        subst this
        rw [lw_9 hx hy]
        have : Bf 9 = 559872000 := by decide
        omega) hb
    refine ⟨q1, by rw [it_s, ← e2], fun x y => ?_⟩
    obtain ⟨r1, r2, r3⟩ := q2 x y
    refine ⟨r1, ?_, ?_⟩
    · rcases r2 with z | z
      · exact Or.inl z
      · exact Or.inr (by show _ ≤ 1000 * (p2 j + p2 j); omega)
    · by_cases h10 : x < 10 ∧ y < 10
      · have hi : ∀ a b, mx g a b ≤ IN := fun a b => (hb a b).1
        rcases Nat.lt_or_ge j 2 with c | c
        · rcases (show j = 0 ∨ j = 1 by omega) with rfl | rfl
          · -- from 0 on nothing falls below -1000
            have e3 : mx g = mx d := e2
            rw [e3] at hi ⊢
            rw [sg_eq (hd 0 (by omega)) hi x y, if_pos h10, show Bf (0 + 1) = 1000 from rfl]
            rcases fm_or (mx d) 0 x y with e | ⟨p1, p2, e, -⟩
            · rw [e]
              rcases hr x y with z | z <;> omega
            · rw [e]
              have := h0 x h10.1
              rcases hr 0 y with z | z <;> omega
          · have e3 : mx g = sg 0 (mx d) := by rw [e2, it_s]; rfl
            have hd0 : ∀ a b, mx d a b ≤ IN := fun a b => (hb0 a b).1
            have d1 : mx g 1 1 = 0 := by
              rw [e3, sg_eq (hd 0 (by omega)) hd0 1 1, if_pos ⟨by omega, by omega⟩]
              rcases fm_or (mx d) 0 1 1 with e | ⟨p1, p2, e, p3⟩
              · rw [e]; exact hd 1 (by omega)
              · have := hd 1 (by omega)
                omega
            rw [sg_eq d1 hi x y, if_pos h10, show Bf (1 + 1) = 2000 from rfl]
            have b1 : ∀ a b, -1000 ≤ mx g a b := fun a b => (hb a b).2.2
            rcases fm_or (mx g) 1 x y with e | ⟨p1, p2, e, -⟩
            · rw [e]; have := b1 x y; omega
            · rw [e]
              have := b1 x 1
              have := b1 1 y
              omega
        · rw [Bf_s j hj c]
          have := r3 h10.1 h10.2
          have := lw_6 (k := j) hB x y
          omega
      · rw [← q1, mx_out _ h10]
        have := Bf_pos (j + 1) (by omega)
        omega)
  exact h.1
/-! the second closing: the pairs' bounds on what is closed -/
theorem sg_same {D : Mx} {k : Nat} (hk : D k k = 0) (hi : ∀ a b, D a b ≤ IN) (h : ∀ a b, a < 10 → b < 10 → D a k ≠ IN → D k b ≠ IN → D a b ≤ D a k + D k b) : sg k D = D := by
  funext x y
  rw [sg_eq hk hi x y]
  by_cases h10 : x < 10 ∧ y < 10
  · rw [if_pos h10]
    rcases fm_or D k x y with e | ⟨p1, p2, e, p3⟩
    · exact e
    · have := h x y h10.1 h10.2 p1 p2
      omega
  · rw [if_neg h10]
/-- what the pairs' bounds leave of a closed picture -/
def Prs (D E : Mx) : Prop := (∀ a b, a < 6 ∨ b < 6 ∨ a = b → E a b = D a b) ∧ (∀ a b, E a b ≤ D a b) ∧ ∀ a b, E a b = D a b ∨ E a b = -1
theorem prs_6 {D E : Mx} (hc : Cls D) (hi : ∀ a b, D a b ≤ IN) (hp : Prs D E) : ∀ j, j ≤ 6 → it sg j E = E
  | 0, _ => rfl
  | j + 1, hj => by
    rw [it_s, prs_6 hc hi hp j (by omega)]
    have hi2 : ∀ a b, E a b ≤ IN := fun a b => Int.le_trans (hp.2.1 a b) (hi a b)
    refine sg_same (by rw [hp.1 j j (Or.inr (Or.inr rfl))]; exact hc.1 j (by omega)) hi2 (fun a b ha hb h1 h2 => ?_)
    rw [hp.1 a j (Or.inr (Or.inl (by omega)))] at h1 ⊢
    rw [hp.1 j b (Or.inl (by omega))] at h2 ⊢
    exact Int.le_trans (hp.2.1 a b) (hc.2 a j b ha (by omega) hb h1 h2)
theorem prs_thr {D E : Mx} (hc : Cls D) (hp : Prs D E) : Thr 6 E := by
  intro a b m ha hb hm h1 h2
  rw [hp.1 a m (Or.inr (Or.inl hm))] at h1 ⊢
  rw [hp.1 m b (Or.inl hm)] at h2 ⊢
  exact Int.le_trans (hp.2.1 a b) (hc.2 a m b ha (by omega) hb h1 h2)
/-- as fw_ok, from the sixth stage on -/
theorem fw_ok2 {C : Ct} {D E : Mx} (h10 : In10 C) (hc : Cls D) (hi : ∀ a b, D a b ≤ IN) (hp : Prs D E) (hs : Snd C E) (hb : Bel C E) (hr : Rng 1024000 1024000 E) : (∀ a, a < 10 → 0 ≤ fw E a a) ↔ ¬ Neg C := by
  have iN : IN = 100000000 := rfl
  have hi2 : ∀ a b, E a b ≤ IN := fun a b => Int.le_trans (hp.2.1 a b) (hi a b)
  have h1 := its_snd ⟨hs, hi2⟩ 10
  have hb2 : Bel C (fw E) := fun a b v h => Int.le_trans (its_le (D := E) a b 0 10 (by omega)) (hb a b v h)
  refine ⟨fun hz => ?_, fun hn a ha => ?_⟩
  · have hd : Dia E := fun a ha => by rw [hp.1 a a (Or.inr (Or.inr rfl))]; exact hc.1 a ha
    have diag : ∀ j, j ≤ 10 → ∀ a, a < 10 → it sg j E a a = 0 := by
      intro j hj a ha
      have h1 := its_le (D := E) a a 0 j (Nat.zero_le j)
      have h2 := its_le (D := E) a a j 10 hj
      have h3 := hz a ha
      have h4 := hd a ha
      have e : it sg 0 E a a = E a a := rfl
      have e2 : fw E a a = it sg 10 E a a := rfl
      omega
    have hi3 : ∀ j a b, it sg j E a b ≤ IN := fun j => (its_snd ⟨hs, hi2⟩ j).2
    have main : ∀ i, i ≤ 4 → Thr (6 + i) (it sg (6 + i) E) ∧ Rng (1024000 * p2 i) (1024000 * p2 i) (it sg (6 + i) E) := by
      intro i
      induction i with
      | zero =>
        intro _
        rw [show 6 + 0 = 6 from rfl, prs_6 hc hi hp 6 (Nat.le_refl _)]
        exact ⟨prs_thr hc hp, by rw [show p2 0 = 1 from rfl, Int.mul_one]; exact hr⟩
      | succ i ih =>
        intro hi4
        obtain ⟨t1, t2⟩ := ih (by omega)
        have hp8 : p2 i ≤ 8 := by
          have : ∀ i, i < 4 → p2 i ≤ 8 := by decide
          exact this i (by omega)
        have hpp := p2_pos i
        rw [show 6 + (i + 1) = (6 + i) + 1 from rfl, it_s]
        refine ⟨sg_thr (by omega) (diag (6 + i) (by omega) (6 + i) (by omega)) (hi3 (6 + i)) t2 (by omega) t1, ?_⟩
        have h3 := sg_rng (diag (6 + i) (by omega) (6 + i) (by omega)) (hi3 (6 + i)) (by omega) (by omega) t2
        have e1 : 1024000 * p2 (i + 1) = 1024000 * p2 i + 1024000 * p2 i := by show 1024000 * (p2 i + p2 i) = _; rw [Int.mul_add]
        rw [e1]; exact h3
    obtain ⟨m1, m2⟩ := main 4 (Nat.le_refl _)
    have e : p2 4 = 16 := by decide
    rw [e] at m2
    refine cls_noneg (D := fw E) h10 ⟨fun a ha => diag 10 (Nat.le_refl _) a ha, fun a b c ha hb hc p q => m1 a c b ha hc hb p q⟩ hb2 m2 (by omega)
  · rcases Int.lt_or_le (fw E a a) 0 with h | h
    · exact absurd ⟨a, _, h, h1.1 a a (by show fw E a a ≠ IN; omega)⟩ hn
    · exact h
def Bg : Nat → Int
  | 7 => 2048000
  | 8 => 12288000
  | 9 => 73728000
  | 10 => 442368000
  | _ => 1024000
def Ug : Nat → Int
  | 7 => 2048000
  | 8 => 4096000
  | 9 => 8192000
  | 10 => 16384000
  | _ => 1024000
theorem fw_mx2 (d : Nat → Int32) {D : Mx} (hc : Cls D) (hi : ∀ a b, D a b ≤ IN) (hp : Prs D (mx d)) (hr : Rng 1024000 1024000 (mx d)) : mx (fw32 d) = fw (mx d) := by
  have iN : IN = 100000000 := rfl
  have hbd : ∀ j, j < 11 → 1024000 ≤ Bg j ∧ 1024000 ≤ Ug j ∧ Ug j ≤ 16384000 := by decide
  have hb0 : ∀ x y, mx d x y ≤ IN ∧ (mx d x y = IN ∨ mx d x y ≤ 1024000) ∧ -1024000 ≤ mx d x y := by
    intro x y
    rcases hr x y with e | e
    · exact ⟨by omega, Or.inl e, by omega⟩
    · exact ⟨by omega, Or.inr (by omega), by omega⟩
  have h := it_ind2 (f := sg32) (g := sg) (P := fun j g G => mx g = G ∧ G = it sg j (mx d) ∧ ∀ x y, G x y ≤ IN ∧ (G x y = IN ∨ G x y ≤ Ug j) ∧ -(Bg j) ≤ G x y) (x := d) (y := mx d) ⟨rfl, rfl, hb0⟩ 10 (fun j hj g G hG => by
    obtain ⟨e1, e2, hb⟩ := hG
    subst e1
    obtain ⟨u1, u2, u3⟩ := hbd j (by omega)
    have uf : j < 10 → Ug j ≤ 8192000 := by
      have : ∀ j, j < 10 → Ug j ≤ 8192000 := by decide
      exact this j
    have u4 := uf hj
    obtain ⟨q1, q2⟩ := sg_mx g hj (B := Bg j) (U := Ug j) (by omega) (by omega) (by omega) (fun x y hx hy => by
      have := lw_6 (k := j) (B := Bg j) (by omega) x y
      have : ∀ j, j < 10 → Bg j ≤ 73728000 := by decide
      have := this j hj
      omega) hb
    refine ⟨q1, by rw [it_s, ← e2], fun x y => ?_⟩
    obtain ⟨r1, r2, r3⟩ := q2 x y
    have hi2 : ∀ a b, mx d a b ≤ IN := fun a b => (hb0 a b).1
    rcases Nat.lt_or_ge j 6 with c | c
    · have e3 : mx g = mx d := by rw [e2, prs_6 hc hi hp j (by omega)]
      have e4 : sg j (mx g) = mx d := by
        have e5 := prs_6 hc hi hp (j + 1) (by omega)
        rw [it_s] at e5
        rw [e2]; exact e5
      rw [e4]
      have : ∀ j, j < 6 → Bg (j + 1) = 1024000 ∧ Ug (j + 1) = 1024000 := by decide
      obtain ⟨v1, v2⟩ := this j c
      rw [v1, v2]
      exact hb0 x y
    · have v : ∀ j, j < 10 → 6 ≤ j → Ug (j + 1) = Ug j + Ug j := by decide
      refine ⟨r1, ?_, ?_⟩
      · rw [v j hj c]
        exact r2
      · by_cases h10 : x < 10 ∧ y < 10
        · rcases Nat.eq_or_lt_of_le c with rfl | c2
          · have e3 : mx g = mx d := by rw [e2, prs_6 hc hi hp 6 (by omega)]
            have d6 : mx d 6 6 = 0 := by rw [hp.1 6 6 (Or.inr (Or.inr rfl))]; exact hc.1 6 (by omega)
            rw [e3, sg_eq d6 hi2 x y, if_pos h10, show Bg (6 + 1) = 2048000 from rfl]
            rcases fm_or (mx d) 6 x y with e | ⟨p1, p2, e, -⟩
            · rw [e]; have := (hb0 x y).2.2; omega
            · rw [e]
              have := (hb0 x 6).2.2
              have := (hb0 6 y).2.2
              omega
          · have w : ∀ j, j < 10 → 7 ≤ j → Bg (j + 1) = 6 * Bg j := by decide
            rw [w j hj c2]
            have := r3 h10.1 h10.2
            have := lw_6 (k := j) (B := Bg j) (by omega) x y
            omega
        · rw [← q1, mx_out _ h10]
          have := (hbd (j + 1) (by omega)).1
          omega)
  exact h.1
