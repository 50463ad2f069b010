/-! THE CLASS'S BOUNDS -/
def cm (d : Nat → Int32) : Mx := fun a b => if a < 10 ∧ b < 10 then (if d (10 * b + a) = (268435456 : Int32) then IN else (d (10 * b + a)).toInt) else IN
theorem cm_in (d : Nat → Int32) {a b : Nat} (ha : a < 10) (hb : b < 10) : cm d a b = if d (10 * b + a) = (268435456 : Int32) then IN else (d (10 * b + a)).toInt := if_pos ⟨ha, hb⟩
def BOk (d : Nat → Int32) : Prop := ∀ i, i < 100 → d i = (268435456 : Int32) ∨ (-1024000 ≤ (d i).toInt ∧ (d i).toInt ≤ 1024000)
def nw (d : Nat → Int32) (x1 x2 : Nat) (v : Int32) : Nat → Int32 := fun i => if i < 100 ∧ d (10 * (i / 10) + x1) ≠ (268435456 : Int32) ∧ d (10 * x2 + i % 10) ≠ (268435456 : Int32) ∧ ¬ d i ≤ d (10 * (i / 10) + x1) + v + d (10 * x2 + i % 10) then d (10 * (i / 10) + x1) + v + d (10 * x2 + i % 10) else d i
def prt (d : Nat → Int32) (x1 x2 : Nat) (v : Int32) (t : Nat) : Nat → Int32 := fun i => if i < t then nw d x1 x2 v i else d i
theorem fr_toInt : (268435456 : Int32).toInt = 268435456 := by decide
theorem nw_out (d : Nat → Int32) (x1 x2 : Nat) (v : Int32) {i : Nat} (h : ¬ i < 100) : nw d x1 x2 v i = d i := if_neg (fun z => h z.1)
theorem prt_0 (d : Nat → Int32) (x1 x2 : Nat) (v : Int32) : prt d x1 x2 v 0 = d := by
  funext i
  exact if_neg (Nat.not_lt_zero i)
theorem prt_100 (d : Nat → Int32) (x1 x2 : Nat) (v : Int32) : prt d x1 x2 v 100 = nw d x1 x2 v := by
  funext i
  unfold prt
  by_cases h : i < 100
  · rw [if_pos h]
  · rw [if_neg h, nw_out d x1 x2 v h]
theorem prt_set (d : Nat → Int32) (x1 x2 : Nat) (v : Int32) (t : Nat) : upd (prt d x1 x2 v t) t (nw d x1 x2 v t) = prt d x1 x2 v (t + 1) := by
  funext i
  show (if i = t then nw d x1 x2 v t else if i < t then nw d x1 x2 v i else d i) = if i < t + 1 then nw d x1 x2 v i else d i
  by_cases h : i = t
  · rw [if_pos h, if_pos (by omega), h]
  · rw [if_neg h]
    by_cases h2 : i < t
    · rw [if_pos h2, if_pos (by omega)]
    · rw [if_neg h2, if_neg (by omega)]
theorem prt_same (d : Nat → Int32) (x1 x2 : Nat) (v : Int32) {t : Nat} : ∀ n, (∀ i, t ≤ i → i < t + n → nw d x1 x2 v i = d i) → prt d x1 x2 v t = prt d x1 x2 v (t + n) := by
  intro n h
  funext i
  unfold prt
  by_cases h1 : i < t
  · rw [if_pos h1, if_pos (by omega)]
  · rw [if_neg h1]
    by_cases h2 : i < t + n
    · rw [if_pos h2, h i (by omega) h2]
    · rw [if_neg h2]
def TO (d : Nat → Int32) (x1 x2 : Nat) (v : Int32) : Prop := x1 < 10 ∧ x2 < 10 ∧ (-1000 ≤ v.toInt ∧ v.toInt ≤ 1000) ∧ BOk d ∧ (d (10 * x2 + x1) = (268435456 : Int32) ∨ 0 ≤ (d (10 * x2 + x1)).toInt + v.toInt)
theorem TO.h1 {d : Nat → Int32} {x1 x2 : Nat} {v : Int32} (h : TO d x1 x2 v) : x1 < 10 := h.1
theorem TO.h2 {d : Nat → Int32} {x1 x2 : Nat} {v : Int32} (h : TO d x1 x2 v) : x2 < 10 := And.left (And.right h)
theorem TO.hv {d : Nat → Int32} {x1 x2 : Nat} {v : Int32} (h : TO d x1 x2 v) : -1000 ≤ v.toInt ∧ v.toInt ≤ 1000 := And.left (And.right (And.right h))
theorem TO.ok {d : Nat → Int32} {x1 x2 : Nat} {v : Int32} (h : TO d x1 x2 v) : BOk d := And.left (And.right (And.right (And.right h)))
theorem TO.hq {d : Nat → Int32} {x1 x2 : Nat} {v : Int32} (h : TO d x1 x2 v) : d (10 * x2 + x1) = (268435456 : Int32) ∨ 0 ≤ (d (10 * x2 + x1)).toInt + v.toInt := And.right (And.right (And.right (And.right h)))
theorem TO.sum {d : Nat → Int32} {x1 x2 : Nat} {v : Int32} (h : TO d x1 x2 v) {i j : Nat} (hi : i < 100) (hj : j < 100) (p : d i ≠ (268435456 : Int32)) (q : d j ≠ (268435456 : Int32)) : (d i + v + d j).toInt = (d i).toInt + v.toInt + (d j).toInt := by
  have a1 := (h.ok i hi).resolve_left p
  have a2 := (h.ok j hj).resolve_left q
  have a3 := h.hv
  have e : (d i + v).toInt = (d i).toInt + v.toInt := add_toInt (by omega) (by omega)
  rw [add_toInt (by omega) (by omega), e]
theorem nw_col {d : Nat → Int32} {x1 x2 : Nat} {v : Int32} (h : TO d x1 x2 v) {b : Nat} (hb : b < 10) : nw d x1 x2 v (10 * b + x1) = d (10 * b + x1) := by
  have := h.h1
  have := h.h2
  unfold nw
  rw [show (10 * b + x1) / 10 = b by omega, show (10 * b + x1) % 10 = x1 by omega]
  refine if_neg (fun z => z.2.2.2 ?_)
  have e := h.sum (i := 10 * b + x1) (j := 10 * x2 + x1) (by omega) (by omega) z.2.1 z.2.2.1
  have := h.hq.resolve_left z.2.2.1
  refine Int32.le_iff_toInt_le.mpr ?_
  rw [e]; omega
theorem nw_row {d : Nat → Int32} {x1 x2 : Nat} {v : Int32} (h : TO d x1 x2 v) {a : Nat} (ha : a < 10) : nw d x1 x2 v (10 * x2 + a) = d (10 * x2 + a) := by
  have := h.h1
  have := h.h2
  unfold nw
  rw [show (10 * x2 + a) / 10 = x2 by omega, show (10 * x2 + a) % 10 = a by omega]
  refine if_neg (fun z => z.2.2.2 ?_)
  have e := h.sum (i := 10 * x2 + x1) (j := 10 * x2 + a) (by omega) (by omega) z.2.1 z.2.2.1
  have := h.hq.resolve_left z.2.1
  refine Int32.le_iff_toInt_le.mpr ?_
  rw [e]; omega
theorem prt_col {d : Nat → Int32} {x1 x2 : Nat} {v : Int32} (h : TO d x1 x2 v) {b : Nat} (hb : b < 10) (t : Nat) : prt d x1 x2 v t (10 * b + x1) = d (10 * b + x1) := by
  unfold prt
  rw [nw_col h hb]
  split <;> rfl
theorem prt_row {d : Nat → Int32} {x1 x2 : Nat} {v : Int32} (h : TO d x1 x2 v) {a : Nat} (ha : a < 10) (t : Nat) : prt d x1 x2 v t (10 * x2 + a) = d (10 * x2 + a) := by
  unfold prt
  rw [nw_row h ha]
  split <;> rfl
theorem i10r {a b : Nat} : (nI a * 10) + nI b = nI (10 * a + b) := by
  rw [show (10 : Int32) = nI 10 from rfl, nI_mul', nI_add, Nat.mul_comm]
theorem tell_85 {n0 m : Nat} (hs : shc n0 = 2) (hm : cr n0 0 = m) (M : Mem) {d : Nat → Int32} {x1 x2 : Nat} {v : Int32} (h : TO d x1 x2 v) (r : Nat → Int32 → Int32 → Int32 → Int32 → Mem → Option Mem) {b : Nat} (hb : b < 10) : f_X2_tell_b85 r fuel n0 (nI x1) (nI x2) v (nI b) (d (10 * b + x1) + v) 0 (sA M m (prt d x1 x2 v (10 * b))) = r n0 (nI x1) (nI x2) v (nI (b + 1)) (sA M m (prt d x1 x2 v (10 * b + 10))) := by
  have g1 := h.h1
  have g2 := h.h2
  unfold f_X2_tell_b85
  by_cases hp : d (10 * b + x1) = (268435456 : Int32)
  · rw [prt_same d x1 x2 v (t := 10 * b) 10 (fun i h1 h2 => by
      unfold nw
      refine if_neg (fun z => z.2.1 ?_)
      rw [show i / 10 = b by omega]; exact hp)]
    show f_X2_tell_b85_s r _ n0 (nI x1) (nI x2) v (nI b) (d (10 * b + x1) + v) 0 (sA M m (prt d x1 x2 v (10 * b + 10))) = _
    unfold f_X2_tell_b85_s
    rw [if_neg (by decide), gd_t hs, i10r, gd_t (inb_nI (by omega) (by omega)), nI_clamp (by omega), hm, sA_s, prt_col h hb, if_pos hp, bnd_e, nI_1]
  · have hl := lp_for (z := fun _ _ _ _ _ _ _ _ => none) (s := f_X2_tell_b85_s r) (fun j (f : Nat → Int32 → Int32 → Int32 → Int32 → Int32 → Int32 → Mem → Option Mem) => f n0 (nI x1) (nI x2) v (nI b) (d (10 * b + x1) + v) (nI j) (sA M m (prt d x1 x2 v (10 * b + j)))) 10 (r n0 (nI x1) (nI x2) v (nI (b + 1)) (sA M m (prt d x1 x2 v (10 * b + 10)))) (fun j hj f => by
      show f_X2_tell_b85_s r f n0 (nI x1) (nI x2) v (nI b) (d (10 * b + x1) + v) (nI j) (sA M m (prt d x1 x2 v (10 * b + j))) = f n0 (nI x1) (nI x2) v (nI b) (d (10 * b + x1) + v) (nI (j + 1)) (sA M m (prt d x1 x2 v (10 * b + j + 1)))
      have at_t : prt d x1 x2 v (10 * b + j) (10 * b + j) = d (10 * b + j) := if_neg (Nat.lt_irrefl _)
      have nwt := prt_set d x1 x2 v (10 * b + j)
      have stay : nw d x1 x2 v (10 * b + j) = d (10 * b + j) → prt d x1 x2 v (10 * b + j) = prt d x1 x2 v (10 * b + j + 1) := fun e => prt_same d x1 x2 v 1 (fun i h1 h2 => by
        rw [show i = 10 * b + j by omega]; exact e)
      have nwe : nw d x1 x2 v (10 * b + j) = if 10 * b + j < 100 ∧ d (10 * b + x1) ≠ (268435456 : Int32) ∧ d (10 * x2 + j) ≠ (268435456 : Int32) ∧ ¬ d (10 * b + j) ≤ d (10 * b + x1) + v + d (10 * x2 + j) then d (10 * b + x1) + v + d (10 * x2 + j) else d (10 * b + j) := by
        unfold nw
        rw [show (10 * b + j) / 10 = b by omega, show (10 * b + j) % 10 = j by omega]
      unfold f_X2_tell_b85_s
      simp only [bnd_e]
      rw [if_neg (by rw [show (10 : Int32) = nI 10 from rfl]; exact nI_ge hj (by omega)), gd_t hs, i10r, i10r, i10r, gd_t (inb_nI (by omega) (by omega)), gd_t (inb_nI (by omega) (by omega)), gd_t (inb_nI (by omega) (by omega)), nI_clamp (by omega), nI_clamp (by omega), nI_clamp (by omega), hm, sA_s, sA_s, sA_s, prt_col h hb, prt_row h hj, at_t, if_neg hp]
      by_cases hq : d (10 * x2 + j) = (268435456 : Int32)
      · rw [if_pos hq, nI_1, stay (by rw [nwe, if_neg (fun z => z.2.2.1 hq)])]
      · rw [if_neg hq]
        by_cases hc : d (10 * b + j) ≤ d (10 * b + x1) + v + d (10 * x2 + j)
        · rw [if_pos hc, nI_1, stay (by rw [nwe, if_neg (fun z => z.2.2.2 hc)])]
        · rw [if_neg hc, nI_1, sA_set]
          rw [nwe, if_pos ⟨by omega, hp, hq, hc⟩] at nwt
          rw [nwt]) (fun f => by
      show f_X2_tell_b85_s r f n0 (nI x1) (nI x2) v (nI b) (d (10 * b + x1) + v) (nI 10) (sA M m (prt d x1 x2 v (10 * b + 10))) = _
      unfold f_X2_tell_b85_s
      rw [if_pos (by decide), bnd_e, nI_1]) fuel (by decide)
    exact hl
theorem tell_59 {n0 m : Nat} (hs : shc n0 = 2) (hm : cr n0 0 = m) (M : Mem) {d : Nat → Int32} {x1 x2 : Nat} {v : Int32} (h : TO d x1 x2 v) : f_X2_tell_b59 fuel n0 (nI x1) (nI x2) v 0 (sA M m d) = some (sA M m (nw d x1 x2 v)) := by
  have g1 := h.h1
  have g2 := h.h2
  have hl := lp_for (z := fun _ _ _ _ _ _ => none) (s := f_X2_tell_b59_s) (fun j (f : Nat → Int32 → Int32 → Int32 → Int32 → Mem → Option Mem) => f n0 (nI x1) (nI x2) v (nI j) (sA M m (prt d x1 x2 v (10 * j)))) 10 (some (sA M m (nw d x1 x2 v))) (fun j hj f => by
    show f_X2_tell_b59_s f n0 (nI x1) (nI x2) v (nI j) (sA M m (prt d x1 x2 v (10 * j))) = f n0 (nI x1) (nI x2) v (nI (j + 1)) (sA M m (prt d x1 x2 v (10 * j + 10)))
    unfold f_X2_tell_b59_s
    rw [if_neg (by rw [show (10 : Int32) = nI 10 from rfl]; exact nI_ge hj (by omega)), gd_t hs, i10r, gd_t (inb_nI (by omega) (by omega)), nI_clamp (by omega), hm, sA_s, prt_col h hj, bnd_e, tell_85 hs hm M h f hj]) (fun f => by
    show f_X2_tell_b59_s f n0 (nI x1) (nI x2) v (nI 10) (sA M m (prt d x1 x2 v 100)) = _
    unfold f_X2_tell_b59_s
    rw [if_pos (by decide), prt_100]) fuel (by decide)
  have e0 : prt d x1 x2 v (10 * 0) = d := prt_0 d x1 x2 v
  have e1 : nI 0 = 0 := rfl
  simp only [e0, e1] at hl
  exact hl
theorem tell_f {n0 m : Nat} (hs : shc n0 = 2) (hm : cr n0 0 = m) (hne : n0 ≠ m) (M : Mem) {d : Nat → Int32} {x1 x2 : Nat} {v : Int32} (h1 : x1 < 10) (h2 : x2 < 10) (hv : -1000 ≤ v.toInt ∧ v.toInt ≤ 1000) (ok : BOk d) (h0 : M.1 n0 1 = 0) :
    (¬ v < d (10 * x1 + x2) ∧ f_X2_tell n0 (nI x1) (nI x2) v (sA M m d) = some (sA M m d)) ∨
    (v < d (10 * x1 + x2) ∧ (d (10 * x2 + x1) = (268435456 : Int32) ∨ 0 ≤ (d (10 * x2 + x1)).toInt + v.toInt) ∧ f_X2_tell n0 (nI x1) (nI x2) v (sA M m d) = some (sA M m (nw d x1 x2 v))) ∨
    (d (10 * x2 + x1) ≠ (268435456 : Int32) ∧ (d (10 * x2 + x1)).toInt + v.toInt < 0 ∧ f_X2_tell n0 (nI x1) (nI x2) v (sA M m d) = some (setI (sA M m d) n0 1 1)) := by
  unfold f_X2_tell
  rw [gd_t hs, sA_n M d 1 hne, if_pos h0, i10r, i10r, gd_t (inb_nI (by omega) (by omega)), gd_t (inb_nI (by omega) (by omega)), nI_clamp (by omega), nI_clamp (by omega), hm, sA_s, sA_s]
  by_cases c : v < d (10 * x1 + x2)
  · rw [if_pos c]
    simp only [bnd_e]
    by_cases c2 : d (10 * x2 + x1) = (268435456 : Int32)
    · rw [if_pos c2]
      exact Or.inr (Or.inl ⟨c, Or.inl c2, tell_59 hs hm M ⟨h1, h2, hv, ok, Or.inl c2⟩⟩)
    · rw [if_neg c2]
      have a1 := (ok (10 * x2 + x1) (by omega)).resolve_left c2
      have e : (d (10 * x2 + x1) + v).toInt = (d (10 * x2 + x1)).toInt + v.toInt := add_toInt (by omega) (by omega)
      by_cases c3 : 0 ≤ d (10 * x2 + x1) + v
      · rw [if_pos c3]
        have c4 := Int32.le_iff_toInt_le.mp c3
        rw [e] at c4
        have c5 : 0 ≤ (d (10 * x2 + x1)).toInt + v.toInt := c4
        exact Or.inr (Or.inl ⟨c, Or.inr c5, tell_59 hs hm M ⟨h1, h2, hv, ok, Or.inr c5⟩⟩)
      · rw [if_neg c3]
        have c4 := Int32.lt_iff_toInt_lt.mp (Int32.not_le.mp c3)
        rw [e] at c4
        exact Or.inr (Or.inr ⟨c2, c4, rfl⟩)
  · rw [if_neg c]
    exact Or.inl ⟨c, rfl⟩
/-- what the class's bounds at n0 hold -/
def BB (C : Ct) (M : Mem) (n0 : Nat) : Prop := (M.1 n0 1 = 0 ∧ BOk (M.1 (cr n0 0)) ∧ Tig C (cm (M.1 (cr n0 0)))) ∨ (M.1 n0 1 = 1 ∧ Neg C)
theorem BB.cong {C C' : Ct} {M M' : Mem} {n0 n1 : Nat} (h : BB C M n0) (e : ∀ a b v, C a b v ↔ C' a b v) (e1 : M'.1 n1 1 = M.1 n0 1) (e2 : M'.1 (cr n1 0) = M.1 (cr n0 0)) : BB C' M' n1 := by
  have : C = C' := by funext a b v; exact propext (e a b v)
  unfold BB
  rw [e1, e2, ← this]; exact h
/-- all but two rows of ints is as it was -/
def Off (M M' : Mem) (n m : Nat) : Prop := M'.2 = M.2 ∧ ∀ a, a ≠ n → a ≠ m → M'.1 a = M.1 a
theorem Off.refl (M : Mem) (n m : Nat) : Off M M n m := ⟨rfl, fun _ _ _ => rfl⟩
theorem Off.tr {M M' M'' : Mem} {n m : Nat} (h : Off M M' n m) (h' : Off M' M'' n m) : Off M M'' n m := ⟨h'.1.trans h.1, fun a x y => (h'.2 a x y).trans (h.2 a x y)⟩
theorem cm_nw {d : Nat → Int32} {x1 x2 : Nat} {v : Int32} (h : TO d x1 x2 v) : cm (nw d x1 x2 v) = tl (cm d) x2 x1 v.toInt := by
  have g1 := h.h1
  have g2 := h.h2
  have iN : IN = 100000000 := rfl
  have fr : (268435456 : Int32).toInt = 268435456 := by decide
  have fin : ∀ i, i < 100 → d i ≠ (268435456 : Int32) → (d i).toInt ≠ IN := fun i hi hd e => by
    have := (h.ok i hi).resolve_left hd
    omega
  funext a b
  unfold tl
  by_cases h10 : a < 10 ∧ b < 10
  · obtain ⟨ha, hb⟩ := h10
    rw [cm_in _ ha hb, cm_in _ ha hb, cm_in _ ha g2, cm_in _ g1 hb]
    have nwe : nw d x1 x2 v (10 * b + a) = if 10 * b + a < 100 ∧ d (10 * b + x1) ≠ (268435456 : Int32) ∧ d (10 * x2 + a) ≠ (268435456 : Int32) ∧ ¬ d (10 * b + a) ≤ d (10 * b + x1) + v + d (10 * x2 + a) then d (10 * b + x1) + v + d (10 * x2 + a) else d (10 * b + a) := by
      unfold nw
      rw [show (10 * b + a) / 10 = b by omega, show (10 * b + a) % 10 = a by omega]
    generalize nw d x1 x2 v (10 * b + a) = w at nwe ⊢
    by_cases hp : d (10 * b + x1) = (268435456 : Int32)
    · rw [nwe.trans (if_neg (fun z => z.2.1 hp)), if_pos hp]
      exact (if_neg (fun z => z.2.2.2.1 rfl)).symm
    · by_cases hq : d (10 * x2 + a) = (268435456 : Int32)
      · rw [nwe.trans (if_neg (fun z => z.2.2.1 hq)), if_pos hq]
        exact (if_neg (fun z => z.2.2.1 rfl)).symm
      · have s := h.sum (i := 10 * b + x1) (j := 10 * x2 + a) (by omega) (by omega) hp hq
        have p1 := (h.ok (10 * b + x1) (by omega)).resolve_left hp
        have p2 := (h.ok (10 * x2 + a) (by omega)).resolve_left hq
        have hv := h.hv
        have f1 := fin (10 * b + x1) (by omega) hp
        have f2 := fin (10 * x2 + a) (by omega) hq
        rw [if_neg hp, if_neg hq]
        by_cases hc : d (10 * b + a) ≤ d (10 * b + x1) + v + d (10 * x2 + a)
        · have hc2 := Int32.le_iff_toInt_le.mp hc
          rw [s] at hc2
          rw [nwe.trans (if_neg (fun z => z.2.2.2 hc))]
          by_cases hd : d (10 * b + a) = (268435456 : Int32)
          · rw [hd, fr] at hc2; omega
          · rw [if_neg hd, if_neg (fun z => by omega)]
        · have hc2 := Int32.lt_iff_toInt_lt.mp (Int32.not_le.mp hc)
          rw [s] at hc2
          rw [nwe.trans (if_pos ⟨by omega, hp, hq, hc⟩)]
          have nf : d (10 * b + x1) + v + d (10 * x2 + a) ≠ (268435456 : Int32) := fun e => by
            rw [e, fr] at s; omega
          rw [if_neg nf, s]
          by_cases hd : d (10 * b + a) = (268435456 : Int32)
          · rw [if_pos hd, if_pos ⟨ha, hb, f2, f1, by omega⟩]; omega
          · rw [if_neg hd, if_pos ⟨ha, hb, f2, f1, by omega⟩]; omega
  · rw [if_neg (fun z => h10 ⟨z.1, z.2.1⟩)]
    unfold cm
    rw [if_neg h10, if_neg h10]
theorem bok_nw {C : Ct} {d : Nat → Int32} {x1 x2 : Nat} {v : Int32} (h : TO d x1 x2 v) (hr : Rep C) (t : Tig C (cm (nw d x1 x2 v))) : BOk (nw d x1 x2 v) := by
  have g1 := h.h1
  have g2 := h.h2
  have iN : IN = 100000000 := rfl
  intro i hi
  by_cases hf : nw d x1 x2 v i = (268435456 : Int32)
  · exact Or.inl hf
  · refine Or.inr ?_
    have sm := t.small hr (a := i % 10) (b := i / 10) (by omega) (by omega)
    rw [cm_in _ (by omega) (by omega), show 10 * (i / 10) + i % 10 = i by omega, if_neg hf] at sm
    rcases sm with e | e
    · exfalso
      unfold nw at e hf
      by_cases z : i < 100 ∧ d (10 * (i / 10) + x1) ≠ (268435456 : Int32) ∧ d (10 * x2 + i % 10) ≠ (268435456 : Int32) ∧ ¬ d i ≤ d (10 * (i / 10) + x1) + v + d (10 * x2 + i % 10)
      · rw [if_pos z] at e
        have s := h.sum (i := 10 * (i / 10) + x1) (j := 10 * x2 + i % 10) (by omega) (by omega) z.2.1 z.2.2.1
        have p1 := (h.ok (10 * (i / 10) + x1) (by omega)).resolve_left z.2.1
        have p2 := (h.ok (10 * x2 + i % 10) (by omega)).resolve_left z.2.2.1
        have hv := h.hv
        omega
      · rw [if_neg z] at e hf
        have := (h.ok i hi).resolve_left hf
        omega
    · exact e
theorem tell_bb {C : Ct} {n0 : Nat} (hs : shc n0 = 2) (hne : n0 ≠ cr n0 0) {M : Mem} {x1 x2 : Nat} {v : Int32} (h1 : x1 < 10) (h2 : x2 < 10) (h12 : x2 ≠ x1) (hv : -1000 ≤ v.toInt ∧ v.toInt ≤ 1000) (hr : Rep C) (b : BB C M n0) :
    ∃ M', f_X2_tell n0 (nI x1) (nI x2) v M = some M' ∧ Rep (cadd C x2 x1 v.toInt) ∧ BB (cadd C x2 x1 v.toInt) M' n0 ∧ Off M M' n0 (cr n0 0) := by
  have hr' := hr.add h2 h1 h12 hv
  have iN : IN = 100000000 := rfl
  rcases b with ⟨b0, ok, t⟩ | ⟨b0, hn⟩
  · have cmh : cm (M.1 (cr n0 0)) x2 x1 = if M.1 (cr n0 0) (10 * x1 + x2) = (268435456 : Int32) then IN else (M.1 (cr n0 0) (10 * x1 + x2)).toInt := cm_in _ h2 h1
    have cmb : cm (M.1 (cr n0 0)) x1 x2 = if M.1 (cr n0 0) (10 * x2 + x1) = (268435456 : Int32) then IN else (M.1 (cr n0 0) (10 * x2 + x1)).toInt := cm_in _ h1 h2
    have e := tell_f hs rfl hne M h1 h2 hv ok b0
    rw [sA_self] at e
    rcases e with ⟨c, e⟩ | ⟨c, c2, e⟩ | ⟨c, c2, e⟩
    · refine ⟨M, e, hr', Or.inl ⟨b0, ok, tell_more t ?_ (by omega)⟩, Off.refl _ _ _⟩
      have c3 := Int32.le_iff_toInt_le.mp (Int32.not_lt.mp c)
      rw [cmh]
      by_cases hf : M.1 (cr n0 0) (10 * x1 + x2) = (268435456 : Int32)
      · rw [hf] at c3
        have fr : (268435456 : Int32).toInt = 268435456 := by decide
        omega
      · rw [if_neg hf]; exact c3
    · have to : TO (M.1 (cr n0 0)) x1 x2 v := ⟨h1, h2, hv, ok, c2⟩
      have t' : Tig (cadd C x2 x1 v.toInt) (cm (nw (M.1 (cr n0 0)) x1 x2 v)) := by
        rw [cm_nw to]
        refine tell_in hr t h2 h1 h12 hv ?_
        rw [cmb]
        rcases c2 with z | z
        · rw [if_pos z]; exact Or.inl rfl
        · by_cases hf : M.1 (cr n0 0) (10 * x2 + x1) = (268435456 : Int32)
          · rw [if_pos hf]; exact Or.inl rfl
          · rw [if_neg hf]; exact Or.inr z
      refine ⟨_, e, hr', Or.inl ⟨?_, ?_, ?_⟩, rfl, fun a _ ha => ?_⟩
      · rw [sA_n M _ 1 hne]; exact b0
      · have : (sA M (cr n0 0) (nw (M.1 (cr n0 0)) x1 x2 v)).1 (cr n0 0) = nw (M.1 (cr n0 0)) x1 x2 v := funext (sA_s M _ _)
        rw [this]; exact bok_nw to hr' t'
      · have : (sA M (cr n0 0) (nw (M.1 (cr n0 0)) x1 x2 v)).1 (cr n0 0) = nw (M.1 (cr n0 0)) x1 x2 v := funext (sA_s M _ _)
        rw [this]; exact t'
      · exact funext (fun k => sA_n M _ k ha)
    · refine ⟨_, e, hr', Or.inr ⟨?_, ?_⟩, rfl, fun a ha _ => ?_⟩
      · rw [setI_1, if_pos ⟨rfl, rfl⟩]
      · refine tell_torn (G := cm (M.1 (cr n0 0))) t ?_ ?_
        · rw [cmb, if_neg c]
          have := (ok (10 * x2 + x1) (by omega)).resolve_left c
          omega
        · rw [cmb, if_neg c]; exact c2
      · funext k
        rw [setI_1, if_neg (fun z => ha z.1)]
  · refine ⟨M, ?_, hr', Or.inr ⟨b0, hn.sub (fun _ _ _ h => Der.base (Or.inl h))⟩, Off.refl _ _ _⟩
    unfold f_X2_tell
    rw [gd_t hs, b0, if_neg (by decide)]
theorem nar_b : vp_nar .boolean 0 = 0 ∧ vp_nar .boolean 1 = 1 := by decide
theorem copy_bb {C : Ct} {n0 n1 : Nat} (h0 : shc n0 = 2) (h1 : shc n1 = 2) (d1 : n0 ≠ cr n0 0) (d2 : n1 ≠ n0) (d3 : cr n1 0 ≠ cr n0 0) (d4 : n1 ≠ cr n0 0) {M : Mem} (b : BB C M n1) : ∃ M', f_X2_copyFrom n0 n1 M = some M' ∧ BB C M' n0 ∧ Off M M' n0 (cr n0 0) := by
  have cp1 : ∀ a k, (cpI M (cr n1 0) (cr n0 0) 100).1 a k = if a = cr n0 0 ∧ k < 100 then M.1 (cr n1 0) k else M.1 a k := fun a k => rfl
  have cp2 : (cpI M (cr n1 0) (cr n0 0) 100).1 n1 1 = M.1 n1 1 := by rw [cp1, if_neg (fun z => d4 z.1)]
  have n : vp_nar .boolean (M.1 n1 1) = M.1 n1 1 := by
    rcases b with ⟨e, -⟩ | ⟨e, -⟩ <;> rw [e]
    · exact nar_b.1
    · exact nar_b.2
  refine ⟨setI (cpI M (cr n1 0) (cr n0 0) 100) n0 1 (M.1 n1 1), ?_, ?_, rfl, fun a ha hb => ?_⟩
  · unfold f_X2_copyFrom
    rw [gd_t h1, gd_t h0]
    simp only [bnd_e]
    rw [cp2, gd_t n]
  · have row : ∀ k, (setI (cpI M (cr n1 0) (cr n0 0) 100) n0 1 (M.1 n1 1)).1 (cr n0 0) k = if k < 100 then M.1 (cr n1 0) k else M.1 (cr n0 0) k := fun k => by
      rw [setI_1, if_neg (fun z => d1 z.1.symm), cp1]
      by_cases hk : k < 100
      · rw [if_pos ⟨rfl, hk⟩, if_pos hk]
      · rw [if_neg (fun z => hk z.2), if_neg hk]
    have torn : (setI (cpI M (cr n1 0) (cr n0 0) 100) n0 1 (M.1 n1 1)).1 n0 1 = M.1 n1 1 := by rw [setI_1, if_pos ⟨rfl, rfl⟩]
    rcases b with ⟨e, ok, t⟩ | ⟨e, hn⟩
    · refine Or.inl ⟨torn.trans e, fun i hi => ?_, ?_⟩
      · rw [row, if_pos hi]; exact ok i hi
      · have : cm ((setI (cpI M (cr n1 0) (cr n0 0) 100) n0 1 (M.1 n1 1)).1 (cr n0 0)) = cm (M.1 (cr n1 0)) := by
          funext a b
          by_cases h10 : a < 10 ∧ b < 10
          · rw [cm_in _ h10.1 h10.2, cm_in _ h10.1 h10.2, row (10 * b + a), if_pos (show 10 * b + a < 100 by omega)]
          · unfold cm
            rw [if_neg h10, if_neg h10]
        rw [this]; exact t
    · exact Or.inr ⟨torn.trans e, hn⟩
  · funext k
    rw [setI_1, if_neg (fun z => ha z.1), cp1, if_neg (fun z => hb z.1)]
