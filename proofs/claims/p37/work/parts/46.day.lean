/-! DAYS: the class's and the reference's -/
def DN (n : Nat) : Prop := n = 217 ∨ (∃ i, i < 12 ∧ n = 227 + 6 * i) ∨ n = 299 ∨ n = 305
theorem dn_all {n : Nat} (h : DN n) : shc n = 3 ∧ cr n 4 = n + 1 ∧ cr n 5 = n + 2 ∧ cr n 6 = n + 3 ∧ cr n 7 = n + 4 ∧ cr n 8 = n + 5 := by
  have k1 : ∀ i, i < 12 → shc (227 + 6 * i) = 3 ∧ cr (227 + 6 * i) 4 = 227 + 6 * i + 1 ∧ cr (227 + 6 * i) 5 = 227 + 6 * i + 2 ∧ cr (227 + 6 * i) 6 = 227 + 6 * i + 3 ∧ cr (227 + 6 * i) 7 = 227 + 6 * i + 4 ∧ cr (227 + 6 * i) 8 = 227 + 6 * i + 5 := by decide +kernel
  rcases h with rfl | ⟨i, hi, rfl⟩ | rfl | rfl
  · decide +kernel
  · exact k1 i hi
  · decide +kernel
  · decide +kernel
theorem dn_rng {n : Nat} (h : DN n) : 217 ≤ n ∧ n + 5 ≤ 310 := by
  rcases h with rfl | ⟨i, hi, rfl⟩ | rfl | rfl <;> omega
def b2 (c p : Nat) : Int32 := nI (if c.testBit p then 1 else 0)
/-- the day at n is the day s -/
def RDay (M : Mem) (n : Nat) (s : Nat → Int32) : Prop :=
  (∃ h, h ≤ Cn M 4 ∧ M.1 n 0 = nI h ∧ s 0 = nI h ∧ ∃ c r b, (c < 256 ∧ r < 256 ∧ b < 256) ∧ (M.1 n 1 = nI c ∧ M.1 n 2 = nI r ∧ M.1 n 3 = nI b) ∧
    (∀ p, p < h → s (1 + p) = b2 c p ∧ s (9 + p) = b2 r p ∧ s (17 + p) = b2 b p ∧ (b.testBit p = false → (s (25 + p) = 0 ∧ M.1 (n + 1) p = -1) ∨ ∃ x, x < Cn M 1 ∧ s (25 + p) = nI (x + 1) ∧ M.1 (n + 1) p = nI x)) ∧
    ∀ p, h ≤ p → p < 8 → r.testBit p = false ∧ b.testBit p = false ∧ s (9 + p) = 0 ∧ s (17 + p) = 0 ∧ s (25 + p) = 0) ∧
  (∀ k, k < 4 → M.1 (n + 2) k = s (33 + k) ∧ 0 ≤ (s (33 + k)).toInt ∧ (s (33 + k)).toInt ≤ 9) ∧
  (∀ k, k < 4 → M.1 (n + 3) k = s (37 + k)) ∧
  (∀ p, p < 8 → M.1 (n + 4) p = s (41 + p)) ∧
  (∃ j, j ≤ 16 ∧ M.1 n 9 = nI j ∧ s 49 = nI j) ∧
  ∀ k, k < 64 → 4 * (M.1 n 9).toNatClampNeg ≤ k ∨ M.1 (n + 5) k = s (50 + k)
/-- the day at n is the day at m, and the counts are the same -/
theorem RDay.cong {M M' : Mem} {n m : Nat} {s s' : Nat → Int32} (h : RDay M n s) (e4 : Cn M' 4 = Cn M 4) (e1 : Cn M' 1 = Cn M 1) (d0 : M'.1 m 0 = M.1 n 0 ∧ M'.1 m 1 = M.1 n 1 ∧ M'.1 m 2 = M.1 n 2 ∧ M'.1 m 3 = M.1 n 3 ∧ M'.1 m 9 = M.1 n 9) (d1 : ∀ p, p < 8 → M'.1 (m + 1) p = M.1 (n + 1) p) (d2 : ∀ k, k < 4 → M'.1 (m + 2) k = M.1 (n + 2) k) (d3 : ∀ k, k < 4 → M'.1 (m + 3) k = M.1 (n + 3) k) (d4 : ∀ p, p < 8 → M'.1 (m + 4) p = M.1 (n + 4) p) (d5 : ∀ k, k < 64 → M'.1 (m + 5) k = M.1 (n + 5) k) (ds : ∀ k, k < 114 → s' k = s k) (c4 : Cn M 4 ≤ 8) : RDay M' m s' := by
  obtain ⟨⟨hh, h1, h2, h3, c, r, b, h4, h5, h6, h7⟩, g2, g3, g4, g5, g6⟩ := h
  obtain ⟨z0, z1, z2, z3, z9⟩ := d0
  unfold RDay
  rw [e4, e1, z0, z1, z2, z3, z9]
  refine ⟨⟨hh, h1, h2, by rw [ds 0 (by omega)]; exact h3, c, r, b, h4, h5, fun p hp => ?_, fun p hp hp8 => ?_⟩, fun k hk => ?_, fun k hk => ?_, fun p hp => ?_, ?_, fun k hk => ?_⟩
  · rw [ds (1 + p) (by omega), ds (9 + p) (by omega), ds (17 + p) (by omega), ds (25 + p) (by omega), d1 p (by omega)]
    exact h6 p hp
  · rw [ds (9 + p) (by omega), ds (17 + p) (by omega), ds (25 + p) (by omega)]
    exact h7 p hp hp8
  · rw [d2 k hk, ds (33 + k) (by omega)]; exact g2 k hk
  · rw [d3 k hk, ds (37 + k) (by omega)]; exact g3 k hk
  · rw [d4 p hp, ds (41 + p) (by omega)]; exact g4 p hp
  · rw [ds 49 (by omega)]; exact g5
  · rw [d5 k hk, ds (50 + k) (by omega)]; exact g6 k hk
/-- rows that stand make the day stand -/
theorem RDay.rows {M M' : Mem} {n : Nat} {s s' : Nat → Int32} (h : RDay M n s) (c4 : Cn M 4 ≤ 8) (e4 : Cn M' 4 = Cn M 4) (e1 : Cn M' 1 = Cn M 1) (e : ∀ a, n ≤ a → a ≤ n + 5 → M'.1 a = M.1 a) (ds : ∀ k, k < 114 → s' k = s k) : RDay M' n s' := by
  have z := e n (by omega) (by omega)
  refine h.cong e4 e1 (by rw [z]; exact ⟨rfl, rfl, rfl, rfl, rfl⟩) (fun p _ => ?_) (fun p _ => ?_) (fun p _ => ?_) (fun p _ => ?_) (fun p _ => ?_) ds c4
  · rw [e (n + 1) (by omega) (by omega)]
  · rw [e (n + 2) (by omega) (by omega)]
  · rw [e (n + 3) (by omega) (by omega)]
  · rw [e (n + 4) (by omega) (by omega)]
  · rw [e (n + 5) (by omega) (by omega)]
/-! the log, moved down by a row -/
def shG (top : Nat) (l : Nat → Int32) (i : Nat) : Nat → Int32 := fun k => if top - i < k ∧ k ≤ top then l (k - 4) else l k
theorem shG_0 (top : Nat) (l : Nat → Int32) : shG top l 0 = l := by
  funext k
  exact if_neg (by omega)
theorem shG_s {top i : Nat} (l : Nat → Int32) (hi : i + 4 ≤ top) : upd (shG top l i) (top - i) (shG top l i (top - i - 4)) = shG top l (i + 1) := by
  funext k
  have e : shG top l i (top - i - 4) = l (top - i - 4) := if_neg (by omega)
  rw [e]
  show (if k = top - i then l (top - i - 4) else if top - i < k ∧ k ≤ top then l (k - 4) else l k) = if top - (i + 1) < k ∧ k ≤ top then l (k - 4) else l k
  by_cases h : k = top - i
  · rw [if_pos h, if_pos (by omega), h]
  · rw [if_neg h]
    by_cases h2 : top - i < k ∧ k ≤ top
    · rw [if_pos h2, if_pos (by omega)]
    · rw [if_neg h2, if_neg (by omega)]
theorem nI_dn {m : Nat} (h : 1 ≤ m) : nI m + (-1) = nI (m - 1) := by
  obtain ⟨j, rfl⟩ : ∃ j, m = j + 1 := ⟨m - 1, by omega⟩
  rw [← nI_1, Int32.add_assoc]
  show nI j + 0 = nI j
  exact Int32.add_zero _
theorem nI_sub {m k : Nat} (h : k ≤ m) : nI m - nI k = nI (m - k) := by
  obtain ⟨j, rfl⟩ : ∃ j, m = j + k := ⟨m - k, by omega⟩
  rw [← nI_add, Nat.add_sub_cancel]
  exact Int32.add_sub_cancel _ _
theorem log_c {n : Nat} (hn : DN n) (M : Mem) (x1 x2 x3 x4 : Int32) : f_X3_addLog n x1 x2 x3 x4 M = f_X3_addLog_b4_s (fun _ _ _ _ _ _ _ => none) n x1 x2 x3 x4 3 (sA M (n + 5) (shG 63 (M.1 (n + 5)) 60)) := by
  obtain ⟨t1, -, -, -, -, t2⟩ := dn_all hn
  unfold f_X3_addLog f_X3_addLog_b4
  have hl := lp_for (z := fun _ _ _ _ _ _ _ => none) (s := f_X3_addLog_b4_s) (fun i (f : Nat → Int32 → Int32 → Int32 → Int32 → Int32 → Mem → Option Mem) => f n x1 x2 x3 x4 (nI (63 - i)) (sA M (n + 5) (shG 63 (M.1 (n + 5)) i))) 60 (f_X3_addLog_b4_s (fun _ _ _ _ _ _ _ => none) n x1 x2 x3 x4 3 (sA M (n + 5) (shG 63 (M.1 (n + 5)) 60))) (fun i hi f => by
    show f_X3_addLog_b4_s f n x1 x2 x3 x4 (nI (63 - i)) (sA M (n + 5) (shG 63 (M.1 (n + 5)) i)) = f n x1 x2 x3 x4 (nI (63 - (i + 1))) (sA M (n + 5) (shG 63 (M.1 (n + 5)) (i + 1)))
    unfold f_X3_addLog_b4_s
    simp only [bnd_e]
    rw [if_neg (by rw [show (4 : Int32) = nI 4 from rfl, lt_nI (by omega) (by omega)]; omega), gd_t t1, show (4 : Int32) = nI 4 from rfl, nI_sub (by omega), gd_t (inb_nI (by omega) (by omega)), gd_t (inb_nI (by omega) (by omega)), nI_clamp (by omega), nI_clamp (by omega), t2, sA_s, sA_set, shG_s _ (by omega), nI_dn (by omega), show 63 - i - 1 = 63 - (i + 1) by omega]) (fun f => by
    show f_X3_addLog_b4_s f n x1 x2 x3 x4 3 (sA M (n + 5) (shG 63 (M.1 (n + 5)) 60)) = _
    unfold f_X3_addLog_b4_s
    rw [if_pos (by decide), if_pos (by decide)]) fuel (by decide)
  simp only [shG_0, sA_self] at hl
  exact hl
theorem log_r (M : Mem) (x1 x2 x3 x4 : Int32) : f_X11_logs x1 x2 x3 x4 M = f_X11_logs_b4_s (fun _ _ _ _ _ _ => none) x1 x2 x3 x4 53 (sA M 340 (shG 113 (M.1 340) 60)) := by
  unfold f_X11_logs f_X11_logs_b4
  have hl := lp_for (z := fun _ _ _ _ _ _ => none) (s := f_X11_logs_b4_s) (fun i (f : Int32 → Int32 → Int32 → Int32 → Int32 → Mem → Option Mem) => f x1 x2 x3 x4 (nI (113 - i)) (sA M 340 (shG 113 (M.1 340) i))) 60 (f_X11_logs_b4_s (fun _ _ _ _ _ _ => none) x1 x2 x3 x4 53 (sA M 340 (shG 113 (M.1 340) 60))) (fun i hi f => by
    show f_X11_logs_b4_s f x1 x2 x3 x4 (nI (113 - i)) (sA M 340 (shG 113 (M.1 340) i)) = f x1 x2 x3 x4 (nI (113 - (i + 1))) (sA M 340 (shG 113 (M.1 340) (i + 1)))
    unfold f_X11_logs_b4_s
    simp only [bnd_e]
    rw [if_neg (by rw [show (54 : Int32) = nI 54 from rfl, lt_nI (by omega) (by omega)]; omega), show (4 : Int32) = nI 4 from rfl, nI_sub (by omega), gd_t (inb_nI (by omega) (by omega)), gd_t (inb_nI (by omega) (by omega)), nI_clamp (by omega), nI_clamp (by omega), sA_s, sA_set, shG_s _ (by omega), nI_dn (by omega), show 113 - i - 1 = 113 - (i + 1) by omega]) (fun f => by
    show f_X11_logs_b4_s f x1 x2 x3 x4 53 (sA M 340 (shG 113 (M.1 340) 60)) = _
    unfold f_X11_logs_b4_s
    rw [if_pos (by decide), if_pos (by decide)]) fuel (by decide)
  simp only [shG_0, sA_self] at hl
  exact hl
