/-! WHAT IS DONE TO THE DAY, step by step -/
theorem setI_n {M : Mem} {A K : Nat} {v : Int32} {a k : Nat} (h : a ≠ A ∨ k ≠ K) : (setI M A K v).1 a k = M.1 a k := by rw [setI_1, if_neg (fun z => h.elim (fun q => q z.1) (fun q => q z.2))]
theorem setI_s {M : Mem} {A K : Nat} {v : Int32} : (setI M A K v).1 A K = v := by rw [setI_1, if_pos ⟨rfl, rfl⟩]
def DHd (M : Mem) (n : Nat) (s : Nat → Int32) : Prop :=
  ∃ h, h ≤ Cn M 4 ∧ M.1 n 0 = nI h ∧ s 0 = nI h ∧ ∃ c r b, (c < 256 ∧ r < 256 ∧ b < 256) ∧ (M.1 n 1 = nI c ∧ M.1 n 2 = nI r ∧ M.1 n 3 = nI b) ∧
    (∀ p, p < h → s (1 + p) = b2 c p ∧ s (9 + p) = b2 r p ∧ s (17 + p) = b2 b p ∧ (b.testBit p = false → (s (25 + p) = 0 ∧ M.1 (n + 1) p = -1) ∨ ∃ x, x < Cn M 1 ∧ s (25 + p) = nI (x + 1) ∧ M.1 (n + 1) p = nI x)) ∧
    ∀ p, h ≤ p → p < 8 → r.testBit p = false ∧ b.testBit p = false ∧ s (9 + p) = 0 ∧ s (17 + p) = 0 ∧ s (25 + p) = 0
def DTl (M : Mem) (n : Nat) (s : Nat → Int32) : Prop :=
  (∀ k, k < 4 → M.1 (n + 2) k = s (33 + k) ∧ 0 ≤ (s (33 + k)).toInt ∧ (s (33 + k)).toInt ≤ 9) ∧
  (∀ k, k < 4 → M.1 (n + 3) k = s (37 + k)) ∧
  (∀ p, p < 8 → M.1 (n + 4) p = s (41 + p)) ∧
  (∃ j, j ≤ 16 ∧ M.1 n 9 = nI j ∧ s 49 = nI j) ∧
  ∀ k, k < 64 → 4 * (M.1 n 9).toNatClampNeg ≤ k ∨ M.1 (n + 5) k = s (50 + k)
theorem RDay.hd {M : Mem} {n : Nat} {s : Nat → Int32} (h : RDay M n s) : DHd M n s := h.1
theorem RDay.tl {M : Mem} {n : Nat} {s : Nat → Int32} (h : RDay M n s) : DTl M n s := h.2
theorem RDay.mk2 {M : Mem} {n : Nat} {s : Nat → Int32} (h : DHd M n s) (t : DTl M n s) : RDay M n s := ⟨h, t⟩
theorem DHd.cong {M M' : Mem} {n : Nat} {s s' : Nat → Int32} (h : DHd M n s) (c4 : Cn M 4 ≤ 8) (e4 : Cn M' 4 = Cn M 4) (e1 : Cn M' 1 = Cn M 1) (d0 : ∀ k, k < 4 → M'.1 n k = M.1 n k) (d1 : ∀ p, p < 8 → M'.1 (n + 1) p = M.1 (n + 1) p) (ds : ∀ k, k < 33 → s' k = s k) : DHd M' n s' := by
  obtain ⟨hh, h1, h2, h3, c, r, b, h4, h5, h6, h7⟩ := h
  unfold DHd
  rw [e4, e1, d0 0 (by omega), d0 1 (by omega), d0 2 (by omega), d0 3 (by omega)]
  refine ⟨hh, h1, h2, by rw [ds 0 (by omega)]; exact h3, c, r, b, h4, h5, fun p hp => ?_, fun p hp hp8 => ?_⟩
  · rw [ds (1 + p) (by omega), ds (9 + p) (by omega), ds (17 + p) (by omega), ds (25 + p) (by omega), d1 p (by omega)]
    exact h6 p hp
  · rw [ds (9 + p) (by omega), ds (17 + p) (by omega), ds (25 + p) (by omega)]
    exact h7 p hp hp8
theorem DTl.cong {M M' : Mem} {n : Nat} {s s' : Nat → Int32} (h : DTl M n s) (d9 : M'.1 n 9 = M.1 n 9) (d2 : ∀ k, k < 4 → M'.1 (n + 2) k = M.1 (n + 2) k) (d3 : ∀ k, k < 4 → M'.1 (n + 3) k = M.1 (n + 3) k) (d4 : ∀ p, p < 8 → M'.1 (n + 4) p = M.1 (n + 4) p) (d5 : ∀ k, k < 64 → M'.1 (n + 5) k = M.1 (n + 5) k) (ds : ∀ k, 33 ≤ k → k < 114 → s' k = s k) : DTl M' n s' := by
  obtain ⟨g2, g3, g4, g5, g6⟩ := h
  unfold DTl
  rw [d9]
  refine ⟨fun k hk => ?_, fun k hk => ?_, fun p hp => ?_, ?_, fun k hk => ?_⟩
  · rw [d2 k hk, ds (33 + k) (by omega) (by omega)]; exact g2 k hk
  · rw [d3 k hk, ds (37 + k) (by omega) (by omega)]; exact g3 k hk
  · rw [d4 p hp, ds (41 + p) (by omega) (by omega)]; exact g4 p hp
  · rw [ds 49 (by omega) (by omega)]; exact g5
  · rw [d5 k hk, ds (50 + k) (by omega) (by omega)]; exact g6 k hk
theorem cn_set {M : Mem} {a k : Nat} {v : Int32} (h : a ≠ 313) (i : Nat) : Cn (setI M a k v) i = Cn M i := by
  unfold Cn
  rw [setI_n (Or.inl (fun z => h z.symm))]
theorem b2_or {c p q : Nat} : b2 (c ||| 2 ^ p) q = if q = p then 1 else b2 c q := by
  unfold b2
  rw [Nat.testBit_or]
  by_cases e : q = p
  · rw [e, Nat.testBit_two_pow_self, Bool.or_true, if_pos rfl, if_pos rfl]; rfl
  · rw [Nat.testBit_two_pow_of_ne (fun z => e z.symm), Bool.or_false, if_neg e]
theorem b2_xor {c p q : Nat} : b2 (c ^^^ 2 ^ p) q = if q = p then 1 - b2 c q else b2 c q := by
  unfold b2
  rw [Nat.testBit_xor]
  by_cases e : q = p
  · rw [e, Nat.testBit_two_pow_self, Bool.xor_true, if_pos rfl]
    cases c.testBit p <;> rfl
  · rw [Nat.testBit_two_pow_of_ne (fun z => e z.symm), Bool.xor_false, if_neg e]
theorem lt256 {p : Nat} (h : p < 8) : 2 ^ p < 2 ^ 8 := Nat.pow_lt_pow_right (by decide) h
theorem OffD.set {n : Nat} {M : Mem} {a k : Nat} {v : Int32} (h : n ≤ a ∧ a ≤ n + 5) : OffD n M (setI M a k v) := ⟨rfl, fun b hb => funext (fun j => setI_n (Or.inl (by omega)))⟩
/-- it is reviewed -/
theorem day_rev {M : Mem} {s : Nat → Int32} (R : RDay M 217 s) (c4 : Cn M 4 ≤ 8) {h p : Nat} (hh : M.1 217 0 = nI h) (h8 : h ≤ 8) (hp : p < h) : RDay (setI M 217 2 (M.1 217 2 ||| ((1 : Int32) <<< (nI p &&& 31)))) 217 (upd s (9 + p) 1) := by
  refine RDay.mk2 ?_ (R.tl.cong (setI_n (Or.inr (by omega))) (fun k _ => setI_n (Or.inl (by omega))) (fun k _ => setI_n (Or.inl (by omega))) (fun k _ => setI_n (Or.inl (by omega))) (fun k _ => setI_n (Or.inl (by omega))) (fun k _ _ => upd_n _ _ (by omega)))
  obtain ⟨h', h1, h2, h3, c, r, b, ⟨hc, hr, hb⟩, ⟨e1, e2, e3⟩, h6, h7⟩ := R.hd
  have eh : h' = h := inj_nI (by omega) (by omega) (h2.symm.trans hh)
  subst eh
  have or1 : r ||| 2 ^ p < 256 := Nat.or_lt_two_pow (n := 8) hr (lt256 (by omega))
  unfold DHd
  rw [cn_set (by omega), cn_set (by omega)]
  refine ⟨h', h1, by rw [setI_n (Or.inr (by omega))]; exact h2, by rw [upd_n _ _ (by omega)]; exact h3, c, r ||| 2 ^ p, b, ⟨hc, or1, hb⟩, ⟨by rw [setI_n (Or.inr (by omega))]; exact e1, by rw [setI_s, e2, or_nI (by omega)], by rw [setI_n (Or.inr (by omega))]; exact e3⟩, fun q hq => ?_, fun q hq hq8 => ?_⟩
  · obtain ⟨k1, k2, k3, k4⟩ := h6 q hq
    rw [upd_n (d := s) (j := 1 + q) _ (by omega), upd_n (d := s) (j := 17 + q) _ (by omega), upd_n (d := s) (j := 25 + q) _ (by omega), setI_n (Or.inl (by omega))]
    refine ⟨k1, ?_, k3, k4⟩
    rw [b2_or]
    by_cases e : q = p
    · rw [e, upd_s, if_pos rfl]
    · rw [upd_n _ _ (by omega), if_neg e, k2]
  · obtain ⟨k1, k2, k3, k4, k5⟩ := h7 q hq hq8
    rw [upd_n _ _ (by omega), upd_n _ _ (by omega), upd_n _ _ (by omega), Nat.testBit_or, k1, Nat.testBit_two_pow_of_ne (by omega)]
    exact ⟨rfl, k2, k3, k4, k5⟩
/-- it is put to a board -/
theorem day_brd {M : Mem} {s : Nat → Int32} (R : RDay M 217 s) (c4 : Cn M 4 ≤ 8) {h p : Nat} (hh : M.1 217 0 = nI h) (h8 : h ≤ 8) (hp : p < h) : RDay (setI M 217 3 (M.1 217 3 ||| ((1 : Int32) <<< (nI p &&& 31)))) 217 (upd s (17 + p) 1) := by
  refine RDay.mk2 ?_ (R.tl.cong (setI_n (Or.inr (by omega))) (fun k _ => setI_n (Or.inl (by omega))) (fun k _ => setI_n (Or.inl (by omega))) (fun k _ => setI_n (Or.inl (by omega))) (fun k _ => setI_n (Or.inl (by omega))) (fun k _ _ => upd_n _ _ (by omega)))
  obtain ⟨h', h1, h2, h3, c, r, b, ⟨hc, hr, hb⟩, ⟨e1, e2, e3⟩, h6, h7⟩ := R.hd
  have eh : h' = h := inj_nI (by omega) (by omega) (h2.symm.trans hh)
  subst eh
  have or1 : b ||| 2 ^ p < 256 := Nat.or_lt_two_pow (n := 8) hb (lt256 (by omega))
  unfold DHd
  rw [cn_set (by omega), cn_set (by omega)]
  refine ⟨h', h1, by rw [setI_n (Or.inr (by omega))]; exact h2, by rw [upd_n _ _ (by omega)]; exact h3, c, r, b ||| 2 ^ p, ⟨hc, hr, or1⟩, ⟨by rw [setI_n (Or.inr (by omega))]; exact e1, by rw [setI_n (Or.inr (by omega))]; exact e2, by rw [setI_s, e3, or_nI (by omega)]⟩, fun q hq => ?_, fun q hq hq8 => ?_⟩
  · obtain ⟨k1, k2, k3, k4⟩ := h6 q hq
    rw [upd_n _ _ (by omega), upd_n _ _ (by omega), upd_n (d := s) (k := 17 + p) (j := 25 + q) _ (by omega), setI_n (Or.inl (by omega))]
    refine ⟨k1, k2, ?_, fun z => k4 ?_⟩
    · rw [b2_or]
      by_cases e : q = p
      · rw [e, upd_s, if_pos rfl]
      · rw [upd_n _ _ (by omega), if_neg e, k3]
    · rw [Nat.testBit_or] at z
      exact (Bool.or_eq_false_iff.mp z).1
  · obtain ⟨k1, k2, k3, k4, k5⟩ := h7 q hq hq8
    rw [upd_n _ _ (by omega), upd_n _ _ (by omega), upd_n _ _ (by omega), Nat.testBit_or, k2, Nat.testBit_two_pow_of_ne (by omega)]
    exact ⟨k1, rfl, k3, k4, k5⟩
/-- its call is the other one -/
theorem day_turn {M : Mem} {s : Nat → Int32} (R : RDay M 217 s) (c4 : Cn M 4 ≤ 8) {h p : Nat} (hh : M.1 217 0 = nI h) (h8 : h ≤ 8) (hp : p < h) : RDay (setI M 217 1 (M.1 217 1 ^^^ ((1 : Int32) <<< (nI p &&& 31)))) 217 (upd s (1 + p) (1 - s (1 + p))) := by
  refine RDay.mk2 ?_ (R.tl.cong (setI_n (Or.inr (by omega))) (fun k _ => setI_n (Or.inl (by omega))) (fun k _ => setI_n (Or.inl (by omega))) (fun k _ => setI_n (Or.inl (by omega))) (fun k _ => setI_n (Or.inl (by omega))) (fun k _ _ => upd_n _ _ (by omega)))
  obtain ⟨h', h1, h2, h3, c, r, b, ⟨hc, hr, hb⟩, ⟨e1, e2, e3⟩, h6, h7⟩ := R.hd
  have eh : h' = h := inj_nI (by omega) (by omega) (h2.symm.trans hh)
  subst eh
  have or1 : c ^^^ 2 ^ p < 256 := Nat.xor_lt_two_pow (n := 8) hc (lt256 (by omega))
  unfold DHd
  rw [cn_set (by omega), cn_set (by omega)]
  refine ⟨h', h1, by rw [setI_n (Or.inr (by omega))]; exact h2, by rw [upd_n _ _ (by omega)]; exact h3, c ^^^ 2 ^ p, r, b, ⟨or1, hr, hb⟩, ⟨by rw [setI_s, e1, one_nI p (by omega), nx_xor], by rw [setI_n (Or.inr (by omega))]; exact e2, by rw [setI_n (Or.inr (by omega))]; exact e3⟩, fun q hq => ?_, fun q hq hq8 => ?_⟩
  · obtain ⟨k1, k2, k3, k4⟩ := h6 q hq
    rw [upd_n (d := s) (j := 9 + q) _ (by omega), upd_n (d := s) (j := 17 + q) _ (by omega), upd_n (d := s) (j := 25 + q) _ (by omega), setI_n (Or.inl (by omega))]
    refine ⟨?_, k2, k3, k4⟩
    rw [b2_xor]
    by_cases e : q = p
    · rw [e, upd_s, if_pos rfl, (h6 p hp).1]
    · rw [upd_n _ _ (by omega), if_neg e, k1]
  · obtain ⟨k1, k2, k3, k4, k5⟩ := h7 q hq hq8
    rw [upd_n _ _ (by omega), upd_n _ _ (by omega), upd_n _ _ (by omega)]
    exact ⟨k1, k2, k3, k4, k5⟩
/-- plays from f on have not happened -/
def fgV (f : Nat) (s : Nat → Int32) : Nat → Int32 := fun k => if k = 0 then nI f else if (1 + f ≤ k ∧ k < 9) ∨ (9 + f ≤ k ∧ k < 17) ∨ (17 + f ≤ k ∧ k < 25) ∨ (25 + f ≤ k ∧ k < 33) then 0 else s k
theorem fgV_n {f : Nat} {s : Nat → Int32} {k : Nat} (h0 : k ≠ 0) (h : ¬ ((1 + f ≤ k ∧ k < 9) ∨ (9 + f ≤ k ∧ k < 17) ∨ (17 + f ≤ k ∧ k < 25) ∨ (25 + f ≤ k ∧ k < 33))) : fgV f s k = s k := by unfold fgV; rw [if_neg h0, if_neg h]
theorem fgV_z {f : Nat} {s : Nat → Int32} {k : Nat} (h0 : k ≠ 0) (h : (1 + f ≤ k ∧ k < 9) ∨ (9 + f ≤ k ∧ k < 17) ∨ (17 + f ≤ k ∧ k < 25) ∨ (25 + f ≤ k ∧ k < 33)) : fgV f s k = 0 := by unfold fgV; rw [if_neg h0, if_pos h]
theorem day_back {M : Mem} {s : Nat → Int32} (R : RDay M 217 s) (c4 : Cn M 4 ≤ 8) {h p : Nat} (hh : M.1 217 0 = nI h) (h8 : h ≤ 8) (hp : p < h) : ∃ M', f_X3_restartBehind 217 (nI p) M = some M' ∧ RDay M' 217 (fgV (p + 1) s) ∧ OffD 217 M M' := by
  obtain ⟨h', h1, h2, h3, c, r, b, ⟨hc, hr, hb⟩, ⟨e1, e2, e3⟩, h6, h7⟩ := R.hd
  have eh : h' = h := inj_nI (by omega) (by omega) (h2.symm.trans hh)
  subst eh
  have ma : ∀ x, nI x &&& nI (2 ^ (p + 1) - 1) = nI (x % 2 ^ (p + 1)) := fun x => fa_mask x (p + 1)
  obtain ⟨M1, d1⟩ : ∃ X, X = setI M 217 0 (nI (p + 1)) := ⟨_, rfl⟩
  obtain ⟨M2, d2⟩ : ∃ X, X = setI M1 217 2 (nI (r % 2 ^ (p + 1))) := ⟨_, rfl⟩
  obtain ⟨M3, d3⟩ : ∃ X, X = setI M2 217 3 (nI (b % 2 ^ (p + 1))) := ⟨_, rfl⟩
  have w : ∀ a k, a ≠ 217 ∨ (k ≠ 0 ∧ k ≠ 2 ∧ k ≠ 3) → M3.1 a k = M.1 a k := fun a k hk => by rw [d3, setI_n (by omega), d2, setI_n (by omega), d1, setI_n (by omega)]
  have w0 : M3.1 217 0 = nI (p + 1) := by rw [d3, setI_n (by omega), d2, setI_n (by omega), d1, setI_s]
  have w2 : M3.1 217 2 = nI (r % 2 ^ (p + 1)) := by rw [d3, setI_n (by omega), d2, setI_s]
  have w3 : M3.1 217 3 = nI (b % 2 ^ (p + 1)) := by rw [d3, setI_s]
  have cn : ∀ i, Cn M3 i = Cn M i := fun i => by unfold Cn; rw [w _ _ (by omega)]
  have m3 : M3.2 = M.2 := by rw [d3, d2, d1]; rfl
  refine ⟨M3, ?_, RDay.mk2 ?_ (R.tl.cong (w _ _ (by omega)) (fun k _ => w _ _ (by omega)) (fun k _ => w _ _ (by omega)) (fun k _ => w _ _ (by omega)) (fun k _ => w _ _ (by omega)) (fun k _ _ => fgV_n (by omega) (by omega))), m3, fun a ha => funext (fun k => w _ _ (by omega))⟩
  · unfold f_X3_restartBehind
    simp only [bnd_e]
    rw [gd_t day_c, setI_s, nI_1, all_nI (p + 1) (by omega), ← d1, show M1.1 217 2 = nI r by rw [d1, setI_n (by omega), e2], ma, ← d2, show M2.1 217 3 = nI b by rw [d2, setI_n (by omega), d1, setI_n (by omega), e3], ma, ← d3]
  · unfold DHd
    rw [cn, cn]
    have pw : ∀ x, x % 2 ^ (p + 1) < 256 ∨ 256 ≤ x := fun x => by
      have := Nat.mod_le x (2 ^ (p + 1))
      omega
    refine ⟨p + 1, by omega, w0, by unfold fgV; rw [if_pos rfl], c, r % 2 ^ (p + 1), b % 2 ^ (p + 1), ⟨hc, by have := Nat.mod_le r (2 ^ (p + 1)); omega, by have := Nat.mod_le b (2 ^ (p + 1)); omega⟩, ⟨by rw [w _ _ (by omega)]; exact e1, w2, w3⟩, fun q hq => ?_, fun q hq hq8 => ?_⟩
    · obtain ⟨k1, k2, k3, k4⟩ := h6 q (by omega)
      have tb : ∀ x, (x % 2 ^ (p + 1)).testBit q = x.testBit q := fun x => by rw [Nat.testBit_mod_two_pow, decide_eq_true hq, Bool.true_and]
      have bb : ∀ x, b2 (x % 2 ^ (p + 1)) q = b2 x q := fun x => by unfold b2; rw [tb]
      rw [fgV_n (by omega) (by omega), fgV_n (by omega) (by omega), fgV_n (by omega) (by omega), fgV_n (by omega) (by omega), w _ _ (by omega), bb, bb, tb]
      exact ⟨k1, k2, k3, k4⟩
    · have tb : ∀ x, (x % 2 ^ (p + 1)).testBit q = false := fun x => by rw [Nat.testBit_mod_two_pow, decide_eq_false (by omega), Bool.false_and]
      rw [fgV_z (by omega) (by omega), fgV_z (by omega) (by omega), fgV_z (by omega) (by omega), tb, tb]
      exact ⟨rfl, rfl, rfl, rfl, rfl⟩
/-- the next one happens -/
def cset (c h e : Nat) : Nat := c / 2 ^ (h + 1) * 2 ^ (h + 1) + e * 2 ^ h + c % 2 ^ h
theorem cset_n : ∀ h, h < 8 → ∀ c, c < 256 → ∀ e, e < 2 → ((nI c &&& (((1 : Int32) <<< (nI h &&& 31)) ^^^ (-1))) ||| (nI e <<< (nI h &&& 31))) = nI (cset c h e) ∧ cset c h e < 256 := by decide +kernel
theorem cset_b : ∀ h, h < 8 → ∀ c, c < 256 → ∀ e, e < 2 → ∀ q, q < 8 → (cset c h e).testBit q = if q = h then decide (e = 1) else c.testBit q := by decide +kernel
theorem day_hap {M : Mem} {s : Nat → Int32} (R : RDay M 217 s) (c4 : Cn M 4 ≤ 8) {h e : Nat} (hh : M.1 217 0 = nI h) (hp : h < Cn M 4) (he : e < 2) : ∃ M', f_X3_happen 217 (nI h) (nI e) M = some M' ∧ RDay M' 217 (upd (upd s 0 (nI (h + 1))) (1 + h) (nI e)) ∧ OffD 217 M M' := by
  obtain ⟨h', h1, h2, h3, c, r, b, ⟨hc, hr, hb⟩, ⟨e1, e2, e3⟩, h6, h7⟩ := R.hd
  have eh : h' = h := inj_nI (by omega) (by omega) (h2.symm.trans hh)
  subst eh
  obtain ⟨cs, cl⟩ := cset_n h' (by omega) c hc e he
  have cb := cset_b h' (by omega) c hc e he
  obtain ⟨M1, d1⟩ : ∃ X, X = setI M 217 0 (nI (h' + 1)) := ⟨_, rfl⟩
  obtain ⟨M2, d2⟩ : ∃ X, X = setI M1 217 1 (nI (cset c h' e)) := ⟨_, rfl⟩
  obtain ⟨M3, d3⟩ : ∃ X, X = setI M2 218 h' (-1) := ⟨_, rfl⟩
  have w : ∀ a k, (a ≠ 217 ∨ (k ≠ 0 ∧ k ≠ 1)) → (a ≠ 218 ∨ k ≠ h') → M3.1 a k = M.1 a k := fun a k hk hk2 => by rw [d3, setI_n (by omega), d2, setI_n (by omega), d1, setI_n (by omega)]
  have w0 : M3.1 217 0 = nI (h' + 1) := by rw [d3, setI_n (by omega), d2, setI_n (by omega), d1, setI_s]
  have w1 : M3.1 217 1 = nI (cset c h' e) := by rw [d3, setI_n (by omega), d2, setI_s]
  have w8 : M3.1 218 h' = -1 := by rw [d3, setI_s]
  have cn : ∀ i, Cn M3 i = Cn M i := fun i => by unfold Cn; rw [w _ _ (by omega) (by omega)]
  have m3 : M3.2 = M.2 := by rw [d3, d2, d1]; rfl
  refine ⟨M3, ?_, RDay.mk2 ?_ (R.tl.cong (w _ _ (by omega) (by omega)) (fun k _ => w _ _ (by omega) (by omega)) (fun k _ => w _ _ (by omega) (by omega)) (fun k _ => w _ _ (by omega) (by omega)) (fun k _ => w _ _ (by omega) (by omega)) (fun k _ _ => by rw [upd_n _ _ (by omega), upd_n _ _ (by omega)])), m3, fun a ha => funext (fun k => w _ _ (by omega) (by omega))⟩
  · unfold f_X3_happen
    simp only [bnd_e]
    have t4 : cr 217 4 = 218 := by decide +kernel
    rw [gd_t day_c, nI_1, ← d1, show M1.1 217 1 = nI c by rw [d1, setI_n (by omega), e1], cs, ← d2, gd_t (inb_nI (by omega) (by omega)), nI_clamp (by omega), t4, ← d3]
  · unfold DHd
    rw [cn, cn]
    refine ⟨h' + 1, by omega, w0, by rw [upd_n _ _ (by omega), upd_s], cset c h' e, r, b, ⟨cl, hr, hb⟩, ⟨w1, by rw [w _ _ (by omega) (by omega)]; exact e2, by rw [w _ _ (by omega) (by omega)]; exact e3⟩, fun q hq => ?_, fun q hq hq8 => ?_⟩
    · have u1 : ∀ k, k ≠ 0 → k ≠ 1 + h' → upd (upd s 0 (nI (h' + 1))) (1 + h') (nI e) k = s k := fun k k1 k2 => by rw [upd_n _ _ k2, upd_n _ _ k1]
      rw [u1 (9 + q) (by omega) (by omega), u1 (17 + q) (by omega) (by omega), u1 (25 + q) (by omega) (by omega)]
      have bq : b2 (cset c h' e) q = if q = h' then nI e else b2 c q := by
        unfold b2
        rw [cb q (by omega)]
        by_cases z : q = h'
        · rw [if_pos z, if_pos z]
          have k : ∀ e, e < 2 → nI (if decide (e = 1) = true then 1 else 0) = nI e := by decide
          exact k e he
        · rw [if_neg z, if_neg z]
      rw [bq]
      by_cases z : q = h'
      · subst z
        obtain ⟨k1, k2, k3, k4, k5⟩ := h7 q (by omega) (by omega)
        rw [if_pos rfl, upd_s]
        refine ⟨rfl, ?_, ?_, fun _ => Or.inl ⟨k5, w8⟩⟩
        · rw [k3]; unfold b2; rw [k1]; rfl
        · rw [k4]; unfold b2; rw [k2]; rfl
      · obtain ⟨k1, k2, k3, k4⟩ := h6 q (by omega)
        rw [if_neg z, u1 (1 + q) (by omega) (by omega), w (217 + 1) q (by omega) (by omega)]
        exact ⟨k1, k2, k3, k4⟩
    · obtain ⟨k1, k2, k3, k4, k5⟩ := h7 q (by omega) hq8
      rw [upd_n _ _ (by omega), upd_n _ _ (by omega), upd_n _ _ (by omega), upd_n _ _ (by omega), upd_n _ _ (by omega), upd_n _ _ (by omega)]
      exact ⟨k1, k2, k3, k4, k5⟩
/-- seconds more -/
theorem day_sec {M : Mem} {s : Nat → Int32} (R : RDay M 217 s) (c4 : Cn M 4 ≤ 8) {p : Nat} (hp : p < 8) (x : Int32) : RDay (setI M 221 p (M.1 221 p + x)) 217 (upd s (41 + p) (s (41 + p) + x)) := by
  refine RDay.mk2 (R.hd.cong c4 (cn_set (by omega) _) (cn_set (by omega) _) (fun k _ => setI_n (by omega)) (fun k _ => setI_n (by omega)) (fun k _ => upd_n _ _ (by omega))) ?_
  obtain ⟨g2, g3, g4, g5, g6⟩ := R.tl
  refine ⟨fun k hk => ?_, fun k hk => ?_, fun q hq => ?_, ?_, fun k hk => ?_⟩
  · rw [setI_n (by omega), upd_n _ _ (by omega)]; exact g2 k hk
  · rw [setI_n (by omega), upd_n _ _ (by omega)]; exact g3 k hk
  · by_cases e : q = p
    · subst e
      rw [upd_s, show 217 + 4 = 221 from rfl, setI_s, ← g4 q hq]
    · rw [setI_n (by omega), upd_n _ _ (by omega)]; exact g4 q hq
  · rw [setI_n (by omega), upd_n _ _ (by omega)]; exact g5
  · rw [setI_n (by omega), setI_n (by omega), upd_n _ _ (by omega)]; exact g6 k hk
/-- challenges left -/
theorem day_left {M : Mem} {s : Nat → Int32} (R : RDay M 217 s) (c4 : Cn M 4 ≤ 8) {i : Nat} (hi : i < 4) {x : Int32} (hx : 0 ≤ x.toInt ∧ x.toInt ≤ 9) : RDay (setI M 219 i x) 217 (upd s (33 + i) x) := by
  refine RDay.mk2 (R.hd.cong c4 (cn_set (by omega) _) (cn_set (by omega) _) (fun k _ => setI_n (by omega)) (fun k _ => setI_n (by omega)) (fun k _ => upd_n _ _ (by omega))) ?_
  obtain ⟨g2, g3, g4, g5, g6⟩ := R.tl
  refine ⟨fun k hk => ?_, fun k hk => ?_, fun q hq => ?_, ?_, fun k hk => ?_⟩
  · by_cases e : k = i
    · subst e
      rw [upd_s, show 217 + 2 = 219 from rfl, setI_s]
      exact ⟨rfl, hx⟩
    · rw [setI_n (by omega), upd_n _ _ (by omega)]; exact g2 k hk
  · rw [setI_n (by omega), upd_n _ _ (by omega)]; exact g3 k hk
  · rw [setI_n (by omega), upd_n _ _ (by omega)]; exact g4 q hq
  · rw [setI_n (by omega), upd_n _ _ (by omega)]; exact g5
  · rw [setI_n (by omega), setI_n (by omega), upd_n _ _ (by omega)]; exact g6 k hk
/-- won -/
theorem day_won {M : Mem} {s : Nat → Int32} (R : RDay M 217 s) (c4 : Cn M 4 ≤ 8) {i : Nat} (hi : i < 4) (x : Int32) : RDay (setI M 220 i x) 217 (upd s (37 + i) x) := by
  refine RDay.mk2 (R.hd.cong c4 (cn_set (by omega) _) (cn_set (by omega) _) (fun k _ => setI_n (by omega)) (fun k _ => setI_n (by omega)) (fun k _ => upd_n _ _ (by omega))) ?_
  obtain ⟨g2, g3, g4, g5, g6⟩ := R.tl
  refine ⟨fun k hk => ?_, fun k hk => ?_, fun q hq => ?_, ?_, fun k hk => ?_⟩
  · rw [setI_n (by omega), upd_n _ _ (by omega)]; exact g2 k hk
  · by_cases e : k = i
    · subst e
      rw [upd_s, show 217 + 3 = 220 from rfl, setI_s]
    · rw [setI_n (by omega), upd_n _ _ (by omega)]; exact g3 k hk
  · rw [setI_n (by omega), upd_n _ _ (by omega)]; exact g4 q hq
  · rw [setI_n (by omega), upd_n _ _ (by omega)]; exact g5
  · rw [setI_n (by omega), setI_n (by omega), upd_n _ _ (by omega)]; exact g6 k hk
/-- by whom a challenge was gone -/
theorem day_gone {M : Mem} {s : Nat → Int32} (R : RDay M 217 s) (c4 : Cn M 4 ≤ 8) {h p i : Nat} (hh : M.1 217 0 = nI h) (h8 : h ≤ 8) (hp : p < h) (hi : i < Cn M 1) : RDay (setI M 218 p (nI i)) 217 (upd s (25 + p) (nI (i + 1))) := by
  refine RDay.mk2 ?_ (R.tl.cong (setI_n (by omega)) (fun k _ => setI_n (by omega)) (fun k _ => setI_n (by omega)) (fun k _ => setI_n (by omega)) (fun k _ => setI_n (by omega)) (fun k _ _ => upd_n _ _ (by omega)))
  obtain ⟨h', h1, h2, h3, c, r, b, ⟨hc, hr, hb⟩, ⟨e1, e2, e3⟩, h6, h7⟩ := R.hd
  have eh : h' = h := inj_nI (by omega) (by omega) (h2.symm.trans hh)
  subst eh
  unfold DHd
  rw [cn_set (by omega), cn_set (by omega)]
  refine ⟨h', h1, by rw [setI_n (by omega)]; exact h2, by rw [upd_n _ _ (by omega)]; exact h3, c, r, b, ⟨hc, hr, hb⟩, ⟨by rw [setI_n (by omega)]; exact e1, by rw [setI_n (by omega)]; exact e2, by rw [setI_n (by omega)]; exact e3⟩, fun q hq => ?_, fun q hq hq8 => ?_⟩
  · obtain ⟨k1, k2, k3, k4⟩ := h6 q hq
    rw [upd_n (d := s) (j := 1 + q) _ (by omega), upd_n (d := s) (j := 9 + q) _ (by omega), upd_n (d := s) (j := 17 + q) _ (by omega)]
    refine ⟨k1, k2, k3, fun z => ?_⟩
    by_cases e : q = p
    · subst e
      exact Or.inr ⟨i, hi, upd_s _ _ _, setI_s⟩
    · rw [upd_n _ _ (by omega), setI_n (by omega)]
      exact k4 z
  · obtain ⟨k1, k2, k3, k4, k5⟩ := h7 q hq hq8
    rw [upd_n _ _ (by omega), upd_n _ _ (by omega), upd_n _ _ (by omega)]
    exact ⟨k1, k2, k3, k4, k5⟩
/-- what the reference forgets of a play that was put to a board -/
theorem day_lost {M : Mem} {s : Nat → Int32} (R : RDay M 217 s) (c4 : Cn M 4 ≤ 8) {p : Nat} (hp : p < 8) (h17 : s (17 + p) = 1) : RDay M 217 (upd s (25 + p) 0) := by
  refine RDay.mk2 ?_ (R.tl.cong rfl (fun k _ => rfl) (fun k _ => rfl) (fun k _ => rfl) (fun k _ => rfl) (fun k _ _ => upd_n _ _ (by omega)))
  obtain ⟨h', h1, h2, h3, c, r, b, hb, he, h6, h7⟩ := R.hd
  refine ⟨h', h1, h2, by rw [upd_n _ _ (by omega)]; exact h3, c, r, b, hb, he, fun q hq => ?_, fun q hq hq8 => ?_⟩
  · obtain ⟨k1, k2, k3, k4⟩ := h6 q hq
    rw [upd_n (d := s) (j := 1 + q) _ (by omega), upd_n (d := s) (j := 9 + q) _ (by omega), upd_n (d := s) (j := 17 + q) _ (by omega)]
    refine ⟨k1, k2, k3, fun z => ?_⟩
    by_cases e : q = p
    · subst e
      rw [h17] at k3
      unfold b2 at k3
      rw [z] at k3
      exact absurd k3 (by decide)
    · rw [upd_n _ _ (by omega)]
      exact k4 z
  · obtain ⟨k1, k2, k3, k4, k5⟩ := h7 q hq hq8
    rw [upd_n (d := s) (j := 9 + q) _ (by omega), upd_n (d := s) (j := 17 + q) _ (by omega)]
    refine ⟨k1, k2, k3, k4, ?_⟩
    by_cases e : q = p
    · rw [e, upd_s]
    · rw [upd_n _ _ (by omega)]; exact k5
