/-! need -/
def bitsOf (P : Nat → Bool) : Nat → Nat
  | 0 => 0
  | j + 1 => if P j then bitsOf P j ||| 2 ^ j else bitsOf P j
theorem bitsOf_lt (P : Nat → Bool) : ∀ j, bitsOf P j < 2 ^ j
  | 0 => Nat.one_pos
  | j + 1 => by
    have ih := bitsOf_lt P j
    have e : 2 ^ (j + 1) = 2 * 2 ^ j := by rw [Nat.pow_succ]; omega
    show (if _ then bitsOf P j ||| 2 ^ j else bitsOf P j) < _
    split
    · exact Nat.or_lt_two_pow (by omega) (by rw [e]; have : 1 ≤ 2 ^ j := Nat.one_le_two_pow; omega)
    · omega
theorem bitsOf_bit (P : Nat → Bool) (i : Nat) : ∀ n, (bitsOf P n).testBit i = (decide (i < n) && P i)
  | 0 => by rw [show bitsOf P 0 = 0 from rfl, Nat.zero_testBit, decide_eq_false (by omega)]; rfl
  | n + 1 => by
    have ih := bitsOf_bit P i n
    show (if P n then bitsOf P n ||| 2 ^ n else bitsOf P n).testBit i = _
    by_cases e : i = n
    · subst e
      rw [decide_eq_true (by omega), Bool.true_and]
      rw [decide_eq_false (by omega), Bool.false_and] at ih
      by_cases c : P i = true
      · rw [if_pos c, Nat.testBit_or, ih, Nat.testBit_two_pow_self, c]; rfl
      · rw [if_neg c, ih]; exact (Bool.eq_false_iff.mpr c).symm
    · have h2 : decide (i < n + 1) = decide (i < n) := by
        by_cases q : i < n
        · rw [decide_eq_true q, decide_eq_true (by omega)]
        · rw [decide_eq_false q, decide_eq_false (by omega)]
      rw [h2, ← ih]
      by_cases c : P n = true
      · rw [if_pos c, Nat.testBit_or, Nat.testBit_two_pow_of_ne (fun z => e z.symm), Bool.or_false]
      · rw [if_neg c]
def chl (M : Mem) (x : Int32) (p : Nat) : Bool := (if M.1 332 p = x then decide (M.1 334 p = 0) else decide (M.1 334 p = 1)) && !(atO M p)
def won1 (M : Mem) (own : Nat) (w : Int32) : Nat := if M.1 314 1 = 0 then own else if w - w / M.1 314 1 * M.1 314 1 = 0 then (if 9 ≤ own then own else own + 1) else own
def sims (M : Mem) (x : Int32) (j : Nat) (s : Nat × Nat) : Option (Nat × Nat) := if chl M x j then (if s.1 = 0 then none else if ovd M j then some (won1 M s.1 (nI (s.2 + 1)), s.2 + 1) else some (s.1 - 1, s.2)) else some s
def sim (M : Mem) (x : Int32) (n : Nat) : Nat → Option (Nat × Nat)
  | 0 => some (n, 0)
  | j + 1 => (sim M x n j).bind (sims M x j)
theorem sim_none {M : Mem} {x : Int32} {n j : Nat} (h : sim M x n j = none) : ∀ k, sim M x n (j + k) = none
  | 0 => h
  | k + 1 => by
    show (sim M x n (j + k)).bind (sims M x (j + k)) = none
    rw [sim_none h k]; rfl
def enB (M : Mem) (x : Int32) (n : Nat) : Bool := (sim M x n (Cn M 4)).isSome
theorem won1_le {M : Mem} {own : Nat} (h : own ≤ 9) (w : Int32) : won1 M own w ≤ 9 := by
  unfold won1
  split
  · exact h
  · split
    · split <;> omega
    · exact h
theorem min_9 : ∀ own, own ≤ 9 → min32 (nI own + 1) 9 = nI (if 9 ≤ own then own else own + 1) := by decide +kernel
theorem won_c {M Mj : Mem} (h : HB M) (o : Near M Mj) {own : Nat} (hown : own ≤ 9) (w : Int32) : f_X9_leftWhenWon (tld M) (nI own) w Mj = some (nI (won1 M own w), Mj) := by
  have tc := (tt_c h.1.1).2.1
  obtain ⟨-, -, -, -, -, -, -, -, tr13⟩ := tt_r h.1.1
  have b := h.1.2.2.1.2.2.2.2.2.2 1 (by omega)
  unfold f_X9_leftWhenWon f_X9_leftWhenWon_b21 f_X9_leftWhenWon_b22 won1
  rw [gd_t (tt_0 h.1.1), bnd_e, tr13, o.row (a := tld M + 9) (by omega) (by omega) (by omega), b]
  by_cases c : M.1 314 1 = 0
  · rw [if_pos c, if_pos c, if_pos rfl]
  · rw [if_neg c, if_neg c, gd_t c]
    by_cases c2 : w - w / M.1 314 1 * M.1 314 1 = 0
    · rw [if_pos c2, if_pos c2, if_neg (by decide), min_9 own hown]
    · rw [if_neg c2, if_neg c2, if_pos rfl]
theorem nI_10 {m : Nat} (h : 1 ≤ m) : nI m + (-1) = nI (m - 1) := nI_dn h
theorem nI_nez {m : Nat} (h : m ≠ 0) (h2 : m < 2 ^ 31) : nI m ≠ 0 := fun z => h (inj_nI h2 (by omega) (show nI m = nI 0 from z))
/-- a simulated side, step by step -/
theorem sim_s {M : Mem} {x : Int32} {n j : Nat} {s : Nat × Nat} (h : sim M x n j = some s) : sim M x n (j + 1) = sims M x j s := by
  show (sim M x n j).bind (sims M x j) = _
  rw [h]; rfl
def b10 (b : Bool) : Int32 := if b then 1 else 0
theorem lacks_c {M Mj : Mem} (h : HB M) (o : Near M Mj) (x : Int32) {n : Nat} (hn : n ≤ 9) : f_X10_neverLacks (nI n) (nI (bitsOf (chl M x) (Cn M 4))) (nI (bitsOf (fun j => chl M x j && ovd M j) (Cn M 4))) Mj = some (b10 (enB M x n), Mj) := by
  have h4 := h.1.2.1.1.2.2.2.2.1.2
  obtain ⟨g1, g2, g3⟩ := plc h o
  have l1 := bitsOf_lt (chl M x) (Cn M 4)
  have l2 := bitsOf_lt (fun j => chl M x j && ovd M j) (Cn M 4)
  have pw := two_le (show Cn M 4 ≤ 10 by omega)
  have hl := lp_inv (z := fun _ _ _ _ _ _ => none) (s := f_X10_neverLacks_b9_s) (fun j (s : Nat × Nat) (f : Int32 → Int32 → Int32 → Int32 → Int32 → Mem → Option (Int32 × Mem)) => f (nI (bitsOf (chl M x) (Cn M 4))) (nI (bitsOf (fun j => chl M x j && ovd M j) (Cn M 4))) (nI s.1) (nI s.2) (nI j) Mj) (fun j s => sim M x n j = some s ∧ s.1 ≤ 9) (fun r => r = some (b10 (enB M x n), Mj)) (Cn M 4) (fun j hj s hs f => by
    obtain ⟨s1, s2⟩ := hs
    have st := sim_s s1
    have dead : sim M x n (j + 1) = none → enB M x n = false := fun z => by
      unfold enB
      rw [show Cn M 4 = j + 1 + (Cn M 4 - (j + 1)) by omega, sim_none z]; rfl
    have t1 : (bitsOf (chl M x) (Cn M 4)).testBit j = chl M x j := by rw [bitsOf_bit, decide_eq_true hj, Bool.true_and]
    have t2 : (bitsOf (fun j => chl M x j && ovd M j) (Cn M 4)).testBit j = (chl M x j && ovd M j) := by rw [bitsOf_bit, decide_eq_true hj, Bool.true_and]
    have body : f_X10_neverLacks_b9_s f (nI (bitsOf (chl M x) (Cn M 4))) (nI (bitsOf (fun j => chl M x j && ovd M j) (Cn M 4))) (nI s.1) (nI s.2) (nI j) Mj = if chl M x j then (if s.1 = 0 then some (0, Mj) else if ovd M j then f (nI (bitsOf (chl M x) (Cn M 4))) (nI (bitsOf (fun j => chl M x j && ovd M j) (Cn M 4))) (nI (won1 M s.1 (nI (s.2 + 1)))) (nI (s.2 + 1)) (nI (j + 1)) Mj else f (nI (bitsOf (chl M x) (Cn M 4))) (nI (bitsOf (fun j => chl M x j && ovd M j) (Cn M 4))) (nI (s.1 - 1)) (nI s.2) (nI (j + 1)) Mj) else f (nI (bitsOf (chl M x) (Cn M 4))) (nI (bitsOf (fun j => chl M x j && ovd M j) (Cn M 4))) (nI s.1) (nI s.2) (nI (j + 1)) Mj := by
      unfold f_X10_neverLacks_b9_s
      simp only [bnd_e]
      rw [gd_t g1, g2, if_neg (nI_ge hj (by omega)), bit_nI (by omega) (by omega), bit_nI (by omega) (by omega), t1, t2, nI_1, nI_1]
      by_cases c : chl M x j = true
      · rw [c, if_pos rfl, if_neg (by decide), if_pos rfl, Bool.true_and]
        by_cases c0 : s.1 = 0
        · rw [c0, nI_0, if_pos rfl, if_pos rfl]
        · rw [if_neg c0, if_neg (nI_nez c0 (by omega))]
          by_cases c2 : ovd M j = true
          · rw [if_pos c2, if_neg (by decide), if_pos c2, g3, won_c h o s2, cl_s]
          · rw [if_neg c2, nI_0, if_pos rfl, if_neg c2, nI_10 (by omega)]
      · rw [if_neg c, nI_0, if_pos rfl, if_neg c]
    show f_X10_neverLacks_b9_s f (nI (bitsOf (chl M x) (Cn M 4))) (nI (bitsOf (fun j => chl M x j && ovd M j) (Cn M 4))) (nI s.1) (nI s.2) (nI j) Mj = _ ∨ ∃ a', _ ∧ f_X10_neverLacks_b9_s f (nI (bitsOf (chl M x) (Cn M 4))) (nI (bitsOf (fun j => chl M x j && ovd M j) (Cn M 4))) (nI s.1) (nI s.2) (nI j) Mj = _
    rw [body]
    unfold sims at st
    by_cases c : chl M x j = true
    · rw [if_pos c] at st ⊢
      by_cases c0 : s.1 = 0
      · rw [if_pos c0] at st ⊢
        exact Or.inl (by rw [dead st]; rfl)
      · rw [if_neg c0] at st ⊢
        by_cases c2 : ovd M j = true
        · rw [if_pos c2] at st ⊢
          exact Or.inr ⟨_, ⟨st, won1_le s2 _⟩, rfl⟩
        · rw [if_neg c2] at st ⊢
          exact Or.inr ⟨_, ⟨st, by show s.1 - 1 ≤ 9; omega⟩, rfl⟩
    · rw [if_neg c] at st ⊢
      exact Or.inr ⟨_, ⟨st, s2⟩, rfl⟩) (fun s hs f => by
    show f_X10_neverLacks_b9_s f (nI (bitsOf (chl M x) (Cn M 4))) (nI (bitsOf (fun j => chl M x j && ovd M j) (Cn M 4))) (nI s.1) (nI s.2) (nI (Cn M 4)) Mj = _
    unfold f_X10_neverLacks_b9_s
    rw [gd_t g1, g2, if_pos (le_nI (by omega) (by omega) (Nat.le_refl _))]
    unfold enB
    rw [hs.1]; rfl) fuel (by unfold fuel; omega) (n, 0) ⟨rfl, hn⟩
  exact hl
def ndv (M : Mem) (x : Int32) : Nat := fa_first (enB M x) 9
theorem ndv_le (M : Mem) (x : Int32) : ndv M x ≤ 9 := fa_first_le _ _
theorem need_119 {M Mj : Mem} (h : HB M) (o : Near M Mj) (x : Int32) : f_X10_need_b119 fuel (nI (bitsOf (chl M x) (Cn M 4))) (nI (bitsOf (fun j => chl M x j && ovd M j) (Cn M 4))) 0 Mj = some (nI (ndv M x), Mj) := by
  have le := ndv_le M x
  have hl := lp_inv (z := fun _ _ _ _ => none) (s := f_X10_need_b119_s) (fun j (_ : Unit) (f : Int32 → Int32 → Int32 → Mem → Option (Int32 × Mem)) => f (nI (bitsOf (chl M x) (Cn M 4))) (nI (bitsOf (fun j => chl M x j && ovd M j) (Cn M 4))) (nI j) Mj) (fun _ _ => True) (fun r => r = some (nI (ndv M x), Mj)) (ndv M x) (fun j hj _ _ f => by
    have no := fa_first_no (enB M x) 9 j hj
    refine Or.inr ⟨(), trivial, ?_⟩
    show f_X10_need_b119_s f (nI (bitsOf (chl M x) (Cn M 4))) (nI (bitsOf (fun j => chl M x j && ovd M j) (Cn M 4))) (nI j) Mj = f (nI (bitsOf (chl M x) (Cn M 4))) (nI (bitsOf (fun j => chl M x j && ovd M j) (Cn M 4))) (nI (j + 1)) Mj
    unfold f_X10_need_b119_s
    rw [if_neg (by rw [show (9 : Int32) = nI 9 from rfl]; exact nI_ge (by omega) (by omega)), lacks_c h o x (by omega), cl_s, no, if_pos (show b10 false = 0 by decide), bnd_e, nI_1]) (fun _ _ f => by
    show f_X10_need_b119_s f (nI (bitsOf (chl M x) (Cn M 4))) (nI (bitsOf (fun j => chl M x j && ovd M j) (Cn M 4))) (nI (ndv M x)) Mj = _
    unfold f_X10_need_b119_s
    rcases Nat.lt_or_ge (ndv M x) 9 with c | c
    · have ye := fa_first_yes (enB M x) 9 c
      have ye' : enB M x (ndv M x) = true := ye
      rw [if_neg (by rw [show (9 : Int32) = nI 9 from rfl]; exact nI_ge c (by omega)), lacks_c h o x (by omega), cl_s, ye', if_neg (by decide)]
    · rw [if_pos (by rw [show (9 : Int32) = nI 9 from rfl]; exact le_nI (by omega) (by omega) c), show ndv M x = 9 by omega]; rfl) fuel (by unfold fuel; omega) () trivial
  exact hl
theorem against_1 {M Mj : Mem} (h : HB M) (o : Near M Mj) {p : Nat} (hp : p < Cn M 4) (x : Int32) : f_X10_isAgainst x (tld M + 31 + 5 * p) Mj = some (b10 (if M.1 332 p = x then decide (M.1 334 p = 0) else decide (M.1 334 p = 1)), Mj) := by
  obtain ⟨p1, p2, p3, p4, p5, p6, p7, p8, p9⟩ := plj h o hp
  unfold f_X10_isAgainst
  rw [gd_t p3, p6, p8]
  by_cases c : M.1 332 p = x
  · rw [if_pos c, if_pos c]
    by_cases c2 : M.1 334 p = 0
    · rw [if_pos c2, decide_eq_true c2]; rfl
    · rw [if_neg c2, decide_eq_false c2]; rfl
  · rw [if_neg c, if_neg c]
    by_cases c2 : M.1 334 p = 1
    · rw [if_pos c2, decide_eq_true c2]; rfl
    · rw [if_neg c2, decide_eq_false c2]; rfl
theorem need_17 {M : Mem} (h : HB M) (x : Int32) : ∃ M', f_X10_need_b17 fuel x 0 0 0 M = some (nI (ndv M x), M') ∧ Near M M' := by
  have h4 := h.1.2.1.1.2.2.2.2.1.2
  have hl := lp_inv (z := fun _ _ _ _ _ => none) (s := f_X10_need_b17_s) (fun j (Mj : Mem) (f : Int32 → Int32 → Int32 → Int32 → Mem → Option (Int32 × Mem)) => f x (nI (bitsOf (chl M x) j)) (nI (bitsOf (fun j => chl M x j && ovd M j) j)) (nI j) Mj) (fun _ Mj => Near M Mj) (fun r => ∃ M', r = some (nI (ndv M x), M') ∧ Near M M') (Cn M 4) (fun j hj Mj oj f => by
    obtain ⟨g1, g2, g3⟩ := plc h oj
    obtain ⟨p1, p2, p3, -, -, -, -, p8, -⟩ := plj h oj hj
    have ea := against_1 h oj hj x
    have eo := atO_c h oj hj
    have e3' : Mj.2.2.1 64 2 = tld M := g3
    obtain ⟨M3, e3, o3, -, -⟩ := review_c h oj hj (M.1 334 j)
    have both : ∀ (a b : Nat) M4, (if chl M x j then bitsOf (chl M x) j ||| 2 ^ j else bitsOf (chl M x) j) = a → (if (chl M x j && ovd M j) then bitsOf (fun j => chl M x j && ovd M j) j ||| 2 ^ j else bitsOf (fun j => chl M x j && ovd M j) j) = b → Near M M4 → f_X10_need_b17_s f x (nI (bitsOf (chl M x) j)) (nI (bitsOf (fun j => chl M x j && ovd M j) j)) (nI j) Mj = f x (nI a) (nI b) (nI (j + 1)) M4 → (∃ a' : Mem, Near M a' ∧ f_X10_need_b17_s f x (nI (bitsOf (chl M x) j)) (nI (bitsOf (fun j => chl M x j && ovd M j) j)) (nI j) Mj = f x (nI (if chl M x j then bitsOf (chl M x) j ||| 2 ^ j else bitsOf (chl M x) j)) (nI (if (chl M x j && ovd M j) then bitsOf (fun j => chl M x j && ovd M j) j ||| 2 ^ j else bitsOf (fun j => chl M x j && ovd M j) j)) (nI (j + 1)) a') := fun a b M4 q1 q2 q3 q4 => ⟨M4, q3, by rw [q1, q2]; exact q4⟩
    refine Or.inr ?_
    show ∃ a' : Mem, Near M a' ∧ f_X10_need_b17_s f x (nI (bitsOf (chl M x) j)) (nI (bitsOf (fun j => chl M x j && ovd M j) j)) (nI j) Mj = f x (nI (if chl M x j then bitsOf (chl M x) j ||| 2 ^ j else bitsOf (chl M x) j)) (nI (if (chl M x j && ovd M j) then bitsOf (fun j => chl M x j && ovd M j) j ||| 2 ^ j else bitsOf (fun j => chl M x j && ovd M j) j)) (nI (j + 1)) a'
    have head : f_X10_need_b17_s f x (nI (bitsOf (chl M x) j)) (nI (bitsOf (fun j => chl M x j && ovd M j) j)) (nI j) Mj = if chl M x j then (if ovd M j then f x (nI (bitsOf (chl M x) j ||| 2 ^ j)) (nI (bitsOf (fun j => chl M x j && ovd M j) j ||| 2 ^ j)) (nI (j + 1)) M3 else f x (nI (bitsOf (chl M x) j ||| 2 ^ j)) (nI (bitsOf (fun j => chl M x j && ovd M j) j)) (nI (j + 1)) M3) else f x (nI (bitsOf (chl M x) j)) (nI (bitsOf (fun j => chl M x j && ovd M j) j)) (nI (j + 1)) Mj := by
      unfold f_X10_need_b17_s
      simp only [bnd_e]
      rw [gd_t g1, g2, if_neg (nI_ge hj (by omega)), gd_t p1, p2, ea, cl_s, gd_t g1, e3', eo, cl_s, gd_t g1, e3', nI_1, or_nI (by omega), or_nI (by omega)]
      have p2' : cr (cr (tld M) 12) (nI j).toNatClampNeg = tld M + 31 + 5 * j := by
        have z := p2
        rw [e3'] at z
        exact z
      rw [p2', p8, e3, cl_s]
      have ec : chl M x j = ((if M.1 332 j = x then decide (M.1 334 j = 0) else decide (M.1 334 j = 1)) && !(atO M j)) := rfl
      have ev : ovd M j = decide (rv M j (M.1 334 j) = 2) := rfl
      rw [ec, ev]
      by_cases c1 : (if M.1 332 j = x then decide (M.1 334 j = 0) else decide (M.1 334 j = 1)) = true
      · rw [c1, Bool.true_and, if_neg (show ¬ b10 true = 0 by decide)]
        by_cases c2 : atO M j = true
        · rw [c2, if_pos rfl, if_neg (by decide), if_neg (by decide)]
        · rw [if_neg c2, if_pos rfl, Bool.eq_false_iff.mpr c2, if_pos (show (!false) = true from rfl)]
          by_cases c3 : rv M j (M.1 334 j) = 2
          · rw [if_pos c3, decide_eq_true c3, if_pos rfl]
          · rw [if_neg c3, decide_eq_false c3, if_neg (by decide)]
      · rw [Bool.eq_false_iff.mpr c1, Bool.false_and, if_pos (show b10 false = 0 by decide), if_neg (by decide)]
    by_cases c : chl M x j = true
    · by_cases c2 : ovd M j = true
      · exact both (bitsOf (chl M x) j ||| 2 ^ j) (bitsOf (fun j => chl M x j && ovd M j) j ||| 2 ^ j) M3 (if_pos c) (if_pos (by rw [c, c2]; rfl)) (oj.tr o3) (by rw [head, if_pos c, if_pos c2])
      · exact both (bitsOf (chl M x) j ||| 2 ^ j) (bitsOf (fun j => chl M x j && ovd M j) j) M3 (if_pos c) (if_neg (by rw [Bool.eq_false_iff.mpr c2, Bool.and_false]; decide)) (oj.tr o3) (by rw [head, if_pos c, if_neg c2])
    · exact both (bitsOf (chl M x) j) (bitsOf (fun j => chl M x j && ovd M j) j) Mj (if_neg c) (if_neg (by rw [Bool.eq_false_iff.mpr c, Bool.false_and]; decide)) oj (by rw [head, if_neg c])) (fun Mj oj f => by
    obtain ⟨g1, g2, g3⟩ := plc h oj
    refine ⟨Mj, ?_, oj⟩
    show f_X10_need_b17_s f x (nI (bitsOf (chl M x) (Cn M 4))) (nI (bitsOf (fun j => chl M x j && ovd M j) (Cn M 4))) (nI (Cn M 4)) Mj = _
    unfold f_X10_need_b17_s
    rw [gd_t g1, g2, if_pos (le_nI (by omega) (by omega) (Nat.le_refl _)), need_119 h oj x]) fuel (by unfold fuel; omega) M (Near.refl M)
  exact hl
theorem en_r {M M2 : Mem} (O : MOk M) (o2 : Dat M M2) (x : Int32) {n : Nat} (hn : n ≤ 9) : ∃ M', f_X11_isEnough x (nI n) M2 = some (b10 (enB M x n), M') ∧ RfL M2 M' := by
  have h4 := O.1.2.2.2.2.1
  have lim : 0 ≤ (M.1 314 1).toInt := O.2.2.2.2.2.2.2.2.2.1.1
  have hl := lp_inv (z := fun _ _ _ _ _ => none) (s := f_X11_isEnough_b8_s) (fun j (s : (Nat × Nat) × Mem) (f : Int32 → Int32 → Int32 → Int32 → Mem → Option (Int32 × Mem)) => f x (nI s.1.1) (nI s.1.2) (nI j) s.2) (fun j s => sim M x n j = some s.1 ∧ s.1.1 ≤ 9 ∧ RfL M2 s.2) (fun r => ∃ M', r = some (b10 (enB M x n), M') ∧ RfL M2 M') (Cn M 4) (fun j hj s hs f => by
    obtain ⟨⟨own, won⟩, Mj⟩ := s
    obtain ⟨s1, s2, oj⟩ := hs
    have s2' : own ≤ 9 := s2
    have nj : Dat M Mj := o2.tr (RfL.near oj).dat
    have st := sim_s s1
    have dead : sim M x n (j + 1) = none → enB M x n = false := fun z => by
      unfold enB
      rw [show Cn M 4 = j + 1 + (Cn M 4 - (j + 1)) by omega, sim_none z]; rfl
    have c01 : M.1 334 j = 0 ∨ M.1 334 j = 1 := (O.2.2.2.2.2.2.1 j hj).2.2.2.2.1
    obtain ⟨M3, e3, o3, -⟩ := review_r O nj hj (M.1 334 j)
    have n3 : Dat M M3 := nj.tr o3.near.dat
    have body : f_X11_isEnough_b8_s f x (nI own) (nI won) (nI j) Mj = if chl M x j then (if own = 0 then some (0, Mj) else if ovd M j then f x (nI (won1 M own (nI (won + 1)))) (nI (won + 1)) (nI (j + 1)) M3 else f x (nI (own - 1)) (nI won) (nI (j + 1)) M3) else f x (nI own) (nI won) (nI (j + 1)) Mj := by
      have b51 : ∀ y : Int32, f_X11_isEnough_b51 f x (nI own) (nI won) (nI j) (M.1 334 j) y Mj = if M.1 334 j = y then f x (nI own) (nI won) (nI (j + 1)) Mj else (if own = 0 then some (0, Mj) else if ovd M j then f x (nI (won1 M own (nI (won + 1)))) (nI (won + 1)) (nI (j + 1)) M3 else f x (nI (own - 1)) (nI won) (nI (j + 1)) M3) := fun y => by
        unfold f_X11_isEnough_b51
        simp only [bnd_e]
        rw [gd_t (inb_nI (by omega) (by omega)), nI_clamp (by omega), nj 334 (by omega) (by omega) (by omega), e3, cl_s, n3 314 (by omega) (by omega) (by omega), nI_1, nI_1, nI_1]
        by_cases c : M.1 334 j = y
        · rw [if_pos c, if_pos c]
        · rw [if_neg c, if_neg c]
          by_cases c0 : own = 0
          · rw [c0, nI_0, if_pos rfl, if_pos rfl]
          · rw [if_neg c0, if_neg (nI_nez c0 (by omega))]
            unfold ovd
            by_cases c2 : rv M j (M.1 334 j) = 2
            · rw [if_pos c2, decide_eq_true c2, if_pos rfl]
              unfold won1
              by_cases c3 : M.1 314 1 = 0
              · rw [c3, if_pos (by decide), if_pos rfl]
              · rw [if_neg (fun z => c3 (Int32.toInt_inj.mp (by
                  have z2 := Int32.le_iff_toInt_le.mp z
                  have z3 : (0 : Int32).toInt = 0 := by decide
                  omega))), if_neg c3, gd_t c3]
                by_cases c4 : nI (won + 1) - nI (won + 1) / M.1 314 1 * M.1 314 1 = 0
                · rw [if_pos c4, if_pos c4]
                  by_cases c5 : 9 ≤ own
                  · rw [if_pos c5, if_pos (by rw [show (9 : Int32) = nI 9 from rfl]; exact le_nI (by omega) (by omega) c5)]
                  · rw [if_neg c5, if_neg (by rw [show (9 : Int32) = nI 9 from rfl]; exact nI_ge (by omega) (by omega))]
                · rw [if_neg c4, if_neg c4]
            · rw [if_neg c2, decide_eq_false c2, if_neg (by decide), nI_10 (by omega)]
      unfold f_X11_isEnough_b8_s
      simp only [bnd_e]
      rw [nj 313 (by omega) (by omega) (by omega), h4.1, if_neg (nI_ge hj (by omega)), atO_r O nj hj, cl_s, gd_t (inb_nI (by omega) (by omega)), nI_clamp (by omega), nj 332 (by omega) (by omega) (by omega), nj 334 (by omega) (by omega) (by omega), b51, b51, nI_1]
      unfold chl
      by_cases ca : atO M j = true
      · rw [if_pos ca, if_neg (by decide), ca, show (!true) = false from rfl, Bool.and_false, if_neg (by decide)]
      · rw [if_neg ca, if_pos rfl, Bool.eq_false_iff.mpr ca, show (!false) = true from rfl, Bool.and_true]
        by_cases c : M.1 332 j = x
        · rw [if_pos c, if_pos c]
          rcases c01 with z | z <;> rw [z]
          · rw [if_neg (by decide), if_pos (show decide ((0 : Int32) = 0) = true from rfl)]
          · rw [if_pos rfl, if_neg (by decide)]
        · rw [if_neg c, if_neg c]
          rcases c01 with z | z <;> rw [z]
          · rw [if_pos rfl, if_neg (by decide)]
          · rw [if_neg (by decide), if_pos (show decide ((1 : Int32) = 1) = true from rfl)]
    show (∃ M', f_X11_isEnough_b8_s f x (nI own) (nI won) (nI j) Mj = some (b10 (enB M x n), M') ∧ RfL M2 M') ∨ ∃ a' : (Nat × Nat) × Mem, (sim M x n (j + 1) = some a'.1 ∧ a'.1.1 ≤ 9 ∧ RfL M2 a'.2) ∧ f_X11_isEnough_b8_s f x (nI own) (nI won) (nI j) Mj = f x (nI a'.1.1) (nI a'.1.2) (nI (j + 1)) a'.2
    rw [body]
    unfold sims at st
    by_cases c : chl M x j = true
    · rw [if_pos c] at st ⊢
      by_cases c0 : own = 0
      · rw [if_pos c0] at st ⊢
        exact Or.inl ⟨Mj, by rw [dead st]; rfl, oj⟩
      · rw [if_neg c0] at st ⊢
        by_cases c2 : ovd M j = true
        · rw [if_pos c2] at st ⊢
          exact Or.inr ⟨(_, M3), ⟨st, won1_le s2' _, RfL.tr oj o3⟩, rfl⟩
        · rw [if_neg c2] at st ⊢
          exact Or.inr ⟨(_, M3), ⟨st, by show own - 1 ≤ 9; omega, RfL.tr oj o3⟩, rfl⟩
    · rw [if_neg c] at st ⊢
      exact Or.inr ⟨(_, Mj), ⟨st, s2', oj⟩, rfl⟩) (fun s hs f => by
    obtain ⟨s1, s2, oj⟩ := hs
    have nj : Dat M s.2 := o2.tr (RfL.near oj).dat
    refine ⟨s.2, ?_, oj⟩
    show f_X11_isEnough_b8_s f x (nI s.1.1) (nI s.1.2) (nI (Cn M 4)) s.2 = _
    unfold f_X11_isEnough_b8_s
    rw [nj 313 (by omega) (by omega) (by omega), h4.1, if_pos (le_nI (by omega) (by omega) (Nat.le_refl _))]
    unfold enB
    rw [s1]; rfl) fuel (by unfold fuel; omega) ((n, 0), M2) ⟨rfl, hn, RfL.refl M2⟩
  exact hl
theorem do_need (x : Int32) : Do (f_X10_need x) (f_X11_need x) := by
  refine do_any (gc := fun M1m => cl (f_X11_isSide x M1m) (fun r1 M2m => if r1 = 0 then some ((-1), M2m) else f_X11_need_b17 fuel x 0 M2m)) (fun M => rfl) (fun M hI => ?_)
  have h := hI.1
  have O := h.1.2.1
  refine h.side (x := x) (z := -1) (fun M => rfl) (fun M => rfl) (fun s hs hx => ?_)
  obtain ⟨M1, e1, o1⟩ := need_17 h x
  have le := ndv_le M x
  refine ⟨_, ⟨M1, e1, o1⟩, fun M2 o2 => ?_⟩
  have hl := lp_inv (z := fun _ _ _ => none) (s := f_X11_need_b17_s) (fun j (Mj : Mem) (f : Int32 → Int32 → Mem → Option (Int32 × Mem)) => f x (nI j) Mj) (fun _ Mj => RfL M2 Mj) (fun r => ∃ M', r = some (nI (ndv M x), M') ∧ RfL M2 M') (ndv M x) (fun j hj Mj oj f => by
    have no := fa_first_no (enB M x) 9 j hj
    obtain ⟨M3, e3, o3⟩ := en_r O (o2.dat.tr (RfL.near oj).dat) x (n := j) (by omega)
    refine Or.inr ⟨M3, RfL.tr oj o3, ?_⟩
    show f_X11_need_b17_s f x (nI j) Mj = f x (nI (j + 1)) M3
    unfold f_X11_need_b17_s
    rw [if_neg (by rw [show (9 : Int32) = nI 9 from rfl]; exact nI_ge (by omega) (by omega)), e3, cl_s, no, if_pos (by decide), bnd_e, nI_1]) (fun Mj oj f => by
    obtain ⟨M3, e3, o3⟩ := en_r O (o2.dat.tr (RfL.near oj).dat) x (n := ndv M x) le
    show ∃ M', f_X11_need_b17_s f x (nI (ndv M x)) Mj = some (nI (ndv M x), M') ∧ RfL M2 M'
    unfold f_X11_need_b17_s
    rcases Nat.lt_or_ge (ndv M x) 9 with c | c
    · have ye := fa_first_yes (enB M x) 9 c
      have ye' : enB M x (ndv M x) = true := ye
      exact ⟨M3, by rw [if_neg (by rw [show (9 : Int32) = nI 9 from rfl]; exact nI_ge c (by omega)), e3, cl_s, ye', if_neg (by decide)], RfL.tr oj o3⟩
    · exact ⟨Mj, by rw [if_pos (by rw [show (9 : Int32) = nI 9 from rfl]; exact le_nI (by omega) (by omega) c), show ndv M x = 9 by omega]; rfl, oj⟩) fuel (by unfold fuel; omega) M2 (RfL.refl M2)
  exact hl
