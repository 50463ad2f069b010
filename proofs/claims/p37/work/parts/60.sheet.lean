/-! count; what concerns neither the day nor what is told -/
theorem do_count (x : Int32) : Do (f_X10_count x) (f_X11_count x) := by
  refine do_any (gc := fun M1m => if x = 0 then some (M1m.1 313 0, M1m) else if x = 1 then some (M1m.1 313 5, M1m) else if x = 2 then some (M1m.1 313 1, M1m) else if x = 3 then some (M1m.1 313 2, M1m) else if x = 4 then some (M1m.1 313 3, M1m) else if x = 5 then some (M1m.1 313 4, M1m) else if x = 6 then some (M1m.1 340 0, M1m) else if x = 7 then some (M1m.1 340 49, M1m) else if x = 8 then some (M1m.1 311 40, M1m) else if x = 9 then some (M1m.1 311 2, M1m) else if x = 10 then some (M1m.1 311 46, M1m) else if x = 11 then gd (inb (x - 11) 8) (some (M1m.1 314 (x - 11).toNatClampNeg, M1m)) else if x = 12 then gd (inb (x - 11) 8) (some (M1m.1 314 (x - 11).toNatClampNeg, M1m)) else if x = 13 then gd (inb (x - 11) 8) (some (M1m.1 314 (x - 11).toNatClampNeg, M1m)) else if x = 14 then gd (inb (x - 11) 8) (some (M1m.1 314 (x - 11).toNatClampNeg, M1m)) else some ((-1), M1m)) (fun M => rfl) (fun M hI => ?_)
  have h := hI.1
  obtain ⟨q0, q1, q2, q3, q4, q5⟩ := h.1.2.2.1.1
  have q6 := h.1.2.2.1.2.2.2.2.2.2
  obtain ⟨-, -, -, -, -, -, -, -, tr13⟩ := tt_r h.1.1
  have R := hI.2.1
  obtain ⟨j, -, R9, R49⟩ := R.2.2.2.2.1
  obtain ⟨-, -, ⟨a, u, v, ⟨-, u9, -⟩, ⟨w1, -⟩⟩, -, ⟨t, -, t1, t2, -⟩, ⟨i, -, i1, i2, -⟩, -⟩ := hI
  refine both_c (if x = 0 then M.1 313 0 else if x = 1 then M.1 313 5 else if x = 2 then M.1 313 1 else if x = 3 then M.1 313 2 else if x = 4 then M.1 313 3 else if x = 5 then M.1 313 4 else if x = 6 then M.1 340 0 else if x = 7 then M.1 340 49 else if x = 8 then M.1 311 40 else if x = 9 then M.1 311 2 else if x = 10 then M.1 311 46 else if x = 11 then M.1 314 0 else if x = 12 then M.1 314 1 else if x = 13 then M.1 314 2 else if x = 14 then M.1 314 3 else -1) ?_ (fun M1 o1 => ?_)
  · unfold f_X10_count
    have e : M.2.2.1 64 2 = tld M := rfl
    have d9 : M.1 217 9 = M.1 340 49 := by rw [R9, R49]
    have d8 : M.1 64 9 = M.1 311 40 := by rw [u9, w1]
    have d1 : M.1 64 1 = M.1 311 2 := by rw [t1, t2]
    have d13 : M.1 64 13 = M.1 311 46 := by rw [i1, i2]
    have s0 := q6 0 (by omega)
    have s1 := q6 1 (by omega)
    have s2 := q6 2 (by omega)
    have s3 := q6 3 (by omega)
    have ts := tt_0 h.1.1
    rw [e, gd_t ts, gd_t ts, gd_t ts, gd_t ts, gd_t ts, gd_t ts, gd_t ts, gd_t ts, gd_t ts, gd_t ts, tr13, q0, q1, q2, q3, q4, q5, hap_c R, d9, d8, d1, d13, s0, s1, s2, s3]
    by_cases y0 : x = 0
    · rw [if_pos y0, if_pos y0]
    rw [if_neg y0, if_neg y0]
    by_cases y0 : x = 1
    · rw [if_pos y0, if_pos y0]
    rw [if_neg y0, if_neg y0]
    by_cases y0 : x = 2
    · rw [if_pos y0, if_pos y0]
    rw [if_neg y0, if_neg y0]
    by_cases y0 : x = 3
    · rw [if_pos y0, if_pos y0]
    rw [if_neg y0, if_neg y0]
    by_cases y0 : x = 4
    · rw [if_pos y0, if_pos y0]
    rw [if_neg y0, if_neg y0]
    by_cases y0 : x = 5
    · rw [if_pos y0, if_pos y0]
    rw [if_neg y0, if_neg y0]
    by_cases y0 : x = 6
    · rw [if_pos y0, if_pos y0]
    rw [if_neg y0, if_neg y0]
    by_cases y0 : x = 7
    · rw [if_pos y0, if_pos y0]
    rw [if_neg y0, if_neg y0]
    by_cases y0 : x = 8
    · rw [if_pos y0, if_pos y0]
    rw [if_neg y0, if_neg y0]
    by_cases y0 : x = 9
    · rw [if_pos y0, if_pos y0]
    rw [if_neg y0, if_neg y0]
    by_cases y0 : x = 10
    · rw [if_pos y0, if_pos y0]
    rw [if_neg y0, if_neg y0]
    by_cases y0 : x = 11
    · rw [if_pos y0, if_pos y0]
    rw [if_neg y0, if_neg y0]
    by_cases y0 : x = 12
    · rw [if_pos y0, if_pos y0]
    rw [if_neg y0, if_neg y0]
    by_cases y0 : x = 13
    · rw [if_pos y0, if_pos y0]
    rw [if_neg y0, if_neg y0]
    by_cases y0 : x = 14
    · rw [if_pos y0, if_pos y0]
    rw [if_neg y0, if_neg y0]
  · try dsimp only
    have d := o1.dat
    have e340 : M1.1 340 = M.1 340 := o1.row (by omega) (by omega) (by omega)
    have e40 : M1.1 311 40 = M.1 311 40 := o1.2 311 40 (by omega) (by omega) (by omega)
    have e2 : M1.1 311 2 = M.1 311 2 := o1.2 311 2 (by omega) (by omega) (by omega)
    have e46 : M1.1 311 46 = M.1 311 46 := o1.2 311 46 (by omega) (by omega) (by omega)
    rw [e340, e40, e2, e46, d 313 (by omega) (by omega) (by omega), d 314 (by omega) (by omega) (by omega)]
    by_cases y0 : x = 0
    · rw [if_pos y0, if_pos y0]
    rw [if_neg y0, if_neg y0]
    by_cases y0 : x = 1
    · rw [if_pos y0, if_pos y0]
    rw [if_neg y0, if_neg y0]
    by_cases y0 : x = 2
    · rw [if_pos y0, if_pos y0]
    rw [if_neg y0, if_neg y0]
    by_cases y0 : x = 3
    · rw [if_pos y0, if_pos y0]
    rw [if_neg y0, if_neg y0]
    by_cases y0 : x = 4
    · rw [if_pos y0, if_pos y0]
    rw [if_neg y0, if_neg y0]
    by_cases y0 : x = 5
    · rw [if_pos y0, if_pos y0]
    rw [if_neg y0, if_neg y0]
    by_cases y0 : x = 6
    · rw [if_pos y0, if_pos y0]
    rw [if_neg y0, if_neg y0]
    by_cases y0 : x = 7
    · rw [if_pos y0, if_pos y0]
    rw [if_neg y0, if_neg y0]
    by_cases y0 : x = 8
    · rw [if_pos y0, if_pos y0]
    rw [if_neg y0, if_neg y0]
    by_cases y0 : x = 9
    · rw [if_pos y0, if_pos y0]
    rw [if_neg y0, if_neg y0]
    by_cases y0 : x = 10
    · rw [if_pos y0, if_pos y0]
    rw [if_neg y0, if_neg y0]
    by_cases y0 : x = 11
    · rw [if_pos y0, if_pos y0, y0]; rfl
    rw [if_neg y0, if_neg y0]
    by_cases y0 : x = 12
    · rw [if_pos y0, if_pos y0, y0]; rfl
    rw [if_neg y0, if_neg y0]
    by_cases y0 : x = 13
    · rw [if_pos y0, if_pos y0, y0]; rfl
    rw [if_neg y0, if_neg y0]
    by_cases y0 : x = 14
    · rw [if_pos y0, if_pos y0, y0]; rfl
    rw [if_neg y0, if_neg y0]
/-! changes beside the day and what is told -/
def OffH (M M' : Mem) : Prop := M'.2 = M.2 ∧ (∀ a, 66 ≤ a → a ≤ 211 → M'.1 a = M.1 a) ∧ ∀ a, 313 ≤ a → a ≤ 339 → M'.1 a = M.1 a
theorem HB.offH {M M' : Mem} (h : HB M) (o : OffH M M') : HB M' := by
  have tc := (tt_c h.1.1).2.1
  have tc2 := (tt_c h.1.1).2.2
  have et : tld M' = tld M := by unfold tld; rw [o.1]
  have O := h.1.2.1
  have dt : Dat M M' := fun a h1 h2 _ => o.2.2 a h1 h2
  obtain ⟨-, -, -, tr2, -⟩ := tt_r h.1.1
  have h4 := O.1.2.2.2.2.1.2
  unfold HB
  rw [et]
  refine ⟨⟨h.1.1, O.dat dt, RTold.two h.1.1 O h.1.2.2.1 (fun a h1 h2 => o.2.1 a (by omega) (by omega)) dt, ?_⟩, fun p hp => ?_⟩
  · rw [CC_dat dt]
    exact h.1.2.2.2.cong (fun _ _ _ => Iff.rfl) (by rw [o.2.1 (tld M + 3) (by omega) (by omega)]) (by rw [tr2, o.2.1 (tld M + 4) (by omega) (by omega)])
  · rw [Cn_dat dt] at hp
    rw [o.2.1 (tld M + 31 + 5 * p) (by omega) (by omega)]
    obtain ⟨a, b⟩ := h.2 p hp
    exact ⟨a.imp id (fun z => z.dat O dt hp), b.imp id (fun z => z.dat O dt hp)⟩
theorem Inv.oth {M M' : Mem} (h : Inv M) (o : OffH M M') (e : ∀ a, 217 ≤ a → a ≤ 310 → a ≠ 226 → M'.1 a = M.1 a) (e2 : ∀ a, 340 ≤ a → a ≤ 343 → M'.1 a = M.1 a) (s : M'.1 64 8 = M.1 64 8 ∧ M'.1 64 9 = M.1 64 9 ∧ M'.1 311 40 = M.1 311 40) (rt : RT M') : Inv M' := by
  have c4 := h.c4
  obtain ⟨s1, s2, s3⟩ := s
  obtain ⟨h1, h2, ⟨a, u, v, h3, h4⟩, h5, -⟩ := h
  have cn : ∀ i, Cn M' i = Cn M i := fun i => by unfold Cn; rw [o.2.2 313 (by omega) (by omega)]
  have day : ∀ n s s', DN n → RDay M n s → (∀ k, k < 114 → s' k = s k) → RDay M' n s' := fun n s s' hn hr hs => by
    have rg := dn_rng hn
    have n226 : n + 5 < 226 ∨ 226 < n := by
      rcases hn with rfl | ⟨j, hj, rfl⟩ | rfl | rfl <;> omega
    exact hr.rows c4 (cn 4) (cn 1) (fun b q1 q2 => e b (by omega) (by omega) (by omega)) hs
  refine ⟨h1.offH o, day 217 _ _ (Or.inl rfl) h2 (fun k _ => by rw [e2 340 (by omega) (by omega)]), ⟨a, u, v, ?_, ?_⟩, fun i hi => ?_, rt⟩
  · obtain ⟨u8, u9, ha, hu, ud⟩ := h3
    exact ⟨by rw [s1, u8], by rw [s2, u9], ha, hu, fun j hj => day _ _ _ (Or.inr (Or.inl ⟨(a + 12 - u + j) % 12, Nat.mod_lt _ (by decide), rfl⟩)) (ud j hj) (fun _ _ => rfl)⟩
  · obtain ⟨u1, hu, ud⟩ := h4
    exact ⟨by rw [s3, u1], hu, fun j hj k hk => by rw [e2 341 (by omega) (by omega)]; exact ud j hj k hk⟩
  · rw [e 225 (by omega) (by omega) (by omega), e2 343 (by omega) (by omega), e2 342 (by omega) (by omega)]
    rcases h5 i hi with z | ⟨z1, z2, z3⟩
    · exact Or.inl z
    · exact Or.inr ⟨z1, z2, day _ _ _ (dn_k hi) z3 (fun _ _ => rfl)⟩
/-! sheet -/
def nrw (x v : Int32) : Int32 := if x = 0 then v.toInt8.toInt32 else if x = 1 then v.toInt16.toInt32 else v
theorem narrowed_f (x v : Int32) (M : Mem) : f_X10_narrowed x v M = some (nrw x v, M) := by
  unfold f_X10_narrowed nrw
  by_cases c : x = 0
  · rw [if_pos c, if_pos c]
  · rw [if_neg c, if_neg c]
    by_cases c1 : x = 1
    · rw [if_pos c1, if_pos c1]
    · rw [if_neg c1, if_neg c1]
theorem rl_sheet (M : Mem) (x : Int32) (a b : Nat) (hab : a ≤ b) (hb : b ≤ 16) (s : Nat → Int32) (hs : ∀ k, k < 4 * b → M.1 222 k = s (50 + k)) : f_X10_sheet_b37 fuel x (nI a) (nI b) (nI a) M = some (nI (b - a), setI (sA M 226 (fa_fill (fun k => nrw x (s (50 + (4 * (a + k) + 3)))) (M.1 226) (b - a))) 64 13 (nI (b - a))) := by
  have hl := lp_for (z := fun _ _ _ _ _ => none) (s := f_X10_sheet_b37_s) (fun j (f : Int32 → Int32 → Int32 → Int32 → Mem → Option (Int32 × Mem)) => f x (nI a) (nI b) (nI (a + j)) (sA M 226 (fa_fill (fun k => nrw x (s (50 + (4 * (a + k) + 3)))) (M.1 226) j))) (b - a) (some (nI (b - a), setI (sA M 226 (fa_fill (fun k => nrw x (s (50 + (4 * (a + k) + 3)))) (M.1 226) (b - a))) 64 13 (nI (b - a)))) (fun j hj f => by
    show f_X10_sheet_b37_s f x (nI a) (nI b) (nI (a + j)) (sA M 226 (fa_fill (fun k => nrw x (s (50 + (4 * (a + k) + 3)))) (M.1 226) j)) = f x (nI a) (nI b) (nI (a + (j + 1))) (sA M 226 (fa_fill (fun k => nrw x (s (50 + (4 * (a + k) + 3)))) (M.1 226) (j + 1)))
    unfold f_X10_sheet_b37_s
    have i1 : (nI (a + j) * 4) + 3 = nI (4 * (a + j) + 3) := by rw [show (4 : Int32) = nI 4 from rfl, nI_mul', show (3 : Int32) = nI 3 from rfl, nI_add, Nat.mul_comm]
    have i2 : nI (a + j) - nI a = nI j := by rw [nI_sub (by omega)]; exact congrArg nI (by omega)
    simp only [bnd_e]
    rw [if_neg (nI_ge (by omega) (by omega)), i1, gd_t (inb_nI (by omega) (by omega)), nI_clamp (by omega), sA_n M _ _ (by omega), hs _ (by omega), narrowed_f, cl_s, i2, gd_t (inb_nI (by omega) (by omega)), nI_clamp (by omega), sA_set, fa_fill_succ (fun k => nrw x (s (50 + (4 * (a + k) + 3)))) (M.1 226) j, nI_1]
    rfl) (fun f => by
    show f_X10_sheet_b37_s f x (nI a) (nI b) (nI (a + (b - a))) (sA M 226 (fa_fill (fun k => nrw x (s (50 + (4 * (a + k) + 3)))) (M.1 226) (b - a))) = _
    unfold f_X10_sheet_b37_s
    rw [show a + (b - a) = b by omega, if_pos (le_nI (by omega) (by omega) (Nat.le_refl _)), bnd_e, nI_sub hab, setI_1, if_pos ⟨rfl, rfl⟩]) fuel (by unfold fuel; omega)
  simp only [fa_fill_0, sA_self, Nat.add_zero] at hl
  exact hl
theorem rr_sheet (M : Mem) (x : Int32) (a n : Nat) (hb : a + n ≤ 16) (h46 : M.1 311 46 = nI n) : f_X11_sheet_b52 fuel x (nI a) 0 M = some (nI n, sA M 345 (fa_fill (fun k => nrw x (M.1 340 (50 + (4 * (a + k) + 3)))) (M.1 345) n)) := by
  have hl := lp_for (z := fun _ _ _ _ => none) (s := f_X11_sheet_b52_s) (fun j (f : Int32 → Int32 → Int32 → Mem → Option (Int32 × Mem)) => f x (nI a) (nI j) (sA M 345 (fa_fill (fun k => nrw x (M.1 340 (50 + (4 * (a + k) + 3)))) (M.1 345) j))) n (some (nI n, sA M 345 (fa_fill (fun k => nrw x (M.1 340 (50 + (4 * (a + k) + 3)))) (M.1 345) n))) (fun j hj f => by
    show f_X11_sheet_b52_s f x (nI a) (nI j) (sA M 345 (fa_fill (fun k => nrw x (M.1 340 (50 + (4 * (a + k) + 3)))) (M.1 345) j)) = f x (nI a) (nI (j + 1)) (sA M 345 (fa_fill (fun k => nrw x (M.1 340 (50 + (4 * (a + k) + 3)))) (M.1 345) (j + 1)))
    unfold f_X11_sheet_b52_s f_X11_sheet_b108
    have i1 : (50 + (4 * (nI a + nI j))) + 3 = nI (50 + (4 * (a + j) + 3)) := by rw [nI_add, show (4 : Int32) = nI 4 from rfl, nI_mul', show (50 : Int32) = nI 50 from rfl, nI_add, show (3 : Int32) = nI 3 from rfl, nI_add]; exact congrArg nI (by omega)
    have st : ∀ w : Int32, setI (sA M 345 (fa_fill (fun k => nrw x (M.1 340 (50 + (4 * (a + k) + 3)))) (M.1 345) j)) 345 j w = sA M 345 (upd (fa_fill (fun k => nrw x (M.1 340 (50 + (4 * (a + k) + 3)))) (M.1 345) j) j w) := fun w => sA_set _ _ _ _ _
    have up := fa_fill_succ (fun k => nrw x (M.1 340 (50 + (4 * (a + k) + 3)))) (M.1 345) j
    simp only [bnd_e]
    rw [sA_n M _ _ (show (311 : Nat) ≠ 345 by decide), h46, if_neg (nI_ge (by omega) (by omega)), i1, gd_t (inb_nI (by omega) (by omega)), gd_t (inb_nI (by omega) (by omega)), gd_t (inb_nI (by omega) (by omega)), gd_t (inb_nI (by omega) (by omega)), nI_clamp (show 50 + (4 * (a + j) + 3) < 2 ^ 31 by omega), nI_clamp (show j < 2 ^ 31 by omega), sA_n M _ _ (show (340 : Nat) ≠ 345 by decide), nI_1, st, st, st, ← up]
    unfold nrw
    by_cases c : x = 0
    · rw [if_pos c, if_pos c]
    · rw [if_neg c, if_neg c]
      by_cases c1 : x = 1
      · rw [if_pos c1, if_pos c1]
      · rw [if_neg c1, if_neg c1]) (fun f => by
    show f_X11_sheet_b52_s f x (nI a) (nI n) (sA M 345 (fa_fill (fun k => nrw x (M.1 340 (50 + (4 * (a + k) + 3)))) (M.1 345) n)) = _
    unfold f_X11_sheet_b52_s
    rw [sA_n M _ _ (show (311 : Nat) ≠ 345 by decide), h46, if_pos (le_nI (by omega) (by omega) (Nat.le_refl _))]) fuel (by unfold fuel; omega)
  simp only [fa_fill_0, sA_self] at hl
  exact hl
theorem Inv.t0 {M : Mem} (h : Inv M) : Inv (setI M 311 0 0) := h.near (near_0 M 0)
theorem do_sheet (x y z : Int32) : Do (f_X10_sheet x y z) (f_X11_sheet x y z) := by
  intro M hI
  have R := hI.2.1
  obtain ⟨j, hj, R9, R49⟩ := R.2.2.2.2.1
  have wi : ∀ M', f_X11_within x.toInt64 0 2 M' = some (if 0 ≤ x ∧ x ≤ 2 then 1 else 0, M') := fun M' => within32 x 0 2 M'
  have z49 : (setI M 311 0 0).1 340 49 = nI j := by rw [setI_1, if_neg (by omega), R49]
  have gr : f_X11_sheet x y z M = if 0 ≤ x ∧ x ≤ 2 then (if y < 0 then some (-1, setI M 311 0 0) else if z ≤ nI j then (if y ≤ z then f_X11_sheet_b52 fuel x y 0 (setI (setI M 311 0 0) 311 46 (z - y)) else some (-2, setI M 311 0 0)) else some (-1, setI M 311 0 0)) else some (-1, setI M 311 0 0) := by
    unfold f_X11_sheet
    simp only [bnd_e]
    rw [wi, cl_s, z49]
    by_cases c : 0 ≤ x ∧ x ≤ 2
    · rw [if_pos c, if_pos c, if_neg (by decide)]
    · rw [if_neg c, if_neg c, if_pos rfl]
  have gc : f_X10_sheet x y z M = if 0 ≤ x ∧ x ≤ 2 then (if y < 0 then some (-1, M) else if z ≤ nI j then (if y ≤ z then f_X10_sheet_b37 fuel x y z y M else some (-2, M)) else some (-1, M)) else some (-1, M) := by
    unfold f_X10_sheet
    rw [R9]
    by_cases c : 0 ≤ x ∧ x ≤ 2
    · rw [if_pos c, if_neg (Int32.not_lt.mpr c.1), if_neg (Int32.not_lt.mpr c.2)]
    · rw [if_neg c]
      by_cases c1 : x < 0
      · rw [if_pos c1]
      · rw [if_neg c1, if_pos (Int32.not_le.mp (fun q => c ⟨Int32.not_lt.mp c1, q⟩))]
  have same : ∀ v, f_X10_sheet x y z M = some (v, M) → f_X11_sheet x y z M = some (v, setI M 311 0 0) → ∃ r M1 M2, f_X10_sheet x y z M = some (r, M1) ∧ f_X11_sheet x y z M1 = some (r, M2) ∧ Inv M2 ∧ M2.1 311 0 = 0 := fun v e1 e2 => ⟨v, M, _, e1, e2, hI.t0, set_0 M⟩
  by_cases c : 0 ≤ x ∧ x ≤ 2
  · rw [if_pos c] at gr gc
    by_cases c1 : y < 0
    · rw [if_pos c1] at gr gc
      exact same _ gc gr
    rw [if_neg c1] at gr gc
    by_cases c2 : z ≤ nI j
    · rw [if_pos c2] at gr gc
      by_cases c3 : y ≤ z
      · rw [if_pos c3] at gr gc
        obtain ⟨b, hb, rfl⟩ := (rng_nI (m := j) (by omega)).mp ⟨Int32.le_trans (Int32.not_lt.mp c1) c3, c2⟩
        obtain ⟨a, ha, rfl⟩ := (rng_nI (m := b) (by omega)).mp ⟨Int32.not_lt.mp c1, c3⟩
        have e1 := rl_sheet M x a b ha (by omega) (M.1 340) (fun k hk => (R.2.2.2.2.2 k (by omega)).resolve_left (fun z => by rw [R9, nI_clamp (by omega)] at z; omega))
        rw [e1] at gc
        obtain ⟨M1, d1⟩ : ∃ X, X = setI (sA M 226 (fa_fill (fun k => nrw x (M.1 340 (50 + (4 * (a + k) + 3)))) (M.1 226) (b - a))) 64 13 (nI (b - a)) := ⟨_, rfl⟩
        rw [← d1] at gc
        have r1 : ∀ q, q ≠ 64 → q ≠ 226 → M1.1 q = M.1 q := fun q h1 h2 => funext (fun k => by rw [d1, setI_1, if_neg (fun w => h1 w.1), sA_n M _ k h2])
        have r64 : ∀ k, k ≠ 13 → M1.1 64 k = M.1 64 k := fun k hk => by rw [d1, setI_1, if_neg (fun w => hk w.2), sA_n M _ k (by omega)]
        have r13 : M1.1 64 13 = nI (b - a) := by rw [d1, setI_1, if_pos ⟨rfl, rfl⟩]
        have r226 : ∀ k, k < b - a → M1.1 226 k = nrw x (M.1 340 (50 + (4 * (a + k) + 3))) := fun k hk => by rw [d1, setI_1, if_neg (by omega), sA_s, fa_fill_in hk]
        obtain ⟨M3, d3⟩ : ∃ X, X = setI (setI M1 311 0 0) 311 46 (nI (b - a)) := ⟨_, rfl⟩
        have r3 : ∀ q, q ≠ 311 → M3.1 q = M1.1 q := fun q h1 => funext (fun k => by rw [d3, setI_1, if_neg (fun w => h1 w.1), setI_1, if_neg (fun w => h1 w.1)])
        have r346 : M3.1 311 46 = nI (b - a) := by rw [d3, setI_1, if_pos ⟨rfl, rfl⟩]
        have r3k : ∀ k, k ≠ 0 → k ≠ 46 → M3.1 311 k = M1.1 311 k := fun k h1 h2 => by rw [d3, setI_1, if_neg (fun w => h2 w.2), setI_1, if_neg (fun w => h1 w.2)]
        have r30 : M3.1 311 0 = 0 := by rw [d3, setI_1, if_neg (by omega), set_0]
        have e3 := rr_sheet M3 x a (b - a) (by omega) r346
        obtain ⟨M4, d4⟩ : ∃ X, X = sA M3 345 (fa_fill (fun k => nrw x (M3.1 340 (50 + (4 * (a + k) + 3)))) (M3.1 345) (b - a)) := ⟨_, rfl⟩
        rw [← d4] at e3
        have r4 : ∀ q, q ≠ 345 → M4.1 q = M3.1 q := fun q h1 => funext (fun k => by rw [d4, sA_n M3 _ k h1])
        have r345 : ∀ k, k < b - a → M4.1 345 k = nrw x (M.1 340 (50 + (4 * (a + k) + 3))) := fun k hk => by rw [d4, sA_s, fa_fill_in hk, r3 340 (by omega), r1 340 (by omega) (by omega)]
        have m4 : M4.2 = M.2 := by
          rw [d4]
          show M3.2 = M.2
          rw [d3]
          show M1.2 = M.2
          rw [d1]; rfl
        have all : ∀ q, q ≠ 64 → q ≠ 226 → q ≠ 311 → q ≠ 345 → M4.1 q = M.1 q := fun q h1 h2 h3 h4 => by rw [r4 q h4, r3 q h3, r1 q h1 h2]
        have g2 : f_X11_sheet x (nI a) (nI b) M1 = some (nI (b - a), M4) := by
          unfold f_X11_sheet
          simp only [bnd_e]
          have y49 : (setI M1 311 0 0).1 340 49 = nI j := by rw [setI_1, if_neg (by omega), r1 340 (by omega) (by omega), R49]
          rw [wi, cl_s, y49, if_pos c, if_neg (by decide), if_neg c1, if_pos c2, if_pos c3, nI_sub ha, ← d3, e3]
        obtain ⟨t, ht, t1, t2, t3⟩ := hI.2.2.2.2.1
        refine ⟨nI (b - a), M1, M4, gc, g2, hI.oth ⟨m4, fun q h1 h2 => all q (by omega) (by omega) (by omega) (by omega), fun q h1 h2 => all q (by omega) (by omega) (by omega) (by omega)⟩ (fun q h1 h2 h3 => all q (by omega) h3 (by omega) (by omega)) (fun q h1 h2 => all q (by omega) (by omega) (by omega) (by omega)) ⟨?_, ?_, ?_⟩ ⟨⟨t, ht, ?_, ?_, fun k hk => ?_⟩, ⟨b - a, by omega, ?_, ?_, fun k hk => ?_⟩, ?_⟩, ?_⟩
        · rw [r4 64 (by omega), r3 64 (by omega), r64 8 (by omega)]
        · rw [r4 64 (by omega), r3 64 (by omega), r64 9 (by omega)]
        · rw [r4 311 (by omega), r3k 40 (by omega) (by omega), r1 311 (by omega) (by omega)]
        · rw [r4 64 (by omega), r3 64 (by omega), r64 1 (by omega), t1]
        · rw [r4 311 (by omega), r3k 2 (by omega) (by omega), r1 311 (by omega) (by omega), t2]
        · rw [all 65 (by omega) (by omega) (by omega) (by omega), all 312 (by omega) (by omega) (by omega) (by omega)]
          exact t3 k hk
        · rw [r4 64 (by omega), r3 64 (by omega), r13]
        · rw [r4 311 (by omega), r346]
        · rw [r4 226 (by omega), r3 226 (by omega), r226 k hk, r345 k hk]
        · rw [m4]; exact hI.2.2.2.2.2.2
        · rw [r4 311 (by omega), r30]
      · rw [if_neg c3] at gr gc
        exact same _ gc gr
    · rw [if_neg c2] at gr gc
      exact same _ gc gr
  · rw [if_neg c] at gr gc
    exact same _ gc gr
