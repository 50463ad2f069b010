/-! kind, play, side, seconds, extra, count -/
theorem within_3 (y : Int32) (M : Mem) : f_X11_within y.toInt64 0 3 M = some (if 0 ≤ y ∧ y ≤ 3 then 1 else 0, M) := within32 y 0 3 M
theorem not_four {y : Int32} (h : ¬ (0 ≤ y ∧ y ≤ 3)) : y ≠ 0 ∧ y ≠ 1 ∧ y ≠ 2 ∧ y ≠ 3 := ⟨fun z => h (four_or.mpr (Or.inl z)), fun z => h (four_or.mpr (Or.inr (Or.inl z))), fun z => h (four_or.mpr (Or.inr (Or.inr (Or.inl z)))), fun z => h (four_or.mpr (Or.inr (Or.inr (Or.inr z))))⟩
theorem do_kind (x y : Int32) : Do (f_X10_kind x y) (f_X11_kind x y) := by
  refine do_any (gc := fun M1m => cl (f_X11_within (x.toInt64) 0 (((M1m.1 313 2) - 1).toInt64) M1m) (fun r1 M2m => if r1 = 0 then some ((-1), M2m) else cl (f_X11_within (y.toInt64) 0 3 M2m) (fun r2 M3m => if r2 = 0 then some ((-1), M3m) else if y = 0 then gd (inb x 10) (some (M3m.1 321 x.toNatClampNeg, M3m)) else if y = 1 then gd (inb x 10) (if (M3m.1 322 x.toNatClampNeg) = 0 then some (0, M3m) else some (1, M3m)) else if y = 2 then gd (inb x 10) (if (M3m.1 323 x.toNatClampNeg) = 0 then some (0, M3m) else some (1, M3m)) else gd (inb x 10) (some (M3m.1 324 x.toNatClampNeg, M3m))))) (fun M => rfl) (fun M hI => ?_)
  have h := hI.1
  have O := h.1.2.1
  have h2 := O.1.2.2.1
  have r7 := h.1.2.2.1.1.2.2.1
  have iff0 := cnt_c (x := x) (n := Cn M 2) (by omega)
  by_cases c : ∃ k, k < Cn M 2 ∧ x = nI k
  · obtain ⟨k, hk, rfl⟩ := c
    obtain ⟨u1, u2, u3, u4⟩ := tt_k h.1.1 k (by omega)
    obtain ⟨-, -, -, -, -, tr8, -, -, -⟩ := tt_r h.1.1
    obtain ⟨x0, x1, x2, x3, -⟩ := h.1.2.2.1.2.2.2.1 k hk
    obtain ⟨-, f1, f2, -⟩ := O.2.2.2.2.1 k hk
    have n0 : ∀ w : Int32, (w = 0 ∨ w = 1) → ∀ M' : Mem, (if w = 0 then some ((0 : Int32), M') else some (1, M')) = some (w, M') := fun w hw M' => by
      rcases hw with z | z
      · rw [z]; rfl
      · rw [z]; rfl
    refine both_c (if y = 0 then M.1 321 k else if y = 1 then M.1 322 k else if y = 2 then M.1 323 k else if y = 3 then M.1 324 k else -1) ?_ (fun M1 o1 => ?_)
    · unfold f_X10_kind
      have e : M.2.2.1 64 2 = tld M := rfl
      simp only [bnd_e]
      rw [if_neg (neg_nI (by omega)), e, gd_t (tt_0 h.1.1), r7, h2.1, if_pos (iff0.mpr ⟨k, hk, rfl⟩).2, gd_t (inb_nI (by omega) (by omega)), nI_clamp (by omega), tr8, u1, x0, x1, x2, x3, n0 _ f1, n0 _ f2]
      by_cases y0 : y = 0
      · rw [if_pos y0, if_pos y0]
      rw [if_neg y0, if_neg y0]
      by_cases y1 : y = 1
      · rw [if_pos y1, if_pos y1]
      rw [if_neg y1, if_neg y1]
      by_cases y2 : y = 2
      · rw [if_pos y2, if_pos y2]
      rw [if_neg y2, if_neg y2]
      by_cases y3 : y = 3
      · rw [if_pos y3, if_pos y3]
      rw [if_neg y3, if_neg y3]
    · try dsimp only
      have ib : inb (nI k) 10 := inb_nI (by omega) (by omega)
      rw [o1.dat 313 (by omega) (by omega) (by omega), h2.1, within_n (by omega), cl_s, if_pos (iff0.mpr ⟨k, hk, rfl⟩), if_neg (by decide), within_3, cl_s, gd_t ib, gd_t ib, gd_t ib, gd_t ib, nI_clamp (by omega), o1.dat 321 (by omega) (by omega) (by omega), o1.dat 322 (by omega) (by omega) (by omega), o1.dat 323 (by omega) (by omega) (by omega), o1.dat 324 (by omega) (by omega) (by omega), n0 _ f1, n0 _ f2]
      by_cases c2 : 0 ≤ y ∧ y ≤ 3
      · rw [if_pos c2, if_neg (by decide)]
        rcases four_or.mp c2 with y0 | y0 | y0 | y0 <;> rw [y0] <;> rfl
      · obtain ⟨y0, y1, y2, y3⟩ := not_four c2
        rw [if_neg c2, if_pos rfl, if_neg y0, if_neg y1, if_neg y2, if_neg y3]
  · refine both_c (-1) ?_ (fun M1 o1 => ?_)
    · unfold f_X10_kind
      have e : M.2.2.1 64 2 = tld M := rfl
      by_cases c1 : x < 0
      · rw [if_pos c1]
      · rw [if_neg c1, e, gd_t (tt_0 h.1.1), r7, h2.1, if_neg (fun z => c (iff0.mp ⟨c1, z⟩))]
    · try dsimp only
      rw [o1.dat 313 (by omega) (by omega) (by omega), h2.1, within_n (by omega), cl_s, if_neg (fun z => c (iff0.mp z)), if_pos rfl]
/-! the day's bits, as both read them -/
theorem day_c : shc 217 = 3 := by decide +kernel
theorem b2_01 (c p : Nat) : b2 c p = 0 ∨ b2 c p = 1 := by
  unfold b2
  split
  · exact Or.inr rfl
  · exact Or.inl rfl
theorem n0 {w : Int32} (hw : w = 0 ∨ w = 1) (M' : Mem) : (if w = 0 then some ((0 : Int32), M') else some (1, M')) = some (w, M') := by
  rcases hw with z | z
  · rw [z]; rfl
  · rw [z]; rfl
theorem rev_c {M M1 : Mem} (c4 : Cn M 4 ≤ 8) (R : RDay M 217 (M.1 340)) (o : Near M M1) {p : Nat} (hp : p < 8) : f_X3_isReviewed 217 (nI p) M1 = some (M.1 340 (9 + p), M1) ∧ (M.1 340 (9 + p) = 0 ∨ M.1 340 (9 + p) = 1) := by
  obtain ⟨⟨hh, h1, h2, h3, c, r, b, h5, ⟨-, h6, -⟩, h7, h8⟩, -⟩ := R
  have z1 : M1.1 217 2 = nI r := by rw [o.row (by omega) (by omega) (by omega), h6]
  have e : b2 r p = M.1 340 (9 + p) := by
    rcases Nat.lt_or_ge p hh with q | q
    · exact ((h7 p q).2.1).symm
    · obtain ⟨q1, -, q2, -⟩ := h8 p q hp
      rw [q2]; unfold b2; rw [q1]; rfl
  rw [← e]
  refine ⟨?_, b2_01 _ _⟩
  unfold f_X3_isReviewed
  rw [gd_t day_c, z1, bit_nI (by omega) (by omega)]
  exact n0 (b2_01 r p) M1
theorem brd_c {M M1 : Mem} (c4 : Cn M 4 ≤ 8) (R : RDay M 217 (M.1 340)) (o : Near M M1) {p : Nat} (hp : p < 8) : f_X3_isBoarded 217 (nI p) M1 = some (M.1 340 (17 + p), M1) ∧ (M.1 340 (17 + p) = 0 ∨ M.1 340 (17 + p) = 1) := by
  obtain ⟨⟨hh, h1, h2, h3, c, r, b, h5, ⟨-, -, h6⟩, h7, h8⟩, -⟩ := R
  have z1 : M1.1 217 3 = nI b := by rw [o.row (by omega) (by omega) (by omega), h6]
  have e : b2 b p = M.1 340 (17 + p) := by
    rcases Nat.lt_or_ge p hh with q | q
    · exact ((h7 p q).2.2.1).symm
    · obtain ⟨-, q1, -, q2, -⟩ := h8 p q hp
      rw [q2]; unfold b2; rw [q1]; rfl
  rw [← e]
  refine ⟨?_, b2_01 _ _⟩
  unfold f_X3_isBoarded
  rw [gd_t day_c, z1, bit_nI (by omega) (by omega)]
  exact n0 (b2_01 b p) M1
theorem cll_c {M M1 : Mem} (c4 : Cn M 4 ≤ 8) (R : RDay M 217 (M.1 340)) (o : Near M M1) {p : Nat} (hp : ¬ M.1 340 0 ≤ nI p) (hp8 : p < 8) : f_X3_call 217 (nI p) M1 = some (M.1 340 (1 + p), M1) := by
  obtain ⟨⟨hh, h1, h2, h3, c, r, b, h5, ⟨h6, -, -⟩, h7, h8⟩, -⟩ := R
  have z1 : M1.1 217 1 = nI c := by rw [o.row (by omega) (by omega) (by omega), h6]
  have lt : p < hh := by
    rcases Nat.lt_or_ge p hh with q | q
    · exact q
    · rw [h3] at hp
      exact absurd (le_nI (by omega) (by omega) q) hp
  unfold f_X3_call
  rw [gd_t day_c, z1, bit_nI (by omega) (by omega), (h7 p lt).1]
  rfl
theorem hap_c {M : Mem} (R : RDay M 217 (M.1 340)) : M.1 217 0 = M.1 340 0 := by
  obtain ⟨⟨hh, h1, h2, h3, -⟩, -⟩ := R
  rw [h2, h3]
theorem nk {k p : Nat} : nI k + nI p = nI (k + p) := nI_add _ _
theorem do_play (x y : Int32) : Do (f_X10_play x y) (f_X11_play x y) := by
  refine do_any (gc := fun M1m => cl (f_X11_isPlay x M1m) (fun r1 M2m => if r1 = 0 then some ((-1), M2m) else if y = 0 then gd (inb x 16) (some (M2m.1 330 x.toNatClampNeg, M2m)) else if y = 1 then gd (inb x 16) (some (M2m.1 331 x.toNatClampNeg, M2m)) else if y = 2 then gd (inb x 16) (some (M2m.1 332 x.toNatClampNeg, M2m)) else if y = 3 then gd (inb x 16) (some (M2m.1 333 x.toNatClampNeg, M2m)) else if y = 4 then gd (inb x 16) (some (M2m.1 334 x.toNatClampNeg, M2m)) else if y = 5 then gd (inb x 16) (some (M2m.1 335 x.toNatClampNeg, M2m)) else if y = 6 then (if (M2m.1 340 0) ≤ x then some ((-2), M2m) else gd (inb (1 + x) 114) (some (M2m.1 340 (1 + x).toNatClampNeg, M2m))) else if y = 7 then gd (inb (9 + x) 114) (some (M2m.1 340 (9 + x).toNatClampNeg, M2m)) else if y = 8 then gd (inb (17 + x) 114) (some (M2m.1 340 (17 + x).toNatClampNeg, M2m)) else some ((-1), M2m))) (fun M => rfl) (fun M hI => ?_)
  have h := hI.1
  refine h.play (x := x) (z := -1) (fun M => rfl) (fun M => rfl) (fun p hp hx => ?_)
  subst hx
  have h4 := h.1.2.1.1.2.2.2.2.1.2
  obtain ⟨g1, g2, g3⟩ := plc h (Near.refl M)
  obtain ⟨p1, p2, p3, p4, p5, p6, p7, p8, p9⟩ := plj h (Near.refl M) hp
  obtain ⟨r1, r2⟩ := rev_c h4 hI.2.1 (Near.refl M) (p := p) (by omega)
  obtain ⟨b1, b2'⟩ := brd_c h4 hI.2.1 (Near.refl M) (p := p) (by omega)
  refine both_c (if y = 0 then M.1 330 p else if y = 1 then M.1 331 p else if y = 2 then M.1 332 p else if y = 3 then M.1 333 p else if y = 4 then M.1 334 p else if y = 5 then M.1 335 p else if y = 6 then (if M.1 340 0 ≤ nI p then -2 else M.1 340 (1 + p)) else if y = 7 then M.1 340 (9 + p) else if y = 8 then M.1 340 (17 + p) else -1) ?_ (fun M1 o1 => ?_)
  · try dsimp only
    simp only [bnd_e]
    rw [gd_t g1, gd_t p1, p2, p4, p5, p6, p7, p8, p9, hap_c hI.2.1, r1, cl_s, b1, cl_s, n0 r2, n0 b2']
    by_cases y0 : y = 0
    · rw [if_pos y0, if_pos y0]
    rw [if_neg y0, if_neg y0]
    by_cases y0 : y = 1
    · rw [if_pos y0, if_pos y0]
    rw [if_neg y0, if_neg y0]
    by_cases y0 : y = 2
    · rw [if_pos y0, if_pos y0]
    rw [if_neg y0, if_neg y0]
    by_cases y0 : y = 3
    · rw [if_pos y0, if_pos y0]
    rw [if_neg y0, if_neg y0]
    by_cases y0 : y = 4
    · rw [if_pos y0, if_pos y0]
    rw [if_neg y0, if_neg y0]
    by_cases y0 : y = 5
    · rw [if_pos y0, if_pos y0]
    rw [if_neg y0, if_neg y0]
    by_cases y0 : y = 6
    · rw [if_pos y0, if_pos y0]
      by_cases c : M.1 340 0 ≤ nI p
      · rw [if_pos c, if_pos c]
      · rw [if_neg c, if_neg c, cll_c h4 hI.2.1 (Near.refl M) c (by omega), cl_s]
    rw [if_neg y0, if_neg y0]
    by_cases y0 : y = 7
    · rw [if_pos y0, if_pos y0]
    rw [if_neg y0, if_neg y0]
    by_cases y0 : y = 8
    · rw [if_pos y0, if_pos y0]
    rw [if_neg y0, if_neg y0]
  · try dsimp only
    have ib : inb (nI p) 16 := inb_nI (by omega) (by omega)
    have d := o1.dat
    have e340 : M1.1 340 = M.1 340 := o1.row (by omega) (by omega) (by omega)
    have i1 : 1 + nI p = nI (1 + p) := nI_add _ _
    have i9 : 9 + nI p = nI (9 + p) := nI_add _ _
    have i17 : 17 + nI p = nI (17 + p) := nI_add _ _
    rw [gd_t ib, gd_t ib, gd_t ib, gd_t ib, gd_t ib, gd_t ib, i1, i9, i17, gd_t (inb_nI (i := 1 + p) (by omega) (by omega)), gd_t (inb_nI (i := 9 + p) (by omega) (by omega)), gd_t (inb_nI (i := 17 + p) (by omega) (by omega)), nI_clamp (show p < 2 ^ 31 by omega), nI_clamp (show 1 + p < 2 ^ 31 by omega), nI_clamp (show 9 + p < 2 ^ 31 by omega), nI_clamp (show 17 + p < 2 ^ 31 by omega), e340, d 330 (by omega) (by omega) (by omega), d 331 (by omega) (by omega) (by omega), d 332 (by omega) (by omega) (by omega), d 333 (by omega) (by omega) (by omega), d 334 (by omega) (by omega) (by omega), d 335 (by omega) (by omega) (by omega)]
    by_cases y0 : y = 0
    · rw [if_pos y0, if_pos y0]
    rw [if_neg y0, if_neg y0]
    by_cases y0 : y = 1
    · rw [if_pos y0, if_pos y0]
    rw [if_neg y0, if_neg y0]
    by_cases y0 : y = 2
    · rw [if_pos y0, if_pos y0]
    rw [if_neg y0, if_neg y0]
    by_cases y0 : y = 3
    · rw [if_pos y0, if_pos y0]
    rw [if_neg y0, if_neg y0]
    by_cases y0 : y = 4
    · rw [if_pos y0, if_pos y0]
    rw [if_neg y0, if_neg y0]
    by_cases y0 : y = 5
    · rw [if_pos y0, if_pos y0]
    rw [if_neg y0, if_neg y0]
    by_cases y0 : y = 6
    · rw [if_pos y0, if_pos y0]
      by_cases c : M.1 340 0 ≤ nI p
      · rw [if_pos c, if_pos c]
      · rw [if_neg c, if_neg c]
    rw [if_neg y0, if_neg y0]
    by_cases y0 : y = 7
    · rw [if_pos y0, if_pos y0]
    rw [if_neg y0, if_neg y0]
    by_cases y0 : y = 8
    · rw [if_pos y0, if_pos y0]
    rw [if_neg y0, if_neg y0]
/-! side -/
def pnow (M : Mem) (x : Int32) : Nat → Int32
  | 0 => 0
  | j + 1 => if M.1 332 j = x ∧ M.1 340 (1 + j) = 1 then pnow M x j + M.1 333 j else pnow M x j
def hap (M : Mem) : Nat := (M.1 340 0).toNatClampNeg
theorem hap_ok {M : Mem} (R : RDay M 217 (M.1 340)) (c4 : Cn M 4 ≤ 8) : M.1 340 0 = nI (hap M) ∧ hap M ≤ Cn M 4 := by
  obtain ⟨⟨hh, h1, h2, h3, -⟩, -⟩ := R
  unfold hap
  rw [h3, nI_clamp (by omega)]
  exact ⟨rfl, h1⟩
theorem pnow_c {M : Mem} (hI : Inv M) (x : Int32) : f_X10_pointsNow x M = some (pnow M x (hap M), M) := by
  have h := hI.1
  have h4 := h.1.2.1.1.2.2.2.2.1.2
  obtain ⟨k1, k2⟩ := hap_ok hI.2.1 h4
  have k3 : M.1 217 0 = nI (hap M) := (hap_c hI.2.1).trans k1
  obtain ⟨g1, g2, g3⟩ := plc h (Near.refl M)
  have hl := lp_for (z := fun _ _ _ _ => none) (s := f_X10_pointsNow_b4_s) (fun j (f : Int32 → Int32 → Int32 → Mem → Option (Int32 × Mem)) => f x (pnow M x j) (nI j) M) (hap M) (some (pnow M x (hap M), M)) (fun j hj f => by
    obtain ⟨p1, p2, -, -, -, p6, p7, -, -⟩ := plj h (Near.refl M) (j := j) (by omega)
    show f_X10_pointsNow_b4_s f x (pnow M x j) (nI j) M = f x (if M.1 332 j = x ∧ M.1 340 (1 + j) = 1 then pnow M x j + M.1 333 j else pnow M x j) (nI (j + 1)) M
    unfold f_X10_pointsNow_b4_s
    simp only [bnd_e]
    rw [k3, if_neg (nI_ge hj (by omega)), gd_t g1, gd_t p1, p2, p6, cll_c h4 hI.2.1 (Near.refl M) (by rw [k1]; exact nI_ge hj (by omega)) (by omega), cl_s, gd_t g1, p2, p7, nI_1]
    by_cases c1 : M.1 332 j = x
    · rw [if_pos c1]
      by_cases c2 : M.1 340 (1 + j) = 1
      · rw [if_pos c2, if_pos ⟨c1, c2⟩]
      · rw [if_neg c2, if_neg (fun z => c2 z.2)]
    · rw [if_neg c1, if_neg (fun z => c1 z.1)]) (fun f => by
    show f_X10_pointsNow_b4_s f x (pnow M x (hap M)) (nI (hap M)) M = _
    unfold f_X10_pointsNow_b4_s
    rw [k3, if_pos (le_nI (by omega) (by omega) (Nat.le_refl _))]) fuel (by unfold fuel; omega)
  exact hl
theorem pnow_r {M M1 : Mem} (hI : Inv M) (o : Near M M1) (x : Int32) : f_X11_pointsNow x M1 = some (pnow M x (hap M), M1) := by
  have h := hI.1
  have h4 := h.1.2.1.1.2.2.2.2.1.2
  obtain ⟨k1, k2⟩ := hap_ok hI.2.1 h4
  have d := o.dat
  have e340 : M1.1 340 = M.1 340 := o.row (by omega) (by omega) (by omega)
  have hl := lp_for (z := fun _ _ _ _ => none) (s := f_X11_pointsNow_b4_s) (fun j (f : Int32 → Int32 → Int32 → Mem → Option (Int32 × Mem)) => f x (pnow M x j) (nI j) M1) (hap M) (some (pnow M x (hap M), M1)) (fun j hj f => by
    show f_X11_pointsNow_b4_s f x (pnow M x j) (nI j) M1 = f x (if M.1 332 j = x ∧ M.1 340 (1 + j) = 1 then pnow M x j + M.1 333 j else pnow M x j) (nI (j + 1)) M1
    unfold f_X11_pointsNow_b4_s f_X11_pointsNow_b46
    simp only [bnd_e]
    rw [e340, k1, if_neg (nI_ge hj (by omega)), gd_t (inb_nI (by omega) (by omega)), nI_clamp (by omega), d 332 (by omega) (by omega) (by omega), n1, gd_t (inb_nI (by omega) (by omega)), nI_clamp (by omega), d 333 (by omega) (by omega) (by omega), nI_1, Int32.add_zero]
    by_cases c1 : M.1 332 j = x
    · rw [if_pos c1]
      by_cases c2 : M.1 340 (1 + j) = 1
      · rw [if_pos c2, if_pos ⟨c1, c2⟩]
      · rw [if_neg c2, if_neg (fun z => c2 z.2)]
    · rw [if_neg c1, if_neg (fun z => c1 z.1)]) (fun f => by
    show f_X11_pointsNow_b4_s f x (pnow M x (hap M)) (nI (hap M)) M1 = _
    unfold f_X11_pointsNow_b4_s
    rw [e340, k1, if_pos (le_nI (by omega) (by omega) (Nat.le_refl _))]) fuel (by unfold fuel; omega)
  exact hl
theorem do_side (x y : Int32) : Do (f_X10_side x y) (f_X11_side x y) := by
  refine do_any (gc := fun M1m => cl (f_X11_isSide x M1m) (fun r1 M2m => if r1 = 0 then some ((-1), M2m) else cl (f_X11_within (y.toInt64) 0 3 M2m) (fun r2 M3m => if r2 = 0 then some ((-1), M3m) else if y = 0 then gd (inb x 8) (some (M3m.1 320 x.toNatClampNeg, M3m)) else if y = 1 then gd (inb (33 + x) 114) (some (M3m.1 340 (33 + x).toNatClampNeg, M3m)) else if y = 2 then gd (inb (37 + x) 114) (some (M3m.1 340 (37 + x).toNatClampNeg, M3m)) else cl (f_X11_pointsNow x M3m) (fun r3 M4m => some (r3, M4m))))) (fun M => rfl) (fun M hI => ?_)
  have h := hI.1
  refine h.side (x := x) (z := -1) (fun M => rfl) (fun M => rfl) (fun p hp hx => ?_)
  subst hx
  have h1 := h.1.2.1.1.2.1.2
  have tc := (tt_c h.1.1).2.1
  obtain ⟨-, -, -, -, tr6, -⟩ := tt_r h.1.1
  have w := h.1.2.2.1.2.2.1 p hp
  have R := hI.2.1
  have l1 := (R.2.1 p (by omega)).1
  have l2 := R.2.2.1 p (by omega)
  refine both_c (if y = 0 then M.1 320 p else if y = 1 then M.1 340 (33 + p) else if y = 2 then M.1 340 (37 + p) else if y = 3 then pnow M (nI p) (hap M) else -1) ?_ (fun M1 o1 => ?_)
  · try dsimp only
    have e : M.2.2.1 64 2 = tld M := rfl
    have ib : inb (nI p) 4 := inb_nI (by omega) (by omega)
    have l1' : M.1 219 p = M.1 340 (33 + p) := l1
    have l2' : M.1 220 p = M.1 340 (37 + p) := l2
    rw [e, gd_t (tt_0 h.1.1), gd_t ib, gd_t ib, gd_t ib, nI_clamp (by omega), tr6, w, l1', l2', pnow_c hI, cl_s]
    by_cases y0 : y = 0
    · rw [if_pos y0, if_pos y0]
    rw [if_neg y0, if_neg y0]
    by_cases y0 : y = 1
    · rw [if_pos y0, if_pos y0]
    rw [if_neg y0, if_neg y0]
    by_cases y0 : y = 2
    · rw [if_pos y0, if_pos y0]
    rw [if_neg y0, if_neg y0]
    by_cases y0 : y = 3
    · rw [if_pos y0, if_pos y0]
    rw [if_neg y0, if_neg y0]
  · try dsimp only
    have i1 : 33 + nI p = nI (33 + p) := nI_add _ _
    have i2 : 37 + nI p = nI (37 + p) := nI_add _ _
    rw [within_3, cl_s, gd_t (inb_nI (i := p) (by omega) (by omega)), i1, i2, gd_t (inb_nI (i := 33 + p) (by omega) (by omega)), gd_t (inb_nI (i := 37 + p) (by omega) (by omega)), nI_clamp (show p < 2 ^ 31 by omega), nI_clamp (show 33 + p < 2 ^ 31 by omega), nI_clamp (show 37 + p < 2 ^ 31 by omega), o1.row (a := 340) (by omega) (by omega) (by omega), o1.dat 320 (by omega) (by omega) (by omega), pnow_r hI o1, cl_s]
    by_cases c2 : 0 ≤ y ∧ y ≤ 3
    · rw [if_pos c2, if_neg (by decide)]
      rcases four_or.mp c2 with y0 | y0 | y0 | y0 <;> rw [y0] <;> rfl
    · obtain ⟨y0, y1, y2, y3⟩ := not_four c2
      rw [if_neg c2, if_pos rfl, if_neg y0, if_neg y1, if_neg y2, if_neg y3]
/-! seconds, extra -/
def tsec (M : Mem) (x : Int32) : Nat → Int32
  | 0 => 0
  | j + 1 => if M.1 330 j = x then tsec M x j + M.1 340 (41 + j) else tsec M x j
theorem tsec_c {M : Mem} (hI : Inv M) (x : Int32) : f_X10_secondsOf x M = some (tsec M x (Cn M 4), M) := by
  have h := hI.1
  have h4 := h.1.2.1.1.2.2.2.2.1.2
  have R := hI.2.1
  obtain ⟨g1, g2, g3⟩ := plc h (Near.refl M)
  have hl := lp_for (z := fun _ _ _ _ => none) (s := f_X10_secondsOf_b4_s) (fun j (f : Int32 → Int32 → Int32 → Mem → Option (Int32 × Mem)) => f x (tsec M x j) (nI j) M) (Cn M 4) (some (tsec M x (Cn M 4), M)) (fun j hj f => by
    obtain ⟨p1, p2, -, p4, -⟩ := plj h (Near.refl M) hj
    have e : M.1 221 j = M.1 340 (41 + j) := R.2.2.2.1 j (by omega)
    show f_X10_secondsOf_b4_s f x (tsec M x j) (nI j) M = f x (if M.1 330 j = x then tsec M x j + M.1 340 (41 + j) else tsec M x j) (nI (j + 1)) M
    unfold f_X10_secondsOf_b4_s
    simp only [bnd_e]
    rw [gd_t g1, g2, if_neg (nI_ge hj (by omega)), gd_t p1, p2, p4, nI_clamp (by omega), e, nI_1]
    by_cases c1 : M.1 330 j = x
    · rw [if_pos c1, if_pos c1]
    · rw [if_neg c1, if_neg c1]) (fun f => by
    show f_X10_secondsOf_b4_s f x (tsec M x (Cn M 4)) (nI (Cn M 4)) M = _
    unfold f_X10_secondsOf_b4_s
    rw [gd_t g1, g2, if_pos (le_nI (by omega) (by omega) (Nat.le_refl _))]) fuel (by unfold fuel; omega)
  exact hl
theorem tsec_r {M M1 : Mem} (hI : Inv M) (o : Near M M1) (x : Int32) : f_X11_timeOf x M1 = some (tsec M x (Cn M 4), M1) := by
  have h4 := hI.1.1.2.1.1.2.2.2.2.1
  have d := o.dat
  have hl := lp_for (z := fun _ _ _ _ => none) (s := f_X11_timeOf_b4_s) (fun j (f : Int32 → Int32 → Int32 → Mem → Option (Int32 × Mem)) => f x (tsec M x j) (nI j) M1) (Cn M 4) (some (tsec M x (Cn M 4), M1)) (fun j hj f => by
    show f_X11_timeOf_b4_s f x (tsec M x j) (nI j) M1 = f x (if M.1 330 j = x then tsec M x j + M.1 340 (41 + j) else tsec M x j) (nI (j + 1)) M1
    unfold f_X11_timeOf_b4_s
    have i1 : 41 + nI j = nI (41 + j) := nI_add _ _
    simp only [bnd_e]
    rw [d 313 (by omega) (by omega) (by omega), h4.1, if_neg (nI_ge hj (by omega)), gd_t (inb_nI (by omega) (by omega)), nI_clamp (by omega), d 330 (by omega) (by omega) (by omega), i1, gd_t (inb_nI (by omega) (by omega)), nI_clamp (by omega), o.row (a := 340) (by omega) (by omega) (by omega), nI_1, Int32.add_zero]
    by_cases c1 : M.1 330 j = x
    · rw [if_pos c1, if_pos c1]
    · rw [if_neg c1, if_neg c1]) (fun f => by
    show f_X11_timeOf_b4_s f x (tsec M x (Cn M 4)) (nI (Cn M 4)) M1 = _
    unfold f_X11_timeOf_b4_s
    rw [d 313 (by omega) (by omega) (by omega), h4.1, if_pos (le_nI (by omega) (by omega) (Nat.le_refl _))]) fuel (by unfold fuel; omega)
  exact hl
theorem do_seconds (x : Int32) : Do (f_X10_seconds x) (f_X11_seconds x) := by
  refine do_any (gc := fun M1m => cl (f_X11_within (x.toInt64) 0 999 M1m) (fun r1 M2m => if r1 = 0 then some ((-1), M2m) else cl (f_X11_timeOf x M2m) (fun r2 M3m => some (r2, M3m)))) (fun M => rfl) (fun M hI => ?_)
  have wi : ∀ M', f_X11_within x.toInt64 0 999 M' = some (if 0 ≤ x ∧ x ≤ 999 then 1 else 0, M') := fun M' => within32 x 0 999 M'
  refine both_c (if 0 ≤ x ∧ x ≤ 999 then tsec M x (Cn M 4) else -1) ?_ (fun M1 o1 => ?_)
  · unfold f_X10_seconds
    rw [tsec_c hI, cl_s]
    by_cases c : x < 0
    · rw [if_pos c, if_neg (fun z => absurd z.1 (Int32.not_le.mpr c))]
    · rw [if_neg c]
      by_cases c2 : 999 < x
      · rw [if_pos c2, if_neg (fun z => absurd z.2 (Int32.not_le.mpr c2))]
      · rw [if_neg c2, if_pos ⟨Int32.not_lt.mp c, Int32.not_lt.mp c2⟩]
  · try dsimp only
    rw [wi, cl_s, tsec_r hI o1, cl_s]
    by_cases c : 0 ≤ x ∧ x ≤ 999
    · rw [if_pos c, if_pos c, if_neg (by decide)]
    · rw [if_neg c, if_neg c, if_pos rfl]
def ext (M : Mem) : Nat → Int32
  | 0 => 0
  | j + 1 => if j = 0 ∨ M.1 330 j ≠ M.1 330 (j - 1) then ext M j + (tsec M (M.1 330 j) (Cn M 4) + 59) / 60 else ext M j
theorem do_extra : Do f_X10_extra f_X11_extra := by
  refine do_any (gc := fun M1m => f_X11_extra_b9 fuel 0 0 M1m) (fun M => rfl) (fun M hI => ?_)
  have h := hI.1
  have h4 := h.1.2.1.1.2.2.2.2.1
  refine both_c (ext M (Cn M 4)) ?_ (fun M1 o1 => ?_)
  · obtain ⟨g1, g2, g3⟩ := plc h (Near.refl M)
    have hl := lp_for (z := fun _ _ _ => none) (s := f_X10_extra_b4_s) (fun j (f : Int32 → Int32 → Mem → Option (Int32 × Mem)) => f (ext M j) (nI j) M) (Cn M 4) (some (ext M (Cn M 4), M)) (fun j hj f => by
      obtain ⟨p1, p2, -, p4, -⟩ := plj h (Near.refl M) hj
      show f_X10_extra_b4_s f (ext M j) (nI j) M = f (if j = 0 ∨ M.1 330 j ≠ M.1 330 (j - 1) then ext M j + (tsec M (M.1 330 j) (Cn M 4) + 59) / 60 else ext M j) (nI (j + 1)) M
      unfold f_X10_extra_b4_s f_X10_extra_b50
      simp only [bnd_e]
      rw [gd_t g1, g2, if_neg (nI_ge hj (by omega)), gd_t p1, p2, p4, tsec_c hI, cl_s, nI_1]
      by_cases c0 : j = 0
      · rw [if_pos (show nI j = 0 by rw [c0]; rfl), if_pos (Or.inl c0)]
      · obtain ⟨q1, q2, -, q4, -⟩ := plj h (Near.refl M) (j := j - 1) (by omega)
        rw [if_neg (nI_nez c0 (by omega)), nI_p1 (by omega), gd_t q1, q2, q4]
        by_cases c1 : M.1 330 (j - 1) = M.1 330 j
        · rw [if_pos c1, if_neg (fun z => z.elim c0 (fun q => q c1.symm))]
        · rw [if_neg c1, if_pos (Or.inr (fun z => c1 z.symm))]) (fun f => by
      show f_X10_extra_b4_s f (ext M (Cn M 4)) (nI (Cn M 4)) M = _
      unfold f_X10_extra_b4_s
      rw [gd_t g1, g2, if_pos (le_nI (by omega) (by omega) (Nat.le_refl _))]) fuel (by unfold fuel; omega)
    exact hl
  · have d := o1.dat
    have hl := lp_for (z := fun _ _ _ => none) (s := f_X11_extra_b9_s) (fun j (f : Int32 → Int32 → Mem → Option (Int32 × Mem)) => f (ext M j) (nI j) M1) (Cn M 4) (some (ext M (Cn M 4), M1)) (fun j hj f => by
      show f_X11_extra_b9_s f (ext M j) (nI j) M1 = f (if j = 0 ∨ M.1 330 j ≠ M.1 330 (j - 1) then ext M j + (tsec M (M.1 330 j) (Cn M 4) + 59) / 60 else ext M j) (nI (j + 1)) M1
      unfold f_X11_extra_b9_s f_X11_extra_b41
      simp only [bnd_e]
      rw [d 313 (by omega) (by omega) (by omega), h4.1, if_neg (nI_ge hj (by omega)), gd_t (inb_nI (i := j) (by omega) (by omega)), gd_t (inb_nI (i := j) (by omega) (by omega)), nI_clamp (by omega), d 330 (by omega) (by omega) (by omega), tsec_r hI o1, cl_s, nI_1, Int32.add_zero]
      by_cases c0 : j = 0
      · rw [if_pos (show nI j = 0 by rw [c0]; rfl), if_pos (Or.inl c0)]
      · rw [if_neg (nI_nez c0 (by omega)), nI_p1 (by omega), gd_t (inb_nI (by omega) (by omega)), nI_clamp (by omega)]
        by_cases c1 : M.1 330 j = M.1 330 (j - 1)
        · rw [if_pos c1, if_neg (fun z => z.elim c0 (fun q => q c1))]
        · rw [if_neg c1, if_pos (Or.inr c1)]) (fun f => by
      show f_X11_extra_b9_s f (ext M (Cn M 4)) (nI (Cn M 4)) M1 = _
      unfold f_X11_extra_b9_s
      rw [d 313 (by omega) (by omega) (by omega), h4.1, if_pos (le_nI (by omega) (by omega) (Nat.le_refl _))]) fuel (by unfold fuel; omega)
    exact hl
