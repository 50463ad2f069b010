/-! truth, range, wrong -/
theorem plc {M Mj : Mem} (h : HB M) (o : Near M Mj) : shc (Mj.2.2.1 64 2) = 8 ∧ Mj.1 (Mj.2.2.1 64 2) 11 = nI (Cn M 4) ∧ Mj.2.2.1 64 2 = tld M := by
  have tc := (tt_c h.1.1).2.1
  have r := h.1.2.2.1.1.2.2.2.2.1
  have h4 := h.1.2.1.1.2.2.2.2.1.1
  refine ⟨by rw [o.ref]; exact tt_0 h.1.1, ?_, by rw [o.ref]; rfl⟩
  rw [o.ref, o.row (a := M.2.2.1 64 2) (show ¬ (212 ≤ tld M ∧ tld M ≤ 216) by omega) (show tld M ≠ 344 by omega) (show tld M ≠ 311 by omega), ← h4]
  exact r
theorem plj {M Mj : Mem} (h : HB M) (o : Near M Mj) {j : Nat} (hj : j < Cn M 4) : inb (nI j) 8 ∧ cr (cr (Mj.2.2.1 64 2) 12) (nI j).toNatClampNeg = tld M + 31 + 5 * j ∧ shc (tld M + 31 + 5 * j) = 6 ∧ Mj.1 (tld M + 31 + 5 * j) 0 = M.1 330 j ∧ Mj.1 (tld M + 31 + 5 * j) 1 = M.1 331 j ∧ Mj.1 (tld M + 31 + 5 * j) 2 = M.1 332 j ∧ Mj.1 (tld M + 31 + 5 * j) 3 = M.1 333 j ∧ Mj.1 (tld M + 31 + 5 * j) 4 = M.1 334 j ∧ Mj.1 (tld M + 31 + 5 * j) 5 = M.1 335 j := by
  have tc := (tt_c h.1.1).2.1
  have h4 := h.1.2.1.1.2.2.2.2.1.2
  obtain ⟨-, a2, a3⟩ := play_cell h hj
  obtain ⟨-, -, -, -, -, t6⟩ := tt_p h.1.1 j (by omega)
  obtain ⟨w0, w1, w2, w3, w4, w5, -⟩ := h.1.2.2.1.2.2.2.2.2.1 j hj
  rw [o.ref, o.row (a := tld M + 31 + 5 * j) (by omega) (by omega) (by omega)]
  exact ⟨a2, a3, t6, w0, w1, w2, w3, w4, w5⟩
def tcl (M : Mem) (p : Nat) (o : Int32) : Int32 := if vall M p = 0 ∨ vall M p = 1 then vall M p else o
theorem tcl_01 {M : Mem} {p : Nat} {o : Int32} (h : o = 0 ∨ o = 1) : tcl M p o = 0 ∨ tcl M p o = 1 := by
  unfold tcl
  split
  · assumption
  · exact h
theorem tcl_c {M Mj : Mem} (h : HB M) (o : Near M Mj) {p : Nat} (hp : p < Cn M 4) (x : Int32) : ∃ M', f_X4_trueCall (tld M) (tld M + 31 + 5 * p) x Mj = some (tcl M p x, M') ∧ OffJ Mj M' := by
  have h4 := h.1.2.1.1.2.2.2.2.1.2
  obtain ⟨-, -, -, -, -, t6⟩ := tt_p h.1.1 p (by omega)
  have hp1 : p < Cn Mj 4 := by rw [Cn_dat o.dat]; exact hp
  have ea := allc_f (h.near o).1 hp1
  obtain ⟨M', e, o'⟩ := byAllc_f (h.near o).1 hp1
  rw [vall_dat h.1.2.1 o.dat hp, o.tldE] at e
  rw [o.tldE] at ea
  refine ⟨M', ?_, o'⟩
  unfold f_X4_trueCall tcl
  rw [gd_t t6, ea, cl_s, e, cl_s]
  rcases sure_cls (vall M p) M' with ⟨sv, e2⟩ | ⟨sv, e2⟩
  · rw [e2, cl_s, if_neg (by decide), if_pos (show vall M p = 0 ∨ vall M p = 1 from sv)]
  · rw [e2, cl_s, if_pos rfl, if_neg (show ¬ (vall M p = 0 ∨ vall M p = 1) from sv)]
theorem tcl_r {M Mj : Mem} (O : MOk M) (o : Dat M Mj) {p : Nat} (hp : p < Cn M 4) (x : Int32) : ∃ d', f_X11_trueCall (nI p) x Mj = some (tcl M p x, sA Mj 344 d') := by
  obtain ⟨d', e⟩ := byAll_f (O.dat o) (p := p) (by rw [Cn_dat o]; exact hp)
  rw [vall_dat O o hp] at e
  refine ⟨d', ?_⟩
  unfold f_X11_trueCall tcl
  rw [e, cl_s]
  rcases sure_ref (vall M p) (sA Mj 344 d') with ⟨sv, e2⟩ | ⟨sv, e2⟩
  · rw [e2, cl_s, if_neg (by decide), if_pos (show vall M p = 0 ∨ vall M p = 1 from sv)]
  · rw [e2, cl_s, if_pos rfl, if_neg (show ¬ (vall M p = 0 ∨ vall M p = 1) from sv)]
def tsum (M : Mem) (x : Int32) (o : Nat → Int32) : Nat → Int32
  | 0 => 0
  | j + 1 => if M.1 332 j = x ∧ tcl M j (o j) = 1 then tsum M x o j + M.1 333 j else tsum M x o j
theorem mul_01 (a p r : Int32) (h : r = 0 ∨ r = 1) : a + p * r = if r = 1 then a + p else a := by
  rcases h with rfl | rfl
  · rw [Int32.mul_zero, Int32.add_zero, if_neg (by decide)]
  · rw [Int32.mul_one, if_pos rfl]
/-- a play's call where it is not sure -/
def oth (M : Mem) (u : Int32) (j : Nat) : Int32 := if u = -1 then M.1 334 j else u
theorem pts_c {M : Mem} (h : HB M) (x u : Int32) : ∃ M', f_X10_pointsInTruth x u M = some (tsum M x (oth M u) (Cn M 4), M') ∧ OffJ M M' := by
  have O := h.1.2.1
  have h4 := O.1.2.2.2.2.1
  have su : ∀ {A : Type} (k : Int32 → A) (w : Int32), (if u = -1 then k w else k u) = k (if u = -1 then w else u) := fun k w => by
    by_cases c : u = -1
    · rw [if_pos c, if_pos c]
    · rw [if_neg c, if_neg c]
  have hc := lp_inv (z := fun _ _ _ _ _ => none) (s := f_X10_pointsInTruth_b5_s) (fun j (Mj : Mem) (f : Int32 → Int32 → Int32 → Int32 → Mem → Option (Int32 × Mem)) => f x u (tsum M x (oth M u) j) (nI j) Mj) (fun _ Mj => OffJ M Mj) (fun r => ∃ M', r = some (tsum M x (oth M u) (Cn M 4), M') ∧ OffJ M M') (Cn M 4) (fun j hj Mj oj f => by
    obtain ⟨g1, g2, g3⟩ := plc h oj.near
    obtain ⟨p1, p2, p3, -, -, p6, p7, p8, -⟩ := plj h oj.near hj
    obtain ⟨M3, e3, o3⟩ := tcl_c h oj.near hj (oth M u j)
    obtain ⟨-, -, -, -, -, -, q7, -, -⟩ := plj h (oj.tr o3).near hj
    have eo : (if u = -1 then M.1 334 j else u) = oth M u j := rfl
    by_cases c : M.1 332 j = x
    · refine Or.inr ⟨M3, oj.tr o3, ?_⟩
      show f_X10_pointsInTruth_b5_s f x u (tsum M x (oth M u) j) (nI j) Mj = f x u (if M.1 332 j = x ∧ tcl M j (oth M u j) = 1 then tsum M x (oth M u) j + M.1 333 j else tsum M x (oth M u) j) (nI (j + 1)) M3
      unfold f_X10_pointsInTruth_b5_s
      simp only [bnd_e]
      rw [gd_t g1, g2, if_neg (nI_ge hj (by omega)), gd_t p1, p2, p8, su (fun w => f_X10_pointsInTruth_b43 f x u (tsum M x (oth M u) j) (nI j) (tld M + 31 + 5 * j) w Mj) (M.1 334 j), eo]
      unfold f_X10_pointsInTruth_b43
      simp only [bnd_e]
      rw [gd_t p3, p6, if_pos c, g3, e3, cl_s, q7, nI_1]
      by_cases c2 : tcl M j (oth M u j) = 1
      · rw [if_pos c2, if_pos ⟨c, c2⟩]
      · rw [if_neg c2, if_neg (fun z => c2 z.2)]
    · refine Or.inr ⟨Mj, oj, ?_⟩
      show f_X10_pointsInTruth_b5_s f x u (tsum M x (oth M u) j) (nI j) Mj = f x u (if M.1 332 j = x ∧ tcl M j (oth M u j) = 1 then tsum M x (oth M u) j + M.1 333 j else tsum M x (oth M u) j) (nI (j + 1)) Mj
      unfold f_X10_pointsInTruth_b5_s
      simp only [bnd_e]
      rw [gd_t g1, g2, if_neg (nI_ge hj (by omega)), gd_t p1, p2, p8, su (fun w => f_X10_pointsInTruth_b43 f x u (tsum M x (oth M u) j) (nI j) (tld M + 31 + 5 * j) w Mj) (M.1 334 j), eo]
      unfold f_X10_pointsInTruth_b43
      simp only [bnd_e]
      rw [gd_t p3, p6, if_neg c, nI_1, if_neg (fun z => c z.1)]) (fun Mj oj f => by
    obtain ⟨g1, g2, g3⟩ := plc h oj.near
    refine ⟨Mj, ?_, oj⟩
    show f_X10_pointsInTruth_b5_s f x u (tsum M x (oth M u) (Cn M 4)) (nI (Cn M 4)) Mj = _
    unfold f_X10_pointsInTruth_b5_s
    rw [gd_t g1, g2, if_pos (le_nI (by omega) (by omega) (Nat.le_refl _))]) fuel (by unfold fuel; omega) M (OffJ.refl M)
  exact hc
theorem do_truth (x : Int32) : Do (f_X10_truth x) (f_X11_truth x) := by
  refine do_any (gc := fun M1m => cl (f_X11_isSide x M1m) (fun r1 M2m => if r1 = 0 then some ((-1), M2m) else f_X11_truth_b19 fuel x 0 0 M2m)) (fun M => rfl) (fun M hI => ?_)
  have h := hI.1
  have O := h.1.2.1
  refine h.side (x := x) (z := -1) (fun M => rfl) (fun M => rfl) (fun s hs hx => ?_)
  have h4 := O.1.2.2.2.2.1
  have c01 : ∀ p, p < Cn M 4 → M.1 334 p = 0 ∨ M.1 334 p = 1 := fun p hp => (O.2.2.2.2.2.2.1 p hp).2.2.2.2.1
  obtain ⟨M1, e1, o1⟩ := pts_c h x (-1)
  rw [show oth M (-1) = M.1 334 from funext (fun j => if_pos rfl)] at e1
  refine ⟨_, ⟨M1, show cl (f_X10_pointsInTruth x (-1) M) (fun r2 M2m => some (r2, M2m)) = some (_, M1) from by rw [e1, cl_s], o1.near⟩, fun M2 o2 => ?_⟩
  have hr := lp_inv (z := fun _ _ _ _ => none) (s := f_X11_truth_b19_s) (fun j (dj : Nat → Int32) (f : Int32 → Int32 → Int32 → Mem → Option (Int32 × Mem)) => f x (tsum M x (M.1 334) j) (nI j) (sA M2 344 dj)) (fun _ _ => True) (fun r => ∃ d', r = some (tsum M x (M.1 334) (Cn M 4), sA M2 344 d')) (Cn M 4) (fun j hj dj _ f => by
    have nj : Dat M (sA M2 344 dj) := o2.dat.tr (sA_dat M2 dj)
    obtain ⟨d3, e3⟩ := tcl_r O nj hj (M.1 334 j)
    rw [sA_sA] at e3
    by_cases c : M.1 332 j = x
    · refine Or.inr ⟨d3, trivial, ?_⟩
      show f_X11_truth_b19_s f x (tsum M x (M.1 334) j) (nI j) (sA M2 344 dj) = f x (if M.1 332 j = x ∧ tcl M j (M.1 334 j) = 1 then tsum M x (M.1 334) j + M.1 333 j else tsum M x (M.1 334) j) (nI (j + 1)) (sA M2 344 d3)
      unfold f_X11_truth_b19_s
      simp only [bnd_e]
      rw [nj 313 (by omega) (by omega) (by omega), h4.1, if_neg (nI_ge hj (by omega)), gd_t (inb_nI (by omega) (by omega)), nI_clamp (by omega), nj 332 (by omega) (by omega) (by omega), if_pos c, nj 334 (by omega) (by omega) (by omega), e3, cl_s, nj 333 (by omega) (by omega) (by omega), nI_1, mul_01 _ _ _ (tcl_01 (c01 j hj))]
      by_cases c2 : tcl M j (M.1 334 j) = 1
      · rw [if_pos c2, if_pos ⟨c, c2⟩]
      · rw [if_neg c2, if_neg (fun z => c2 z.2)]
    · refine Or.inr ⟨dj, trivial, ?_⟩
      show f_X11_truth_b19_s f x (tsum M x (M.1 334) j) (nI j) (sA M2 344 dj) = f x (if M.1 332 j = x ∧ tcl M j (M.1 334 j) = 1 then tsum M x (M.1 334) j + M.1 333 j else tsum M x (M.1 334) j) (nI (j + 1)) (sA M2 344 dj)
      unfold f_X11_truth_b19_s
      simp only [bnd_e]
      rw [nj 313 (by omega) (by omega) (by omega), h4.1, if_neg (nI_ge hj (by omega)), gd_t (inb_nI (by omega) (by omega)), nI_clamp (by omega), nj 332 (by omega) (by omega) (by omega), if_neg c, nI_1, if_neg (fun z => c z.1), Int32.add_zero]) (fun dj _ f => by
    have nj : Dat M (sA M2 344 dj) := o2.dat.tr (sA_dat M2 dj)
    refine ⟨dj, ?_⟩
    show f_X11_truth_b19_s f x (tsum M x (M.1 334) (Cn M 4)) (nI (Cn M 4)) (sA M2 344 dj) = _
    unfold f_X11_truth_b19_s
    rw [nj 313 (by omega) (by omega) (by omega), h4.1, if_pos (le_nI (by omega) (by omega) (Nat.le_refl _))]) fuel (by unfold fuel; omega) (M2.1 344) trivial
  simp only [sA_self] at hr
  obtain ⟨d', e2⟩ := hr
  exact ⟨_, e2, rl_A M2 d'⟩
def yes01 (y : Int32) : Int32 := if y = 0 then 0 else 1
theorem yes01_c (y : Int32) : yes01 y = 0 ∨ yes01 y = 1 := by
  unfold yes01
  split
  · exact Or.inl rfl
  · exact Or.inr rfl
theorem do_range (x y : Int32) : Do (f_X10_range x y) (f_X11_range x y) := by
  refine do_any (gc := fun M1m => cl (f_X11_isSide x M1m) (fun r1 M2m => if r1 = 0 then some ((-1), M2m) else f_X11_range_b20 fuel x y 0 0 M2m)) (fun M => rfl) (fun M hI => ?_)
  have h := hI.1
  have O := h.1.2.1
  refine h.side (x := x) (z := -1) (fun M => rfl) (fun M => rfl) (fun s hs hx => ?_)
  have h4 := O.1.2.2.2.2.1
  have sp : ∀ {A : Type} (k : Int32 → A), (if y = 0 then k 0 else k 1) = k (yes01 y) := fun k => by
    unfold yes01
    by_cases c : y = 0
    · rw [if_pos c, if_pos c]
    · rw [if_neg c, if_neg c]
  obtain ⟨M1, e1, o1⟩ := pts_c h x (yes01 y)
  rw [show oth M (yes01 y) = (fun _ => yes01 y) from funext (fun j => if_neg (fun z => by rcases yes01_c y with e | e <;> rw [e] at z <;> exact absurd z (by decide)))] at e1
  refine ⟨_, ⟨M1, show (if y = 0 then f_X10_range_b19 x 0 M else f_X10_range_b19 x 1 M) = some (_, M1) from by
    rw [sp (fun z => f_X10_range_b19 x z M)]
    unfold f_X10_range_b19
    rw [e1, cl_s], o1.near⟩, fun M2 o2 => ?_⟩
  have hr := lp_inv (z := fun _ _ _ _ _ => none) (s := f_X11_range_b20_s) (fun j (dj : Nat → Int32) (f : Int32 → Int32 → Int32 → Int32 → Mem → Option (Int32 × Mem)) => f x y (tsum M x (fun _ => yes01 y) j) (nI j) (sA M2 344 dj)) (fun _ _ => True) (fun r => ∃ d', r = some (tsum M x (fun _ => yes01 y) (Cn M 4), sA M2 344 d')) (Cn M 4) (fun j hj dj _ f => by
    have nj : Dat M (sA M2 344 dj) := o2.dat.tr (sA_dat M2 dj)
    obtain ⟨d3, e3⟩ := tcl_r O nj hj (yes01 y)
    rw [sA_sA] at e3
    by_cases c : M.1 332 j = x
    · refine Or.inr ⟨d3, trivial, ?_⟩
      show f_X11_range_b20_s f x y (tsum M x (fun _ => yes01 y) j) (nI j) (sA M2 344 dj) = f x y (if M.1 332 j = x ∧ tcl M j (yes01 y) = 1 then tsum M x (fun _ => yes01 y) j + M.1 333 j else tsum M x (fun _ => yes01 y) j) (nI (j + 1)) (sA M2 344 d3)
      unfold f_X11_range_b20_s
      simp only [bnd_e]
      rw [nj 313 (by omega) (by omega) (by omega), h4.1, if_neg (nI_ge hj (by omega)), gd_t (inb_nI (by omega) (by omega)), nI_clamp (by omega), nj 332 (by omega) (by omega) (by omega), if_pos c, nj 333 (by omega) (by omega) (by omega), sp (fun z => f_X11_range_b62 f x y (nI j) (tsum M x (fun _ => yes01 y) j) (M.1 333 j) (nI j) z (sA M2 344 dj))]
      unfold f_X11_range_b62
      simp only [bnd_e]
      rw [e3, cl_s, nI_1, mul_01 _ _ _ (tcl_01 (yes01_c y))]
      by_cases c2 : tcl M j (yes01 y) = 1
      · rw [if_pos c2, if_pos ⟨c, c2⟩]
      · rw [if_neg c2, if_neg (fun z => c2 z.2)]
    · refine Or.inr ⟨dj, trivial, ?_⟩
      show f_X11_range_b20_s f x y (tsum M x (fun _ => yes01 y) j) (nI j) (sA M2 344 dj) = f x y (if M.1 332 j = x ∧ tcl M j (yes01 y) = 1 then tsum M x (fun _ => yes01 y) j + M.1 333 j else tsum M x (fun _ => yes01 y) j) (nI (j + 1)) (sA M2 344 dj)
      unfold f_X11_range_b20_s
      simp only [bnd_e]
      rw [nj 313 (by omega) (by omega) (by omega), h4.1, if_neg (nI_ge hj (by omega)), gd_t (inb_nI (by omega) (by omega)), nI_clamp (by omega), nj 332 (by omega) (by omega) (by omega), if_neg c, nI_1, if_neg (fun z => c z.1), Int32.add_zero]) (fun dj _ f => by
    have nj : Dat M (sA M2 344 dj) := o2.dat.tr (sA_dat M2 dj)
    refine ⟨dj, ?_⟩
    show f_X11_range_b20_s f x y (tsum M x (fun _ => yes01 y) (Cn M 4)) (nI (Cn M 4)) (sA M2 344 dj) = _
    unfold f_X11_range_b20_s
    rw [nj 313 (by omega) (by omega) (by omega), h4.1, if_pos (le_nI (by omega) (by omega) (Nat.le_refl _))]) fuel (by unfold fuel; omega) (M2.1 344) trivial
  simp only [sA_self] at hr
  obtain ⟨d', e2⟩ := hr
  exact ⟨_, e2, rl_A M2 d'⟩
def wr (M : Mem) : Nat → Nat
  | 0 => 0
  | j + 1 => if tcl M j (M.1 334 j) = M.1 334 j then wr M j else wr M j ||| 2 ^ j
theorem do_wrong : Do f_X10_wrong f_X11_wrong := by
  refine do_any (gc := fun M1m => f_X11_wrong_b9 fuel 0 0 M1m) (fun M => rfl) (fun M hI => ?_)
  have h := hI.1
  have O := h.1.2.1
  have h4 := O.1.2.2.2.2.1
  have hc := lp_inv (z := fun _ _ _ => none) (s := f_X10_wrong_b4_s) (fun j (Mj : Mem) (f : Int32 → Int32 → Mem → Option (Int32 × Mem)) => f (nI (wr M j)) (nI j) Mj) (fun _ Mj => OffJ M Mj) (fun r => ∃ M', r = some (nI (wr M (Cn M 4)), M') ∧ OffJ M M') (Cn M 4) (fun j hj Mj oj f => by
    obtain ⟨g1, g2, g3⟩ := plc h oj.near
    obtain ⟨p1, p2, p3, -, -, p6, p7, p8, -⟩ := plj h oj.near hj
    obtain ⟨M3, e3, o3⟩ := tcl_c h oj.near hj (M.1 334 j)
    obtain ⟨-, -, -, -, -, -, -, q8, -⟩ := plj h (oj.tr o3).near hj
    refine Or.inr ⟨M3, oj.tr o3, ?_⟩
    show f_X10_wrong_b4_s f (nI (wr M j)) (nI j) Mj = f (nI (if tcl M j (M.1 334 j) = M.1 334 j then wr M j else wr M j ||| 2 ^ j)) (nI (j + 1)) M3
    unfold f_X10_wrong_b4_s
    simp only [bnd_e]
    rw [gd_t g1, g2, if_neg (nI_ge hj (by omega)), gd_t p1, p2, p8, g3, e3, cl_s, q8, nI_1, or_nI (by omega)]
    by_cases c2 : tcl M j (M.1 334 j) = M.1 334 j
    · rw [if_pos c2, if_pos c2]
    · rw [if_neg c2, if_neg c2]) (fun Mj oj f => by
    obtain ⟨g1, g2, g3⟩ := plc h oj.near
    refine ⟨Mj, ?_, oj⟩
    show f_X10_wrong_b4_s f (nI (wr M (Cn M 4))) (nI (Cn M 4)) Mj = _
    unfold f_X10_wrong_b4_s
    rw [gd_t g1, g2, if_pos (le_nI (by omega) (by omega) (Nat.le_refl _))]) fuel (by unfold fuel; omega) M (OffJ.refl M)
  obtain ⟨M1, e1, o1⟩ := hc
  refine ⟨_, ⟨M1, e1, o1.near⟩, fun M2 o2 => ?_⟩
  have hr := lp_inv (z := fun _ _ _ => none) (s := f_X11_wrong_b9_s) (fun j (dj : Nat → Int32) (f : Int32 → Int32 → Mem → Option (Int32 × Mem)) => f (nI (wr M j)) (nI j) (sA M2 344 dj)) (fun _ _ => True) (fun r => ∃ d', r = some (nI (wr M (Cn M 4)), sA M2 344 d')) (Cn M 4) (fun j hj dj _ f => by
    have nj : Dat M (sA M2 344 dj) := o2.dat.tr (sA_dat M2 dj)
    obtain ⟨d3, e3⟩ := tcl_r O nj hj (M.1 334 j)
    have n3 : Dat M (sA M2 344 d3) := o2.dat.tr (sA_dat M2 d3)
    rw [sA_sA] at e3
    refine Or.inr ⟨d3, trivial, ?_⟩
    show f_X11_wrong_b9_s f (nI (wr M j)) (nI j) (sA M2 344 dj) = f (nI (if tcl M j (M.1 334 j) = M.1 334 j then wr M j else wr M j ||| 2 ^ j)) (nI (j + 1)) (sA M2 344 d3)
    unfold f_X11_wrong_b9_s
    simp only [bnd_e]
    rw [nj 313 (by omega) (by omega) (by omega), h4.1, if_neg (nI_ge hj (by omega)), gd_t (inb_nI (by omega) (by omega)), nI_clamp (by omega), nj 334 (by omega) (by omega) (by omega), e3, cl_s, n3 334 (by omega) (by omega) (by omega), nI_1, or_nI (by omega), or0]
    by_cases c2 : tcl M j (M.1 334 j) = M.1 334 j
    · rw [if_pos c2, if_pos c2]
    · rw [if_neg c2, if_neg c2]) (fun dj _ f => by
    have nj : Dat M (sA M2 344 dj) := o2.dat.tr (sA_dat M2 dj)
    refine ⟨dj, ?_⟩
    show f_X11_wrong_b9_s f (nI (wr M (Cn M 4))) (nI (Cn M 4)) (sA M2 344 dj) = _
    unfold f_X11_wrong_b9_s
    rw [nj 313 (by omega) (by omega) (by omega), h4.1, if_pos (le_nI (by omega) (by omega) (Nat.le_refl _))]) fuel (by unfold fuel; omega) (M2.1 344) trivial
  simp only [sA_self] at hr
  obtain ⟨d', e2⟩ := hr
  exact ⟨_, e2, rl_A M2 d'⟩
