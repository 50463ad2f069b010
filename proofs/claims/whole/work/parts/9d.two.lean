/-! frame, log, row: the class throws just where the reference says so -/
theorem HB.fst {M M' : Mem} (h : HB M) (e : M'.1 = M.1) (et : tld M' = tld M) : HB M' := by
  have O := h.1.2.1
  have dt : Dat M M' := fun a _ _ _ => by rw [e]
  obtain ⟨-, -, -, tr2, -⟩ := tt_r h.1.1
  unfold HB
  rw [et]
  refine ⟨⟨h.1.1, O.dat dt, RTold.two h.1.1 O h.1.2.2.1 (fun a _ _ => by rw [e]) dt, ?_⟩, fun p hp => ?_⟩
  · rw [CC_dat dt]
    exact h.1.2.2.2.cong (fun _ _ _ => Iff.rfl) (by rw [e]) (by rw [tr2, e])
  · rw [Cn_dat dt] at hp
    rw [e]
    obtain ⟨a, b⟩ := h.2 p hp
    exact ⟨a.imp id (fun z => z.dat O dt hp), b.imp id (fun z => z.dat O dt hp)⟩
theorem Inv.fst {M M' : Mem} (h : Inv M) (e : M'.1 = M.1) (e2 : M'.2.2.1 = M.2.2.1) : Inv M' := by
  have c4 := h.c4
  obtain ⟨h1, h2, ⟨a, u, w, h3, h4⟩, h5, hT⟩ := h
  have et : tld M' = tld M := by unfold tld; rw [e2]
  have cn : ∀ i, Cn M' i = Cn M i := fun i => by unfold Cn; rw [e]
  have day : ∀ n s, RDay M n s → RDay M' n s := fun n s hr => hr.rows c4 (cn 4) (cn 1) (fun b _ _ => by rw [e]) (fun _ _ => rfl)
  refine ⟨h1.fst e et, ?_, ⟨a, u, w, ?_, ?_⟩, fun i hi => ?_, ?_⟩
  · rw [e]; exact day _ _ h2
  · obtain ⟨u8, u9, ha, hu, ud⟩ := h3
    exact ⟨by rw [e, u8], by rw [e, u9], ha, hu, fun j hj => day _ _ (ud j hj)⟩
  · obtain ⟨u1, hu, ud⟩ := h4
    exact ⟨by rw [e, u1], hu, fun j hj k hk => by rw [e]; exact ud j hj k hk⟩
  · rw [e]
    rcases h5 i hi with z | ⟨z1, z2, z3⟩
    · exact Or.inl z
    · exact Or.inr ⟨z1, z2, day _ _ z3⟩
  · obtain ⟨t1, t2, t3⟩ := hT
    unfold RT
    rw [e, e2]
    exact ⟨t1, t2, t3⟩
theorem Inv.setL {M : Mem} (h : Inv M) (n k : Nat) (v : Int64) : Inv (setL M n k v) := h.fst rfl rfl
def Two (f ft g : Mem → Option (Int32 × Mem)) : Prop := ∀ M, Inv M →
  (∃ r, f M = some (r, M) ∧ ∀ M1 : Mem, M1.1 = M.1 → Inv M1 → g M1 = some (r, setI M1 311 0 0)) ∨ (ft M = some (0, M) ∧ g M = some (0, setI M 311 0 1))
theorem set_1 (M : Mem) (x : Int32) : (setI M 311 0 x).1 311 0 = x := by rw [setI_1, if_pos ⟨rfl, rfl⟩]
theorem fr44 (x y z : Int32) (M : Mem) : f_X11_frame_b44 x y z 1 M = some (0, setI M 311 0 1) := by
  unfold f_X11_frame_b44
  simp only [bnd_e]
  rw [set_1, if_pos rfl]
theorem fr43 (x y z : Int32) (M : Mem) : f_X11_frame_b43 x y z M = some (0, setI M 311 0 1) := by
  unfold f_X11_frame_b43
  exact fr44 x y z M
theorem two_frame (x y z : Int32) : Two (f_X10_frame x y z) (f_X10_frameT x y z) (f_X11_frame x y z) := by
  intro M hI
  have h := hI.1
  have O := h.1.2.1
  have c4 := hI.c4
  rcases play_c h x with ⟨⟨p, hp, rfl⟩, e⟩ | ⟨c, e⟩
  · obtain ⟨g1, g2, g3⟩ := plc h (Near.refl M)
    obtain ⟨p1, p2, p3, p4, p5, p6, p7, p8, p9⟩ := plj h (Near.refl M) hp
    obtain ⟨-, t6, t7, t8, t9, -⟩ := tt_p h.1.1 p (by omega)
    obtain ⟨fn, f10⟩ := (O.2.2.2.2.2.2.1 p hp).2.2.2.2.2.1
    rw [fn] at p9
    have fb : Fn M p < 2 ^ 31 := by omega
    have iff0 := cnt_c (x := y) (n := Fn M p) fb
    have rg : ∀ M1 : Mem, M1.1 = M.1 → Inv M1 → f_X11_frame (nI p) y z M1 = if (¬ y < 0 ∧ y < nI (Fn M p)) ∧ (0 ≤ z ∧ z ≤ 3) then f_X11_frame_b44 (nI p) y z 0 M1 else some (0, setI M1 311 0 1) := by
      intro M1 e1 hI1
      rcases play_r hI1.1.1.2.1 (nI p) with ⟨-, e3⟩ | ⟨n, -⟩
      · unfold f_X11_frame
        rw [e3, cl_s, if_neg (by decide), gd_t (inb_nI (by omega) (by omega)), nI_clamp (by omega), e1, fn, within_n fb, cl_s]
        by_cases c1 : ¬ y < 0 ∧ y < nI (Fn M p)
        · rw [if_pos c1, if_neg (by decide), within_3, cl_s]
          by_cases c2 : 0 ≤ z ∧ z ≤ 3
          · rw [if_pos c2, if_neg (by decide), if_pos ⟨c1, c2⟩]
          · rw [if_neg c2, if_pos rfl, if_neg (fun w => c2 w.2)]
            exact fr43 _ _ _ _
        · rw [if_neg c1, if_pos rfl, if_neg (fun w => c1 w.1)]
          exact fr43 _ _ _ _
      · exact absurd ⟨p, by unfold Cn; rw [e1]; exact hp, rfl⟩ n
    by_cases c : (¬ y < 0 ∧ y < nI (Fn M p)) ∧ (0 ≤ z ∧ z ≤ 3)
    · left
      obtain ⟨k, hk, hy⟩ := iff0.mp c.1
      subst hy
      obtain ⟨u1, u2, u3, u4⟩ := (h.1.2.2.1.2.2.2.2.2.1 p hp).2.2.2.2.2.2 k hk
      refine ⟨if z = 0 then M.1 336 (10 * p + k) else if z = 1 then M.1 337 (10 * p + k) else if z = 2 then M.1 338 (10 * p + k) else M.1 339 (10 * p + k), ?_, fun M1 e1 hI1 => ?_⟩
      · have ib : inb (nI k) 10 := inb_nI (by omega) (by omega)
        unfold f_X10_frame
        simp only [bnd_e, gd_t ib]
        rw [e, cl_s, if_neg (by decide), if_neg c.1.1, gd_t g1, gd_t p1, p2, p9, if_neg (Int32.not_le.mpr c.1.2), if_neg (Int32.not_lt.mpr c.2.1), if_pos c.2.2, t6, t7, t8, t9, nI_clamp (by omega), u1, u2, u3, u4]
        rcases four_or.mp c.2 with y0 | y0 | y0 | y0 <;> rw [y0] <;> rfl
      · rw [rg M1 e1 hI1, if_pos c]
        unfold f_X11_frame_b44
        have ib : inb (nI (10 * p + k)) 160 := inb_nI (by omega) (by omega)
        have ix : 10 * nI p + nI k = nI (10 * p + k) := by rw [show (10 : Int32) = nI 10 from rfl, nI_mul', nI_add]
        simp only [bnd_e, ix, gd_t ib]
        rw [set_0, if_neg (by decide), nI_clamp (by omega)]
        have r : ∀ q, q ≠ 311 → ∀ j, (setI M1 311 0 0).1 q j = M.1 q j := fun q hq j => by rw [setI_1, if_neg (fun w => hq w.1), e1]
        rw [r 336 (by omega), r 337 (by omega), r 338 (by omega), r 339 (by omega)]
        rcases four_or.mp c.2 with y0 | y0 | y0 | y0 <;> rw [y0] <;> rfl
    · right
      refine ⟨?_, by rw [rg M rfl hI, if_neg c]⟩
      have th : f_X10_frameT_b37 M = some (0, M) := rfl
      unfold f_X10_frameT
      rw [e, cl_s, if_neg (by decide)]
      by_cases c1 : y < 0
      · rw [if_pos c1]; exact th
      rw [if_neg c1, gd_t g1, gd_t p1, p2, p9]
      by_cases c2 : nI (Fn M p) ≤ y
      · rw [if_pos c2]; exact th
      rw [if_neg c2]
      by_cases c3 : z < 0
      · rw [if_pos c3]; exact th
      rw [if_neg c3]
      by_cases c5 : z ≤ 3
      · exact absurd ⟨⟨c1, Int32.not_le.mp c2⟩, Int32.not_lt.mp c3, c5⟩ c
      · rw [if_neg c5]; exact th
  · right
    refine ⟨?_, ?_⟩
    · unfold f_X10_frameT
      rw [e, cl_s, if_pos rfl]
      rfl
    · rcases play_r O x with ⟨n, -⟩ | ⟨-, e3⟩
      · exact absurd n c
      · unfold f_X11_frame
        rw [e3, cl_s, if_pos rfl]
        exact fr43 _ _ _ _
theorem two_log (x y : Int32) : Two (f_X10_log x y) (f_X10_logT x y) (f_X11_log x y) := by
  intro M hI
  have R := hI.2.1
  obtain ⟨j, hj, R9, R49⟩ := R.2.2.2.2.1
  have jb : j < 2 ^ 31 := by omega
  have iff0 := cnt_c (x := x) (n := j) jb
  have b37 : ∀ M1 : Mem, f_X11_log_b37 x y 1 M1 = some (0, setI M1 311 0 1) := fun M1 => by
    unfold f_X11_log_b37
    simp only [bnd_e]
    rw [set_1, if_pos rfl]
  have rg : ∀ M1 : Mem, M1.1 = M.1 → f_X11_log x y M1 = if (¬ x < 0 ∧ x < nI j) ∧ (0 ≤ y ∧ y ≤ 3) then f_X11_log_b37 x y 0 M1 else some (0, setI M1 311 0 1) := by
    intro M1 e1
    unfold f_X11_log
    rw [e1, R49, within_n jb, cl_s]
    by_cases c1 : ¬ x < 0 ∧ x < nI j
    · rw [if_pos c1, if_neg (by decide), within_3, cl_s]
      by_cases c2 : 0 ≤ y ∧ y ≤ 3
      · rw [if_pos c2, if_neg (by decide), if_pos ⟨c1, c2⟩]
      · rw [if_neg c2, if_pos rfl, if_neg (fun w => c2 w.2)]
        exact b37 _
    · rw [if_neg c1, if_pos rfl, if_neg (fun w => c1 w.1)]
      exact b37 _
  have y4 : y < 4 ↔ y ≤ 3 := by
    rw [Int32.lt_iff_toInt_lt, Int32.le_iff_toInt_le, show (4 : Int32).toInt = 4 by decide, show (3 : Int32).toInt = 3 by decide]
    omega
  by_cases c : (¬ x < 0 ∧ x < nI j) ∧ (0 ≤ y ∧ y ≤ 3)
  · left
    obtain ⟨a, ha, hx⟩ := iff0.mp c.1
    subst hx
    obtain ⟨w, hw, hy⟩ := (rng_nI (x := y) (m := 3) (by omega)).mp c.2
    subst hy
    refine ⟨M.1 340 (50 + 4 * a + w), ?_, fun M1 e1 hI1 => ?_⟩
    · unfold f_X10_log
      have ix : nI a * 4 + nI w = nI (a * 4 + w) := by rw [show (4 : Int32) = nI 4 from rfl, nI_mul', nI_add]
      rw [R9, if_neg c.1.1, if_neg (Int32.not_le.mpr c.1.2), if_neg (Int32.not_lt.mpr c.2.1), if_pos (y4.mpr c.2.2), ix, gd_t (inb_nI (by omega) (by omega)), nI_clamp (by omega)]
      have hl := (R.2.2.2.2.2 (a * 4 + w) (by omega)).resolve_left (fun z => by rw [R9, nI_clamp (by omega)] at z; omega)
      rw [show (222 : Nat) = 217 + 5 from rfl, hl, show 50 + (a * 4 + w) = 50 + 4 * a + w by omega]
    · rw [rg M1 e1, if_pos c]
      unfold f_X11_log_b37
      have ix : (50 + 4 * nI a) + nI w = nI (50 + 4 * a + w) := by rw [show (4 : Int32) = nI 4 from rfl, nI_mul', show (50 : Int32) = nI 50 from rfl, nI_add, nI_add]
      simp only [bnd_e, ix]
      rw [set_0, if_neg (by decide), gd_t (inb_nI (by omega) (by omega)), nI_clamp (by omega), setI_1, if_neg (by omega), e1]
  · right
    refine ⟨?_, by rw [rg M rfl, if_neg c]⟩
    have th : f_X10_logT_b24 M = some (0, M) := rfl
    unfold f_X10_logT
    rw [R9]
    by_cases c1 : x < 0
    · rw [if_pos c1]; exact th
    rw [if_neg c1]
    by_cases c2 : nI j ≤ x
    · rw [if_pos c2]; exact th
    rw [if_neg c2]
    by_cases c3 : y < 0
    · rw [if_pos c3]; exact th
    rw [if_neg c3]
    by_cases c5 : y < 4
    · exact absurd ⟨⟨c1, Int32.not_le.mp c2⟩, Int32.not_lt.mp c3, y4.mp c5⟩ c
    · rw [if_neg c5]; exact th
theorem two_row (x : Int32) : Two (f_X10_row x) (f_X10_rowT x) (f_X11_row x) := by
  intro M hI
  obtain ⟨j, hj, R9, R49, Rk⟩ := hI.2.2.2.2.2.1
  have jb : j < 2 ^ 31 := by omega
  have iff0 := cnt_c (x := x) (n := j) jb
  have rg : ∀ M1 : Mem, M1.1 = M.1 → f_X11_row x M1 = if ¬ x < 0 ∧ x < nI j then f_X11_row_b22 x 0 M1 else some (0, setI M1 311 0 1) := by
    intro M1 e1
    unfold f_X11_row
    rw [e1, R49, within_n jb, cl_s]
    by_cases c1 : ¬ x < 0 ∧ x < nI j
    · rw [if_pos c1, if_neg (by decide), if_pos c1]
    · rw [if_neg c1, if_pos rfl, if_neg c1]
      unfold f_X11_row_b22
      simp only [bnd_e]
      rw [set_1, if_pos rfl]
  by_cases c : ¬ x < 0 ∧ x < nI j
  · left
    obtain ⟨a, ha, hx⟩ := iff0.mp c
    subst hx
    refine ⟨M.1 345 a, ?_, fun M1 e1 hI1 => ?_⟩
    · unfold f_X10_row
      rw [R9, if_neg c.1, if_pos c.2, gd_t (inb_nI (by omega) (by omega)), nI_clamp (by omega), Rk a ha]
    · rw [rg M1 e1, if_pos c]
      unfold f_X11_row_b22
      simp only [bnd_e]
      rw [set_0, if_neg (by decide), gd_t (inb_nI (by omega) (by omega)), nI_clamp (by omega), setI_1, if_neg (by omega), e1]
  · right
    refine ⟨?_, by rw [rg M rfl, if_neg c]⟩
    have th : f_X10_rowT_b12 M = some (0, M) := rfl
    unfold f_X10_rowT
    rw [R9]
    by_cases c1 : x < 0
    · rw [if_pos c1]; exact th
    rw [if_neg c1]
    by_cases c2 : x < nI j
    · exact absurd ⟨c1, c2⟩ c
    · rw [if_neg c2]; exact th
