theorem mod11 : ∀ j, j < 100 → ((nI j - nI j / 11 * 11 = 0) ↔ j % 11 = 0) := by decide +kernel
theorem n2 {a : Nat} : (nI a) + 2 = nI (a + 2) := by rw [show (2 : Int32) = nI 2 from rfl, nI_add]
theorem n3 {a : Nat} : (nI a) + 3 = nI (a + 3) := by rw [show (3 : Int32) = nI 3 from rfl, nI_add]
theorem n1 {a : Nat} : 1 + nI a = nI (1 + a) := by rw [show (1 : Int32) = nI 1 from rfl, nI_add]
theorem n6 {a : Nat} : 6 + nI a = nI (6 + a) := by rw [show (6 : Int32) = nI 6 from rfl, nI_add]
theorem m4 {a : Nat} : 4 * nI a = nI (4 * a) := by rw [show (4 : Int32) = nI 4 from rfl, nI_mul']
theorem m10 {a : Nat} : 10 * nI a = nI (10 * a) := by rw [show (10 : Int32) = nI 10 from rfl, nI_mul']
theorem m3 {a : Nat} : 3 * nI a = nI (3 * a) := by rw [show (3 : Int32) = nI 3 from rfl, nI_mul']
theorem lc_2 (M : Mem) (d : Nat → Int32) : f_X11_laysClocks (sA M 344 d) = f_X11_laysClocks_b36 fuel 0 (sA M 344 (dini d)) := by
  unfold f_X11_laysClocks f_X11_laysClocks_b2
  refine lp_for (fun j (f : Int32 → Mem → Option Mem) => f (nI j) (sA M 344 (fun i => if i < j then (if i % 11 = 0 then 0 else 100000000) else d i))) 100 _ (fun j hj f => ?_) (fun f => ?_) fuel (by decide)
  · show f_X11_laysClocks_b2_s f (nI j) _ = _
    unfold f_X11_laysClocks_b2_s f_X11_laysClocks_b27
    rw [if_neg (by rw [show (100 : Int32) = nI 100 from rfl]; exact nI_ge hj (by omega))]
    simp only [bnd_e]
    have hset : ∀ v, upd (fun i => if i < j then (if i % 11 = 0 then (0 : Int32) else 100000000) else d i) j v = fun i => if i < j + 1 then (if i = j then v else if i % 11 = 0 then 0 else 100000000) else d i := by
      intro v
      funext i
      show (if i = j then v else if i < j then (if i % 11 = 0 then (0 : Int32) else 100000000) else d i) = if i < j + 1 then (if i = j then v else if i % 11 = 0 then 0 else 100000000) else d i
      by_cases h : i = j
      · rw [if_pos h, if_pos (by omega), if_pos h]
      · rw [if_neg h]
        by_cases h2 : i < j
        · rw [if_pos h2, if_pos (show i < j + 1 by omega), if_neg h]
        · rw [if_neg h2, if_neg (show ¬ i < j + 1 by omega)]
    have hfin : ∀ v, (if j % 11 = 0 then (0 : Int32) else 100000000) = v → (fun i => if i < j + 1 then (if i = j then v else if i % 11 = 0 then 0 else 100000000) else d i) = fun i => if i < j + 1 then (if i % 11 = 0 then 0 else 100000000) else d i := by
      intro v hv
      funext i
      by_cases h : i = j
      · subst h
        rw [if_pos (Nat.lt_succ_self i), if_pos (Nat.lt_succ_self i), if_pos rfl, hv]
      · by_cases h2 : i < j + 1
        · rw [if_pos h2, if_pos h2, if_neg h]
        · rw [if_neg h2, if_neg h2]
    by_cases h : j % 11 = 0
    · rw [if_pos ((mod11 j hj).mpr h), gd_t (inb_nI (by omega) (by omega)), nI_clamp (by omega), sA_set, hset, hfin 0 (if_pos h), nI_1]
    · rw [if_neg (fun z => h ((mod11 j hj).mp z)), gd_t (inb_nI (by omega) (by omega)), nI_clamp (by omega), sA_set, hset, hfin 100000000 (if_neg h), nI_1]
  · show f_X11_laysClocks_b2_s f (nI 100) _ = _
    unfold f_X11_laysClocks_b2_s
    rw [if_pos (by decide)]
    rfl
theorem lc_36 {M : Mem} (O : MOk M) (d : Nat → Int32) : f_X11_laysClocks_b36 fuel 0 (sA M 344 d) = f_X11_laysClocks_b83 fuel 0 (sA M 344 (it (dcam M) (Cn M 0) d)) := by
  have h5 := O.1.1
  unfold f_X11_laysClocks_b36
  refine lp_for (fun j (f : Int32 → Mem → Option Mem) => f (nI j) (sA M 344 (it (dcam M) j d))) (Cn M 0) _ (fun j hj f => ?_) (fun f => ?_) fuel (by unfold fuel; omega)
  · show f_X11_laysClocks_b36_s f (nI j) (sA M 344 (it (dcam M) j d)) = f (nI (j + 1)) (sA M 344 (it (dcam M) (j + 1) d))
    unfold f_X11_laysClocks_b36_s
    rw [sA_n M _ 0 (by omega), h5.1, if_neg (nI_ge hj (by omega)), gd_t (inb_nI (by omega) (by omega)), nI_clamp (by omega), n1, sA_n M _ j (by omega), it_s]
    generalize it (dcam M) j d = g
    have e := atMost_f M g (a := 0) (b := 1 + j) (by omega) (by omega) (-(M.1 317 j))
    rw [show nI 0 = 0 from rfl] at e
    rw [e, clv_s, sA_n M _ j (by omega)]
    have e2 := atMost_f M (amd g (10 * 0 + (1 + j)) (-(M.1 317 j))) (a := 1 + j) (b := 0) (by omega) (by omega) (M.1 318 j)
    rw [show nI 0 = 0 from rfl] at e2
    rw [e2, clv_s, bnd_e, nI_1]
    rfl
  · show f_X11_laysClocks_b36_s f (nI (Cn M 0)) _ = _
    unfold f_X11_laysClocks_b36_s
    rw [sA_n M _ 0 (by omega), h5.1, if_pos (Int32.le_refl _)]
theorem lc_83 {M : Mem} (O : MOk M) (d : Nat → Int32) : f_X11_laysClocks_b83 fuel 0 (sA M 344 d) = some (sA M 344 (it (dfl M) (Cn M 5) d)) := by
  have h0 := O.1.1.2
  have h5 := O.1.2.2.2.2.2
  unfold f_X11_laysClocks_b83
  refine lp_for (fun j (f : Int32 → Mem → Option Mem) => f (nI j) (sA M 344 (it (dfl M) j d))) (Cn M 5) _ (fun j hj f => ?_) (fun f => ?_) fuel (by unfold fuel; omega)
  · show f_X11_laysClocks_b83_s f (nI j) (sA M 344 (it (dfl M) j d)) = f (nI (j + 1)) (sA M 344 (it (dfl M) (j + 1) d))
    obtain ⟨g1, g2, g3, e1, e2⟩ := flash_nat O hj
    unfold f_X11_laysClocks_b83_s
    simp only [bnd_e]
    rw [sA_n M _ 5 (by omega), h5.1, if_neg (nI_ge hj (by omega)), m4, n2, n3, show nI (4 * j) + 1 = nI (4 * j + 1) from nI_1 _, gd_t (inb_nI (by omega) (by omega)), gd_t (inb_nI (by omega) (by omega)), gd_t (inb_nI (by omega) (by omega)), gd_t (inb_nI (by omega) (by omega)), nI_clamp (by omega), nI_clamp (by omega), nI_clamp (by omega), nI_clamp (by omega)]
    simp only [sA_n M _ _ (show (319 : Nat) ≠ 344 by decide)]
    rw [e1, e2, n1, n1, it_s]
    generalize it (dfl M) j d = g
    rw [atMost_f M g (a := 1 + fj M j) (b := 1 + fi M j) (by omega) (by omega), clv_s, atMost_f M _ (a := 1 + fi M j) (b := 1 + fj M j) (by omega) (by omega), clv_s, nI_1]
    rfl
  · show f_X11_laysClocks_b83_s f (nI (Cn M 5)) _ = _
    unfold f_X11_laysClocks_b83_s
    rw [sA_n M _ 5 (by omega), h5.1, if_pos (Int32.le_refl _)]
theorem laysClocks_f {M : Mem} (O : MOk M) (d : Nat → Int32) : f_X11_laysClocks (sA M 344 d) = some (sA M 344 (dclk M d)) := by
  rw [lc_2, lc_36 O, lc_83 O]
  rfl
theorem lf_38 {M : Mem} (O : MOk M) {p k s : Nat} (hp : p < Cn M 4) (hk : k < Fn M p) (hs : s < 1024) (r6 : Int32 → Int32 → Int32 → Mem → Option Mem) (d : Nat → Int32) : f_X11_laysFrames_b38 r6 fuel (nI p) (nI s) (nI k) (nI (10 * p + k)) (nI (1 + qc M (10 * p + k))) 0 (sA M 344 d) = r6 (nI p) (nI s) (nI (k + 1)) (sA M 344 (dfr M p s k d)) := by
  have h0 := O.1.1.2
  have h4 := O.1.2.2.2.2.1.2
  have hF := (O.2.2.2.2.2.2.1 p hp).2.2.2.2.2.1
  obtain ⟨q1, -, q2, q3, q4, q5, q6⟩ := frame_nat O hp hk
  generalize hq : 10 * p + k = q at q1 q2 q3 q4 q5 q6 ⊢
  have hq160 : q < 160 := by omega
  unfold f_X11_laysFrames_b38 dfr
  by_cases hb : s.testBit k = true
  · rw [if_pos hb, hq]
    refine lp_for (fun j (f : Int32 → Int32 → Int32 → Int32 → Int32 → Int32 → Mem → Option Mem) => f (nI p) (nI s) (nI k) (nI q) (nI (1 + qc M q)) (nI j) (sA M 344 (it (dmk M q) j d))) 4 _ (fun j hj f => ?_) (fun f => ?_) fuel (by decide)
    · show f_X11_laysFrames_b38_s r6 f (nI p) (nI s) (nI k) (nI q) (nI (1 + qc M q)) (nI j) (sA M 344 (it (dmk M q) j d)) = f (nI p) (nI s) (nI k) (nI q) (nI (1 + qc M q)) (nI (j + 1)) (sA M 344 (it (dmk M q) (j + 1) d))
      unfold f_X11_laysFrames_b38_s f_X11_laysFrames_b85
      simp only [bnd_e]
      rw [if_neg (by rw [show (4 : Int32) = nI 4 from rfl]; exact nI_ge hj (by omega)), has_f (by omega) (by omega), cl_s, if_pos hb, if_neg (by decide), it_s, n6]
      generalize it (dmk M q) j d = g
      simp only [gd_t (inb_nI hq160 (show (160 : Nat) < 2 ^ 31 by omega)), nI_clamp (show q < 2 ^ 31 by omega), sA_n M _ q (show (338 : Nat) ≠ 344 by decide), q4]
      rw [has_f (by omega) (by omega), cl_s]
      unfold dmk
      by_cases b1 : (qs M q).testBit j = true
      · rw [if_pos b1, if_neg (by decide), sA_n M _ q (show (337 : Nat) ≠ 344 by decide), atMost_f M g (a := 1 + qc M q) (b := 6 + j) (by omega) (by omega), clv_s, if_pos b1, sA_n M _ q (show (339 : Nat) ≠ 344 by decide), q6, has_f (by omega) (by omega), cl_s]
        by_cases b2 : (qn M q).testBit j = true
        · rw [if_pos b2, if_neg (by decide), if_pos b2]
          simp only [sA_n M _ q (show (337 : Nat) ≠ 344 by decide)]
          rw [atMost_f M _ (a := 6 + j) (b := 1 + qc M q) (by omega) (by omega), clv_s, nI_1]
        · rw [if_neg b2, if_pos rfl, if_neg b2, nI_1]
      · rw [if_neg b1, if_pos rfl, if_neg b1]
        simp only [sA_n M _ q (show (339 : Nat) ≠ 344 by decide), q6]
        rw [has_f (by omega) (by omega), cl_s]
        by_cases b2 : (qn M q).testBit j = true
        · rw [if_pos b2, if_neg (by decide), if_pos b2]
          simp only [sA_n M _ q (show (337 : Nat) ≠ 344 by decide)]
          rw [atMost_f M _ (a := 6 + j) (b := 1 + qc M q) (by omega) (by omega), clv_s, nI_1]
        · rw [if_neg b2, if_pos rfl, if_neg b2, nI_1]
    · show f_X11_laysFrames_b38_s r6 f (nI p) (nI s) (nI k) (nI q) (nI (1 + qc M q)) (nI 4) _ = _
      unfold f_X11_laysFrames_b38_s
      rw [if_pos (by decide), bnd_e, nI_1]
  · rw [if_neg hb]
    refine lp_for (fun j (f : Int32 → Int32 → Int32 → Int32 → Int32 → Int32 → Mem → Option Mem) => f (nI p) (nI s) (nI k) (nI q) (nI (1 + qc M q)) (nI j) (sA M 344 d)) 0 _ (fun j hj f => absurd hj (Nat.not_lt_zero j)) (fun f => ?_) fuel (by decide)
    show f_X11_laysFrames_b38_s r6 f (nI p) (nI s) (nI k) (nI q) (nI (1 + qc M q)) (nI 0) _ = _
    unfold f_X11_laysFrames_b38_s
    rw [if_neg (by decide), has_f (by omega) (by omega), cl_s, if_neg hb, if_pos rfl, bnd_e, nI_1]
theorem lf_step {M : Mem} (O : MOk M) {p j s : Nat} (hp : p < Cn M 4) (hj : j < Fn M p) (hs : s < 1024) (f : Int32 → Int32 → Int32 → Mem → Option Mem) (g : Nat → Int32) : f_X11_laysFrames_b6_s f (nI p) (nI s) (nI j) (sA M 344 g) = f (nI p) (nI s) (nI (j + 1)) (sA M 344 (dfr M p s j g)) := by
  have h0 := O.1.1.2
  have h4 := O.1.2.2.2.2.1.2
  have hF := (O.2.2.2.2.2.2.1 p hp).2.2.2.2.2.1
  obtain ⟨-, q1, -⟩ := frame_nat O hp hj
  unfold f_X11_laysFrames_b6_s
  simp only [bnd_e]
  rw [gd_t (inb_nI (by omega) (by omega)), nI_clamp (by omega), sA_n M _ p (by omega), hF.1, if_neg (nI_ge hj (by omega)), i10, gd_t (inb_nI (by omega) (by omega)), nI_clamp (by omega), sA_n M _ _ (by omega), q1, n1, lf_38 O hp hj hs f]
theorem lf_end {M : Mem} (O : MOk M) {p s : Nat} (hp : p < Cn M 4) (f : Int32 → Int32 → Int32 → Mem → Option Mem) (g : Nat → Int32) : f_X11_laysFrames_b6_s f (nI p) (nI s) (nI (Fn M p)) (sA M 344 g) = some (sA M 344 g) := by
  have h4 := O.1.2.2.2.2.1.2
  have hF := (O.2.2.2.2.2.2.1 p hp).2.2.2.2.2.1
  unfold f_X11_laysFrames_b6_s
  rw [gd_t (inb_nI (by omega) (by omega)), nI_clamp (by omega), sA_n M _ p (by omega), hF.1, if_pos (Int32.le_refl _)]
theorem lf_6 {M : Mem} (O : MOk M) {p s : Nat} (hp : p < Cn M 4) (hs : s < 1024) (D : Nat → Int32) : f_X11_laysFrames_b6 fuel (nI p) (nI s) 0 (sA M 344 D) = some (sA M 344 (it (dfr M p s) (Fn M p) D)) := by
  have hF := (O.2.2.2.2.2.2.1 p hp).2.2.2.2.2.1.2
  have h := lp_for (z := fun _ _ _ _ => none) (s := f_X11_laysFrames_b6_s) (fun j (f : Int32 → Int32 → Int32 → Mem → Option Mem) => f (nI p) (nI s) (nI j) (sA M 344 (it (dfr M p s) j D))) (Fn M p) (some (sA M 344 (it (dfr M p s) (Fn M p) D))) (fun j hj f => by
    rw [it_s]; exact lf_step O hp hj hs f _) (fun f => lf_end O hp f _) fuel (by unfold fuel; omega)
  rw [it_0, nI_0] at h
  exact h
theorem laysFrames_f {M : Mem} (O : MOk M) {p s : Nat} (hp : p < Cn M 4) (hs : s < 1024) (d : Nat → Int32) : f_X11_laysFrames (nI p) (nI s) (sA M 344 d) = some (sA M 344 (dlay M p s d)) := by
  unfold f_X11_laysFrames dlay
  rw [laysClocks_f O, clv_s, lf_6 O hp hs]
