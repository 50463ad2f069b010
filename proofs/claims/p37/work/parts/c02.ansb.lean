/-! THE CLASS'S ANSWERS (p37): counts, plays, frames; what is out of range; the empty booth -/
theorem an_count1 {M : Mem} (h : HB M) : f_X10_count 1 M = some (nI (Cn M 5), M) := by
  have r := h.1.2.2.1.1.2.2.2.2.2
  have h5 := h.1.2.1.1.2.2.2.2.2.1
  have g : M.1 (M.2.2.1 64 2) 3 = nI (Cn M 5) := by rw [← h5, ← r]; rfl
  unfold f_X10_count
  rw [if_neg (by decide), if_pos rfl, gd_t (show shc (M.2.2.1 64 2) = 8 from tt_0 h.1.1), g]
theorem an_count5 {M : Mem} (h : HB M) : f_X10_count 5 M = some (nI (Cn M 4), M) := by
  obtain ⟨g1, g2, g3⟩ := plc h (Near.refl M)
  unfold f_X10_count
  rw [if_neg (by decide), if_neg (by decide), if_neg (by decide), if_neg (by decide), if_neg (by decide), if_pos rfl, gd_t g1, g2]
theorem an_play1 {M : Mem} (h : HB M) {p : Nat} (hp : p < Cn M 4) : f_X10_play (nI p) 1 M = some (M.1 331 p, M) := by
  obtain ⟨g1, g2, g3⟩ := plc h (Near.refl M)
  obtain ⟨p1, p2, p3, p4, p5, p6, p7, p8, p9⟩ := plj h (Near.refl M) hp
  unfold f_X10_play
  simp only [bnd_e]
  rw [play_y h hp, cl_s, if_neg (by decide), gd_t g1, gd_t p1, if_neg (by decide), if_pos trivial, p2, p5]
theorem an_play5 {M : Mem} (h : HB M) {p : Nat} (hp : p < Cn M 4) : f_X10_play (nI p) 5 M = some (nI (Fn M p), M) := by
  obtain ⟨g1, g2, g3⟩ := plc h (Near.refl M)
  obtain ⟨p1, p2, p3, p4, p5, p6, p7, p8, p9⟩ := plj h (Near.refl M) hp
  obtain ⟨fn, f10⟩ := (h.1.2.1.2.2.2.2.2.2.1 p hp).2.2.2.2.2.1
  unfold f_X10_play
  simp only [bnd_e]
  rw [play_y h hp, cl_s, if_neg (by decide), gd_t g1, gd_t p1, if_neg (by decide), if_neg (by decide), if_neg (by decide), if_neg (by decide), if_neg (by decide), if_pos trivial, p2, p9, fn]
theorem an_frame {M : Mem} (h : HB M) {p k : Nat} (hp : p < Cn M 4) (hk : k < Fn M p) :
    f_X10_frame (nI p) (nI k) 0 M = some (M.1 336 (10 * p + k), M) ∧ f_X10_frame (nI p) (nI k) 1 M = some (M.1 337 (10 * p + k), M) ∧ f_X10_frame (nI p) (nI k) 2 M = some (M.1 338 (10 * p + k), M) ∧ f_X10_frame (nI p) (nI k) 3 M = some (M.1 339 (10 * p + k), M) := by
  have c4 := h.1.2.1.1.2.2.2.2.1.2
  obtain ⟨g1, g2, g3⟩ := plc h (Near.refl M)
  obtain ⟨p1, p2, p3, p4, p5, p6, p7, p8, p9⟩ := plj h (Near.refl M) hp
  obtain ⟨-, t6, t7, t8, t9, -⟩ := tt_p h.1.1 p (by omega)
  obtain ⟨fn, f10⟩ := (h.1.2.1.2.2.2.2.2.2.1 p hp).2.2.2.2.2.1
  rw [fn] at p9
  obtain ⟨u1, u2, u3, u4⟩ := (h.1.2.2.1.2.2.2.2.2.1 p hp).2.2.2.2.2.2 k hk
  have ib : inb (nI k) 10 := inb_nI (by omega) (by omega)
  have c := (cnt_c (x := nI k) (n := Fn M p) (by omega)).mpr ⟨k, hk, rfl⟩
  have key : ∀ z : Int32, 0 ≤ z ∧ z ≤ 3 → f_X10_frame (nI p) (nI k) z M = if z = 0 then some (M.1 336 (10 * p + k), M) else if z = 1 then some (M.1 337 (10 * p + k), M) else if z = 2 then some (M.1 338 (10 * p + k), M) else some (M.1 339 (10 * p + k), M) := fun z hz => by
    unfold f_X10_frame
    simp only [bnd_e, gd_t ib]
    rw [play_y h hp, cl_s, if_neg (by decide), if_neg c.1, gd_t g1, gd_t p1, p2, p9, if_neg (Int32.not_le.mpr c.2), if_neg (Int32.not_lt.mpr hz.1), if_pos hz.2, t6, t7, t8, t9, nI_clamp (by omega), u1, u2, u3, u4]
  exact ⟨key 0 (by decide), key 1 (by decide), key 2 (by decide), key 3 (by decide)⟩
theorem not_isP {M : Mem} (h : HB M) {k : Nat} (hk : k < 2 ^ 31) (h2 : Cn M 4 ≤ k) : ¬ IsP M (nI k) := by
  have c4 := h.1.2.1.1.2.2.2.2.1.2
  rintro ⟨p, hp, e⟩
  have := inj_nI hk (show p < 2 ^ 31 by omega) e
  omega
theorem an_fewest99 {M : Mem} (h : HB M) : f_X10_fewest 99 M = some (-1, M) := by
  have c4 := h.1.2.1.1.2.2.2.2.1.2
  have e := play_n h (not_isP h (k := 99) (by omega) (by omega))
  have e' : f_X10_isPlay 99 M = some (0, M) := e
  unfold f_X10_fewest
  rw [e', cl_s, if_pos rfl]
theorem an_verdictE {M : Mem} (h : HB M) (h0 : Cn M 4 = 0) (y : Int32) : f_X10_verdict 0 y M = some (-1, M) := by
  have e := play_n h (not_isP h (k := 0) (by omega) (by omega))
  have e' : f_X10_isPlay 0 M = some (0, M) := e
  unfold f_X10_verdict
  rw [e', cl_s, if_pos rfl]
theorem an_gapE {M : Mem} (h : HB M) (h0 : Cn M 4 = 0) (y z w : Int32) : f_X10_gap 0 y z w M = some (3000000, M) := by
  have e := play_n h (not_isP h (k := 0) (by omega) (by omega))
  have e' : f_X10_isPlay 0 M = some (0, M) := e
  unfold f_X10_gap
  rw [e', cl_s, if_pos rfl]
theorem an_wrongE {M : Mem} (h : HB M) (h0 : Cn M 4 = 0) : f_X10_wrong M = some (0, M) := by
  obtain ⟨g1, g2, g3⟩ := plc h (Near.refl M)
  rw [h0] at g2
  have : f_X10_wrong_b4 fuel 0 0 M = f_X10_wrong_b4_s (f_X10_wrong_b4 4999) 0 0 M := rfl
  unfold f_X10_wrong
  rw [this]
  unfold f_X10_wrong_b4_s
  rw [gd_t g1, g2, if_pos (by decide)]
theorem an_verdict11 {M : Mem} (h : HB M) {p : Nat} (hp : p < Cn M 4) : AnV M (f_X10_verdict (nI p) 11) (fun r => r = -1) := by
  obtain ⟨fn, f10⟩ := (h.1.2.1.2.2.2.2.2.2.1 p hp).2.2.2.2.2.1
  obtain ⟨r, M1, e, v, h1, o⟩ := an_verdict h hp 11
  refine ⟨r, M1, e, ?_, h1, o⟩
  rcases v with ⟨-, v⟩ | ⟨j, hj, e2, -⟩
  · exact v
  · have e2' : nI 11 = nI j := e2
    have := inj_nI (by omega) (by omega) e2'
    omega
theorem an_by8 {M : Mem} (h : HB M) (h3 : Cn M 0 = 3) {p : Nat} (hp : p < Cn M 4) : AnV M (f_X10_by (nI p) 8) (fun r => r = -1) := by
  obtain ⟨r, M1, e, v, h1, o⟩ := an_by h hp 8
  refine ⟨r, M1, e, ?_, h1, o⟩
  rcases v with ⟨-, v⟩ | ⟨j, hj, e2, -⟩
  · exact v
  · have e2' : nI 8 = nI j := e2
    rw [h3] at hj
    have : j ≤ 7 := hj
    have := inj_nI (by omega) (by omega) e2'
    omega
theorem an_camera3 {M : Mem} (h : HB M) (h3 : Cn M 0 = 3) : AnV M (f_X10_camera 3 0) (fun r => r = -1) := by
  obtain ⟨r, M1, e, v, h1, o⟩ := an_camera h 3 0
  refine ⟨r, M1, e, ?_, h1, o⟩
  rcases v with ⟨-, v⟩ | ⟨c, hc, e2, -⟩
  · exact v
  · have e2' : nI 3 = nI c := e2
    have := inj_nI (by omega) (by omega) e2'
    omega
theorem an_camera01 {M : Mem} (h : HB M) {c : Nat} (hc : c < Cn M 0) : AnV M (f_X10_camera (nI c) 0) (fun r => r = M.1 317 c) ∧ AnV M (f_X10_camera (nI c) 1) (fun r => r = M.1 318 c) ∧ AnV M (f_X10_camera (nI c) 2) (CamV (CC M) 0 (1 + c) True) ∧ AnV M (f_X10_camera (nI c) 3) (CamV (CC M) (1 + c) 0 False) := by
  have h0 := h.1.2.1.1.1.2
  have pick : ∀ {y r : Int32}, (y = 0 ∨ y = 1 ∨ y = 2 ∨ y = 3) → CamA M (nI c) y r → (y = 0 ∧ r = M.1 317 c) ∨ (y = 1 ∧ r = M.1 318 c) ∨ (y = 2 ∧ CamV (CC M) 0 (1 + c) True r) ∨ (y = 3 ∧ CamV (CC M) (1 + c) 0 False r) := fun hy v => by
    rcases v with ⟨n, -⟩ | ⟨c', hc', e, w⟩
    · exact absurd ⟨⟨c, hc, rfl⟩, hy⟩ n
    · have := inj_nI (by omega) (by omega) e
      rw [← this] at w
      exact w
  refine ⟨?_, ?_, ?_, ?_⟩
  · obtain ⟨r, M1, e, v, h1, o⟩ := an_camera h (nI c) 0
    refine ⟨r, M1, e, ?_, h1, o⟩
    rcases pick (Or.inl rfl) v with ⟨_, w⟩ | ⟨w, _⟩ | ⟨w, _⟩ | ⟨w, _⟩
    · exact w
    · exact absurd w (by decide)
    · exact absurd w (by decide)
    · exact absurd w (by decide)
  · obtain ⟨r, M1, e, v, h1, o⟩ := an_camera h (nI c) 1
    refine ⟨r, M1, e, ?_, h1, o⟩
    rcases pick (Or.inr (Or.inl rfl)) v with ⟨w, _⟩ | ⟨_, w⟩ | ⟨w, _⟩ | ⟨w, _⟩
    · exact absurd w (by decide)
    · exact w
    · exact absurd w (by decide)
    · exact absurd w (by decide)
  · obtain ⟨r, M1, e, v, h1, o⟩ := an_camera h (nI c) 2
    refine ⟨r, M1, e, ?_, h1, o⟩
    rcases pick (Or.inr (Or.inr (Or.inl rfl))) v with ⟨w, _⟩ | ⟨w, _⟩ | ⟨_, w⟩ | ⟨w, _⟩
    · exact absurd w (by decide)
    · exact absurd w (by decide)
    · exact w
    · exact absurd w (by decide)
  · obtain ⟨r, M1, e, v, h1, o⟩ := an_camera h (nI c) 3
    refine ⟨r, M1, e, ?_, h1, o⟩
    rcases pick (Or.inr (Or.inr (Or.inr rfl))) v with ⟨w, _⟩ | ⟨w, _⟩ | ⟨w, _⟩ | ⟨_, w⟩
    · exact absurd w (by decide)
    · exact absurd w (by decide)
    · exact absurd w (by decide)
    · exact w
