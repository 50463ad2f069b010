/-! ENOUGH CAMERAS and FEWEST LEFT OUT, searched by both -/
theorem v3_iff {M : Mem} (O : MOk M) {p s : Nat} (hp : p < Cn M 4) (hs : s < 1024) : vq M p s = 3 ↔ Neg (CK M p s) := by
  obtain ⟨d', -, h⟩ := vq_ref O hp hs
  constructor
  · intro e
    rw [e] at h
    rcases h with ⟨h, -⟩ | ⟨-, -, h⟩ | ⟨-, -, -, h⟩ | ⟨-, -, -, h⟩
    · exact h
    · exact absurd h (by decide)
    · exact absurd h (by decide)
    · exact absurd h (by decide)
  · intro n
    rcases h with ⟨-, e⟩ | ⟨h, -⟩ | ⟨h, -⟩ | ⟨h, -⟩
    · exact e
    · exact absurd n h
    · exact absurd n h
    · exact absurd n h
theorem sure_vq {M M1 : Mem} {T p s : Nat} (h : TB M T) (o : OffJ M M1) (hp : p < Cn M 4) (hs : s < 1024) : ∃ M', f_X4_sureOf T (T + 31 + 5 * p) (nI s) M1 = some (213, M') ∧ OffJ M M' ∧ ((M'.1 213 1 = 0 ∧ vq M p s ≠ 3) ∨ (M'.1 213 1 = 1 ∧ vq M p s = 3)) := by
  obtain ⟨bc1, -, bc2, -⟩ := b_cells
  obtain ⟨hT, O, R, B⟩ := h.offJ o
  obtain ⟨M', e, S⟩ := sureOf_f O hT R B (p := p) (s := s) (by rw [Cn_dat o.dat]; exact hp) hs
  have o1 : OffJ M1 M' := ⟨S.2.2.1, fun a ha => S.2.2.2 a (by omega) (by rw [bc2]; omega)⟩
  refine ⟨M', e, o.tr o1, ?_⟩
  rw [CK_dat o.dat] at S
  rcases S.2.1 with ⟨b0, -, t⟩ | ⟨b0, n⟩
  · exact Or.inl ⟨b0, fun z => t.noneg S.1.1 ((v3_iff h.2.1 hp hs).mp z)⟩
  · exact Or.inr ⟨b0, (v3_iff h.2.1 hp hs).mpr n⟩
def mk (M : Mem) (p s : Nat) : Nat := msk (Fn M p) (nI s ^^^ (-1))
theorem mk_lt {M : Mem} (O : MOk M) {p : Nat} (hp : p < Cn M 4) (s : Nat) : mk M p s < 1024 := by
  have hF := (O.2.2.2.2.2.2.1 p hp).2.2.2.2.2.1.2
  have := msk_lt hF (nI s ^^^ (-1))
  have := two_le hF
  unfold mk
  omega
theorem mk_all : ∀ n, n ≤ 10 → msk n (nI (2 ^ n - 1) ^^^ (-1)) = 0 := by decide +kernel
theorem Cn0_le {M : Mem} (O : MOk M) : 2 ^ Cn M 0 ≤ 1024 := two_le (by have := O.1.1.2; omega)
theorem eno_36 {M : Mem} (O : MOk M) {p : Nat} (hp : p < Cn M 4) (v : Int32) (d : Nat → Int32) {k : Nat} (hk : k < 2 ^ Cn M 0) (hP : vq M p (foA M p k) = v) : ∃ m d', f_X11_enough_b36 fuel (nI p) v (-1) 0 (sA M 344 d) = some (nI m, sA M 344 d') ∧ Best (2 ^ Cn M 0) (fun s => vq M p (foA M p s) = v) m := by
  have h0 := O.1.1
  have h2 := Cn0_le O
  have al : ∀ d, (sA M 344 d).1 313 0 = nI (Cn M 0) := fun d => by rw [sA_n M d 0 (by omega), h0.1]
  have h1 : 1 ≤ 2 ^ Cn M 0 := Nat.one_le_two_pow
  have hl := lp_inv (z := fun _ _ _ _ _ => none) (s := f_X11_enough_b36_s) (fun j (x : Int32 × (Nat → Int32)) (f : Int32 → Int32 → Int32 → Int32 → Mem → Option (Int32 × Mem)) => f (nI p) v x.1 (nI j) (sA M 344 x.2)) (fun j x => BF j (fun s => vq M p (foA M p s) = v) x.1) (fun r => ∃ m d', r = some (nI m, sA M 344 d') ∧ Best (2 ^ Cn M 0) (fun s => vq M p (foA M p s) = v) m) (2 ^ Cn M 0) (fun j hj x hx f => by
    refine Or.inr ?_
    show ∃ x' : Int32 × (Nat → Int32), BF (j + 1) (fun s => vq M p (foA M p s) = v) x'.1 ∧ f_X11_enough_b36_s f (nI p) v x.1 (nI j) (sA M 344 x.2) = f (nI p) v x'.1 (nI (j + 1)) (sA M 344 x'.2)
    unfold f_X11_enough_b36_s
    rw [al, one_nI _ (by omega), if_neg (nI_ge hj (by omega))]
    rcases bf_few (by omega) hx (sA M 344 x.2) with ⟨e, y1, y2⟩ | ⟨e, y⟩
    · rw [e, cl_s, if_neg (by decide)]
      obtain ⟨d', ev⟩ := vq_A O hp (foA_lt O hp j) x.2
      rw [framesA_ref O hp (show j < 1024 by omega), cl_s, ev, cl_s]
      by_cases c : vq M p (foA M p j) = v
      · exact ⟨(nI j, d'), y1 c, by rw [if_pos c, bnd_e, nI_1]⟩
      · exact ⟨(x.1, d'), y2 c, by rw [if_neg c, bnd_e, nI_1]⟩
    · exact ⟨(x.1, x.2), y, by rw [e, cl_s, if_pos rfl, bnd_e, nI_1]⟩) (fun x hx f => by
    obtain ⟨m, e, hb⟩ := BF.best hx hk hP
    refine ⟨m, x.2, ?_, hb⟩
    show f_X11_enough_b36_s f (nI p) v x.1 (nI (2 ^ Cn M 0)) (sA M 344 x.2) = _
    unfold f_X11_enough_b36_s
    rw [al, one_nI _ (by omega), if_pos (Int32.le_refl _), e]) fuel (by unfold fuel; omega) (-1, d) (bf_0 _)
  exact hl
theorem men_32 {M : Mem} (O : MOk M) {p : Nat} (hp : p < Cn M 4) (d : Nat → Int32) {k : Nat} (hk : k < 2 ^ Fn M p) (hP : vq M p (mk M p k) ≠ 3) : ∃ m d', f_X11_mend_b32 fuel (nI p) (-1) 0 (sA M 344 d) = some (nI m, sA M 344 d') ∧ Best (2 ^ Fn M p) (fun s => vq M p (mk M p s) ≠ 3) m := by
  have hF := (O.2.2.2.2.2.2.1 p hp).2.2.2.2.2.1.2
  have h2 := two_le hF
  have h1 : 1 ≤ 2 ^ Fn M p := Nat.one_le_two_pow
  have al : ∀ d, f_X11_allFrames (nI p) (sA M 344 d) = some (nI (2 ^ Fn M p - 1), sA M 344 d) := fun d => by
    have := all_f (O.dat (sA_dat M d)) (by rw [Cn_dat (sA_dat M d)]; exact hp)
    rw [Fn_dat (sA_dat M d)] at this
    exact this
  have hl := lp_inv (z := fun _ _ _ _ => none) (s := f_X11_mend_b32_s) (fun j (x : Int32 × (Nat → Int32)) (f : Int32 → Int32 → Int32 → Mem → Option (Int32 × Mem)) => f (nI p) x.1 (nI j) (sA M 344 x.2)) (fun j x => BF j (fun s => vq M p (mk M p s) ≠ 3) x.1) (fun r => ∃ m d', r = some (nI m, sA M 344 d') ∧ Best (2 ^ Fn M p) (fun s => vq M p (mk M p s) ≠ 3) m) (2 ^ Fn M p) (fun j hj x hx f => by
    refine Or.inr ?_
    show ∃ x' : Int32 × (Nat → Int32), BF (j + 1) (fun s => vq M p (mk M p s) ≠ 3) x'.1 ∧ f_X11_mend_b32_s f (nI p) x.1 (nI j) (sA M 344 x.2) = f (nI p) x'.1 (nI (j + 1)) (sA M 344 x'.2)
    unfold f_X11_mend_b32_s
    rw [al, cl_s, if_neg (by rw [lt_nI (by omega) (by omega)]; omega)]
    rcases bf_few (by omega) hx (sA M 344 x.2) with ⟨e, y1, y2⟩ | ⟨e, y⟩
    · rw [e, cl_s, if_neg (by decide)]
      obtain ⟨d', ev⟩ := vq_A O hp (mk_lt O hp j) x.2
      rw [al, cl_s, msk_e]
      unfold mk at ev y1 y2
      rw [ev, cl_s]
      by_cases c : vq M p (msk (Fn M p) (nI j ^^^ -1)) = 3
      · exact ⟨(x.1, d'), y2 (fun z => z c), by rw [if_pos c, bnd_e, nI_1]⟩
      · exact ⟨(nI j, d'), y1 c, by rw [if_neg c, bnd_e, nI_1]⟩
    · exact ⟨(x.1, x.2), y, by rw [e, cl_s, if_pos rfl, bnd_e, nI_1]⟩) (fun x hx f => by
    obtain ⟨m, e, hb⟩ := BF.best hx hk hP
    refine ⟨m, x.2, ?_, hb⟩
    show f_X11_mend_b32_s f (nI p) x.1 (nI (2 ^ Fn M p)) (sA M 344 x.2) = _
    unfold f_X11_mend_b32_s
    rw [al, cl_s, if_pos (by rw [lt_nI (by omega) (by omega)]; omega), e]) fuel (by unfold fuel; omega) (-1, d) (bf_0 _)
  exact hl
theorem cse_26 {M : Mem} {T p : Nat} (h : TB M T) (hp : p < Cn M 4) (v : Int32) {M1 : Mem} (o : OffJ M M1) (hP : vq M p (foA M p (2 ^ Cn M 0 - 1)) = v) : ∃ m M', f_X4_fewestCameras_b30 fuel T (T + 31 + 5 * p) v (nI (2 ^ Cn M 0 - 1)) 0 M1 = some (nI m, M') ∧ OffJ M M' ∧ Best (2 ^ Cn M 0) (fun s => vq M p (foA M p s) = v) m := by
  have O := h.2.1
  have hT := h.1
  have h4 := O.1.2.2.2.2.1.2
  have hF := (O.2.2.2.2.2.2.1 p hp).2.2.2.2.2.1
  have h0 := O.1.1
  have h2 := Cn0_le O
  have h1 : 1 ≤ 2 ^ Cn M 0 := Nat.one_le_two_pow
  obtain ⟨pa1, pa2⟩ := pc_all (Cn M 0) (by omega)
  obtain ⟨t1, t2, t3, t4, t5, t6⟩ := tt_p hT p (by omega)
  have r5 := h.2.2.1.1.1
  have ec := (tt_c hT).2.1
  have rd : ∀ M2, OffJ M M2 → M2.1 T 0 = nI (Cn M 0) := fun M2 o2 => by rw [o2.2 _ (by omega), r5, h0.1]
  have hl := lp_inv (z := fun _ _ _ _ _ _ => none) (s := f_X4_fewestCameras_b30_s) (fun j (M2 : Mem) (f : Nat → Nat → Int32 → Int32 → Int32 → Mem → Option (Int32 × Mem)) => f T (T + 31 + 5 * p) v (nI (2 ^ Cn M 0 - 1)) (nI j) M2) (fun j M2 => OffJ M M2 ∧ ∀ k, k < 2 ^ Cn M 0 → vq M p (foA M p k) = v → j ≤ pc k) (fun r => ∃ m M', r = some (nI m, M') ∧ OffJ M M' ∧ Best (2 ^ Cn M 0) (fun s => vq M p (foA M p s) = v) m) (Cn M 0) (fun j hj M2 hM f => by
    show (∃ m M', f_X4_fewestCameras_b30_s f T (T + 31 + 5 * p) v (nI (2 ^ Cn M 0 - 1)) (nI j) M2 = some (nI m, M') ∧ _) ∨ ∃ M', _ ∧ f_X4_fewestCameras_b30_s f T (T + 31 + 5 * p) v (nI (2 ^ Cn M 0 - 1)) (nI j) M2 = f T (T + 31 + 5 * p) v (nI (2 ^ Cn M 0 - 1)) (nI (j + 1)) M'
    unfold f_X4_fewestCameras_b30_s
    rw [gd_t (tt_0 hT), rd M2 hM.1, if_neg (nI_ge hj (by omega))]
    have hi := lp_inv (z := fun _ _ _ _ _ _ _ => none) (s := f_X4_fewestCameras_b42_s f) (fun i (M3 : Mem) (g : Nat → Nat → Int32 → Int32 → Int32 → Int32 → Mem → Option (Int32 × Mem)) => g T (T + 31 + 5 * p) v (nI (2 ^ Cn M 0 - 1)) (nI j) (nI i) M3) (fun i M3 => OffJ M M3 ∧ ∀ k, k < i → vq M p (foA M p k) = v → pc k ≠ j) (fun r => (∃ m M', r = some (nI m, M') ∧ OffJ M M' ∧ Best (2 ^ Cn M 0) (fun s => vq M p (foA M p s) = v) m) ∨ ∃ M', (OffJ M M' ∧ ∀ k, k < 2 ^ Cn M 0 → vq M p (foA M p k) = v → j + 1 ≤ pc k) ∧ r = f T (T + 31 + 5 * p) v (nI (2 ^ Cn M 0 - 1)) (nI (j + 1)) M') (2 ^ Cn M 0) (fun i hi M3 h3 g => by
      show ((∃ m M', f_X4_fewestCameras_b42_s f g T (T + 31 + 5 * p) v (nI (2 ^ Cn M 0 - 1)) (nI j) (nI i) M3 = some (nI m, M') ∧ _) ∨ _) ∨ ∃ M', _ ∧ f_X4_fewestCameras_b42_s f g T (T + 31 + 5 * p) v (nI (2 ^ Cn M 0 - 1)) (nI j) (nI i) M3 = g T (T + 31 + 5 * p) v (nI (2 ^ Cn M 0 - 1)) (nI j) (nI (i + 1)) M'
      have ext : ∀ M4, OffJ M M4 → (vq M p (foA M p i) = v → pc i ≠ j) → OffJ M M4 ∧ ∀ k, k < i + 1 → vq M p (foA M p k) = v → pc k ≠ j := fun M4 o4 hn => ⟨o4, fun k hk hv => by
        rcases Nat.lt_or_ge k i with c | c
        · exact h3.2 k c hv
        · rw [show k = i by omega] at hv ⊢; exact hn hv⟩
      have ev : f_X4_fewestCameras_b42_s f g T (T + 31 + 5 * p) v (nI (2 ^ Cn M 0 - 1)) (nI j) (nI i) M3 = if nI (pc i) = nI j then cl (f_X6_framesOf (T + 31 + 5 * p) (nI i) M3) (fun r1 M1m => cl (f_X4_byFrames T (T + 31 + 5 * p) r1 M1m) (fun r2 M2m => if r2 = v then some (nI i, M2m) else g T (T + 31 + 5 * p) v (nI (2 ^ Cn M 0 - 1)) (nI j) (nI (i + 1)) M2m)) else g T (T + 31 + 5 * p) v (nI (2 ^ Cn M 0 - 1)) (nI j) (nI (i + 1)) M3 := by
        unfold f_X4_fewestCameras_b42_s
        simp only [bnd_e]
        rw [if_neg (by rw [lt_nI (by omega) (by omega)]; omega), bitCount_f (by omega), cl_s, nI_1, gd_t t6]
      rw [ev]
      have pi := pc_lt i (by omega)
      by_cases c : pc i = j
      · obtain ⟨M4, e4, o4⟩ := vq_J h h3.1 hp (foA_lt O hp i)
        rw [if_pos (by rw [c]), framesJ_cls h h3.1 hp (by omega), cl_s, e4, cl_s]
        by_cases c2 : vq M p (foA M p i) = v
        · rw [if_pos c2]
          refine Or.inl (Or.inl ⟨i, M4, rfl, o4, hi, c2, fun k hk hv => ?_⟩)
          have a1 := hM.2 k hk hv
          rcases Nat.lt_or_ge k i with z | z
          · have := h3.2 k z hv
            omega
          · omega
        · rw [if_neg c2]
          exact Or.inr ⟨M4, ext M4 o4 (fun z => absurd z c2), rfl⟩
      · rw [if_neg (fun z => c (by
          have := congrArg Int32.toInt z
          rw [nI_toInt (by omega), nI_toInt (by omega)] at this
          omega))]
        exact Or.inr ⟨M3, ext M3 h3.1 (fun _ => c), rfl⟩) (fun M3 h3 g => by
      refine Or.inr ⟨M3, ⟨h3.1, fun k hk hv => ?_⟩, ?_⟩
      · have a1 := hM.2 k hk hv
        have a2 := h3.2 k hk hv
        omega
      · show f_X4_fewestCameras_b42_s f g T (T + 31 + 5 * p) v (nI (2 ^ Cn M 0 - 1)) (nI j) (nI (2 ^ Cn M 0)) M3 = _
        unfold f_X4_fewestCameras_b42_s
        rw [if_pos (by rw [lt_nI (by omega) (by omega)]; omega), bnd_e, nI_1]) fuel (by unfold fuel; omega) M2 ⟨hM.1, fun k hk => absurd hk (Nat.not_lt_zero k)⟩
    exact hi) (fun M2 hM f => by
    refine ⟨2 ^ Cn M 0 - 1, M2, ?_, hM.1, by omega, hP, fun k hk hv => ?_⟩
    · show f_X4_fewestCameras_b30_s f T (T + 31 + 5 * p) v (nI (2 ^ Cn M 0 - 1)) (nI (Cn M 0)) M2 = _
      unfold f_X4_fewestCameras_b30_s
      rw [gd_t (tt_0 hT), rd M2 hM.1, if_pos (Int32.le_refl _)]
    · have a1 := hM.2 k hk hv
      rcases pa2 k hk with z | z
      · rw [z]; exact Or.inr ⟨rfl, Nat.le_refl _⟩
      · omega) fuel (by unfold fuel; omega) M1 ⟨o, fun k _ _ => Nat.zero_le _⟩
  exact hl
theorem csl_21 {M : Mem} {T p : Nat} (h : TB M T) (hp : p < Cn M 4) {M1 : Mem} (o : OffJ M M1) (hP : vq M p (mk M p (2 ^ Fn M p - 1)) ≠ 3) : ∃ m M', f_X4_searchLeftOut_b21 fuel T (T + 31 + 5 * p) (nI (2 ^ Fn M p - 1)) 0 M1 = some (nI m, M') ∧ OffJ M M' ∧ Best (2 ^ Fn M p) (fun s => vq M p (mk M p s) ≠ 3) m := by
  have O := h.2.1
  have hT := h.1
  have h4 := O.1.2.2.2.2.1.2
  have hF := (O.2.2.2.2.2.2.1 p hp).2.2.2.2.2.1
  have h2 := two_le hF.2
  have h1 : 1 ≤ 2 ^ Fn M p := Nat.one_le_two_pow
  obtain ⟨pa1, pa2⟩ := pc_all _ hF.2
  obtain ⟨t1, t2, t3, t4, t5, t6⟩ := tt_p hT p (by omega)
  have r5 := (h.2.2.1.2.2.2.2.2.1 p hp).2.2.2.2.2.1
  have ec := (tt_c hT).2.1
  have rd : ∀ M2, OffJ M M2 → M2.1 (T + 31 + 5 * p) 5 = nI (Fn M p) := fun M2 o2 => by rw [o2.2 _ (by omega), r5, hF.1]
  have hl := lp_inv (z := fun _ _ _ _ _ => none) (s := f_X4_searchLeftOut_b21_s) (fun j (M2 : Mem) (f : Nat → Nat → Int32 → Int32 → Mem → Option (Int32 × Mem)) => f T (T + 31 + 5 * p) (nI (2 ^ Fn M p - 1)) (nI j) M2) (fun j M2 => OffJ M M2 ∧ ∀ k, k < 2 ^ Fn M p → vq M p (mk M p k) ≠ 3 → j ≤ pc k) (fun r => ∃ m M', r = some (nI m, M') ∧ OffJ M M' ∧ Best (2 ^ Fn M p) (fun s => vq M p (mk M p s) ≠ 3) m) (Fn M p) (fun j hj M2 hM f => by
    show (∃ m M', f_X4_searchLeftOut_b21_s f T (T + 31 + 5 * p) (nI (2 ^ Fn M p - 1)) (nI j) M2 = some (nI m, M') ∧ _) ∨ ∃ M', _ ∧ f_X4_searchLeftOut_b21_s f T (T + 31 + 5 * p) (nI (2 ^ Fn M p - 1)) (nI j) M2 = f T (T + 31 + 5 * p) (nI (2 ^ Fn M p - 1)) (nI (j + 1)) M'
    unfold f_X4_searchLeftOut_b21_s
    rw [gd_t t6, rd M2 hM.1, if_neg (nI_ge hj (by omega))]
    have hi := lp_inv (z := fun _ _ _ _ _ _ => none) (s := f_X4_searchLeftOut_b33_s f) (fun i (M3 : Mem) (g : Nat → Nat → Int32 → Int32 → Int32 → Mem → Option (Int32 × Mem)) => g T (T + 31 + 5 * p) (nI (2 ^ Fn M p - 1)) (nI j) (nI i) M3) (fun i M3 => OffJ M M3 ∧ ∀ k, k < i → vq M p (mk M p k) ≠ 3 → pc k ≠ j) (fun r => (∃ m M', r = some (nI m, M') ∧ OffJ M M' ∧ Best (2 ^ Fn M p) (fun s => vq M p (mk M p s) ≠ 3) m) ∨ ∃ M', (OffJ M M' ∧ ∀ k, k < 2 ^ Fn M p → vq M p (mk M p k) ≠ 3 → j + 1 ≤ pc k) ∧ r = f T (T + 31 + 5 * p) (nI (2 ^ Fn M p - 1)) (nI (j + 1)) M') (2 ^ Fn M p) (fun i hi M3 h3 g => by
      show ((∃ m M', f_X4_searchLeftOut_b33_s f g T (T + 31 + 5 * p) (nI (2 ^ Fn M p - 1)) (nI j) (nI i) M3 = some (nI m, M') ∧ _) ∨ _) ∨ ∃ M', _ ∧ f_X4_searchLeftOut_b33_s f g T (T + 31 + 5 * p) (nI (2 ^ Fn M p - 1)) (nI j) (nI i) M3 = g T (T + 31 + 5 * p) (nI (2 ^ Fn M p - 1)) (nI j) (nI (i + 1)) M'
      have ext : ∀ M4, OffJ M M4 → (vq M p (mk M p i) ≠ 3 → pc i ≠ j) → OffJ M M4 ∧ ∀ k, k < i + 1 → vq M p (mk M p k) ≠ 3 → pc k ≠ j := fun M4 o4 hn => ⟨o4, fun k hk hv => by
        rcases Nat.lt_or_ge k i with c | c
        · exact h3.2 k c hv
        · rw [show k = i by omega] at hv ⊢; exact hn hv⟩
      have ev : f_X4_searchLeftOut_b33_s f g T (T + 31 + 5 * p) (nI (2 ^ Fn M p - 1)) (nI j) (nI i) M3 = if nI (pc i) = nI j then cl (f_X4_sureOf T (T + 31 + 5 * p) (nI (mk M p i)) M3) (fun o1 M2m => gd (shc o1 = 2) (if M2m.1 o1 1 = 0 then some (nI i, M2m) else g T (T + 31 + 5 * p) (nI (2 ^ Fn M p - 1)) (nI j) (nI (i + 1)) M2m)) else g T (T + 31 + 5 * p) (nI (2 ^ Fn M p - 1)) (nI j) (nI (i + 1)) M3 := by
        unfold f_X4_searchLeftOut_b33_s
        simp only [bnd_e]
        rw [if_neg (by rw [lt_nI (by omega) (by omega)]; omega), bitCount_f (by omega), cl_s, nI_1, msk_e]
        rfl
      rw [ev]
      have pi := pc_lt i (by omega)
      by_cases c : pc i = j
      · obtain ⟨M4, e4, o4, c3⟩ := sure_vq h h3.1 hp (mk_lt O hp i)
        rw [if_pos (by rw [c]), e4, cl_s, gd_t b_cells.1]
        rcases c3 with ⟨c3, c2⟩ | ⟨c3, c2⟩
        · rw [if_pos c3]
          refine Or.inl (Or.inl ⟨i, M4, rfl, o4, hi, c2, fun k hk hv => ?_⟩)
          have a1 := hM.2 k hk hv
          rcases Nat.lt_or_ge k i with z | z
          · have := h3.2 k z hv
            omega
          · omega
        · rw [if_neg (by rw [c3]; decide)]
          exact Or.inr ⟨M4, ext M4 o4 (fun z => absurd c2 z), rfl⟩
      · rw [if_neg (fun z => c (by
          have := congrArg Int32.toInt z
          rw [nI_toInt (by omega), nI_toInt (by omega)] at this
          omega))]
        exact Or.inr ⟨M3, ext M3 h3.1 (fun _ => c), rfl⟩) (fun M3 h3 g => by
      refine Or.inr ⟨M3, ⟨h3.1, fun k hk hv => ?_⟩, ?_⟩
      · have a1 := hM.2 k hk hv
        have a2 := h3.2 k hk hv
        omega
      · show f_X4_searchLeftOut_b33_s f g T (T + 31 + 5 * p) (nI (2 ^ Fn M p - 1)) (nI j) (nI (2 ^ Fn M p)) M3 = _
        unfold f_X4_searchLeftOut_b33_s
        rw [if_pos (by rw [lt_nI (by omega) (by omega)]; omega), bnd_e, nI_1]) fuel (by unfold fuel; omega) M2 ⟨hM.1, fun k hk => absurd hk (Nat.not_lt_zero k)⟩
    exact hi) (fun M2 hM f => by
    refine ⟨2 ^ Fn M p - 1, M2, ?_, hM.1, by omega, hP, fun k hk hv => ?_⟩
    · show f_X4_searchLeftOut_b21_s f T (T + 31 + 5 * p) (nI (2 ^ Fn M p - 1)) (nI (Fn M p)) M2 = _
      unfold f_X4_searchLeftOut_b21_s
      rw [gd_t t6, rd M2 hM.1, if_pos (Int32.le_refl _)]
    · have a1 := hM.2 k hk hv
      rcases pa2 k hk with z | z
      · rw [z]; exact Or.inr ⟨rfl, Nat.le_refl _⟩
      · omega) fuel (by unfold fuel; omega) M1 ⟨o, fun k _ _ => Nat.zero_le _⟩
  exact hl
