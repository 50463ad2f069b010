/-! THE SEARCHES of both -/
theorem RTold.off {M M' : Mem} {T : Nat} (hT : TT T) (O : MOk M) (R : RTold M T) (e : ∀ a, a ≤ T + 70 ∨ 313 ≤ a → M'.1 a = M.1 a) : RTold M' T := by
  have b0 := O.1.1.2
  have b1 := O.1.2.1.2
  have b2 := O.1.2.2.1.2
  have b3 := O.1.2.2.2.1.2
  have b4 := O.1.2.2.2.2.1.2
  have cn : ∀ i, Cn M' i = Cn M i := fun i => by unfold Cn; rw [e 313 (by omega)]
  have fn : ∀ i, Fn M' i = Fn M i := fun i => by unfold Fn; rw [e 335 (by omega)]
  have pn : ∀ i, Pn M' i = Pn M i := fun i => by unfold Pn; rw [e 324 (by omega)]
  have bn : ∀ i, Bn M' i = Bn M i := fun i => by unfold Bn; rw [e 328 (by omega)]
  obtain ⟨r1, r2, r3, r4, r5, r6, r7⟩ := R
  refine ⟨?_, fun c hc => ?_, fun k hk => ?_, fun k hk => ?_, fun b hb => ?_, fun p hp => ?_, fun k hk => ?_⟩
  · rw [e T (by omega), e 313 (by omega)]; exact r1
  · rw [cn] at hc
    rw [e (T + 1) (by omega), e (T + 2) (by omega), e 317 (by omega), e 318 (by omega)]; exact r2 c hc
  · rw [cn] at hk
    rw [e (T + 5) (by omega), e 320 (by omega)]; exact r3 k hk
  · rw [cn] at hk
    rw [pn, e (T + 10 + 3 * k) (by omega), e (T + 11 + 3 * k) (by omega), e (T + 12 + 3 * k) (by omega), e 321 (by omega), e 322 (by omega), e 323 (by omega), e 324 (by omega), e 325 (by omega), e 326 (by omega)]; exact r4 k hk
  · rw [cn] at hb
    rw [bn, e (T + 25 + 2 * b) (by omega), e (T + 26 + 2 * b) (by omega), e 327 (by omega), e 328 (by omega), e 329 (by omega)]; exact r5 b hb
  · rw [cn] at hp
    rw [fn, e (T + 31 + 5 * p) (by omega), e (T + 32 + 5 * p) (by omega), e (T + 33 + 5 * p) (by omega), e (T + 34 + 5 * p) (by omega), e (T + 35 + 5 * p) (by omega), e 330 (by omega), e 331 (by omega), e 332 (by omega), e 333 (by omega), e 334 (by omega), e 335 (by omega), e 336 (by omega), e 337 (by omega), e 338 (by omega), e 339 (by omega)]; exact r6 p hp
  · rw [e (T + 9) (by omega), e 314 (by omega)]; exact r7 k hk
/-- what the class holds of what is told, and the reference -/
def TB (M : Mem) (T : Nat) : Prop := TT T ∧ MOk M ∧ RTold M T ∧ BB (CC M) M (T + 3)
theorem TB.offJ {M M' : Mem} {T : Nat} (h : TB M T) (o : OffJ M M') : TB M' T := by
  obtain ⟨hT, O, R, B⟩ := h
  have e := (tt_c hT).2.1
  obtain ⟨-, -, -, tr2, -⟩ := tt_r hT
  refine ⟨hT, O.dat o.dat, R.off hT O (fun a ha => o.2 a (by omega)), ?_⟩
  rw [CC_dat o.dat]
  exact B.cong (fun _ _ _ => Iff.rfl) (by rw [o.2 _ (by omega)]) (by rw [tr2, o.2 _ (by omega)])
theorem vq_J {M M1 : Mem} {T p s : Nat} (h : TB M T) (o : OffJ M M1) (hp : p < Cn M 4) (hs : s < 1024) : ∃ M', f_X4_byFrames T (T + 31 + 5 * p) (nI s) M1 = some (vq M p s, M') ∧ OffJ M M' := by
  obtain ⟨hT, O, R, B⟩ := h.offJ o
  obtain ⟨M', e, o'⟩ := vq_cls O hT R B (by rw [Cn_dat o.dat]; exact hp) hs
  rw [vq_dat h.2.1 o.dat hp hs] at e
  exact ⟨M', e, o.tr o'⟩
theorem vq_A {M : Mem} (O : MOk M) {p s : Nat} (hp : p < Cn M 4) (hs : s < 1024) (d : Nat → Int32) : ∃ d', f_X11_verdictOf (nI p) (nI s) (sA M 344 d) = some (vq M p s, sA M 344 d') := by
  obtain ⟨d', e, -⟩ := vq_ref (O.dat (sA_dat M d)) (by rw [Cn_dat (sA_dat M d)]; exact hp) hs
  rw [vq_dat O (sA_dat M d) hp hs, sA_sA] at e
  exact ⟨d', e⟩
theorem two_le {n : Nat} (h : n ≤ 10) : 2 ^ n ≤ 1024 := Nat.pow_le_pow_right (by decide) h
theorem pc_all : ∀ n, n ≤ 10 → pc (2 ^ n - 1) = n ∧ ∀ k, k < 2 ^ n → k = 2 ^ n - 1 ∨ pc k < n := by decide +kernel
/-- the best so far -/
def BF (j : Nat) (P : Nat → Prop) (b : Int32) : Prop := (b = -1 ∧ ∀ k, k < j → ¬ P k) ∨ ∃ m, b = nI m ∧ Best j P m
theorem nI_m1 {m : Nat} (h : m < 1024) : nI m ≠ -1 := by
  intro e
  have := nI_toInt (show m < 2 ^ 31 by omega)
  rw [e] at this
  have h1 : (-1 : Int32).toInt = -1 := by decide
  omega
theorem le_nI {a b : Nat} (ha : a < 2 ^ 31) (hb : b < 2 ^ 31) (h : a ≤ b) : nI a ≤ nI b := by
  rw [Int32.le_iff_toInt_le, nI_toInt ha, nI_toInt hb]; omega
theorem bf_few {j : Nat} {P : Nat → Prop} {b : Int32} (hj : j < 1024) (h : BF j P b) (M : Mem) : (f_X11_isFewer (nI j) b M = some (1, M) ∧ (P j → BF (j + 1) P (nI j)) ∧ (¬ P j → BF (j + 1) P b)) ∨ (f_X11_isFewer (nI j) b M = some (0, M) ∧ BF (j + 1) P b) := by
  unfold f_X11_isFewer
  rcases h with ⟨e, h⟩ | ⟨m, e, h⟩
  · refine Or.inl ⟨by rw [if_pos e], fun hP => Or.inr ⟨j, rfl, Nat.lt_succ_self j, hP, fun k hk hPk => ?_⟩, fun hP => Or.inl ⟨e, fun k hk => ?_⟩⟩
    · rcases Nat.lt_or_ge k j with c | c
      · exact absurd hPk (h k c)
      · rw [show k = j by omega]; exact Or.inr ⟨rfl, Nat.le_refl _⟩
    · rcases Nat.lt_or_ge k j with c | c
      · exact h k c
      · rw [show k = j by omega]; exact hP
  · have hm : m < 1024 := by have := h.1; omega
    rw [e, if_neg (nI_m1 hm), bits_f hj, cl_s, bits_f hm, cl_s]
    have p1 := pc_lt j hj
    have p2 := pc_lt m hm
    by_cases c : pc m ≤ pc j
    · refine Or.inr ⟨by rw [if_pos (le_nI (by omega) (by omega) c)], Or.inr ⟨m, rfl, by have := h.1; omega, h.2.1, fun k hk hPk => ?_⟩⟩
      rcases Nat.lt_or_ge k j with z | z
      · exact h.2.2 k z hPk
      · have := h.1
        rw [show k = j by omega]; omega
    · refine Or.inl ⟨?_, fun hP => Or.inr ⟨j, rfl, Nat.lt_succ_self j, hP, fun k hk hPk => ?_⟩, fun hP => Or.inr ⟨m, rfl, by have := h.1; omega, h.2.1, fun k hk hPk => ?_⟩⟩
      · rw [if_neg (fun z => c ?_)]
        rw [Int32.le_iff_toInt_le, nI_toInt (by omega), nI_toInt (by omega)] at z
        omega
      · rcases Nat.lt_or_ge k j with z | z
        · have := h.2.2 k z hPk
          omega
        · rw [show k = j by omega]; exact Or.inr ⟨rfl, Nat.le_refl _⟩
      · rcases Nat.lt_or_ge k j with z | z
        · exact h.2.2 k z hPk
        · rw [show k = j by omega] at hPk; exact absurd hPk hP
theorem bf_0 (P : Nat → Prop) : BF 0 P (-1) := Or.inl ⟨rfl, fun k hk => absurd hk (Nat.not_lt_zero k)⟩
theorem BF.best {N : Nat} {P : Nat → Prop} {b : Int32} (h : BF N P b) {k : Nat} (hk : k < N) (hP : P k) : ∃ m, b = nI m ∧ Best N P m := by
  rcases h with ⟨-, h⟩ | h
  · exact absurd hP (h k hk)
  · exact h
theorem all_f {M : Mem} (O : MOk M) {p : Nat} (hp : p < Cn M 4) : f_X11_allFrames (nI p) M = some (nI (2 ^ Fn M p - 1), M) := by
  have h4 := O.1.2.2.2.2.1.2
  have hF := (O.2.2.2.2.2.2.1 p hp).2.2.2.2.2.1
  unfold f_X11_allFrames
  rw [gd_t (inb_nI (by omega) (by omega)), nI_clamp (by omega), hF.1, all_nI _ hF.2]
theorem lt_nI {a b : Nat} (ha : a < 2 ^ 31) (hb : b < 2 ^ 31) : nI a < nI b ↔ a < b := by
  rw [Int32.lt_iff_toInt_lt, nI_toInt ha, nI_toInt hb]; omega
/-- the reference's search for the fewest frames -/
theorem few_36 {M : Mem} (O : MOk M) {p : Nat} (hp : p < Cn M 4) (v : Int32) (d : Nat → Int32) {k : Nat} (hk : k < 2 ^ Fn M p) (hP : vq M p k = v) : ∃ m d', f_X11_fewest_b36 fuel (nI p) v (-1) 0 (sA M 344 d) = some (nI m, sA M 344 d') ∧ Best (2 ^ Fn M p) (fun s => vq M p s = v) m := by
  have hF := (O.2.2.2.2.2.2.1 p hp).2.2.2.2.2.1.2
  have h2 := two_le hF
  have h1 : 1 ≤ 2 ^ Fn M p := Nat.one_le_two_pow
  have al : ∀ d, f_X11_allFrames (nI p) (sA M 344 d) = some (nI (2 ^ Fn M p - 1), sA M 344 d) := fun d => by
    have := all_f (O.dat (sA_dat M d)) (by rw [Cn_dat (sA_dat M d)]; exact hp)
    rw [Fn_dat (sA_dat M d)] at this
    exact this
  have hl := lp_inv (z := fun _ _ _ _ _ => none) (s := f_X11_fewest_b36_s) (fun j (x : Int32 × (Nat → Int32)) (f : Int32 → Int32 → Int32 → Int32 → Mem → Option (Int32 × Mem)) => f (nI p) v x.1 (nI j) (sA M 344 x.2)) (fun j x => BF j (fun s => vq M p s = v) x.1) (fun r => ∃ m d', r = some (nI m, sA M 344 d') ∧ Best (2 ^ Fn M p) (fun s => vq M p s = v) m) (2 ^ Fn M p) (fun j hj x hx f => by
    refine Or.inr ?_
    show ∃ x' : Int32 × (Nat → Int32), BF (j + 1) (fun s => vq M p s = v) x'.1 ∧ f_X11_fewest_b36_s f (nI p) v x.1 (nI j) (sA M 344 x.2) = f (nI p) v x'.1 (nI (j + 1)) (sA M 344 x'.2)
    unfold f_X11_fewest_b36_s
    rw [al, cl_s, if_neg (by rw [lt_nI (by omega) (by omega)]; omega)]
    rcases bf_few (by omega) hx (sA M 344 x.2) with ⟨e, y1, y2⟩ | ⟨e, y⟩
    · rw [e, cl_s, if_neg (by decide)]
      obtain ⟨d', ev⟩ := vq_A O hp (show j < 1024 by omega) x.2
      rw [ev, cl_s]
      by_cases c : vq M p j = v
      · exact ⟨(nI j, d'), y1 c, by rw [if_pos c, bnd_e, nI_1]⟩
      · exact ⟨(x.1, d'), y2 c, by rw [if_neg c, bnd_e, nI_1]⟩
    · exact ⟨(x.1, x.2), y, by rw [e, cl_s, if_pos rfl, bnd_e, nI_1]⟩) (fun x hx f => by
    obtain ⟨m, e, hb⟩ := BF.best hx hk hP
    refine ⟨m, x.2, ?_, hb⟩
    show f_X11_fewest_b36_s f (nI p) v x.1 (nI (2 ^ Fn M p)) (sA M 344 x.2) = _
    unfold f_X11_fewest_b36_s
    rw [al, cl_s, if_pos (by rw [lt_nI (by omega) (by omega)]; omega), e]) fuel (by unfold fuel; omega) (-1, d) (bf_0 _)
  exact hl
/-- the class's -/
theorem csf_26 {M : Mem} {T p : Nat} (h : TB M T) (hp : p < Cn M 4) (v : Int32) {M1 : Mem} (o : OffJ M M1) (hP : vq M p (2 ^ Fn M p - 1) = v) : ∃ m M', f_X4_searchFewest_b28 fuel T (T + 31 + 5 * p) (nI (2 ^ Fn M p - 1)) v 0 M1 = some (nI m, M') ∧ OffJ M M' ∧ Best (2 ^ Fn M p) (fun s => vq M p s = v) m := by
  have O := h.2.1
  have hT := h.1
  have h4 := O.1.2.2.2.2.1.2
  have hF := (O.2.2.2.2.2.2.1 p hp).2.2.2.2.2.1
  have h2 := two_le hF.2
  have h1 : 1 ≤ 2 ^ Fn M p := Nat.one_le_two_pow
  obtain ⟨pa1, pa2⟩ := pc_all _ hF.2
  obtain ⟨t1, t2, t3, t4, t5, t6⟩ := tt_p hT p (by omega)
  have r5 := (h.2.2.1.2.2.2.2.2.1 p hp).2.2.2.2.2.1
  have ec := (tt_c hT).2.1
  have rd : ∀ M2, OffJ M M2 → M2.1 (T + 31 + 5 * p) 5 = nI (Fn M p) := fun M2 o2 => by rw [o2.2 _ (by omega), r5, hF.1]
  have hl := lp_inv (z := fun _ _ _ _ _ _ => none) (s := f_X4_searchFewest_b28_s) (fun j (M2 : Mem) (f : Nat → Nat → Int32 → Int32 → Int32 → Mem → Option (Int32 × Mem)) => f T (T + 31 + 5 * p) (nI (2 ^ Fn M p - 1)) v (nI j) M2) (fun j M2 => OffJ M M2 ∧ ∀ k, k < 2 ^ Fn M p → vq M p k = v → j ≤ pc k) (fun r => ∃ m M', r = some (nI m, M') ∧ OffJ M M' ∧ Best (2 ^ Fn M p) (fun s => vq M p s = v) m) (Fn M p) (fun j hj M2 hM f => by
    show (∃ m M', f_X4_searchFewest_b28_s f T (T + 31 + 5 * p) (nI (2 ^ Fn M p - 1)) v (nI j) M2 = some (nI m, M') ∧ _) ∨ ∃ M', _ ∧ f_X4_searchFewest_b28_s f T (T + 31 + 5 * p) (nI (2 ^ Fn M p - 1)) v (nI j) M2 = f T (T + 31 + 5 * p) (nI (2 ^ Fn M p - 1)) v (nI (j + 1)) M'
    unfold f_X4_searchFewest_b28_s
    rw [gd_t t6, rd M2 hM.1, if_neg (nI_ge hj (by omega))]
    have hi := lp_inv (z := fun _ _ _ _ _ _ _ => none) (s := f_X4_searchFewest_b40_s f) (fun i (M3 : Mem) (g : Nat → Nat → Int32 → Int32 → Int32 → Int32 → Mem → Option (Int32 × Mem)) => g T (T + 31 + 5 * p) (nI (2 ^ Fn M p - 1)) v (nI j) (nI i) M3) (fun i M3 => OffJ M M3 ∧ ∀ k, k < i → vq M p k = v → pc k ≠ j) (fun r => (∃ m M', r = some (nI m, M') ∧ OffJ M M' ∧ Best (2 ^ Fn M p) (fun s => vq M p s = v) m) ∨ ∃ M', (OffJ M M' ∧ ∀ k, k < 2 ^ Fn M p → vq M p k = v → j + 1 ≤ pc k) ∧ r = f T (T + 31 + 5 * p) (nI (2 ^ Fn M p - 1)) v (nI (j + 1)) M') (2 ^ Fn M p) (fun i hi M3 h3 g => by
      show ((∃ m M', f_X4_searchFewest_b40_s f g T (T + 31 + 5 * p) (nI (2 ^ Fn M p - 1)) v (nI j) (nI i) M3 = some (nI m, M') ∧ _) ∨ _) ∨ ∃ M', _ ∧ f_X4_searchFewest_b40_s f g T (T + 31 + 5 * p) (nI (2 ^ Fn M p - 1)) v (nI j) (nI i) M3 = g T (T + 31 + 5 * p) (nI (2 ^ Fn M p - 1)) v (nI j) (nI (i + 1)) M'
      have ext : ∀ M4, OffJ M M4 → (vq M p i = v → pc i ≠ j) → OffJ M M4 ∧ ∀ k, k < i + 1 → vq M p k = v → pc k ≠ j := fun M4 o4 hn => ⟨o4, fun k hk hv => by
        rcases Nat.lt_or_ge k i with c | c
        · exact h3.2 k c hv
        · rw [show k = i by omega] at hv ⊢; exact hn hv⟩
      have ev : f_X4_searchFewest_b40_s f g T (T + 31 + 5 * p) (nI (2 ^ Fn M p - 1)) v (nI j) (nI i) M3 = if nI (pc i) = nI j then cl (f_X4_byFrames T (T + 31 + 5 * p) (nI i) M3) (fun r2 M2m => if r2 = v then some (nI i, M2m) else g T (T + 31 + 5 * p) (nI (2 ^ Fn M p - 1)) v (nI j) (nI (i + 1)) M2m) else g T (T + 31 + 5 * p) (nI (2 ^ Fn M p - 1)) v (nI j) (nI (i + 1)) M3 := by
        unfold f_X4_searchFewest_b40_s
        simp only [bnd_e]
        rw [if_neg (by rw [lt_nI (by omega) (by omega)]; omega), bitCount_f (by omega), cl_s, nI_1]
      rw [ev]
      have pi := pc_lt i (by omega)
      by_cases c : pc i = j
      · obtain ⟨M4, e4, o4⟩ := vq_J h h3.1 hp (show i < 1024 by omega)
        rw [if_pos (by rw [c]), e4, cl_s]
        by_cases c2 : vq M p i = v
        · rw [if_pos c2]
          refine Or.inl (Or.inl ⟨i, M4, rfl, o4, hi, c2, fun k hk hv => ?_⟩)
          have a1 := hM.2 k hk hv
          rcases Nat.lt_or_ge k i with z | z
          · have := h3.2 k z hv
            omega
          · omega
        · rw [if_neg c2]
          exact Or.inr ⟨M4, ext M4 o4 (fun z => absurd z c2), rfl⟩
      · rw [if_neg (fun z => c (by
          have := congrArg Int32.toInt z
          rw [nI_toInt (by omega), nI_toInt (by omega)] at this
          omega))]
        exact Or.inr ⟨M3, ext M3 h3.1 (fun _ => c), rfl⟩) (fun M3 h3 g => by
      refine Or.inr ⟨M3, ⟨h3.1, fun k hk hv => ?_⟩, ?_⟩
      · have a1 := hM.2 k hk hv
        have a2 := h3.2 k hk hv
        omega
      · show f_X4_searchFewest_b40_s f g T (T + 31 + 5 * p) (nI (2 ^ Fn M p - 1)) v (nI j) (nI (2 ^ Fn M p)) M3 = _
        unfold f_X4_searchFewest_b40_s
        rw [if_pos (by rw [lt_nI (by omega) (by omega)]; omega), bnd_e, nI_1]) fuel (by unfold fuel; omega) M2 ⟨hM.1, fun k hk => absurd hk (Nat.not_lt_zero k)⟩
    exact hi) (fun M2 hM f => by
    refine ⟨2 ^ Fn M p - 1, M2, ?_, hM.1, by omega, hP, fun k hk hv => ?_⟩
    · show f_X4_searchFewest_b28_s f T (T + 31 + 5 * p) (nI (2 ^ Fn M p - 1)) v (nI (Fn M p)) M2 = _
      unfold f_X4_searchFewest_b28_s
      rw [gd_t t6, rd M2 hM.1, if_pos (Int32.le_refl _)]
    · have a1 := hM.2 k hk hv
      rcases pa2 k hk with z | z
      · rw [z]; exact Or.inr ⟨rfl, Nat.le_refl _⟩
      · omega) fuel (by unfold fuel; omega) M1 ⟨o, fun k _ _ => Nat.zero_le _⟩
  exact hl
