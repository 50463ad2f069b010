/-! LINES of the law's text, read by the reference (p37) -/
/-- the names of the law's text: the letter of the sort, then a, b, .. -/
def lt1 (x : Nat) : Nat := ([99, 115, 107, 98, 112] : List Nat).getD x 0
def nmv (x j : Nat) : Nat := (lt1 x - 96) * 32 + (j + 1)
theorem nmv_own : ∀ x, x < 5 → ∀ j, j < 9 → nmv x j < 2 ^ 30 ∧ ∀ i, i < 16 → nmv x j ≠ scd (28 + i) := by decide +kernel
theorem noOwn_nmv {x j : Nat} (hx : x < 5) (hj : j < 9) : NoOwn (nmv x j) := by
  obtain ⟨h1, h2⟩ := nmv_own x hx j hj
  refine ⟨h1, fun s a b => ?_⟩
  have := h2 (s - 28) (by omega)
  rw [show 28 + (s - 28) = s by omega] at this
  exact this
theorem lt1_inj : ∀ x, x < 5 → ∀ y, y < 5 → lt1 x - 96 = lt1 y - 96 → x = y := by decide
theorem nmv_inj (x : Nat) (hx : x < 5) (y : Nat) (hy : y < 5) (i : Nat) (hi : i < 9) (j : Nat) (hj : j < 9) (h : nmv x i = nmv y j) : x = y ∧ i = j := by
  unfold nmv at h
  have e : lt1 x - 96 = lt1 y - 96 := by omega
  have := lt1_inj x hx y hy e
  exact ⟨this, by omega⟩
theorem scd_inj : ∀ i, i < 16 → ∀ j, j < 16 → scd (28 + i) = scd (28 + j) → i = j := by decide +kernel
def cnU (cn : Nat → Nat) (x : Nat) : Nat → Nat := fun s => if s = x then cn s + 1 else cn s
section LINES
variable {n : Nat} {B : Nat → Nat} {ts : List Tok} {t : Tok} {M M' : Mem} {cn : Nat → Nat}
theorem NmS.fr (N : NmS cn nmv M) {I L : Nat → Nat → Prop} (f : Fr I L M M') (hI : ∀ k, 6 ≤ k → ¬ I 313 k) (hL : ∀ s k, s < 5 → k < cn s → ¬ L 316 (40 + 8 * s + k)) : NmS cn nmv M' :=
  ⟨fun s hs => by rw [f.2.2 _ _ (by omega) (hI _ (by omega))]; exact N.1 s hs, fun s k hs hk => by rw [f.2.1 _ _ (by omega) (hL s k hs hk)]; exact N.2 s k hs hk⟩
theorem NmS.fs (N : NmS cn nmv M) (f : FsR M M') : NmS cn nmv M' := N.fr (I := noC) (L := noC) f.fr (fun _ _ h => h) (fun _ _ _ _ h => h)
theorem NmS.I (N : NmS cn nmv M) {a k : Nat} {x : Int32} (h : a ≠ 313 ∨ k < 6) : NmS cn nmv (setI M a k x) := by
  refine N.fr (fr_I (I := fun a' k' => a' = a ∧ k' = k) (L := noC) M ⟨rfl, rfl⟩) (fun j hj z => ?_) (fun _ _ _ _ h => h)
  omega
theorem NmS.up (N : NmS cn nmv M) {x : Nat} (hx : x < 5) (hc : cn x < 8) (hw : M.2.1 316 (40 + 8 * x + cn x) = lN (nmv x (cn x))) {y : Int32} (hy : y = nI (cn x + 1)) : NmS (cnU cn x) nmv (setI M 313 (6 + x) y) := by
  subst hy
  refine ⟨fun s hs => ?_, fun s k hs hk => ?_⟩
  · unfold cnU
    by_cases c : s = x
    · subst c
      rw [setI_s, if_pos rfl]
      exact ⟨rfl, by omega⟩
    · rw [setI_n (by omega), if_neg c]
      exact N.1 s hs
  · show M.2.1 316 (40 + 8 * s + k) = _ ∧ _
    unfold cnU at hk
    by_cases c : s = x
    · subst c
      rw [if_pos rfl] at hk
      rcases Nat.lt_or_ge k (cn s) with q | q
      · exact N.2 s k hs q
      · rw [show k = cn s by omega]
        exact ⟨hw, (nmv_own s hs (cn s) (by omega)).1⟩
    · rw [if_neg c] at hk
      exact N.2 s k hs hk
theorem NmS.no (N : NmS cn nmv M) {x : Nat} (hx : x < 5) (hc : cn x < 8) : ∀ s i, s < 5 → i < cn s → nmv s i ≠ nmv x (cn x) := by
  intro s i hs hi z
  have c8 := (N.1 s (by omega)).2
  obtain ⟨e1, e2⟩ := nmv_inj s hs x hx i (by omega) (cn x) (by omega) z
  subst e1
  omega
theorem RP.I' (h : RP n B ts M) {X : Mem} {a k : Nat} {x : Int32} (e : X = setI M a k x) (ha : a ≠ 311 ∧ a ≠ 312) : RP n B ts X := by
  subst e
  exact h.I ha
/-- which line -/
theorem is_line {i : Nat} (h : RP n B (((1 : Int32), (0 : Nat), scd (28 + i)) :: ts) M) (hi : i < 16) {j : Nat} (hj : j < 16) (hij : i ≠ j) : f_X11_is (28 + j) M = some (0, M) :=
  risN h (by omega) (by omega) (scd_k i hi).2.1 (Or.inr (fun z => hij (scd_inj i hi j hj z)))
theorem semi_r (h : RP n B (((59 : Int32), (0 : Nat), (0 : Nat)) :: ts) M) : ∃ M', f_X11_lineHere_b227 M = some M' ∧ RP n B ts M' ∧ FsR M M' := by
  obtain ⟨M', e, p, f⟩ := takes_r h
  exact ⟨M', by unfold f_X11_lineHere_b227; rw [e, clv_s], p, f⟩
theorem ix_add (a b : Nat) : nI a + nI b = nI (a + b) := nI_add a b
/-- a camera -/
theorem cameraLine_r {a b : Nat} (h : RP n B (((1 : Int32), (0 : Nat), nmv 0 (cn 0)) :: ((2 : Int32), a, (0 : Nat)) :: ((2 : Int32), b, (0 : Nat)) :: ts) M) (N : NmS cn nmv M) (hc : cn 0 < 5) (hab : a ≤ b) (hb : b ≤ 999) :
    ∃ M', f_X11_cameraLine M = some M' ∧ RP n B ts M' ∧ NmS (cnU cn 0) nmv M' ∧ M'.1 317 (5 + cn 0) = nI a ∧ M'.1 318 (5 + cn 0) = nI b ∧ Fr (fun r k => (r = 317 ∧ k = 5 + cn 0) ∨ (r = 318 ∧ k = 5 + cn 0) ∨ (r = 313 ∧ k = 6)) (fun r k => r = 316 ∧ k = 40 + cn 0) M M' := by
  obtain ⟨M1, e1, p1, w1, f1⟩ := newName_r h (noOwn_nmv (by omega) (by omega)) N (x := 0) (by omega) (by omega) (N.no (by omega) (by omega))
  have e1' : f_X11_newName 0 M = some M1 := e1
  have N1 : NmS cn nmv M1 := N.fr f1 (fun _ _ z => z) (fun s k hs hk z => by
    have := (N.1 s (by omega)).2
    rcases Nat.eq_zero_or_pos s with q | q
    · subst q; omega
    · omega)
  obtain ⟨M2, e2, p2, f2⟩ := number_r p1 (lo := 0) (hi := 999) (by omega) (by omega) (by omega)
  have e2' : f_X11_number 0 999 M1 = some (nI a, M2) := e2
  have N2 := N1.fs f2
  obtain ⟨M3, h3⟩ : ∃ X, X = setI M2 317 (5 + cn 0) (nI a) := ⟨_, rfl⟩
  have p3 := p2.I' h3 (by omega)
  have N3 : NmS cn nmv M3 := by rw [h3]; exact N2.I (by omega)
  have r3 : M3.1 317 (5 + cn 0) = nI a := by rw [h3, setI_s]
  obtain ⟨M4, e4, p4, f4⟩ := number_r p3 (lo := a) (hi := 999) hab hb (by omega)
  have e4' : f_X11_number (nI a) 999 M3 = some (nI b, M4) := e4
  have N4 := N3.fs f4
  obtain ⟨M5, h5⟩ : ∃ X, X = setI M4 318 (5 + cn 0) (nI b) := ⟨_, rfl⟩
  have p5 := p4.I' h5 (by omega)
  have N5 : NmS cn nmv M5 := by rw [h5]; exact N4.I (by omega)
  have w5 : M5.2.1 316 (40 + 8 * 0 + cn 0) = lN (nmv 0 (cn 0)) := by
    rw [h5]
    show M4.2.1 _ _ = _
    rw [f4.2.1 _ _ (by omega), h3]
    show M2.2.1 _ _ = _
    rw [f2.2.1 _ _ (by omega)]
    exact w1
  have c5 := (N5.1 0 (by omega)).1
  refine ⟨setI M5 313 6 (M5.1 313 6 + 1), ?_, p5.I (by omega), N5.up (x := 0) (by omega) (by omega) w5 (by rw [c5]; exact nI_1 _), ?_, ?_, ?_⟩
  · unfold f_X11_cameraLine
    simp only [bnd_e]
    rw [e1', clv_s, (show f_X11_read 0 M1 = some (nI (cn 0), M1) from read_r N1 (x := 0) (by omega)), cl_s, e2', cl_s, show (5 : Int32) + nI (cn 0) = nI (5 + cn 0) from nI_add _ _, gd_t (inb_nI (by omega) (by omega)), nI_clamp (by omega), ← h3, r3, e4', cl_s, ← h5, if_pos p5.f9]
  · rw [setI_n (by omega), h5, setI_n (by omega), f4.2.2 _ _ (by omega), r3]
  · rw [setI_n (by omega), h5, setI_s]
  · refine (f1.mono (fun _ _ z => z.elim) (fun _ _ z => by omega)).tr (f2.fr.tr ?_)
    have q3 : Fr (fun r k => (r = 317 ∧ k = 5 + cn 0) ∨ (r = 318 ∧ k = 5 + cn 0) ∨ (r = 313 ∧ k = 6)) (fun r k => r = 316 ∧ k = 40 + cn 0) M2 M3 := by rw [h3]; exact fr_I M2 (Or.inl ⟨rfl, rfl⟩)
    have q5 : Fr (fun r k => (r = 317 ∧ k = 5 + cn 0) ∨ (r = 318 ∧ k = 5 + cn 0) ∨ (r = 313 ∧ k = 6)) (fun r k => r = 316 ∧ k = 40 + cn 0) M4 M5 := by rw [h5]; exact fr_I M4 (Or.inr (Or.inl ⟨rfl, rfl⟩))
    exact q3.tr (f4.fr.tr (q5.tr (fr_I M5 (Or.inr (Or.inr ⟨rfl, rfl⟩)))))
/-- a counted line without a name -/
theorem NmS.up5 (N : NmS cn nmv M) (hc : cn 5 < 8) {y : Int32} (hy : y = nI (cn 5 + 1)) : NmS (cnU cn 5) nmv (setI M 313 11 y) := by
  subst hy
  refine ⟨fun s hs => ?_, fun s k hs hk => ?_⟩
  · unfold cnU
    by_cases c : s = 5
    · subst c
      rw [setI_s, if_pos rfl]
      exact ⟨rfl, by omega⟩
    · rw [setI_n (by omega), if_neg c]
      exact N.1 s hs
  · show M.2.1 316 (40 + 8 * s + k) = _ ∧ _
    unfold cnU at hk
    rw [if_neg (by omega)] at hk
    exact N.2 s k hs hk
/-- a side -/
theorem sideLine_r {v : Nat} (h : RP n B (((1 : Int32), (0 : Nat), nmv 1 (cn 1)) :: ((2 : Int32), v, (0 : Nat)) :: ts) M) (N : NmS cn nmv M) (hc : cn 1 < 4) (hv : v ≤ 9) :
    ∃ M', f_X11_sideLine M = some M' ∧ RP n B ts M' ∧ NmS (cnU cn 1) nmv M' ∧ Fr (fun r k => (r = 320 ∧ k = 4 + cn 1) ∨ (r = 313 ∧ k = 7)) (fun r k => r = 316 ∧ k = 48 + cn 1) M M' := by
  obtain ⟨M1, e1, p1, w1, f1⟩ := newName_r h (noOwn_nmv (by omega) (by omega)) N (x := 1) (by omega) (by omega) (N.no (by omega) (by omega))
  have e1' : f_X11_newName 1 M = some M1 := e1
  have N1 : NmS cn nmv M1 := N.fr f1 (fun _ _ z => z) (fun s k hs hk z => by
    have := (N.1 s (by omega)).2
    rcases (show s = 0 ∨ s = 1 ∨ s = 2 ∨ s = 3 ∨ s = 4 by omega) with q | q | q | q | q <;> subst q <;> omega)
  obtain ⟨M2, e2, p2, f2⟩ := number_r p1 (lo := 0) (hi := 9) (by omega) hv (by omega)
  have e2' : f_X11_number 0 9 M1 = some (nI v, M2) := e2
  have N2 := N1.fs f2
  obtain ⟨M3, h3⟩ : ∃ X, X = setI M2 320 (4 + cn 1) (nI v) := ⟨_, rfl⟩
  have p3 := p2.I' h3 (by omega)
  have N3 : NmS cn nmv M3 := by rw [h3]; exact N2.I (by omega)
  have w3 : M3.2.1 316 (40 + 8 * 1 + cn 1) = lN (nmv 1 (cn 1)) := by
    rw [h3]
    show M2.2.1 _ _ = _
    rw [f2.2.1 _ _ (by omega)]
    exact w1
  have c5 := (N3.1 1 (by omega)).1
  refine ⟨setI M3 313 7 (M3.1 313 7 + 1), ?_, p3.I (by omega), N3.up (x := 1) (by omega) (by omega) w3 (by rw [c5]; exact nI_1 _), ?_⟩
  · unfold f_X11_sideLine
    simp only [bnd_e]
    rw [e1', clv_s, (show f_X11_read 1 M1 = some (nI (cn 1), M1) from read_r N1 (x := 1) (by omega)), cl_s, e2', cl_s, show (4 : Int32) + nI (cn 1) = nI (4 + cn 1) from nI_add _ _, gd_t (inb_nI (by omega) (by omega)), nI_clamp (by omega), ← h3, if_pos p3.f9]
  · refine (f1.mono (fun _ _ z => z.elim) (fun _ _ z => by omega)).tr (f2.fr.tr ?_)
    have q3 : Fr (fun r k => (r = 320 ∧ k = 4 + cn 1) ∨ (r = 313 ∧ k = 7)) (fun r k => r = 316 ∧ k = 48 + cn 1) M2 M3 := by rw [h3]; exact fr_I M2 (Or.inl ⟨rfl, rfl⟩)
    exact q3.tr (fr_I M3 (Or.inr ⟨rfl, rfl⟩))
/-- a flash -/
theorem flashLine_r {i j x y f : Nat} (h : RP n B (((1 : Int32), (0 : Nat), nmv 0 i) :: ((2 : Int32), x, (0 : Nat)) :: ((1 : Int32), (0 : Nat), nmv 0 j) :: ((2 : Int32), y, (0 : Nat)) :: ts) M) (N : NmS cn nmv M) (hf : cn 5 = f) (hc : f < 6) (hi : i < cn 0) (hj : j < cn 0) (hij : i ≠ j) (hx : x ≤ 999) (hy : y ≤ 999) :
    ∃ M', f_X11_flashLine M = some M' ∧ RP n B ts M' ∧ NmS (cnU cn 5) nmv M' ∧ (M'.1 319 (24 + 4 * f) = nI i ∧ M'.1 319 (24 + 4 * f + 1) = nI x ∧ M'.1 319 (24 + 4 * f + 2) = nI j ∧ M'.1 319 (24 + 4 * f + 3) = nI y) ∧ Fr (fun r k => (r = 319 ∧ 24 + 4 * f ≤ k ∧ k ≤ 24 + 4 * f + 3) ∨ (r = 313 ∧ k = 11)) noC M M' := by
  have c0 := (N.1 0 (by omega)).2
  have uq : ∀ q, q < cn 0 → ∀ a, a < cn 0 → nmv 0 a = nmv 0 q → a = q := fun q hq a ha z => (nmv_inj 0 (by omega) 0 (by omega) a (by omega) q (by omega) z).2
  obtain ⟨M1, e1, p1, f1⟩ := known_r h (noOwn_nmv (by omega) (by omega)) N (x := 0) (by omega) hi rfl (fun a ha z => uq i hi a ha z)
  have e1' : f_X11_known 0 M = some (nI i, M1) := e1
  have N1 := N.fs f1
  obtain ⟨M2, h2⟩ : ∃ X, X = setI M1 319 (24 + 4 * f) (nI i) := ⟨_, rfl⟩
  have p2 := p1.I' h2 (by omega)
  have N2 : NmS cn nmv M2 := by rw [h2]; exact N1.I (by omega)
  obtain ⟨M3, e3, p3, f3⟩ := number_r p2 (lo := 0) (hi := 999) (by omega) hx (by omega)
  have e3' : f_X11_number 0 999 M2 = some (nI x, M3) := e3
  have N3 := N2.fs f3
  obtain ⟨M4, h4⟩ : ∃ X, X = setI M3 319 (24 + 4 * f + 1) (nI x) := ⟨_, rfl⟩
  have p4 := p3.I' h4 (by omega)
  have N4 : NmS cn nmv M4 := by rw [h4]; exact N3.I (by omega)
  have e4 := looksUp_r p4 (noOwn_nmv (by omega) (by omega)) N4 (x := 0) (by omega) hj rfl (fun a ha z => uq j hj a ha z)
  have e4' : f_X11_looksUp 0 M4 = some (nI j, M4) := e4
  obtain ⟨M5, h5⟩ : ∃ X, X = setI M4 319 (24 + 4 * f + 2) (nI j) := ⟨_, rfl⟩
  have p5 := p4.I' h5 (by omega)
  have N5 : NmS cn nmv M5 := by rw [h5]; exact N4.I (by omega)
  have a0 : M5.1 319 (24 + 4 * f) = nI i := by rw [h5, setI_n (by omega), h4, setI_n (by omega), f3.2.2 _ _ (by omega), h2, setI_s]
  have a1 : M5.1 319 (24 + 4 * f + 1) = nI x := by rw [h5, setI_n (by omega), h4, setI_s]
  have a2 : M5.1 319 (24 + 4 * f + 2) = nI j := by rw [h5, setI_s]
  obtain ⟨M6, e6, p6, f6⟩ := p5.adv
  have N6 := N5.fs f6
  obtain ⟨M7, e7, p7, f7⟩ := number_r p6 (lo := 0) (hi := 999) (by omega) hy (by omega)
  have e7' : f_X11_number 0 999 M6 = some (nI y, M7) := e7
  have N7 := N6.fs f7
  obtain ⟨M8, h8⟩ : ∃ X, X = setI M7 319 (24 + 4 * f + 3) (nI y) := ⟨_, rfl⟩
  have p8 := p7.I' h8 (by omega)
  have N8 : NmS cn nmv M8 := by rw [h8]; exact N7.I (by omega)
  have c5 := (N8.1 5 (by omega)).1
  have keep : ∀ k, k < 3 → M8.1 319 (24 + 4 * f + k) = M5.1 319 (24 + 4 * f + k) := fun k hk => by rw [h8, setI_n (by omega), f7.2.2 _ _ (by omega), f6.2.2 _ _ (by omega)]
  refine ⟨setI M8 313 11 (M8.1 313 11 + 1), ?_, p8.I (by omega), N8.up5 (by omega) (by rw [c5]; exact nI_1 _), ⟨?_, ?_, ?_, ?_⟩, ?_⟩
  · have ad : ∀ a b : Nat, nI a + nI b = nI (a + b) := fun a b => nI_add a b
    have i4 : (24 : Int32) + 4 * nI f = nI (24 + 4 * f) := by
      rw [show (4 : Int32) = nI 4 from rfl, nI_mul', show (24 : Int32) = nI 24 from rfl, nI_add]
    have rd : f_X11_read 5 M = some (nI f, M) := by
      have := read_r N (x := 5) (by omega)
      rw [hf] at this
      exact this
    unfold f_X11_flashLine f_X11_flashLine_b74
    simp only [bnd_e]
    rw [rd, cl_s, i4, e1', cl_s, gd_t (inb_nI (by omega) (by omega)), nI_clamp (by omega), ← h2, e3', cl_s, show nI (24 + 4 * f) + 1 = nI (24 + 4 * f + 1) from ad _ 1, gd_t (inb_nI (by omega) (by omega)), nI_clamp (by omega), ← h4, e4', cl_s, show nI (24 + 4 * f) + 2 = nI (24 + 4 * f + 2) from ad _ 2, gd_t (inb_nI (by omega) (by omega)), nI_clamp (by omega), ← h5, a2, a0, if_neg (fun z => hij (inj_nI (by omega) (by omega) z).symm), must_t p5.f9 (by decide), cl_s, if_neg (show ¬ (1 : Int32) = 0 by decide), e6, clv_s, e7', cl_s, show nI (24 + 4 * f) + 3 = nI (24 + 4 * f + 3) from ad _ 3, gd_t (inb_nI (by omega) (by omega)), nI_clamp (by omega), ← h8, if_pos p8.f9]
  · rw [setI_n (by omega)]; exact (keep 0 (by omega)).trans a0
  · rw [setI_n (by omega), keep 1 (by omega), a1]
  · rw [setI_n (by omega), keep 2 (by omega), a2]
  · rw [setI_n (by omega), h8, setI_s]
  · have q : ∀ (X : Mem) (k : Nat) (v : Int32), 24 + 4 * f ≤ k ∧ k ≤ 24 + 4 * f + 3 → Fr (fun r k => (r = 319 ∧ 24 + 4 * f ≤ k ∧ k ≤ 24 + 4 * f + 3) ∨ (r = 313 ∧ k = 11)) noC X (setI X 319 k v) := fun X k v hk => fr_I X (Or.inl ⟨rfl, hk⟩)
    have q2 := q M1 (24 + 4 * f) (nI i) (by omega)
    have q4 := q M3 (24 + 4 * f + 1) (nI x) (by omega)
    have q5 := q M4 (24 + 4 * f + 2) (nI j) (by omega)
    have q8 := q M7 (24 + 4 * f + 3) (nI y) (by omega)
    rw [← h2] at q2; rw [← h4] at q4; rw [← h5] at q5; rw [← h8] at q8
    exact f1.fr.tr (q2.tr (f3.fr.tr (q4.tr (q5.tr (f6.fr.tr (f7.fr.tr (q8.tr (fr_I M8 (Or.inr ⟨rfl, rfl⟩)))))))))
/-- a rule -/
theorem ruleLine_r {x v : Nat} (h : RP n B (t :: ((2 : Int32), v, (0 : Nat)) :: ts) M) (hx : x < 4) (h0 : M.1 315 x = 0) (hv : v ≤ (if x = 0 ∨ x = 2 then 999 else 9)) :
    ∃ M', f_X11_ruleLine (nI x) M = some M' ∧ RP n B ts M' ∧ Fr (fun r k => (r = 315 ∧ k = x) ∨ (r = 314 ∧ k = 4 + x)) noC M M' := by
  obtain ⟨M1, h1⟩ : ∃ X, X = setI M 315 x (vp_nar .boolean 1) := ⟨_, rfl⟩
  have p1 := h.I' h1 (by omega)
  obtain ⟨M2, e2, p2, f2⟩ := p1.adv
  have ad : (4 : Int32) + nI x = nI (4 + x) := nI_add 4 x
  have q1 : Fr (fun r k => (r = 315 ∧ k = x) ∨ (r = 314 ∧ k = 4 + x)) noC M M1 := by rw [h1]; exact fr_I M (Or.inl ⟨rfl, rfl⟩)
  obtain ⟨M3, e3, p3, f3⟩ := number_r p2 (lo := 0) (hi := if x = 0 ∨ x = 2 then 999 else 9) (by omega) hv (by split <;> omega)
  refine ⟨setI M3 314 (4 + x) (nI v), ?_, p3.I (by omega), q1.tr (f2.fr.tr (f3.fr.tr (fr_I M3 (Or.inr ⟨rfl, rfl⟩))))⟩
  have e3' : f_X11_number 0 (if x = 0 ∨ x = 2 then 999 else 9) M2 = some (nI v, M3) := by
    have := e3
    split
    · rename_i c
      rw [if_pos c] at this
      exact this
    · rename_i c
      rw [if_neg c] at this
      exact this
  have z2 : x ≠ 0 → ¬ nI x = (0 : Int32) := fun z q => z (inj_nI (a := x) (b := 0) (by omega) (by omega) q)
  have z3 : x ≠ 2 → ¬ nI x = (2 : Int32) := fun z q => z (inj_nI (a := x) (b := 2) (by omega) (by omega) q)
  have h0' : M.1 315 (nI x).toNatClampNeg = 0 := by rw [nI_clamp (by omega)]; exact h0
  unfold f_X11_ruleLine f_X11_ruleLine_b15 f_X11_ruleLine_b52 f_X11_ruleLine_b60
  simp only [bnd_e]
  rw [gd_t (inb_nI (by omega) (by omega)), if_pos h0', must_t h.f9 (by decide), cl_s, if_neg (show ¬ (1 : Int32) = 0 by decide), gd_t (inb_nI (by omega) (by omega)), nI_clamp (by omega), ← h1, e2, clv_s]
  by_cases c0 : x = 0
  · rw [if_pos (by rw [c0]; rfl), ← if_pos (c := x = 0 ∨ x = 2) (Or.inl c0) (t := (999 : Int32)) (e := 9), e3', cl_s, ad, gd_t (inb_nI (by omega) (by omega)), nI_clamp (by omega)]
  · rw [if_neg (z2 c0)]
    by_cases c2 : x = 2
    · rw [if_pos (by rw [c2]; rfl), ← if_pos (c := x = 0 ∨ x = 2) (Or.inr c2) (t := (999 : Int32)) (e := 9), e3', cl_s, ad, gd_t (inb_nI (by omega) (by omega)), nI_clamp (by omega)]
    · have c9 : ¬ (x = 0 ∨ x = 2) := by omega
      rw [if_neg (z3 c2), ← if_neg (c := x = 0 ∨ x = 2) c9 (t := (999 : Int32)) (e := 9), e3', cl_s, ad, gd_t (inb_nI (by omega) (by omega)), nI_clamp (by omega)]
end LINES
