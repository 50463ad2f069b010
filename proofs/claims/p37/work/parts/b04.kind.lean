/-! A KIND's line (p37) -/
section KIND
variable {n : Nat} {B : Nat → Nat} {ts : List Tok} {t : Tok} {M M' : Mem} {cn : Nat → Nat}
def pairT (f g : Nat) : List Tok := [((2 : Int32), f, (0 : Nat)), ((1 : Int32), (0 : Nat), scd 41), ((2 : Int32), g, (0 : Nat))]
def PrI (q i : Nat) : Nat → Nat → Prop := fun r k => (r = 325 ∧ k = 3 * q + i) ∨ (r = 326 ∧ k = 3 * q + i) ∨ (r = 324 ∧ k = q)
theorem pair_r {f g q i : Nat} (h : RP n B (pairT f g ++ ts) M) (hq : q < 10) (hi : i < 3) (e : M.1 324 q = nI i) (hf : f < 4) (hg : g < 4) (hfg : f ≠ g) :
    ∃ M', f_X11_pair (nI q) M = some M' ∧ RP n B ts M' ∧ M'.1 325 (3 * q + i) = nI f ∧ M'.1 326 (3 * q + i) = nI g ∧ M'.1 324 q = nI (i + 1) ∧ Fr (PrI q i) noC M M' := by
  have h' : RP n B (((2 : Int32), f, (0 : Nat)) :: ((1 : Int32), (0 : Nat), scd 41) :: ((2 : Int32), g, (0 : Nat)) :: ts) M := h
  obtain ⟨M1, e1, p1, f1⟩ := number_r h' (lo := 0) (hi := 3) (by omega) (by omega) (by omega)
  have e1' : f_X11_number 0 3 M = some (nI f, M1) := e1
  obtain ⟨M2, h2⟩ : ∃ X, X = setI M1 325 (3 * q + i) (nI f) := ⟨_, rfl⟩
  have p2 := p1.I' h2 (by omega)
  obtain ⟨M3, e3, p3, f3⟩ := takesWord_r p2 (by omega) (by omega)
  obtain ⟨r6, r7, -, r9⟩ := p3.rt
  have r7' : M3.1 311 7 = nI g := r7
  have a3 : M3.1 325 (3 * q + i) = nI f := by rw [f3.2.2 _ _ (by omega), h2, setI_s]
  have c3 : M3.1 324 q = nI i := by rw [f3.2.2 _ _ (by omega), h2, setI_n (by omega), f1.2.2 _ _ (by omega), e]
  obtain ⟨M4, h4⟩ : ∃ X, X = setI M3 326 (3 * q + i) (nI g) := ⟨_, rfl⟩
  obtain ⟨M5, h5⟩ : ∃ X, X = setI M4 324 q (nI (i + 1)) := ⟨_, rfl⟩
  have p5 : RP n B (((2 : Int32), g, (0 : Nat)) :: ts) M5 := by rw [h5, h4]; exact (p3.I (by omega)).I (by omega)
  obtain ⟨M6, e6, p6, f6⟩ := p5.adv
  have ix : 3 * nI q + nI i = nI (3 * q + i) := by rw [show (3 : Int32) = nI 3 from rfl, nI_mul', nI_add]
  have c4 : M4.1 324 q = nI i := by rw [h4, setI_n (by omega), c3]
  refine ⟨M6, ?_, p6, ?_, ?_, ?_, ?_⟩
  · have cq : (nI q).toNatClampNeg = q := nI_clamp (by omega)
    have ck : (nI (3 * q + i)).toNatClampNeg = 3 * q + i := nI_clamp (by omega)
    have e' : M.1 324 (nI q).toNatClampNeg = nI i := by rw [cq]; exact e
    have h2' : setI M1 325 (nI (3 * q + i)).toNatClampNeg (nI f) = M2 := by rw [ck, h2]
    have a3' : M3.1 325 (nI (3 * q + i)).toNatClampNeg = nI f := by rw [ck]; exact a3
    have h4' : setI M3 326 (nI (3 * q + i)).toNatClampNeg (nI g) = M4 := by rw [ck, h4]
    have c4' : M4.1 324 (nI q).toNatClampNeg = nI i := by rw [cq]; exact c4
    have h5' : setI M4 324 (nI q).toNatClampNeg (nI (i + 1)) = M5 := by rw [cq, h5]
    unfold f_X11_pair f_X11_pair_b43 f_X11_pair_b77
    simp only [bnd_e]
    rw [gd_t (inb_nI (by omega) (by omega)), e', ix, e1', cl_s, gd_t (inb_nI (by omega) (by omega)), h2', e3, clv_s, if_pos (show M3.1 311 6 = 2 from r6), must_t r9 (by decide), cl_s, if_neg (show ¬ (1 : Int32) = 0 by decide), r7', if_neg (show ¬ (4 : Int32) ≤ nI g by rw [show (4 : Int32) = nI 4 from rfl]; exact nI_ge hg (by omega)), gd_t (inb_nI (by omega) (by omega)), a3', if_neg (fun z => hfg (inj_nI (by omega) (by omega) z).symm), must_t r9 (by decide), cl_s, if_neg (show ¬ (1 : Int32) = 0 by decide), gd_t (inb_nI (by omega) (by omega)), r7', h4', gd_t (inb_nI (by omega) (by omega)), c4', show nI i + 1 = nI (i + 1) from nI_1 i, h5', e6, clv_s]
  · rw [f6.2.2 _ _ (by omega), h5, setI_n (by omega), h4, setI_n (by omega), a3]
  · rw [f6.2.2 _ _ (by omega), h5, setI_n (by omega), h4, setI_s]
  · rw [f6.2.2 _ _ (by omega), h5, setI_s]
  · have q2 : Fr (PrI q i) noC M1 M2 := by rw [h2]; exact fr_I M1 (Or.inl ⟨rfl, rfl⟩)
    have q4 : Fr (PrI q i) noC M3 M4 := by rw [h4]; exact fr_I M3 (Or.inr (Or.inl ⟨rfl, rfl⟩))
    have q5 : Fr (PrI q i) noC M4 M5 := by rw [h5]; exact fr_I M4 (Or.inr (Or.inr ⟨rfl, rfl⟩))
    exact f1.fr.tr (q2.tr (f3.fr.tr (q4.tr (q5.tr f6.fr))))
/-- forced, again: told or not -/
def mayT (b : Bool) (s : Nat) : List Tok := if b then [((1 : Int32), (0 : Nat), scd s)] else []
theorem may_r {b : Bool} {s : Nat} (h : RP n B (mayT b s ++ t :: ts) M) (h1 : 28 ≤ s) (h2 : s < 44) (hw : t.2.2 < 2 ^ 30) (hn : t.1 ≠ 1 ∨ t.2.2 ≠ scd s) : ∃ M' x, f_X11_maybe s M = some (x, M') ∧ RP n B (t :: ts) M' ∧ FsR M M' := by
  cases b with
  | true =>
    obtain ⟨M', e, p, f⟩ := rmayY (ts := t :: ts) h h1 h2
    exact ⟨M', 1, e, p, f⟩
  | false => exact ⟨M, 0, rmayN h h1 h2 hw hn, h, FsR.refl M⟩
/-- the pairs of a kind: one or two -/
def prsT : List (Nat × Nat) → List Tok
  | [] => []
  | (f, g) :: l => ((1 : Int32), (0 : Nat), scd 40) :: (pairT f g ++ prsT l)
def PrL (q : Nat) : Nat → Nat → Prop := fun r k => (r = 325 ∧ 3 * q ≤ k ∧ k < 3 * q + 3) ∨ (r = 326 ∧ 3 * q ≤ k ∧ k < 3 * q + 3) ∨ (r = 324 ∧ k = q)
def KdI (c : Nat) : Nat → Nat → Prop := fun r k => PrL (5 + c) r k ∨ ((r = 321 ∨ r = 322 ∨ r = 323) ∧ k = 5 + c) ∨ (r = 313 ∧ k = 8)
theorem more_r {q c : Nat} (hq : q < 10) (F : Int32 → Mem → Option Mem) (l : List (Nat × Nat)) : ∀ (i : Nat) (M : Mem), l.length + i ≤ 3 → (∀ (j f g : Nat), l[j]? = some (f, g) → f < 4 ∧ g < 4 ∧ f ≠ g) → M.1 324 q = nI i → RP n B (prsT l ++ ((59 : Int32), (0 : Nat), (0 : Nat)) :: ts) M → M.1 313 8 = nI c → ∀ k, l.length < k →
    ∃ M', f_X11_kindLine_b69 k (nI q) M = some M' ∧ RP n B (((59 : Int32), (0 : Nat), (0 : Nat)) :: ts) M' ∧ M'.1 324 q = nI (i + l.length) ∧ (∀ (j f g : Nat), l[j]? = some (f, g) → M'.1 325 (3 * q + (i + j)) = nI f ∧ M'.1 326 (3 * q + (i + j)) = nI g) ∧ (∀ j, j < i → M'.1 325 (3 * q + j) = M.1 325 (3 * q + j) ∧ M'.1 326 (3 * q + j) = M.1 326 (3 * q + j)) ∧ M'.1 313 8 = nI (c + 1) ∧ Fr (fun r k => PrL q r k ∨ (r = 313 ∧ k = 8)) noC M M' := by
  induction l with
  | nil =>
    intro i M hl hok e h hc k hk
    obtain ⟨k, rfl⟩ : ∃ k', k = k' + 1 := ⟨k - 1, by have : 0 < k := hk; omega⟩
    have h' : RP n B (((59 : Int32), (0 : Nat), (0 : Nat)) :: ts) M := h
    refine ⟨setI M 313 8 (nI (c + 1)), ?_, h'.I (by omega), (by rw [setI_n (by omega)]; exact e), (fun j f g z => by cases z), (fun j _ => ⟨setI_n (by omega), setI_n (by omega)⟩), setI_s, fr_I M (Or.inr ⟨rfl, rfl⟩)⟩
    show f_X11_kindLine_b69_s (f_X11_kindLine_b69 k) (nI q) M = _
    unfold f_X11_kindLine_b69_s
    simp only [bnd_e]
    rw [risN h' (s := 40) (by omega) (by omega) (by show (0 : Nat) < 2 ^ 30; omega) (Or.inl (show ¬ (59 : Int32) = 1 by decide)), cl_s, if_pos rfl, if_pos h'.f9, hc, nI_1]
  | cons a l ih =>
    intro i M hl hok e h hc k hk
    obtain ⟨f, g⟩ := a
    obtain ⟨k, rfl⟩ : ∃ k', k = k' + 1 := ⟨k - 1, by have : 0 < k := Nat.lt_of_le_of_lt (Nat.zero_le _) hk; omega⟩
    rw [List.length_cons] at hl hk
    have h' : RP n B (((1 : Int32), (0 : Nat), scd 40) :: (pairT f g ++ (prsT l ++ ((59 : Int32), (0 : Nat), (0 : Nat)) :: ts))) M := by
      have : prsT ((f, g) :: l) ++ ((59 : Int32), (0 : Nat), (0 : Nat)) :: ts = ((1 : Int32), (0 : Nat), scd 40) :: (pairT f g ++ (prsT l ++ ((59 : Int32), (0 : Nat), (0 : Nat)) :: ts)) := by
        show ((1 : Int32), (0 : Nat), scd 40) :: ((pairT f g ++ prsT l) ++ _) = _
        rw [List.append_assoc]
      rw [this] at h
      exact h
    obtain ⟨o1, o2, o3⟩ := hok 0 f g rfl
    obtain ⟨M1, e1, p1, f1⟩ := h'.adv
    have d1 : M1.1 324 q = nI i := by rw [f1.2.2 _ _ (by omega), e]
    obtain ⟨M2, e2, p2, a2, b2, d2, f2⟩ := pair_r p1 hq (by omega) d1 o1 o2 o3
    have k2 : M2.1 313 8 = nI c := by
      rw [f2.2.2 _ _ (by omega) (fun z => by unfold PrI at z; omega), f1.2.2 _ _ (by omega), hc]
    obtain ⟨M3, e3, p3, d3, l3, o3', c3, f3⟩ := ih (i + 1) M2 (by omega) (fun j f g z => hok (j + 1) f g z) d2 p2 k2 k (by omega)
    refine ⟨M3, ?_, p3, ?_, ?_, ?_, c3, ?_⟩
    · show f_X11_kindLine_b69_s (f_X11_kindLine_b69 k) (nI q) M = _
      unfold f_X11_kindLine_b69_s f_X11_kindLine_b94
      rw [risY h' (by omega) (by omega), cl_s, if_neg (show ¬ (1 : Int32) = 0 by decide), gd_t (inb_nI (by omega) (by omega)), nI_clamp (by omega), e, if_neg (show ¬ (3 : Int32) ≤ nI i by rw [show (3 : Int32) = nI 3 from rfl]; exact nI_ge (by omega) (by omega)), must_t h'.f9 (by decide), cl_s, if_neg (show ¬ (1 : Int32) = 0 by decide), e1, clv_s, e2, clv_s, e3]
    · rw [d3, List.length_cons]
      congr 1
      omega
    · intro j f' g' z
      cases j with
      | zero =>
        cases z
        have := o3' i (by omega)
        exact ⟨this.1.trans a2, this.2.trans b2⟩
      | succ j =>
        have := l3 j f' g' z
        rw [show i + 1 + j = i + (j + 1) by omega] at this
        exact this
    · intro j hj
      have := o3' j (by omega)
      rw [this.1, this.2, f2.2.2 325 _ (by omega) (fun z => by unfold PrI at z; omega), f2.2.2 326 _ (by omega) (fun z => by unfold PrI at z; omega), f1.2.2 _ _ (by omega), f1.2.2 _ _ (by omega)]
      exact ⟨rfl, rfl⟩
    · refine f1.fr.tr ((f2.mono (fun r k z => ?_) (fun _ _ z => z)).tr f3)
      refine Or.inl ?_
      unfold PrI at z
      unfold PrL
      omega
def kindT (c sec : Nat) (fo ag : Bool) (f g : Nat) (l : List (Nat × Nat)) : List Tok := ((1 : Int32), (0 : Nat), nmv 2 c) :: ((2 : Int32), sec, (0 : Nat)) :: (mayT fo 38 ++ (mayT ag 39 ++ (pairT f g ++ prsT l)))
theorem kindLine_r {c sec f g : Nat} {fo ag : Bool} {l : List (Nat × Nat)} (h : RP n B (kindT c sec fo ag f g l ++ ((59 : Int32), (0 : Nat), (0 : Nat)) :: ts) M) (N : NmS cn nmv M) (hc : cn 2 = c) (h5 : c < 5) (hs1 : 1 ≤ sec) (hs2 : sec ≤ 60) (hl : l.length ≤ 2) (hf : f < 4) (hg : g < 4) (hfg : f ≠ g) (hok : ∀ (j f g : Nat), l[j]? = some (f, g) → f < 4 ∧ g < 4 ∧ f ≠ g) :
    ∃ M', f_X11_kindLine M = some M' ∧ RP n B (((59 : Int32), (0 : Nat), (0 : Nat)) :: ts) M' ∧ NmS (cnU cn 2) nmv M' ∧ M'.1 324 (5 + c) = nI (1 + l.length) ∧ (∀ (j a b : Nat), ((f, g) :: l)[j]? = some (a, b) → M'.1 325 (3 * (5 + c) + j) = nI a ∧ M'.1 326 (3 * (5 + c) + j) = nI b) ∧ Fr (KdI c) (fun r k => r = 316 ∧ k = 56 + c) M M' := by
  subst hc
  have h0 : RP n B (((1 : Int32), (0 : Nat), nmv 2 (cn 2)) :: ((2 : Int32), sec, (0 : Nat)) :: (mayT fo 38 ++ (mayT ag 39 ++ (pairT f g ++ (prsT l ++ ((59 : Int32), (0 : Nat), (0 : Nat)) :: ts))))) M := by
    have : kindT (cn 2) sec fo ag f g l ++ ((59 : Int32), (0 : Nat), (0 : Nat)) :: ts = ((1 : Int32), (0 : Nat), nmv 2 (cn 2)) :: ((2 : Int32), sec, (0 : Nat)) :: (mayT fo 38 ++ (mayT ag 39 ++ (pairT f g ++ (prsT l ++ ((59 : Int32), (0 : Nat), (0 : Nat)) :: ts)))) := by
      unfold kindT
      simp only [List.cons_append, List.append_assoc]
    rw [this] at h
    exact h
  obtain ⟨M1, e1, p1, w1, f1⟩ := newName_r h0 (noOwn_nmv (by omega) (by omega)) N (x := 2) (by omega) (by omega) (N.no (by omega) (by omega))
  have e1' : f_X11_newName 2 M = some M1 := e1
  have N1 : NmS cn nmv M1 := N.fr f1 (fun _ _ z => z) (fun s k hs hk z => by
    have := (N.1 s (by omega)).2
    rcases (show s = 0 ∨ s = 1 ∨ s = 2 ∨ s = 3 ∨ s = 4 by omega) with q | q | q | q | q <;> subst q <;> omega)
  obtain ⟨M2, e2, p2, f2⟩ := number_r p1 (lo := 1) (hi := 60) hs1 hs2 (by omega)
  have e2' : f_X11_number 1 60 M1 = some (nI sec, M2) := e2
  have N2 := N1.fs f2
  obtain ⟨M3, h3⟩ : ∃ X, X = setI M2 321 (5 + cn 2) (nI sec) := ⟨_, rfl⟩
  have p3 := p2.I' h3 (by omega)
  have N3 : NmS cn nmv M3 := by rw [h3]; exact N2.I (by omega)
  have pf : pairT f g ++ (prsT l ++ ((59 : Int32), (0 : Nat), (0 : Nat)) :: ts) = ((2 : Int32), f, (0 : Nat)) :: (((1 : Int32), (0 : Nat), scd 41) :: ((2 : Int32), g, (0 : Nat)) :: (prsT l ++ ((59 : Int32), (0 : Nat), (0 : Nat)) :: ts)) := rfl
  obtain ⟨t1, r1, q1⟩ : ∃ t1 r1, mayT ag 39 ++ (pairT f g ++ (prsT l ++ ((59 : Int32), (0 : Nat), (0 : Nat)) :: ts)) = t1 :: r1 ∧ t1.2.2 < 2 ^ 30 ∧ (t1.1 ≠ 1 ∨ t1.2.2 ≠ scd 38) := by
    cases ag with
    | true => exact ⟨((1 : Int32), (0 : Nat), scd 39), _, rfl, by show scd 39 < 2 ^ 30; decide, Or.inr (by show scd 39 ≠ scd 38; decide)⟩
    | false => exact ⟨((2 : Int32), f, (0 : Nat)), _, rfl, by show (0 : Nat) < 2 ^ 30; decide, Or.inl (by show (2 : Int32) ≠ 1; decide)⟩
  rw [q1.1] at p3
  obtain ⟨M4, x4, e4, p4, f4⟩ := may_r p3 (by omega) (by omega) q1.2.1 q1.2.2
  rw [← q1.1] at p4
  have N4 := N3.fs f4
  obtain ⟨M5, h5⟩ : ∃ X, X = setI M4 322 (5 + cn 2) (vp_nar .boolean x4) := ⟨_, rfl⟩
  have p5 := p4.I' h5 (by omega)
  have N5 : NmS cn nmv M5 := by rw [h5]; exact N4.I (by omega)
  rw [pf] at p5
  obtain ⟨M6, x6, e6, p6, f6⟩ := may_r p5 (by omega) (by omega) (by show (0 : Nat) < 2 ^ 30; decide) (Or.inl (by show (2 : Int32) ≠ 1; decide))
  rw [← pf] at p6
  have N6 := N5.fs f6
  obtain ⟨M7, h7⟩ : ∃ X, X = setI M6 323 (5 + cn 2) (vp_nar .boolean x6) := ⟨_, rfl⟩
  obtain ⟨M8, h8⟩ : ∃ X, X = setI M7 324 (5 + cn 2) 0 := ⟨_, rfl⟩
  have p8 := (p6.I' h7 (by omega)).I' h8 (by omega)
  have N8 : NmS cn nmv M8 := by rw [h8, h7]; exact (N6.I (by omega)).I (by omega)
  have d8 : M8.1 324 (5 + cn 2) = nI 0 := by rw [h8, setI_s]; rfl
  obtain ⟨M9, e9, p9, a9, b9, d9, f9⟩ := pair_r p8 (by omega) (by omega) d8 hf hg hfg
  have N9 : NmS cn nmv M9 := N8.fr f9 (fun k hk z => by unfold PrI at z; omega) (fun _ _ _ _ z => z)
  obtain ⟨M10, e10, p10, d10, l10, o10, c10, f10⟩ := more_r (q := 5 + cn 2) (c := cn 2) (by omega) (fun _ _ => none) l 1 M9 (by omega) hok d9 p9 (N9.1 2 (by omega)).1 fuel (by unfold fuel; omega)
  have w9 : M9.2.1 316 (40 + 8 * 2 + cn 2) = lN (nmv 2 (cn 2)) := by
    rw [f9.2.1 _ _ (by omega) (fun z => z), h8, h7]
    show M6.2.1 _ _ = _
    rw [f6.2.1 _ _ (by omega), h5]
    show M4.2.1 _ _ = _
    rw [f4.2.1 _ _ (by omega), h3]
    show M2.2.1 _ _ = _
    rw [f2.2.1 _ _ (by omega)]
    exact w1
  have o0 := o10 0 (by omega)
  refine ⟨M10, ?_, p10, ?_, ?_, ?_, ?_⟩
  · unfold f_X11_kindLine
    simp only [bnd_e]
    rw [e1', clv_s, (show f_X11_read 2 M1 = some (nI (cn 2), M1) from read_r N1 (x := 2) (by omega)), cl_s, e2', cl_s, show (5 : Int32) + nI (cn 2) = nI (5 + cn 2) from nI_add _ _, gd_t (inb_nI (by omega) (by omega)), nI_clamp (by omega), ← h3, e4, cl_s, ← h5, e6, cl_s, ← h7, ← h8, if_pos p8.f9, e9, clv_s, e10]
  · refine ⟨fun s hs => ?_, fun s k hs hk => ?_⟩
    · unfold cnU
      by_cases cs : s = 2
      · subst cs
        rw [if_pos rfl]
        exact ⟨c10, by omega⟩
      · rw [if_neg cs, f10.2.2 _ _ (by omega) (fun z => by unfold PrL at z; omega)]
        exact N9.1 s hs
    · rw [f10.2.1 _ _ (by omega) (fun z => z)]
      unfold cnU at hk
      by_cases cs : s = 2
      · subst cs
        rw [if_pos rfl] at hk
        rcases Nat.lt_or_ge k (cn 2) with q | q
        · exact N9.2 2 k hs q
        · rw [show k = cn 2 by omega]
          exact ⟨w9, (nmv_own 2 (by omega) (cn 2) (by omega)).1⟩
      · rw [if_neg cs] at hk
        exact N9.2 s k hs hk
  · rw [d10]
  · intro j a b z
    cases j with
    | zero =>
      cases z
      exact ⟨o0.1.trans a9, o0.2.trans b9⟩
    | succ j =>
      have := l10 j a b z
      rw [show 1 + j = j + 1 by omega] at this
      exact this
  · have m3 : Fr (KdI (cn 2)) (fun r k => r = 316 ∧ k = 56 + cn 2) M2 M3 := by rw [h3]; exact fr_I M2 (Or.inr (Or.inl ⟨Or.inl rfl, rfl⟩))
    have m5 : Fr (KdI (cn 2)) (fun r k => r = 316 ∧ k = 56 + cn 2) M4 M5 := by rw [h5]; exact fr_I M4 (Or.inr (Or.inl ⟨Or.inr (Or.inl rfl), rfl⟩))
    have m7 : Fr (KdI (cn 2)) (fun r k => r = 316 ∧ k = 56 + cn 2) M6 M7 := by rw [h7]; exact fr_I M6 (Or.inr (Or.inl ⟨Or.inr (Or.inr rfl), rfl⟩))
    have m8 : Fr (KdI (cn 2)) (fun r k => r = 316 ∧ k = 56 + cn 2) M7 M8 := by rw [h8]; exact fr_I M7 (Or.inl (Or.inr (Or.inr ⟨rfl, rfl⟩)))
    refine (f1.mono (fun _ _ z => z.elim) (fun _ _ z => by omega)).tr (f2.fr.tr (m3.tr (f4.fr.tr (m5.tr (f6.fr.tr (m7.tr (m8.tr ((f9.mono (fun r k z => ?_) (fun _ _ z => z.elim)).tr (f10.mono (fun r k z => ?_) (fun _ _ z => z.elim))))))))))
    · unfold PrI at z
      unfold KdI PrL
      omega
    · unfold KdI
      unfold PrL at z ⊢
      omega
end KIND
