/-! NAMES, as both keep them -/
def so (s : Nat) : Nat := if s = 0 then 10 else s + 11
theorem so_ok : ∀ s, s < 5 → 10 ≤ so s ∧ so s < 26 := by decide
theorem so_inj : ∀ s, s < 5 → ∀ t, t < 5 → so s = so t → s = t := by decide
def mxS (s : Nat) : Nat := ([5, 4, 5, 3, 8, 6] : List Nat).getD s 0
def rdN (Mr : Mem) (s : Nat) : Nat := (Mr.1 313 (6 + s)).toNatClampNeg
def rq (pd : Nat) (Mr : Mem) (s : Nat) : Nat := rdN Mr s + (if s = pd then 1 else 0)
/-- a name's entry in both -/
def Ent (Mc Mr : Mem) (i s k w : Nat) : Prop := (0 < w ∧ w < 2 ^ 30) ∧ Mc.1 209 i = nI w ∧ Mc.2.2.1 210 i = so s ∧ Mc.1 211 i = nI k ∧ Mr.2.1 316 (40 + 8 * s + k) = lN w
def NmR (pd : Nat) (Mc Mr : Mem) : Prop :=
  (∀ s, s < 6 → Mr.1 313 (6 + s) = nI (rdN Mr s) ∧ rq pd Mr s ≤ mxS s) ∧
  ∃ m, Mc.1 208 9 = nI m ∧ m = rq pd Mr 0 + rq pd Mr 1 + rq pd Mr 2 + rq pd Mr 3 + rq pd Mr 4 ∧
    (∀ i, i < m → ∃ s k w, s < 5 ∧ k < rq pd Mr s ∧ Ent Mc Mr i s k w) ∧
    (∀ s k, s < 5 → k < rq pd Mr s → ∃ i w, i < m ∧ Ent Mc Mr i s k w) ∧
    ∀ i j, i < m → j < m → Mc.1 209 i = Mc.1 209 j → i = j
theorem mxS_8 : ∀ s, s < 6 → mxS s ≤ 8 := by decide
theorem NmR.cong {pd : Nat} {Mc Mr Mc' Mr' : Mem} (h : NmR pd Mc Mr) (e1 : Mc'.1 208 9 = Mc.1 208 9) (e2 : Mc'.1 209 = Mc.1 209) (e3 : Mc'.1 211 = Mc.1 211) (e4 : Mc'.2.2.1 210 = Mc.2.2.1 210) (e5 : Mr'.2.1 316 = Mr.2.1 316) (e6 : ∀ s, s < 6 → Mr'.1 313 (6 + s) = Mr.1 313 (6 + s)) : NmR pd Mc' Mr' := by
  have er : ∀ s, s < 6 → rdN Mr' s = rdN Mr s := fun s hs => by unfold rdN; rw [e6 s hs]
  have eq : ∀ s, s < 6 → rq pd Mr' s = rq pd Mr s := fun s hs => by unfold rq; rw [er s hs]
  have ee : ∀ i s k w, Ent Mc' Mr' i s k w ↔ Ent Mc Mr i s k w := fun i s k w => by unfold Ent; rw [e2, e3, e4, e5]
  obtain ⟨h1, m, h2, h3, h4, h5, h6⟩ := h
  refine ⟨fun s hs => by rw [e6 s hs, er s hs, eq s hs]; exact h1 s hs, m, by rw [e1, h2], by rw [eq 0 (by omega), eq 1 (by omega), eq 2 (by omega), eq 3 (by omega), eq 4 (by omega)]; exact h3, fun i hi => ?_, fun s k hs hk => ?_, fun i j hi hj e => ?_⟩
  · obtain ⟨s, k, w, a, b, c⟩ := h4 i hi
    exact ⟨s, k, w, a, by rw [eq s (by omega)]; exact b, (ee i s k w).mpr c⟩
  · rw [eq s (by omega)] at hk
    obtain ⟨i, w, a, b⟩ := h5 s k hs hk
    exact ⟨i, w, a, (ee i s k w).mpr b⟩
  · rw [e2] at e
    exact h6 i j hi hj e
theorem NmR.g {pd : Nat} {Mc Mr Mc' Mr' : Mem} (h : NmR pd Mc Mr) (oc : GC Mc Mc') (or : GR Mr Mr') : NmR pd Mc' Mr' :=
  h.cong (oc.2.2.2 _ _ (by omega)) (oc.row (by omega)) (oc.row (by omega)) (oc.rrow (by omega)) (or.lrow (by omega)) (fun s _ => or.2.2 _ _ (by omega))
/-- the reference looks for the word among a sort -/
theorem named_f {Mr : Mem} {w s : Nat} (hs : s < 5) (h8 : Mr.2.1 311 8 = lN w) (hr : Mr.1 313 (6 + s) = nI (rdN Mr s)) (hm : rdN Mr s ≤ 8) :
    (∃ k, k < rdN Mr s ∧ Mr.2.1 316 (40 + 8 * s + k) = lN w ∧ f_X11_named (nI s) Mr = some (nI k, Mr)) ∨ ((∀ k, k < rdN Mr s → Mr.2.1 316 (40 + 8 * s + k) ≠ lN w) ∧ f_X11_named (nI s) Mr = some (-1, Mr)) := by
  have i6 : 6 + nI s = nI (6 + s) := nI_add _ _
  have rd : f_X11_read (nI s) Mr = some (nI (rdN Mr s), Mr) := by
    unfold f_X11_read
    rw [i6, gd_t (inb_nI (by omega) (by omega)), nI_clamp (by omega), hr]
  have ix : ∀ j, (40 + (8 * nI s)) + nI j = nI (40 + 8 * s + j) := fun j => by
    rw [show (8 : Int32) = nI 8 from rfl, nI_mul', show (40 : Int32) = nI 40 from rfl, nI_add, nI_add]
  have go : ∀ k, k ≤ rdN Mr s → (∀ j, j < k → Mr.2.1 316 (40 + 8 * s + j) ≠ lN w) → ∀ R, (∀ f, f_X11_named_b2_s f (nI s) (nI k) Mr = R) → f_X11_named (nI s) Mr = R := fun k hk no R hR => by
    have hl := lp_for (z := fun _ _ _ => none) (s := f_X11_named_b2_s) (fun j (f : Int32 → Int32 → Mem → Option (Int32 × Mem)) => f (nI s) (nI j) Mr) k R (fun j hj f => by
      show f_X11_named_b2_s f (nI s) (nI j) Mr = f (nI s) (nI (j + 1)) Mr
      unfold f_X11_named_b2_s
      rw [rd, cl_s, if_neg (show ¬ nI (rdN Mr s) ≤ nI j from nI_ge (by omega) (by omega)), ix, gd_t (inb_nI (by omega) (by omega)), nI_clamp (by omega), h8, if_neg (show ¬ lg_cmp (Mr.2.1 316 (40 + 8 * s + j)) (lN w) = 0 from fun z => no j hj ((lg0 _ _).mp z)), bnd_e, nI_1]) hR fuel (by unfold fuel; omega)
    exact hl
  by_cases E : ∃ k, k < rdN Mr s ∧ Mr.2.1 316 (40 + 8 * s + k) = lN w
  · have yes := fa_first_yes (fun k => decide (Mr.2.1 316 (40 + 8 * s + k) = lN w)) (rdN Mr s)
    have nos := fa_first_no (fun k => decide (Mr.2.1 316 (40 + 8 * s + k) = lN w)) (rdN Mr s)
    obtain ⟨q, hq⟩ : ∃ q, q = fa_first (fun k => decide (Mr.2.1 316 (40 + 8 * s + k) = lN w)) (rdN Mr s) := ⟨_, rfl⟩
    rw [← hq] at yes nos
    have lt : q < rdN Mr s := by
      obtain ⟨k, hk, ek⟩ := E
      rcases Nat.lt_or_ge q (rdN Mr s) with z | z
      · exact z
      · have z2 : decide (Mr.2.1 316 (40 + 8 * s + k) = lN w) = false := nos k (by omega)
        exact absurd ek (of_decide_eq_false z2)
    have hit : Mr.2.1 316 (40 + 8 * s + q) = lN w := of_decide_eq_true (yes lt)
    refine Or.inl ⟨q, lt, hit, go q (by omega) (fun j hj => of_decide_eq_false (nos j hj)) _ (fun f => ?_)⟩
    unfold f_X11_named_b2_s
    rw [rd, cl_s, if_neg (show ¬ nI (rdN Mr s) ≤ nI q from nI_ge (by omega) (by omega)), ix, gd_t (inb_nI (by omega) (by omega)), nI_clamp (by omega), h8, if_pos (show lg_cmp (Mr.2.1 316 (40 + 8 * s + q)) (lN w) = 0 from (lg0 _ _).mpr hit)]
  · have no : ∀ k, k < rdN Mr s → Mr.2.1 316 (40 + 8 * s + k) ≠ lN w := fun k hk e => E ⟨k, hk, e⟩
    refine Or.inr ⟨no, go (rdN Mr s) (Nat.le_refl _) no _ (fun f => ?_)⟩
    unfold f_X11_named_b2_s
    rw [rd, cl_s, if_pos (show nI (rdN Mr s) ≤ nI (rdN Mr s) from le_nI (by omega) (by omega) (Nat.le_refl _))]
/-- no own word is a name -/
theorem own_f {n : Nat} {B : Nat → Nat} {st : Nat} {Mc Mr : Mem} (h : LPt n B st Mc Mr) : f_X11_isOwn Mr = some (b10 (decide (10 ≤ ctN n B st)), Mr) := by
  have k := (k_word (LPt.k h)).2.2
  have t28 := is_f h (s := 28) (by omega) (by omega)
  have t29 := is_f h (s := 29) (by omega) (by omega)
  have t30 := is_f h (s := 30) (by omega) (by omega)
  have t31 := is_f h (s := 31) (by omega) (by omega)
  have t32 := is_f h (s := 32) (by omega) (by omega)
  have t33 := is_f h (s := 33) (by omega) (by omega)
  have t34 := is_f h (s := 34) (by omega) (by omega)
  have t35 := is_f h (s := 35) (by omega) (by omega)
  have t36 := is_f h (s := 36) (by omega) (by omega)
  have t37 := is_f h (s := 37) (by omega) (by omega)
  have t38 := is_f h (s := 38) (by omega) (by omega)
  have t39 := is_f h (s := 39) (by omega) (by omega)
  have t40 := is_f h (s := 40) (by omega) (by omega)
  have t41 := is_f h (s := 41) (by omega) (by omega)
  have t42 := is_f h (s := 42) (by omega) (by omega)
  have t43 := is_f h (s := 43) (by omega) (by omega)
  unfold f_X11_isOwn f_X11_isOwn_b90 f_X11_isOwn_b95
  rw [t28, cl_s, t29, cl_s, t30, cl_s, t31, cl_s, t32, cl_s, t33, cl_s, t34, cl_s, t35, cl_s, t36, cl_s, t37, cl_s, t38, cl_s, t39, cl_s, t40, cl_s, t41, cl_s, t42, cl_s, t43, cl_s]
  generalize ctN n B st = c at k
  have e : c = 1 ∨ c = 2 ∨ c = 3 ∨ c = 4 ∨ c = 5 ∨ c = 6 ∨ c = 7 ∨ c = 8 ∨ c = 9 ∨ c = 10 ∨ c = 11 ∨ c = 12 ∨ c = 13 ∨ c = 14 ∨ c = 15 ∨ c = 16 ∨ c = 17 ∨ c = 18 ∨ c = 19 ∨ c = 20 ∨ c = 21 ∨ c = 22 ∨ c = 23 ∨ c = 24 ∨ c = 25 := by omega
  rcases e with rfl | rfl | rfl | rfl | rfl | rfl | rfl | rfl | rfl | rfl | rfl | rfl | rfl | rfl | rfl | rfl | rfl | rfl | rfl | rfl | rfl | rfl | rfl | rfl | rfl <;> rfl
theorem isName_f {n : Nat} {B : Nat → Nat} {st : Nat} {Mc Mr : Mem} (h : LPt n B st Mc Mr) : f_X11_isName Mr = some (b10 (decide (ctN n B st = 3)), Mr) := by
  have k := k_word (LPt.k h)
  have r6 := h.2.2.1.2.2.1
  unfold f_X11_isName
  rw [r6, own_f h, cl_s]
  by_cases c : rtN n B st = 1
  · rw [if_pos c]
    rcases k.1.mp c with z | z
    · rw [z]; rfl
    · rw [decide_eq_true z, decide_eq_false (show ¬ ctN n B st = 3 by omega)]; rfl
  · rw [if_neg c, decide_eq_false (fun z => c (k.1.mpr (Or.inl z)))]; rfl
theorem isName_d {Mr : Mem} (h : Mr.1 311 9 ≠ 0) : ∃ x, f_X11_isName Mr = some (x, Mr) := by
  unfold f_X11_isName f_X11_isOwn f_X11_isOwn_b95
  rw [is_d h, cl_s, if_pos rfl, is_d h, cl_s, if_pos rfl, is_d h, cl_s, if_pos rfl, is_d h, cl_s, if_pos rfl, is_d h, cl_s, if_pos rfl, is_d h, cl_s, if_pos rfl, is_d h, cl_s, if_pos rfl, is_d h, cl_s, if_pos rfl, is_d h, cl_s, if_pos rfl, is_d h, cl_s, if_pos rfl, if_pos rfl, is_d h, cl_s, if_pos rfl, is_d h, cl_s, if_pos rfl, is_d h, cl_s, if_pos rfl, is_d h, cl_s, if_pos rfl, is_d h, cl_s, if_pos rfl, is_d h, cl_s, if_pos rfl, cl_s, if_pos rfl]
  split
  · exact ⟨_, rfl⟩
  · exact ⟨_, rfl⟩
theorem looksUp_d {Mr : Mem} (h : Mr.1 311 9 ≠ 0) (x : Int32) : f_X11_looksUp x Mr = some (0, Mr) := by
  obtain ⟨y, e⟩ := isName_d h
  unfold f_X11_looksUp
  rw [e, cl_s, must_d h, cl_s, if_pos rfl]
theorem known_d {Mr : Mem} (h : Mr.1 311 9 ≠ 0) (x : Int32) : f_X11_known x Mr = some (0, Mr) := by
  unfold f_X11_known
  rw [looksUp_d h, cl_s, if_neg h]
theorem newName_d {Mr : Mem} (h : Mr.1 311 9 ≠ 0) (x : Int32) : f_X11_newName x Mr = some Mr := by
  obtain ⟨y, e⟩ := isName_d h
  unfold f_X11_newName
  rw [e, cl_s, must_d h, cl_s, if_pos rfl]
/-- one of a sort, not this one -/
theorem find_ls {n : Nat} {B : Nat → Nat} {st pd : Nat} {Mc Mr : Mem} (h : LPt n B st Mc Mr) (N : NmR pd Mc Mr) {s : Nat} (hs : s < 5) (hp : s ≠ pd) (x : Int32) :
    (∃ k, k < rdN Mr s ∧ nI k ≠ x ∧ st < n ∧ f_X7_findName (so s) x Mc = some (nI k, Mc) ∧ f_X11_looksUp (nI s) Mr = some (nI k, Mr)) ∨
    (∃ Mc' Mr', f_X7_findName (so s) x Mc = some (-1, Mc') ∧ f_X11_looksUp (nI s) Mr = some (0, Mr') ∧ FL Mc' Mr' ∧ GC Mc Mc' ∧ GR Mr Mr') ∨
    (∃ k Mc', k < rdN Mr s ∧ nI k = x ∧ f_X7_findName (so s) x Mc = some (-1, Mc') ∧ f_X7_fail 4 Mc = some (0, Mc') ∧ f_X11_looksUp (nI s) Mr = some (nI k, Mr)) := by
  have K := LPt.k h
  have kw := k_word K
  have ke := (k_end K).2
  have h9 := h.2.2.2
  obtain ⟨N1, m, N2, N3, N4, N5, N6⟩ := N
  obtain ⟨hs', ⟨c3, c5, c6, c4, sc⟩, ⟨r5, r4, r6, r7, r8, sr⟩, -⟩ := id h
  have m25 : m ≤ 25 := by
    have a0 := (N1 0 (by omega)).2
    have a1 := (N1 1 (by omega)).2
    have a2 := (N1 2 (by omega)).2
    have a3 := (N1 3 (by omega)).2
    have a4 := (N1 4 (by omega)).2
    have b : mxS 0 = 5 ∧ mxS 1 = 4 ∧ mxS 2 = 5 ∧ mxS 3 = 3 ∧ mxS 4 = 8 := by decide
    omega
  have rqs : rq pd Mr s = rdN Mr s := by unfold rq; rw [if_neg hp, Nat.add_zero]
  have so26 := so_ok s hs
  unfold f_X7_findName f_X11_looksUp f_X11_looksUp_b26
  rw [c4, gd_t kw.2.2.2, isName_f h, cl_s]
  by_cases c : ctN n B st = 3
  · have rt := kw.1.mpr (Or.inl c)
    obtain ⟨w1, w2, w3, w4⟩ := kw.2.1 rt
    have h8 : Mr.2.1 311 8 = lN (vlN n B st) := by rw [r8, w2]
    have nam := named_f hs h8 (N1 s (by omega)).1 (by have := (N1 s (by omega)).2; have := mxS_8 s (by omega); omega)
    rw [if_pos c, decide_eq_true c, show b10 true = 1 from rfl, must_t h9 (by decide), cl_s, if_neg (show ¬ (1 : Int32) = 0 by decide)]
    -- the class's loop, up to i
    have go : ∀ i, i ≤ m → (∀ j, j < i → ¬ (Mc.1 209 j = nI (vlN n B st) ∧ Mc.2.2.1 210 j = so s ∧ Mc.1 211 j ≠ x)) → ∀ R, (∀ f, f_X7_findName_b20_s f (so s) x (nI i) Mc = R) → f_X7_findName_b20 fuel (so s) x 0 Mc = R := fun i hi no R hR => by
      have hl := lp_for (z := fun _ _ _ _ => none) (s := f_X7_findName_b20_s) (fun j (f : Nat → Int32 → Int32 → Mem → Option (Int32 × Mem)) => f (so s) x (nI j) Mc) i R (fun j hj f => by
        show f_X7_findName_b20_s f (so s) x (nI j) Mc = f (so s) x (nI (j + 1)) Mc
        obtain ⟨s', k', w', a1, a2, a3, a4, a5, a6, a7⟩ := N4 j (by omega)
        have so' := so_ok s' a1
        unfold f_X7_findName_b20_s
        simp only [bnd_e]
        rw [N2, if_neg (show ¬ nI m ≤ nI j from nI_ge (by omega) (by omega)), gd_t (inb_nI (by omega) (by omega)), nI_clamp (by omega), c6, a5, gd_t so'.2, gd_t so26.2, nI_1]
        by_cases q1 : Mc.1 209 j = nI (vlN n B st)
        · rw [if_pos q1]
          by_cases q2 : so s' = so s
          · rw [if_pos q2]
            by_cases q3 : Mc.1 211 j = x
            · rw [if_pos q3]
            · exact absurd ⟨q1, by rw [a5, q2], q3⟩ (no j hj)
          · rw [if_neg q2]
        · rw [if_neg q1]) hR fuel (by unfold fuel; omega)
      exact hl
    have fin : (∀ j, j < m → ¬ (Mc.1 209 j = nI (vlN n B st) ∧ Mc.2.2.1 210 j = so s ∧ Mc.1 211 j ≠ x)) → ∀ Mc', f_X7_fail 4 Mc = some (0, Mc') → f_X7_findName_b20 fuel (so s) x 0 Mc = some (-1, Mc') := fun no Mc' e => by
      refine go m (Nat.le_refl _) no _ (fun f => ?_)
      unfold f_X7_findName_b20_s
      rw [N2, if_pos (show nI m ≤ nI m from le_nI (by omega) (by omega) (Nat.le_refl _)), e, cl_s]
    rcases nam with ⟨k, hk, hit, e⟩ | ⟨no, e⟩
    · obtain ⟨i0, w0, i1, ⟨z1, z2⟩, z3, z4, z5, z6⟩ := N5 s k hs (by rw [rqs]; exact hk)
      have ew : w0 = vlN n B st := lN_inj (by omega) (by omega) (z6.symm.trans hit)
      rw [ew] at z3
      have kk : ¬ nI k < 0 := neg_nI (by have := (N1 s (by omega)).2; have := mxS_8 s (by omega); omega)
      rw [e, cl_s, if_neg kk, must_t h9 (by decide), cl_s, if_neg (show ¬ (1 : Int32) = 0 by decide), e, cl_s]
      by_cases q : nI k = x
      · refine Or.inr (Or.inr ⟨k, setI Mc 208 8 ((8 * (Mc.1 208 5)) + 4), hk, q, fin (fun j hj z => ?_) _ rfl, rfl, rfl⟩)
        have : j = i0 := N6 j i0 hj i1 (z.1.trans z3.symm)
        rw [this, z5] at z
        exact z.2.2 q
      · refine Or.inl ⟨k, hk, q, ke (by omega), go i0 (by omega) (fun j hj z => ?_) _ (fun f => ?_), rfl⟩
        · have : j = i0 := N6 j i0 (by omega) i1 (z.1.trans z3.symm)
          omega
        · unfold f_X7_findName_b20_s
          rw [N2, if_neg (show ¬ nI m ≤ nI i0 from nI_ge (by omega) (by omega)), gd_t (inb_nI (by omega) (by omega)), nI_clamp (by omega), c6, if_pos z3, z4, gd_t so26.2, gd_t so26.2, if_pos rfl, z5, if_neg q]
    · obtain ⟨Mc', Mr', f1, f2, f3, f4, f5⟩ := fault h (k := 4) (by decide)
      rw [e, cl_s, if_pos (show (-1 : Int32) < 0 by decide), f2, cl_s, if_pos rfl]
      refine Or.inr (Or.inl ⟨Mc', Mr', fin (fun j hj z => ?_) Mc' f1, rfl, f3, f4, f5⟩)
      obtain ⟨s', k', w', a1, a2, ⟨b1, b2⟩, a4, a5, a6, a7⟩ := N4 j hj
      have es : s' = s := so_inj s' a1 s hs (a5.symm.trans z.2.1)
      have ew : w' = vlN n B st := inj_nI (by omega) (by omega) (a4.symm.trans z.1)
      rw [es, ew] at a7
      rw [es, rqs] at a2
      exact no k' a2 a7
  · obtain ⟨Mc', Mr', f1, f2, f3, f4, f5⟩ := fault h (k := 1) (by decide)
    rw [if_neg c, decide_eq_false c, show b10 false = 0 from rfl, f2, cl_s, if_pos rfl, f1, cl_s]
    exact Or.inr (Or.inl ⟨Mc', Mr', rfl, rfl, f3, f4, f5⟩)
/-- one of a sort, taken -/
theorem known_ls {n : Nat} {B : Nat → Nat} {st pd : Nat} {Mc Mr : Mem} (h : LPt n B st Mc Mr) (N : NmR pd Mc Mr) {s : Nat} (hs : s < 5) (hp : s ≠ pd) :
    (∃ k Mc' Mr', k < rdN Mr s ∧ st < n ∧ f_X7_takeName (so s) (-1) Mc = some (nI k, Mc') ∧ f_X11_known (nI s) Mr = some (nI k, Mr') ∧ LPt n B (nx n B st) Mc' Mr' ∧ FsC Mc Mc' ∧ FsR Mr Mr') ∨
    (∃ Mc' Mr', f_X7_takeName (so s) (-1) Mc = some (-1, Mc') ∧ f_X11_known (nI s) Mr = some (0, Mr') ∧ FL Mc' Mr' ∧ GC Mc Mc' ∧ GR Mr Mr') := by
  have h9 := h.2.2.2
  have m8 : rdN Mr s ≤ 8 := by
    have a := (N.1 s (by omega)).2
    have b := mxS_8 s (by omega)
    unfold rq at a
    omega
  unfold f_X7_takeName f_X11_known
  rcases find_ls h N hs hp (-1) with ⟨k, hk, q, lt, e1, e2⟩ | ⟨Mc', Mr', e1, e2, f3, f4, f5⟩ | ⟨k, Mc', hk, q, -⟩
  · obtain ⟨Mc2, Mr2, a1, a2, a3, a4, a5⟩ := h.adv
    rw [e1, cl_s, e2, cl_s, if_neg q, if_pos h9, a1, clv_s, a2, clv_s]
    exact Or.inl ⟨k, Mc2, Mr2, hk, lt, rfl, rfl, a3, a4, a5⟩
  · rw [e1, cl_s, e2, cl_s, if_pos rfl, if_neg f3.1]
    exact Or.inr ⟨Mc', Mr', rfl, rfl, f3, f4, f5⟩
  · exact absurd q (nI_m1 (by omega))
/-! a name given -/
/-- at most what naming changes -/
def NaC (M M' : Mem) : Prop := M'.2.1 = M.2.1 ∧ M'.2.2.2 = M.2.2.2 ∧ (∀ a k, ¬ (a = 208 ∧ k = 4) → a ≠ 210 → M'.2.2.1 a k = M.2.2.1 a k) ∧ ∀ a k, ¬ (a = 208 ∧ (3 ≤ k ∧ k ≤ 9)) → a ≠ 209 → a ≠ 211 → M'.1 a k = M.1 a k
def NaR (M M' : Mem) : Prop := M'.2.2 = M.2.2 ∧ (∀ a k, ¬ (a = 311 ∧ k = 8) → a ≠ 316 → M'.2.1 a k = M.2.1 a k) ∧ ∀ a k, ¬ (a = 311 ∧ (4 ≤ k ∧ k ≤ 10)) → M'.1 a k = M.1 a k
theorem NaC.refl (M : Mem) : NaC M M := ⟨rfl, rfl, fun _ _ _ _ => rfl, fun _ _ _ _ _ => rfl⟩
theorem NaR.refl (M : Mem) : NaR M M := ⟨rfl, fun _ _ _ _ => rfl, fun _ _ _ => rfl⟩
theorem NaC.tr {M M' M'' : Mem} (h : NaC M M') (h' : NaC M' M'') : NaC M M'' := ⟨h'.1.trans h.1, h'.2.1.trans h.2.1, fun a k x y => (h'.2.2.1 a k x y).trans (h.2.2.1 a k x y), fun a k x y z => (h'.2.2.2 a k x y z).trans (h.2.2.2 a k x y z)⟩
theorem NaR.tr {M M' M'' : Mem} (h : NaR M M') (h' : NaR M' M'') : NaR M M'' := ⟨h'.1.trans h.1, fun a k x y => (h'.2.1 a k x y).trans (h.2.1 a k x y), fun a k x => (h'.2.2 a k x).trans (h.2.2 a k x)⟩
theorem GC.n {M M' : Mem} (h : GC M M') : NaC M M' := ⟨h.1, h.2.1, fun a k x _ => h.2.2.1 a k x, fun a k x _ _ => h.2.2.2 a k (by omega)⟩
theorem GR.n {M M' : Mem} (h : GR M M') : NaR M M' := ⟨h.1, fun a k x _ => h.2.1 a k x, h.2.2⟩
theorem and_01 (b : Bool) : b10 b &&& 1 = b10 b ∧ b10 b &&& 0 = 0 := by cases b <;> decide
theorem name_ls {n : Nat} {B : Nat → Nat} {st : Nat} {Mc Mr : Mem} (h : LPt n B st Mc Mr) (N : NmR 6 Mc Mr) {s : Nat} (hs : s < 5) (hm : rdN Mr s < mxS s) :
    (∃ Mc' Mr', st < n ∧ f_X7_giveName (so s) (nI (rdN Mr s)) Mc = some (1, Mc') ∧ f_X11_newName (nI s) Mr = some Mr' ∧ LPt n B (nx n B st) Mc' Mr' ∧ NmR s Mc' Mr' ∧ NaC Mc Mc' ∧ NaR Mr Mr') ∨
    (∃ Mc' Mr', f_X7_giveName (so s) (nI (rdN Mr s)) Mc = some (0, Mc') ∧ f_X11_newName (nI s) Mr = some Mr' ∧ FL Mc' Mr' ∧ GC Mc Mc' ∧ GR Mr Mr') := by
  have K := LPt.k h
  have kw := k_word K
  have ke := (k_end K).2
  have h9 := h.2.2.2
  have so26 := so_ok s hs
  obtain ⟨N1, m, N2, N3, N4, N5, N6⟩ := N
  obtain ⟨hs', ⟨c3, c5, c6, c4, sc⟩, ⟨r5, r4, r6, r7, r8, sr⟩, -⟩ := id h
  have rq6 : ∀ t, t < 6 → rq 6 Mr t = rdN Mr t := fun t ht => by unfold rq; rw [if_neg (by omega), Nat.add_zero]
  have mb : mxS 0 = 5 ∧ mxS 1 = 4 ∧ mxS 2 = 5 ∧ mxS 3 = 3 ∧ mxS 4 = 8 := by decide
  have m24 : m ≤ 24 := by
    have a0 := (N1 0 (by omega)).2
    have a1 := (N1 1 (by omega)).2
    have a2 := (N1 2 (by omega)).2
    have a3 := (N1 3 (by omega)).2
    have a4 := (N1 4 (by omega)).2
    have q0 := rq6 0 (by omega)
    have q1 := rq6 1 (by omega)
    have q2 := rq6 2 (by omega)
    have q3 := rq6 3 (by omega)
    have q4 := rq6 4 (by omega)
    have e : s = 0 ∨ s = 1 ∨ s = 2 ∨ s = 3 ∨ s = 4 := by omega
    rcases e with rfl | rfl | rfl | rfl | rfl <;> omega
  unfold f_X7_giveName f_X11_newName
  rw [c4, gd_t kw.2.2.2, isName_f h, cl_s]
  by_cases c : ctN n B st = 3
  · have rt := kw.1.mpr (Or.inl c)
    obtain ⟨w1, w2, w3, w4⟩ := kw.2.1 rt
    have h8 : Mr.2.1 311 8 = lN (vlN n B st) := by rw [r8, w2]
    have r8' : ∀ t, t < 6 → rdN Mr t ≤ 8 := fun t ht => by
      have a := (N1 t ht).2
      have b := mxS_8 t ht
      rw [rq6 t ht] at a
      omega
    rw [if_pos c, decide_eq_true c, show b10 true = 1 from rfl, must_t h9 (by decide), cl_s, if_neg (show ¬ (1 : Int32) = 0 by decide)]
    -- is the word there, in both
    have go : ∀ i, i ≤ m → (∀ j, j < i → Mc.1 209 j ≠ nI (vlN n B st)) → ∀ R, (∀ f, f_X7_giveName_b18_s f (so s) (nI (rdN Mr s)) (nI i) Mc = R) → f_X7_giveName_b18 fuel (so s) (nI (rdN Mr s)) 0 Mc = R := fun i hi no R hR => by
      have hl := lp_for (z := fun _ _ _ _ => none) (s := f_X7_giveName_b18_s) (fun j (f : Nat → Int32 → Int32 → Mem → Option (Int32 × Mem)) => f (so s) (nI (rdN Mr s)) (nI j) Mc) i R (fun j hj f => by
        show f_X7_giveName_b18_s f (so s) (nI (rdN Mr s)) (nI j) Mc = f (so s) (nI (rdN Mr s)) (nI (j + 1)) Mc
        unfold f_X7_giveName_b18_s
        rw [N2, if_neg (show ¬ nI m ≤ nI j from nI_ge (by omega) (by omega)), gd_t (inb_nI (by omega) (by omega)), nI_clamp (show j < 2 ^ 31 by omega), c6, if_neg (show ¬ Mc.1 209 j = nI (vlN n B st) from no j hj), bnd_e, nI_1]) hR fuel (by unfold fuel; omega)
      exact hl
    -- the reference's five sorts
    have nd : ∀ t, t < 5 → (∃ k, k < rdN Mr t ∧ Mr.2.1 316 (40 + 8 * t + k) = lN (vlN n B st) ∧ ∃ r, 0 ≤ r ∧ f_X11_named (nI t) Mr = some (r, Mr)) ∨ ((∀ k, k < rdN Mr t → Mr.2.1 316 (40 + 8 * t + k) ≠ lN (vlN n B st)) ∧ ∃ r, ¬ 0 ≤ r ∧ f_X11_named (nI t) Mr = some (r, Mr)) := fun t ht => by
      rcases named_f ht h8 (N1 t (by omega)).1 (r8' t (by omega)) with ⟨k, hk, hit, e⟩ | ⟨no, e⟩
      · exact Or.inl ⟨k, hk, hit, nI k, le_nI (a := 0) (by omega) (by have := r8' t (by omega); omega) (by omega), e⟩
      · exact Or.inr ⟨no, -1, by decide, e⟩
    have fr : ∃ F : Nat → Bool, (∀ t, F t = true ↔ ∀ u, u < t → ∀ k, k < rdN Mr u → Mr.2.1 316 (40 + 8 * u + k) ≠ lN (vlN n B st)) := ⟨fun t => @decide (∀ u, u < t → ∀ k, k < rdN Mr u → Mr.2.1 316 (40 + 8 * u + k) ≠ lN (vlN n B st)) (Classical.propDecidable _), fun t => by
      constructor
      · intro z; exact @of_decide_eq_true _ (Classical.propDecidable _) z
      · intro z; exact @decide_eq_true _ (Classical.propDecidable _) z⟩
    obtain ⟨F, hF⟩ := fr
    have loop : ∀ R, (∀ f, f_X11_newName_b17_s f (nI s) (b10 (F 5)) (nI 5) Mr = R) → f_X11_newName_b17 fuel (nI s) 1 0 Mr = R := fun R hR => by
      have hl := lp_for (z := fun _ _ _ _ => none) (s := f_X11_newName_b17_s) (fun t (f : Int32 → Int32 → Int32 → Mem → Option Mem) => f (nI s) (b10 (F t)) (nI t) Mr) 5 R (fun t ht f => by
        show f_X11_newName_b17_s f (nI s) (b10 (F t)) (nI t) Mr = f (nI s) (b10 (F (t + 1))) (nI (t + 1)) Mr
        unfold f_X11_newName_b17_s
        simp only [bnd_e]
        rw [if_neg (show ¬ (5 : Int32) ≤ nI t by rw [show (5 : Int32) = nI 5 from rfl]; exact nI_ge ht (by omega)), (and_01 (F t)).1, (and_01 (F t)).2, nI_1]
        rcases nd t ht with ⟨k, hk, hit, r, hr, e⟩ | ⟨no, r, hr, e⟩
        · have f0 : F (t + 1) = false := by
            cases q : F (t + 1) with
            | false => rfl
            | true => exact absurd hit ((hF (t + 1)).mp q t (by omega) k hk)
          rw [e, cl_s, if_pos hr, f0]; rfl
        · have f1 : F (t + 1) = F t := by
            cases q : F t with
            | false =>
              cases q2 : F (t + 1) with
              | false => rfl
              | true => 
                have := (hF t).mpr (fun u hu => (hF (t + 1)).mp q2 u (by omega))
                rw [q] at this
                exact absurd this (by decide)
            | true =>
              refine (hF (t + 1)).mpr (fun u hu => ?_)
              rcases Nat.lt_or_ge u t with z | z
              · exact (hF t).mp q u z
              · rw [show u = t by omega]; exact no
          rw [e, cl_s, if_neg hr, f1]) hR fuel (by unfold fuel; omega)
      have f0 : F 0 = true := (hF 0).mpr (fun u hu => absurd hu (by omega))
      simp only [f0] at hl
      exact hl
    by_cases E : ∃ i, i < m ∧ Mc.1 209 i = nI (vlN n B st)
    · -- the name is there
      obtain ⟨Mc', Mr', f1, f2, f3, f4, f5⟩ := fault h (k := 2) (by decide)
      obtain ⟨i, hi, ei⟩ := E
      obtain ⟨t, k, w, a1, a2, ⟨b1, b2⟩, a4, a5, a6, a7⟩ := N4 i hi
      have ew : w = vlN n B st := inj_nI (by omega) (by omega) (a4.symm.trans ei)
      rw [rq6 t (by omega)] at a2
      rw [ew] at a7
      have F5 : F 5 = false := by
        cases q : F 5 with
        | false => rfl
        | true => exact absurd a7 ((hF 5).mp q t a1 k a2)
      have e1 : f_X7_giveName_b18 fuel (so s) (nI (rdN Mr s)) 0 Mc = some (0, Mc') := by
        refine go i (by omega) (fun j hj z => ?_) _ (fun f => ?_)
        · have := N6 j i (by omega) hi (z.trans ei.symm)
          omega
        · unfold f_X7_giveName_b18_s
          rw [N2, if_neg (show ¬ nI m ≤ nI i from nI_ge (by omega) (by omega)), gd_t (inb_nI (by omega) (by omega)), nI_clamp (show i < 2 ^ 31 by omega), c6, if_pos ei, f1, cl_s, gd_t nar_b.1]
      have e2 : f_X11_newName_b17 fuel (nI s) 1 0 Mr = some Mr' := by
        refine loop _ (fun f => ?_)
        unfold f_X11_newName_b17_s
        rw [if_pos (show (5 : Int32) ≤ nI 5 by decide), F5, show b10 false = 0 from rfl, f2, cl_s, if_pos rfl]
      exact Or.inr ⟨Mc', Mr', e1, e2, f3, f4, f5⟩
    · have no : ∀ i, i < m → Mc.1 209 i ≠ nI (vlN n B st) := fun i hi e => E ⟨i, hi, e⟩
      have F5 : F 5 = true := (hF 5).mpr (fun u hu k hk z => by
        obtain ⟨i, w, i1, ⟨b1, b2⟩, a4, a5, a6, a7⟩ := N5 u k hu (by rw [rq6 u (by omega)]; exact hk)
        have ew : w = vlN n B st := lN_inj (by omega) (by omega) (a7.symm.trans z)
        rw [ew] at a4
        exact no i i1 a4)
      have lt := ke (by omega)
      have ib : inb (nI m) 25 := inb_nI (by omega) (by omega)
      -- the class's entry
      obtain ⟨Mc1, d1⟩ : ∃ X, X = setI (setI (setR (setI Mc 209 m (nI (vlN n B st))) 210 m (so s)) 211 m (nI (rdN Mr s))) 208 9 (nI (m + 1)) := ⟨_, rfl⟩
      have q1 : ∀ a k, a ≠ 209 → a ≠ 211 → ¬ (a = 208 ∧ k = 9) → Mc1.1 a k = Mc.1 a k := fun a k h1 h2 h3 => by rw [d1, setI_n (by omega), setI_n (by omega), setR_1, setI_n (by omega)]
      have q209 : ∀ k, Mc1.1 209 k = if k = m then nI (vlN n B st) else Mc.1 209 k := fun k => by
        rw [d1, setI_n (by omega), setI_n (by omega), setR_1]
        by_cases z : k = m
        · rw [z, setI_s, if_pos rfl]
        · rw [setI_n (Or.inr z), if_neg z]
      have q211 : ∀ k, Mc1.1 211 k = if k = m then nI (rdN Mr s) else Mc.1 211 k := fun k => by
        rw [d1, setI_n (by omega)]
        by_cases z : k = m
        · rw [z, setI_s, if_pos rfl]
        · rw [setI_n (Or.inr z), setR_1, setI_n (by omega), if_neg z]
      have q9 : Mc1.1 208 9 = nI (m + 1) := by rw [d1, setI_s]
      have q210 : ∀ a k, Mc1.2.2.1 a k = if a = 210 ∧ k = m then so s else Mc.2.2.1 a k := fun a k => by
        rw [d1]
        exact setR_3 _ _ _ _ _ _
      -- the reference's entry
      obtain ⟨Mr1, d2⟩ : ∃ X, X = setL Mr 316 (40 + 8 * s + rdN Mr s) (lN (vlN n B st)) := ⟨_, rfl⟩
      have u1 : Mr1.1 = Mr.1 := by rw [d2]; rfl
      have u2 : ∀ a k, Mr1.2.1 a k = if a = 316 ∧ k = 40 + 8 * s + rdN Mr s then lN (vlN n B st) else Mr.2.1 a k := fun a k => by rw [d2, setL_2]
      have h1 : LPt n B st Mc1 Mr1 := h.cong (fun k hk => q1 208 k (by omega) (by omega) (by omega)) (by rw [q210, if_neg (by omega)]) (funext (fun k => q1 65 k (by omega) (by omega) (by omega))) (fun k _ _ => by rw [u1]) (by rw [u2, if_neg (by omega)]) (by rw [u1])
      obtain ⟨Mc2, Mr2, a1, a2, a3, a4, a5⟩ := h1.adv
      have nm1 : NmR s Mc1 Mr1 := by
        have er : ∀ t, rdN Mr1 t = rdN Mr t := fun t => by unfold rdN; rw [u1]
        have eq : ∀ t, t < 6 → rq s Mr1 t = rq 6 Mr t + (if t = s then 1 else 0) := fun t ht => by rw [rq6 t ht]; unfold rq; rw [er]
        have ol : ∀ i t k w, i < m → k < rdN Mr t → t < 5 → (Ent Mc Mr i t k w → Ent Mc1 Mr1 i t k w) := fun i t k w hi hk ht z => by
          obtain ⟨y1, y2, y3, y4, y5⟩ := z
          have := r8' s (by omega)
          have := r8' t (by omega)
          refine ⟨y1, by rw [q209, if_neg (by omega), y2], by rw [q210, if_neg (by omega), y3], by rw [q211, if_neg (by omega), y4], ?_⟩
          rw [u2, if_neg ?_, y5]
          rintro ⟨-, e⟩
          have : t = s := by
            have a := (N1 t (by omega)).2
            have b := (N1 s (by omega)).2
            have e8 : mxS s ≤ 8 := mxS_8 s (by omega)
            omega
          rw [this] at e hk
          omega
        have nw : Ent Mc1 Mr1 m s (rdN Mr s) (vlN n B st) := ⟨⟨w3, w4⟩, by rw [q209, if_pos rfl], by rw [q210, if_pos ⟨rfl, rfl⟩], by rw [q211, if_pos rfl], by rw [u2, if_pos ⟨rfl, rfl⟩]⟩
        refine ⟨fun t ht => ?_, m + 1, q9, ?_, fun i hi => ?_, fun t k ht hk => ?_, fun i j hi hj e => ?_⟩
        · rw [u1, er, eq t ht, rq6 t ht]
          have a := N1 t ht
          rw [rq6 t ht] at a
          refine ⟨a.1, ?_⟩
          by_cases z : t = s
          · rw [if_pos z, z]; omega
          · rw [if_neg z]; omega
        · rw [eq 0 (by omega), eq 1 (by omega), eq 2 (by omega), eq 3 (by omega), eq 4 (by omega)]
          have e : s = 0 ∨ s = 1 ∨ s = 2 ∨ s = 3 ∨ s = 4 := by omega
          rcases e with rfl | rfl | rfl | rfl | rfl
          · rw [if_pos rfl, if_neg (by omega), if_neg (by omega), if_neg (by omega), if_neg (by omega)]; omega
          · rw [if_neg (by omega), if_pos rfl, if_neg (by omega), if_neg (by omega), if_neg (by omega)]; omega
          · rw [if_neg (by omega), if_neg (by omega), if_pos rfl, if_neg (by omega), if_neg (by omega)]; omega
          · rw [if_neg (by omega), if_neg (by omega), if_neg (by omega), if_pos rfl, if_neg (by omega)]; omega
          · rw [if_neg (by omega), if_neg (by omega), if_neg (by omega), if_neg (by omega), if_pos rfl]; omega
        · by_cases z : i = m
          · exact ⟨s, rdN Mr s, vlN n B st, hs, by rw [eq s (by omega), rq6 s (by omega), if_pos rfl]; omega, by rw [z]; exact nw⟩
          · obtain ⟨t, k, w, y1, y2, y3⟩ := N4 i (by omega)
            have y2' := y2
            rw [rq6 t (by omega)] at y2'
            exact ⟨t, k, w, y1, by rw [eq t (by omega)]; omega, ol i t k w (by omega) y2' y1 y3⟩
        · rw [eq t (by omega), rq6 t (by omega)] at hk
          by_cases z : t = s ∧ k = rdN Mr s
          · rw [z.1, z.2]
            exact ⟨m, vlN n B st, by omega, nw⟩
          · have hk' : k < rdN Mr t := by
              by_cases z2 : t = s
              · rw [if_pos z2] at hk
                rw [z2] at hk ⊢
                have : k ≠ rdN Mr s := fun q => z ⟨z2, q⟩
                omega
              · rw [if_neg z2] at hk
                exact hk
            obtain ⟨i, w, y1, y2⟩ := N5 t k ht (by rw [rq6 t (by omega)]; exact hk')
            exact ⟨i, w, by omega, ol i t k w y1 hk' ht y2⟩
        · rw [q209, q209] at e
          by_cases z1 : i = m
          · by_cases z2 : j = m
            · omega
            · rw [if_pos z1, if_neg z2] at e
              exact absurd e.symm (no j (by omega))
          · by_cases z2 : j = m
            · rw [if_neg z1, if_pos z2] at e
              exact absurd e (no i (by omega))
            · rw [if_neg z1, if_neg z2] at e
              exact N6 i j (by omega) (by omega) e
      have e1 : f_X7_giveName_b18 fuel (so s) (nI (rdN Mr s)) 0 Mc = some (1, Mc2) := by
        refine go m (Nat.le_refl _) no _ (fun f => ?_)
        unfold f_X7_giveName_b18_s f_X7_giveName_b103
        simp only [bnd_e]
        have v1 : (setI Mc 209 m (nI (vlN n B st))).1 208 9 = nI m := by rw [setI_n (by omega), N2]
        have v2 : (setR (setI Mc 209 m (nI (vlN n B st))) 210 m (so s)).1 208 9 = nI m := by rw [setR_1, v1]
        have v3 : (setI (setR (setI Mc 209 m (nI (vlN n B st))) 210 m (so s)) 211 m (nI (rdN Mr s))).1 208 9 = nI m := by rw [setI_n (by omega), v2]
        rw [N2, if_pos (show nI m ≤ nI m from le_nI (by omega) (by omega) (Nat.le_refl _)), if_neg (show ¬ (25 : Int32) ≤ nI m by rw [show (25 : Int32) = nI 25 from rfl]; exact nI_ge (by omega) (by omega)), gd_t ib, nI_clamp (show m < 2 ^ 31 by omega), c6, gd_t (show 0 < so s ∧ so s < 26 by omega), v1, gd_t ib, nI_clamp (show m < 2 ^ 31 by omega), v2, gd_t ib, nI_clamp (show m < 2 ^ 31 by omega), v3, nI_1, ← d1, a1, clv_s]
      have e2 : f_X11_newName_b17 fuel (nI s) 1 0 Mr = some Mr2 := by
        refine loop _ (fun f => ?_)
        unfold f_X11_newName_b17_s
        have i6 : 6 + nI s = nI (6 + s) := nI_add _ _
        have rd : f_X11_read (nI s) Mr = some (nI (rdN Mr s), Mr) := by
          unfold f_X11_read
          rw [i6, gd_t (inb_nI (by omega) (by omega)), nI_clamp (by omega), (N1 s (by omega)).1]
        have ix : (40 + (8 * nI s)) + nI (rdN Mr s) = nI (40 + 8 * s + rdN Mr s) := by
          rw [show (8 : Int32) = nI 8 from rfl, nI_mul', show (40 : Int32) = nI 40 from rfl, nI_add, nI_add]
        have := r8' s (by omega)
        rw [if_pos (show (5 : Int32) ≤ nI 5 by decide), F5, show b10 true = 1 from rfl, must_t h9 (by decide), cl_s, if_neg (show ¬ (1 : Int32) = 0 by decide), rd, cl_s, ix, gd_t (inb_nI (by have := mxS_8 s (by omega); omega) (by omega)), nI_clamp (by omega), bnd_e, h8, ← d2, a2, clv_s]
      refine Or.inl ⟨Mc2, Mr2, lt, e1, e2, a3, nm1.g a4.g a5.g, NaC.tr (M' := Mc1) ⟨by rw [d1]; rfl, by rw [d1]; rfl, fun a k z1 z2 => by rw [q210, if_neg (by omega)], fun a k z1 z2 z3 => q1 a k z2 z3 (by omega)⟩ a4.g.n, NaR.tr (M' := Mr1) ⟨by rw [d2]; rfl, fun a k z1 z2 => by rw [u2, if_neg (by omega)], fun a k z => by rw [u1]⟩ a5.g.n⟩
  · obtain ⟨Mc', Mr', f1, f2, f3, f4, f5⟩ := fault h (k := 1) (by decide)
    rw [if_neg c, decide_eq_false c, show b10 false = 0 from rfl, f2, cl_s, if_pos rfl, f1, cl_s, gd_t nar_b.1]
    exact Or.inr ⟨Mc', Mr', rfl, rfl, f3, f4, f5⟩
