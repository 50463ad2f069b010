/-! a line, from its first word to its ';' -/
theorem PP.g {n : Nat} {B : Nat → Nat} {T st st' : Nat} {Mc Mr Mc' Mr' : Mem} (h : PP n B T st Mc Mr) (hl' : LPt n B st' Mc' Mr') (oc : GC Mc Mc') (or : GR Mr Mr') : PP n B T st' Mc' Mr' := by
  have hT := h.tt
  have tc := tt_208 hT
  obtain ⟨hl, eT, N, I, U⟩ := h
  obtain ⟨MM, dM⟩ : ∃ X, X = mixM Mc Mr := ⟨_, rfl⟩
  obtain ⟨MN, dN⟩ : ∃ X, X = mixM Mc' Mr' := ⟨_, rfl⟩
  rw [← dM] at I
  have rw1 : ∀ a, ¬ Jk a → MN.1 a = MM.1 a := fun a ha => by
    rw [dM, dN]
    unfold Jk at ha
    exact mix_row (fun z => oc.row (by omega)) (fun z1 z2 j => or.2.2 a _ (by omega)) (by omega)
  have e313 : MN.1 313 = MM.1 313 := rw1 313 (by unfold Jk; omega)
  have eTT : MN.1 T = MM.1 T := rw1 T (by unfold Jk; omega)
  have cs' : ∀ s, Cn MN s = Cn MM s := fun s => by
    have z : Cn MN s = (MN.1 313 s).toNatClampNeg := rfl
    rw [z, e313]
    rfl
  have iN' : iN MN T := fun s hs => by rw [cs', e313, eTT]; exact I.2.1 s hs
  obtain ⟨R0, R5, R1, R2, R3, R4, R6, R7⟩ := I.rest 6 (fun s _ _ => cs' s) (by rw [cs']; exact Nat.le_refl _) _ rw1
  have I' : ITS MN T := ⟨hT, iN', R0 (by omega) (fun a q => by unfold Jk at q; omega), R5 (by omega) (fun a q => by unfold Jk at q; omega), R1 (by omega) (fun a q => by unfold Jk at q; omega), R2 (by omega) (fun a q => by unfold Jk at q; omega), R3 (by omega) (fun a q => by unfold Jk at q; omega), (R4 (by omega) (fun a q => by unfold Jk at q; omega)).1, (R4 (by omega) (fun a q => by unfold Jk at q; omega)).2, R6 (fun a q => by unfold Jk at q; omega), R7 (by omega) (by omega) (fun a q => by unfold Jk at q; omega)⟩
  rw [dN] at I'
  refine ⟨hl', by rw [oc.2.2.1 _ _ (by omega), eT], N.g oc or, I', ?_⟩
  obtain ⟨m, u1, u2, u3⟩ := U
  exact ⟨m, u1, by rw [oc.2.2.2 _ _ (by omega)]; exact u2, fun j hj => by rw [or.2.2 _ _ (by omega)]; exact u3 j hj⟩
def semC (rc : Option (Int32 × Mem)) : Option (Int32 × Mem) := cl rc fun r M => if r = 0 then some (0, M) else f_X7_take 5 M
def semR (rr : Option Mem) : Option Mem := clv rr fun M => f_X11_takes 59 M
theorem LR.semi {n : Nat} {B : Nat → Nat} {T st : Nat} {rc : Option (Int32 × Mem)} {rr : Option Mem} {Mc Mr : Mem} (h : LR n B T rc rr Mc Mr st) : LR n B T (semC rc) (semR rr) Mc Mr (st + 1) := by
  unfold semC semR
  rcases h with ⟨st', Mc1, Mr1, l1, e1, e2, P, oc, or⟩ | ⟨Mc1, Mr1, e1, e2, f1, oc, or⟩
  · rw [e1, e2, cl_s, clv_s, if_neg (show ¬ (1 : Int32) = 0 by decide)]
    rcases take_ls P.1 (s := 59) (t := 5) (by unfold SgP; decide) with ⟨Mc2, Mr2, l2, e3, e4, h2, oc2, or2⟩ | ⟨Mc2, Mr2, e3, e4, f2, oc2, or2⟩
    · have b2 := (nx_le (B := B) P.1.1).2 l2
      exact Or.inl ⟨_, Mc2, Mr2, by omega, e3, e4, P.g h2 oc2.g or2.g, oc.tr (oc2.g.p T), or.tr or2.g.p⟩
    · exact Or.inr ⟨Mc2, Mr2, e3, e4, f2, oc.tr (oc2.p T), or.tr or2.p⟩
  · rw [e1, e2, cl_s, clv_s, if_pos rfl, takes_d f1.1]
    exact Or.inr ⟨Mc1, Mr1, rfl, rfl, f1, oc, or⟩
theorem LRP.semi {n : Nat} {B : Nat → Nat} {T st : Nat} {rc : Option (Int32 × Mem)} {rr : Option Mem} {Mc Mr : Mem} (h : LRP n B T rc rr Mc Mr st) : LR n B T (semC rc) (semR rr) Mc Mr (st + 1) := by
  rcases h with h | ⟨st', Mc0, Mc', Mr', q, e1, e2, e3, h, oc, or⟩
  · exact h.semi
  · unfold semC semR
    rw [e1, e3, cl_s, clv_s, if_pos rfl]
    rcases take_ls h (s := 59) (t := 5) (by unfold SgP; decide) with ⟨Mc2, Mr2, l2, e5, e4, h2, oc2, or2⟩ | ⟨Mc2, Mr2, e5, e4, f2, oc2, or2⟩
    · have kw := (k_word (LPt.k h)).2.2.2
      unfold f_X7_take at e5
      rw [h.2.1.2.2.2.1, gd_t kw, gd_t (show 5 < 26 by decide), if_neg q, e2, cl_s, gd_t nar_b.1] at e5
      exact absurd (congrArg Prod.fst (Option.some.inj e5)) (show ¬ (0 : Int32) = 1 by decide)
    · have kw := (k_word (LPt.k h)).2.2.2
      unfold f_X7_take at e5
      rw [h.2.1.2.2.2.1, gd_t kw, gd_t (show 5 < 26 by decide), if_neg q, e2, cl_s, gd_t nar_b.1] at e5
      have e : Mc' = Mc2 := congrArg Prod.snd (Option.some.inj e5)
      rw [← e] at f2 oc2
      exact Or.inr ⟨Mc', Mr2, rfl, e4, f2, oc.tr (oc2.p T), or.tr or2.p⟩
theorem b227_f (M : Mem) : f_X11_lineHere_b227 M = f_X11_takes 59 M := by
  unfold f_X11_lineHere_b227
  cases f_X11_takes 59 M <;> rfl
def ck (s : Nat) : Nat := ([10, 12, 13, 14, 15, 11] : List Nat).getD s 0
theorem room_s {s k T : Nat} {Mc : Mem} (hs : s < 6) (hT : TT T) (eT : Mc.2.2.1 208 1 = T) (hc : Mc.1 T (sl s) = nI k) (hk : k ≤ mxS s) : f_X7_roomFor (ck s) Mc = some (nI (mxS s - k), Mc) := by
  have t8 := tt_0 hT
  have e : s = 0 ∨ s = 1 ∨ s = 2 ∨ s = 3 ∨ s = 4 ∨ s = 5 := by omega
  rcases e with rfl | rfl | rfl | rfl | rfl | rfl
  · have hc' : Mc.1 T 0 = nI k := hc
    have hk' : k ≤ 5 := hk
    show f_X7_roomFor 10 Mc = some (nI (5 - k), Mc)
    unfold f_X7_roomFor
    rw [gd_t (by decide), gd_t (by decide), if_pos (by decide), eT, gd_t t8, hc', show (5 : Int32) - nI k = nI (5 - k) from nI_sub hk']
  · have hc' : Mc.1 T 5 = nI k := hc
    have hk' : k ≤ 4 := hk
    show f_X7_roomFor 12 Mc = some (nI (4 - k), Mc)
    unfold f_X7_roomFor
    rw [gd_t (by decide), gd_t (by decide), if_neg (by decide), if_neg (by decide), if_pos (by decide), eT, gd_t t8, hc', show (4 : Int32) - nI k = nI (4 - k) from nI_sub hk']
  · have hc' : Mc.1 T 7 = nI k := hc
    have hk' : k ≤ 5 := hk
    show f_X7_roomFor 13 Mc = some (nI (5 - k), Mc)
    unfold f_X7_roomFor
    rw [gd_t (by decide), gd_t (by decide), if_neg (by decide), if_neg (by decide), if_neg (by decide), if_pos (by decide), eT, gd_t t8, hc', show (5 : Int32) - nI k = nI (5 - k) from nI_sub hk']
  · have hc' : Mc.1 T 9 = nI k := hc
    have hk' : k ≤ 3 := hk
    show f_X7_roomFor 14 Mc = some (nI (3 - k), Mc)
    unfold f_X7_roomFor
    rw [gd_t (by decide), gd_t (by decide), if_neg (by decide), if_neg (by decide), if_neg (by decide), if_neg (by decide), if_pos (by decide), eT, gd_t t8, hc', show (3 : Int32) - nI k = nI (3 - k) from nI_sub hk']
  · have hc' : Mc.1 T 11 = nI k := hc
    have hk' : k ≤ 8 := hk
    show f_X7_roomFor 15 Mc = some (nI (8 - k), Mc)
    unfold f_X7_roomFor
    rw [gd_t (by decide), gd_t (by decide), if_neg (by decide), if_neg (by decide), if_neg (by decide), if_neg (by decide), if_neg (by decide), if_pos (by decide), eT, gd_t t8, hc', show (8 : Int32) - nI k = nI (8 - k) from nI_sub hk']
  · have hc' : Mc.1 T 3 = nI k := hc
    have hk' : k ≤ 6 := hk
    show f_X7_roomFor 11 Mc = some (nI (6 - k), Mc)
    unfold f_X7_roomFor
    rw [gd_t (by decide), gd_t (by decide), if_neg (by decide), if_pos (by decide), eT, gd_t t8, hc', show (6 : Int32) - nI k = nI (6 - k) from nI_sub hk']
theorem sort_ls {n : Nat} {B : Nat → Nat} {T st s : Nat} {Mc Mr : Mem} (h : PP n B T st Mc Mr) (lt : st < n) (hs : s < 6) :
    (rdN Mr s < mxS s ∧ ∃ Mc1 Mr1, f_X7_startLine (ck s) Mc = some (1, Mc1) ∧ f_X11_begins (nI s) (nI (mxS s)) Mr = some (1, Mr1) ∧ PP n B T (nx n B st) Mc1 Mr1 ∧ rdN Mr1 s = rdN Mr s ∧ GC Mc Mc1 ∧ GR Mr Mr1) ∨
    (∃ Mc1 Mr1, f_X7_startLine (ck s) Mc = some (0, Mc1) ∧ f_X11_begins (nI s) (nI (mxS s)) Mr = some (0, Mr1) ∧ FL Mc1 Mr1 ∧ GC Mc Mc1 ∧ GR Mr Mr1) := by
  obtain ⟨n1, n2, n3, n4⟩ := h.cnt hs
  obtain ⟨k, hk⟩ : ∃ k, k = rdN Mr s := ⟨_, rfl⟩
  rw [← hk] at n1 n2 n3
  have rd : f_X11_read (nI s) Mr = some (nI k, Mr) := read_f n1 hs
  have rm := room_s hs h.tt h.2.1 n3 n2
  unfold f_X7_startLine f_X11_begins f_X7_startLine_b21 f_X11_begins_b15
  rw [rm, cl_s, rd, cl_s, ← hk]
  by_cases c : k < mxS s
  · obtain ⟨Mc1, Mr1, a1, a2, h1, a4, a5⟩ := h.1.adv
    have p0 : (0 : Int32) < nI (mxS s - k) := (lt_nI (a := 0) (by omega) (by omega)).mpr (by omega)
    rw [if_pos p0, a1, clv_s, if_neg (nI_ge c (by omega)), must_t h.1.2.2.2 (by decide), cl_s, if_neg (show ¬ (1 : Int32) = 0 by decide), a2, clv_s]
    refine Or.inl ⟨c, Mc1, Mr1, rfl, rfl, h.g h1 a4.g a5.g, ?_, a4.g, a5.g⟩
    rw [hk]
    unfold rdN
    rw [a5.2.2 _ _ (by omega)]
  · obtain ⟨Mc', Mr', f1, f2, f3, f4, f5⟩ := fault h.1 (k := 5) (by decide)
    have e0 : mxS s - k = 0 := by omega
    rw [e0, if_neg (show ¬ (0 : Int32) < nI 0 by decide), if_neg (show ¬ nI 0 = -1 by decide), f1, cl_s, gd_t nar_b.1, if_pos (le_nI (by omega) (by omega) (by omega)), f2, cl_s, if_pos rfl]
    exact Or.inr ⟨Mc', Mr', rfl, rfl, f3, f4, f5⟩
theorem is_y {n : Nat} {B : Nat → Nat} {st : Nat} {Mc Mr : Mem} (h : LPt n B st Mc Mr) {s : Nat} (h1 : 28 ≤ s ∧ s < 44) (c : ctN n B st = stk s) : f_X11_is s Mr = some (1, Mr) := by rw [is_f h h1.1 h1.2, decide_eq_true c]; rfl
theorem is_n {n : Nat} {B : Nat → Nat} {st : Nat} {Mc Mr : Mem} (h : LPt n B st Mc Mr) {s : Nat} (h1 : 28 ≤ s ∧ s < 44) (c : ctN n B st ≠ stk s) : f_X11_is s Mr = some (0, Mr) := by rw [is_f h h1.1 h1.2, decide_eq_false c]; rfl
theorem sw_0 : ∀ c, c < 26 → 0 < c → (c < 10 ∨ 19 < c) → swm (Int32.ofNat (c - 1)).toNatClampNeg = 0 := by decide +kernel
theorem sw_i : ∀ c, c < 26 → 0 < c → inb (Int32.ofNat (c - 1)) 25 := by decide +kernel
theorem room_no {c : Nat} {M : Mem} (h1 : 0 < c) (h2 : c < 26) (h3 : c < 10 ∨ 19 < c) : f_X7_roomFor c M = some (-1, M) := by
  unfold f_X7_roomFor
  rw [gd_t ⟨h1, h2⟩, gd_t (sw_i c h2 h1), sw_0 c h2 h1 h3, if_neg (by decide), if_neg (by decide), if_neg (by decide), if_neg (by decide), if_neg (by decide), if_neg (by decide), if_neg (by decide), if_neg (by decide), if_neg (by decide), if_neg (by decide)]
