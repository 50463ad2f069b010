/-! THE LAW'S VERDICT: one clock -/
theorem hiF_dat {M M' : Mem} (d : Dat M M') (p s : Nat) (l : Nat → Int) (m : Nat) : ∀ k, hiF M' p s l k m = hiF M p s l k m
  | 0 => rfl
  | k + 1 => by
    have e1 : qs M' (10 * p + k) = qs M (10 * p + k) := by unfold qs; rw [d 338 (by omega) (by omega) (by omega)]
    have e2 : atk M' p l k = atk M p l k := by
      unfold atk qc
      rw [d 337 (by omega) (by omega) (by omega), d 336 (by omega) (by omega) (by omega)]
    rw [hiF_s, hiF_s, hiF_dat d p s l m k, e1, e2]
theorem loF_dat {M M' : Mem} (d : Dat M M') (p s : Nat) (l : Nat → Int) (m : Nat) : ∀ k, loF M' p s l k m = loF M p s l k m
  | 0 => rfl
  | k + 1 => by
    have e1 : qn M' (10 * p + k) = qn M (10 * p + k) := by unfold qn; rw [d 339 (by omega) (by omega) (by omega)]
    have e2 : atk M' p l k = atk M p l k := by
      unfold atk qc
      rw [d 337 (by omega) (by omega) (by omega), d 336 (by omega) (by omega) (by omega)]
    rw [loF_s, loF_s, loF_dat d p s l m k, e1, e2]
/-- the clock l can be, and the play's frames by it -/
def GoodL (sm : Nat → Nat → Nat) (M : Mem) (p s : Nat) (l : Nat → Nat) : Prop := (∀ f, f < snf sm → FlOk sm l f) ∧ CanW M p s (lI l)
def AllL (sm : Nat → Nat → Nat) (M : Mem) (p s : Nat) (l : Nat → Nat) : Prop := PrsK sm (spk sm p) (fun f g => hiF M p s (lI l) (Fn M p) f < loF M p s (lI l) (Fn M p) g)
def CanL (sm : Nat → Nat → Nat) (M : Mem) (p s : Nat) (l : Nat → Nat) : Prop := CanA sm (spk sm p) (loF M p s (lI l) (Fn M p)) (hiF M p s (lI l) (Fn M p))
theorem lo_fun {M M' : Mem} (d : Dat M M') (p s : Nat) (l : Nat → Int) : loF M' p s l (Fn M' p) = loF M p s l (Fn M p) := by
  rw [Fn_dat d]
  exact funext (fun m => loF_dat d p s l m _)
theorem hi_fun {M M' : Mem} (d : Dat M M') (p s : Nat) (l : Nat → Int) : hiF M' p s l (Fn M' p) = hiF M p s l (Fn M p) := by
  rw [Fn_dat d]
  exact funext (fun m => hiF_dat d p s l m _)
theorem GoodL.dat {sm : Nat → Nat → Nat} {M M' : Mem} (d : Dat M M') (p s : Nat) (l : Nat → Nat) : GoodL sm M' p s l ↔ GoodL sm M p s l := by
  unfold GoodL CanW
  rw [lo_fun d, hi_fun d]
theorem AllL.dat {sm : Nat → Nat → Nat} {M M' : Mem} (d : Dat M M') (p s : Nat) (l : Nat → Nat) : AllL sm M' p s l ↔ AllL sm M p s l := by
  unfold AllL
  rw [lo_fun d, hi_fun d]
theorem CanL.dat {sm : Nat → Nat → Nat} {M M' : Mem} (d : Dat M M') (p s : Nat) (l : Nat → Nat) : CanL sm M' p s l ↔ CanL sm M p s l := by
  unfold CanL
  rw [lo_fun d, hi_fun d]
def fil4 (M : Mem) (n : Nat) (x : Int32) : Mem := setI (setI (setI (setI M n 0 x) n 1 x) n 2 x) n 3 x
theorem fil4_ok {M : Mem} {n : Nat} {x : Int32} (d : dyo M n 20) (l : dln M n = 4) : FourA (fil4 M n x) n (fun _ => x.toInt) ∧ Lt M (fil4 M n x) ∧ EQ M (fil4 M n x) ∧ ∀ q, q ≠ n → (fil4 M n x).1 q = M.1 q := by
  have r : ∀ q, q ≠ n → (fil4 M n x).1 q = M.1 q := fun q h => funext (fun k => by
    unfold fil4
    rw [setI_n (Or.inl h), setI_n (Or.inl h), setI_n (Or.inl h), setI_n (Or.inl h)])
  have q : EQ M (fil4 M n x) := ⟨rfl, rfl⟩
  refine ⟨⟨q.dyo d, l, fun m hm => ?_⟩, ⟨q.gx, fun c hc => r c (by have := d.1; omega), fun _ _ _ => rfl⟩, q, r⟩
  have : (fil4 M n x).1 n m = x := by
    unfold fil4
    rcases (show m = 0 ∨ m = 1 ∨ m = 2 ∨ m = 3 by omega) with rfl | rfl | rfl | rfl
    · rw [setI_n (Or.inr (by omega)), setI_n (Or.inr (by omega)), setI_n (Or.inr (by omega)), setI_s]
    · rw [setI_n (Or.inr (by omega)), setI_n (Or.inr (by omega)), setI_s]
    · rw [setI_n (Or.inr (by omega)), setI_s]
    · rw [setI_s]
  rw [this]
section CLOCK
variable {N : Nat} {xs : Nat → Int32} {n4 p s : Nat} {l : Nat → Nat}
/-- flags of a clock: the law's three, before and behind it -/
def StepF (G A C : Prop) (x5 x6 x7 y5 y6 y7 : Int32) : Prop := (¬ G ∧ y5 = x5 ∧ y6 = x6 ∧ y7 = x7) ∨ (G ∧ y5 = 1 ∧ (∃ r, y6 = x6 &&& r ∧ ((r = 1 ∧ A) ∨ (r = 0 ∧ ¬ A))) ∧ ∃ r, y7 = x7 &&& r ∧ ((r = 1 ∧ ¬ C) ∨ (r = 0 ∧ C)))
/-- what a stretch of the law leaves: later cells that stood keep their rows -/
def Kp (M M' : Mem) : Prop := HB M' ∧ Dat M M' ∧ GX M M' ∧ ∀ q, 1000 ≤ q → q - 753 < M.2.2.2 → M'.1 q = M.1 q
theorem Kp.refl {M : Mem} (h : HB M) : Kp M M := ⟨h, Dat.refl M, GX.refl M, fun _ _ _ => rfl⟩
theorem Kp.tr {A B C : Mem} (h : Kp A B) (h' : Kp B C) : Kp A C := ⟨h'.1, h.2.1.tr h'.2.1, h.2.2.1.tr h'.2.2.1, fun q h1 h2 => (h'.2.2.2 q h1 (Nat.lt_of_lt_of_le h2 h.2.2.1.1)).trans (h.2.2.2 q h1 h2)⟩
theorem Kp.lt {M M' : Mem} (h : HB M) (L : Lt M M') (e : ∀ q, 1000 ≤ q → q - 753 < M.2.2.2 → M'.1 q = M.1 q) : Kp M M' := ⟨h.lt L, L.dat, L.1, e⟩
theorem clock_1 (hN : N < 2 ^ 30) {a : Mem} (h : HB a) (T : TolS (smN N xs) a) (hc : 247 ≤ a.2.2.2) (B : Box (smN N xs) l) (A4 : LateA a n4 l) (hp : p < Cn a 4) (hs16 : s < 16) {x5 x6 x7 : Int32} (rec41 : Int32 → Int32 → Nat → Int32 → Int32 → Int32 → Mem → Option (Int32 × Mem)) :
    ∃ y5 y6 y7 a', f_L_verdict_b41_s N xs rec41 (nI p) (nI s) n4 x5 x6 x7 a = f_L_verdict_b345 N xs rec41 (nI p) (nI s) n4 y5 y6 y7 a' ∧ Kp a a' ∧ Mk a a' 3 12 ∧ StepF (GoodL (smN N xs) a p s l) (AllL (smN N xs) a p s l) (CanL (smN N xs) a p s l) x5 x6 x7 y5 y6 y7 := by
  have hs := smN_ok N xs
  have hp' : p < snp (smN N xs) := by rw [← (d_cn hs T).2.2.1]; exact hp
  obtain ⟨g1, -, gF, g2, g4⟩ := d_pl hs T hp'
  unfold f_L_verdict_b41_s
  obtain ⟨r, e, v⟩ := canBe_f hN h T A4
  rw [e, cl_s]
  rcases v.symm with ⟨rfl, f, hf, no⟩ | ⟨rfl, ok⟩
  · rw [if_pos rfl]
    exact ⟨x5, x6, x7, a, rfl, Kp.refl h, ⟨by omega, by omega⟩, Or.inl ⟨fun z => no (z.1 f hf), rfl, rfl, rfl⟩⟩
  rw [if_neg (by decide), bnd_e]
  -- low
  obtain ⟨n8, e8⟩ : ∃ n, n = nn a := ⟨_, rfl⟩
  obtain ⟨M2, e2⟩ : ∃ X, X = nwA 20 4 4 a := ⟨_, rfl⟩
  obtain ⟨d8, l8⟩ := dyo_nw (M := a) 20 4 4 hc
  have L2 : Lt a M2 := by rw [e2]; exact lt_nw hc
  have K2 : Mk a M2 1 4 := by rw [e2]; exact mk_nw _ _ _ _
  have r2 : ∀ q, q ≠ n8 → M2.1 q = a.1 q := fun q h => by rw [e2]; exact nwA_I (by rw [← e8]; exact h)
  rw [← e2, ← e8] at d8 l8
  rw [← e2, ← e8]
  obtain ⟨w8, L3, q3, r3⟩ := fil4_ok (x := -1000) d8 l8
  have u57 : f_L_verdict_b57 N xs rec41 (nI p) (nI s) n4 x5 x6 x7 n8 M2 = bnd (nwA 20 4 4 (fil4 M2 n8 (-1000))) fun M5m => f_L_verdict_b86 N xs rec41 (nI p) (nI s) n4 x5 x6 x7 n8 (nn (fil4 M2 n8 (-1000))) M5m := by
    unfold f_L_verdict_b57
    rw [gd_t (dq3 d8), l8, gd_t (by decide), bnd_e, gd_t (by decide), bnd_e, gd_t (by decide), bnd_e, gd_t (by decide), bnd_e]
    rfl
  rw [u57, bnd_e]
  generalize e3 : fil4 M2 n8 (-1000) = M3 at w8 L3 q3 r3 ⊢
  -- high
  obtain ⟨n9, e9⟩ : ∃ n, n = nn M3 := ⟨_, rfl⟩
  obtain ⟨M4, e4⟩ : ∃ X, X = nwA 20 4 4 M3 := ⟨_, rfl⟩
  have hc3 : 247 ≤ M3.2.2.2 := Nat.le_trans hc (L2.tr L3).1.1
  obtain ⟨d9, l9⟩ := dyo_nw (M := M3) 20 4 4 hc3
  have L4 : Lt M3 M4 := by rw [e4]; exact lt_nw hc3
  have K4 : Mk M3 M4 1 4 := by rw [e4]; exact mk_nw _ _ _ _
  have r4 : ∀ q, q ≠ n9 → M4.1 q = M3.1 q := fun q h => by rw [e4]; exact nwA_I (by rw [← e9]; exact h)
  rw [← e4, ← e9] at d9 l9
  rw [← e4, ← e9]
  obtain ⟨w9, L5, q5, r5⟩ := fil4_ok (x := 1000) d9 l9
  have u86 : f_L_verdict_b86 N xs rec41 (nI p) (nI s) n4 x5 x6 x7 n8 n9 M4 = f_L_verdict_b118 N xs rec41 fuel (nI p) (nI s) n4 x5 x6 x7 n8 n9 1 0 (fil4 M4 n9 1000) := by
    unfold f_L_verdict_b86
    rw [gd_t (dq3 d9), l9, gd_t (by decide), bnd_e, gd_t (by decide), bnd_e, gd_t (by decide), bnd_e, gd_t (by decide), bnd_e]
    rfl
  rw [u86]
  generalize e5 : fil4 M4 n9 1000 = Mw at w9 L5 q5 r5 ⊢
  have hd8 := d8.2.2
  have hd81 := d8.1
  have n89 : n8 ≠ n9 := by rw [e9]; exact (show dyo M3 n8 20 from w8.1).ne
  have n48 : n4 ≠ n8 := by rw [e8]; exact (show dyo a n4 20 from A4.1).ne
  have n49 : n4 ≠ n9 := by
    rw [e9]
    exact (show dyo M3 n4 20 from (L2.tr L3).1.dyo (show dyo a n4 20 from A4.1)).ne
  have Lw : Lt a Mw := ((L2.tr L3).tr L4).tr L5
  have Kw : Mk a Mw 2 8 := (((K2.tr q3.mk).tr K4).tr q5.mk).le (by omega) (by omega)
  have rw' : ∀ q, q ≠ n8 → q ≠ n9 → Mw.1 q = a.1 q := fun q h1 h2 => by rw [r5 q h2, r4 q h2, r3 q h1, r2 q h1]
  have hw := h.lt Lw
  have dw := Lw.dat
  have Tw := T.dat dw
  have hpw : p < Cn Mw 4 := by rw [Cn_dat dw]; exact hp
  have A4w : LateA Mw n4 l := A4.oth Lw.1 (rw' n4 n48 n49)
  have W8 : FourA Mw n8 (fun _ => -1000) := by
    refine ⟨(L4.tr L5).1.dyo (show dyo M3 n8 20 from w8.1), (L4.tr L5).1.dl (show dyo M3 n8 20 from w8.1) w8.2.1, fun m hm => ?_⟩
    rw [r5 n8 n89, r4 n8 n89]
    exact w8.2.2 m hm
  have W0 : Win Mw n8 n9 (loF Mw p s (lI l) 0) (hiF Mw p s (lI l) 0) Mw := ⟨W8, w9, rfl, fun _ _ _ => rfl⟩
  have keep : ∀ q, 1000 ≤ q → q - 753 < a.2.2.2 → q ≠ n8 ∧ q ≠ n9 := fun q h1 h2 => by
    have h3 : a.2.2.2 ≤ M3.2.2.2 := (L2.tr L3).1.1
    constructor
    · rw [e8]; unfold nn; omega
    · rw [e9]; unfold nn; omega
  have hF : Fn Mw p ≤ 4 := by
    rw [Fn_dat dw, gF]
    exact g4
  obtain ⟨Q, hQ⟩ : ∃ Q : Option (Int32 × Mem) → Prop, Q = fun r => ∃ y5 y6 y7 a', r = f_L_verdict_b345 N xs rec41 (nI p) (nI s) n4 y5 y6 y7 a' ∧ Kp a a' ∧ Mk a a' 3 12 ∧ StepF (GoodL (smN N xs) a p s l) (AllL (smN N xs) a p s l) (CanL (smN N xs) a p s l) x5 x6 x7 y5 y6 y7 := ⟨_, rfl⟩
  have fin : Q (f_L_verdict_b118 N xs rec41 fuel (nI p) (nI s) n4 x5 x6 x7 n8 n9 1 0 Mw) := by
    refine lp_inv (s := f_L_verdict_b118_s N xs rec41) (fun k a f => f (nI p) (nI s) n4 x5 x6 x7 n8 n9 1 (nI k) a) (fun k a => Win Mw n8 n9 (loF Mw p s (lI l) k) (hiF Mw p s (lI l) k) a) Q (Fn Mw p) (fun k hk b P f => Or.inr (win_k hs n89 n48 n49 hw Tw B A4w hpw hs16 hk (by omega) P rec41 f)) (fun b P f => ?_) fuel (show Fn Mw p < 5000 by omega) Mw W0
    show Q (f_L_verdict_b118_s N xs rec41 f (nI p) (nI s) n4 x5 x6 x7 n8 n9 1 (nI (Fn Mw p)) b)
    have Lb := P.lt
    have hb := hw.lt Lb
    have db := Lb.dat
    have hpb : p < Cn b 4 := by rw [Cn_dat db]; exact hpw
    have Tb := Tw.dat db
    obtain ⟨k1, -⟩ := d_pl hs Tb hp'
    obtain ⟨P8, P9, P2, P1⟩ := P
    have qb : EQ Mw b := ⟨by rw [P2], by rw [P2]⟩
    have Lab : Lt a b := Lw.tr Lb
    have Kab : Mk a b 2 8 := (Kw.tr qb.mk).le (by omega) (by omega)
    have kab : ∀ q, 1000 ≤ q → q - 753 < a.2.2.2 → b.1 q = a.1 q := fun q h1 h2 => by
      obtain ⟨z1, z2⟩ := keep q h1 h2
      rw [P1 q z1 z2, rw' q z1 z2]
    unfold f_L_verdict_b118_s
    rw [an_play5 hb hpb, cl_s, Fn_dat db, if_pos (Int32.le_refl _)]
    -- can they stand
    refine lp_inv (s := f_L_verdict_b253_s N xs rec41) (fun m (x : Int32) f => f (nI p) (nI s) n4 x5 x6 x7 n8 n9 x (nI m) b) (fun m x => (x = 1 ∧ ∀ j, j < m → loF Mw p s (lI l) (Fn Mw p) j ≤ hiF Mw p s (lI l) (Fn Mw p) j) ∨ (x = 0 ∧ ∃ j, j < m ∧ ¬ loF Mw p s (lI l) (Fn Mw p) j ≤ hiF Mw p s (lI l) (Fn Mw p) j)) Q 4 (fun m hm x R f => Or.inr ?_) (fun x R f => ?_) fuel (by decide) 1 (Or.inl ⟨rfl, fun j hj => absurd hj (Nat.not_lt_zero j)⟩)
    · show ∃ x', _ ∧ f_L_verdict_b253_s N xs rec41 f (nI p) (nI s) n4 x5 x6 x7 n8 n9 x (nI m) b = f (nI p) (nI s) n4 x5 x6 x7 n8 n9 x' (nI (m + 1)) b
      unfold f_L_verdict_b253_s
      rw [if_neg (show ¬ (4 : Int32) ≤ nI m from nge (a := m) (b := 4) (by omega) (by omega) hm), gd_t P8.1, gd_t (inb_nI (by rw [P8.2.1]; exact hm) (by rw [P8.2.1]; decide)), gd_t P9.1, gd_t (inb_nI (by rw [P9.2.1]; exact hm) (by rw [P9.2.1]; decide)), nI_clamp (by omega)]
      have cmp : b.1 n9 m < b.1 n8 m ↔ ¬ loF Mw p s (lI l) (Fn Mw p) m ≤ hiF Mw p s (lI l) (Fn Mw p) m := by
        rw [Int32.lt_iff_toInt_lt, P8.2.2 m hm, P9.2.2 m hm]
        omega
      by_cases c : loF Mw p s (lI l) (Fn Mw p) m ≤ hiF Mw p s (lI l) (Fn Mw p) m
      · rw [if_neg (fun z => (cmp.mp z) c), bnd_e, bnd_e, nI_1]
        refine ⟨x &&& 1, ?_, rfl⟩
        rcases R with ⟨rfl, R⟩ | ⟨rfl, j, hj, R⟩
        · refine Or.inl ⟨by decide, fun j hj => ?_⟩
          rcases Nat.lt_or_ge j m with z | z
          · exact R j z
          · rw [show j = m by omega]; exact c
        · exact Or.inr ⟨by decide, j, by omega, R⟩
      · rw [if_pos (cmp.mpr c), bnd_e, bnd_e, nI_1]
        refine ⟨x &&& 0, Or.inr ⟨?_, m, by omega, c⟩, rfl⟩
        rcases R with ⟨rfl, -⟩ | ⟨rfl, -⟩ <;> decide
    · show Q (f_L_verdict_b253_s N xs rec41 f (nI p) (nI s) n4 x5 x6 x7 n8 n9 x (nI 4) b)
      unfold f_L_verdict_b253_s
      rw [if_pos (show (4 : Int32) ≤ nI 4 from Int32.le_refl _)]
      rcases R.symm with ⟨rfl, j, hj, Rn⟩ | ⟨rfl, Ry⟩
      · rw [if_pos rfl, hQ]
        refine ⟨x5, x6, x7, b, rfl, Kp.lt h Lab kab, Kab.le (by omega) (by omega), Or.inl ⟨fun z => ?_, rfl, rfl, rfl⟩⟩
        have z2 := ((GoodL.dat dw p s l).mpr z).2 j hj
        exact Rn z2
      · rw [if_neg (by decide), an_play1 hb hpb, cl_s, k1]
        obtain ⟨rA, eA, vA⟩ := doAll_f (n2 := n8) (n3 := n9) hN g2 P8 P9
        rw [eA, cl_s, bnd_e, an_play1 hb hpb, cl_s, k1]
        have bd : Bdd (loF Mw p s (lI l) (Fn Mw p)) 500 := fun m _ => by
          obtain ⟨z1, z2, -⟩ := win_bd (s := s) hs Tw B hpw m
          exact ⟨z1, by omega⟩
        obtain ⟨rC, a', eC, LC, KC', rC', vC⟩ := canAll_f hN g2 (Nat.le_trans hc Lab.1.1) P8 P9 bd
        rw [eC, cl_s, hQ]
        have kac : ∀ q, 1000 ≤ q → q - 753 < a.2.2.2 → a'.1 q = a.1 q := fun q h1 h2 => by
          have h3 : a.2.2.2 ≤ b.2.2.2 := Lab.1.1
          rw [rC' q (by unfold nn; omega)]
          exact kab q h1 h2
        have gd : GoodL (smN N xs) a p s l := (GoodL.dat dw p s l).mp ⟨ok, Ry⟩
        have kk : Kp a a' := Kp.lt h (Lab.tr LC) kac
        have mk : Mk a a' 3 12 := (Kab.tr KC').le (by omega) (by omega)
        have AA : (rA = 1 ∧ AllL (smN N xs) a p s l) ∨ (rA = 0 ∧ ¬ AllL (smN N xs) a p s l) := by
          rcases vA with ⟨z, y⟩ | ⟨z, y⟩
          · exact Or.inl ⟨z, (AllL.dat dw p s l).mp y⟩
          · exact Or.inr ⟨z, fun w => y ((AllL.dat dw p s l).mpr w)⟩
        unfold f_L_verdict_b334
        rcases vC with ⟨rfl, y⟩ | ⟨rfl, y⟩
        · rw [if_neg (by decide)]
          unfold f_L_verdict_b342
          rw [bnd_e]
          exact ⟨1, x6 &&& rA, x7 &&& 0, a', rfl, kk, mk, Or.inr ⟨gd, rfl, ⟨rA, rfl, AA⟩, 0, rfl, Or.inr ⟨rfl, (CanL.dat dw p s l).mp y⟩⟩⟩
        · rw [if_pos rfl]
          unfold f_L_verdict_b342
          rw [bnd_e]
          exact ⟨1, x6 &&& rA, x7 &&& 1, a', rfl, kk, mk, Or.inr ⟨gd, rfl, ⟨rA, rfl, AA⟩, 1, rfl, Or.inl ⟨rfl, fun w => y ((CanL.dat dw p s l).mpr w)⟩⟩⟩
  rw [hQ] at fin
  exact fin
end CLOCK
