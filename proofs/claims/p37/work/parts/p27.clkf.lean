/-! THE LAW'S areClocks says yes -/
section CLKF
variable {N : Nat} {xs : Nat → Int32} {n2 n3 n4 : Nat} {Mb : Mem}
theorem toInt_inj32 {x y : Int32} (h : x.toInt = y.toInt) : x = y := Int32.toInt_inj.mp h
theorem clk_m {sm : Nat → Nat → Nat} {M : Mem} (hs : SmO sm) (T : TolS sm M) : (∃ l, Clk M l) ↔ ∃ m, Box sm m ∧ OkC sm m := by
  constructor
  · rintro ⟨l, h⟩
    obtain ⟨a, b, -⟩ := lclk_to ((clk_iff hs T l).mp h) hs
    exact ⟨toN l, a, b⟩
  · rintro ⟨m, a, b⟩
    exact ⟨lI m, (clk_iff hs T _).mpr (lclk_of a b)⟩
/-- the class's least and most are the law's -/
theorem least_eq {sm : Nat → Nat → Nat} {M : Mem} (hs : SmO sm) (T : TolS sm M) (O : MOk M) {c : Nat} (hc : c < 3) {r : Int32} (h : CamV (CC M) 0 (1 + c) True r) {v w : Int} (lp : LeP sm (Box sm) c v) (mp : MoP sm (Box sm) c w) : r.toInt = if 0 ≤ w then v else -2 := by
  obtain ⟨h1, h2⟩ := camV_least O (by rw [(d_cn hs T).1]; exact hc) h
  by_cases e : ∃ l, Clk M l
  · obtain ⟨⟨l, hl, el⟩, hmin⟩ := h2 e
    obtain ⟨m0, b0, o0⟩ := (clk_m hs T).mp e
    obtain ⟨a, b, cc⟩ := lclk_to ((clk_iff hs T l).mp hl) hs
    have w0 : 0 ≤ w := by
      rcases mp with ⟨-, no⟩ | ⟨⟨m, -, -, em⟩, -⟩
      · exact absurd o0 (no m0 b0)
      · omega
    rw [if_pos w0]
    rcases lp with ⟨-, no⟩ | ⟨⟨m, bm, om, em⟩, mn⟩
    · exact absurd o0 (no m0 b0)
    · have x1 := hmin (lI m) ((clk_iff hs T _).mpr (lclk_of bm om))
      have x2 := mn (toN l) a b
      have x3 := cc c hc
      unfold lI at x1 x3
      omega
  · have ne : ∀ m, Box sm m → ¬ OkC sm m := fun m a b => e ((clk_m hs T).mpr ⟨m, a, b⟩)
    have w0 : ¬ 0 ≤ w := by
      rcases mp with ⟨w1, -⟩ | ⟨⟨m, bm, om, -⟩, -⟩
      · omega
      · exact absurd om (ne m bm)
    rw [if_neg w0, h1 (fun l hl => e ⟨l, hl⟩)]
    decide
theorem most_eq {sm : Nat → Nat → Nat} {M : Mem} (hs : SmO sm) (T : TolS sm M) (O : MOk M) {c : Nat} (hc : c < 3) {r : Int32} (h : CamV (CC M) (1 + c) 0 False r) {w : Int} (mp : MoP sm (Box sm) c w) : r.toInt = if 0 ≤ w then w else -2 := by
  obtain ⟨h1, h2⟩ := camV_most O (by rw [(d_cn hs T).1]; exact hc) h
  by_cases e : ∃ l, Clk M l
  · obtain ⟨⟨l, hl, el⟩, hmax⟩ := h2 e
    obtain ⟨m0, b0, o0⟩ := (clk_m hs T).mp e
    obtain ⟨a, b, cc⟩ := lclk_to ((clk_iff hs T l).mp hl) hs
    rcases mp with ⟨-, no⟩ | ⟨⟨m, bm, om, em⟩, mx⟩
    · exact absurd o0 (no m0 b0)
    · rw [if_pos (by omega)]
      have x1 := hmax (lI m) ((clk_iff hs T _).mpr (lclk_of bm om))
      have x2 := mx (toN l) a b
      have x3 := cc c hc
      unfold lI at x1 x3
      omega
  · have ne : ∀ m, Box sm m → ¬ OkC sm m := fun m a b => e ((clk_m hs T).mpr ⟨m, a, b⟩)
    have w0 : ¬ 0 ≤ w := by
      rcases mp with ⟨w1, -⟩ | ⟨⟨m, bm, om, -⟩, -⟩
      · omega
      · exact absurd om (ne m bm)
    rw [if_neg w0, h1 (fun l hl => e ⟨l, hl⟩)]
    decide
/-- the cells of the three arrays stand; the rest is as in Mb -/
def Cen (Mb : Mem) (n2 n3 n4 : Nat) (lv wv : Nat → Int) (M : Mem) : Prop := HB M ∧ Dat Mb M ∧ M.2 = Mb.2 ∧ Three M n3 lv ∧ Three M n4 wv ∧ ∀ q, 1000 ≤ q → q ≠ n2 → q ≠ n3 → q ≠ n4 → M.1 q = Mb.1 q
theorem Cen.cam {lv wv : Nat → Int} {M M1 : Mem} (C : Cen Mb n2 n3 n4 lv wv M) (h1 : HB M1) (o : OffC (tld M) M M1) : Cen Mb n2 n3 n4 lv wv M1 := by
  obtain ⟨c1, c2, c3, c5, c6, c7⟩ := C
  exact ⟨h1, c2.tr (fun a a1 _ _ => o.far c1 a1), o.1.trans c3, c5.mem o.1 (o.far c1 (by have := c5.1.1; omega)), c6.mem o.1 (o.far c1 (by have := c6.1.1; omega)), fun q b1 b2 b3 b4 => by rw [o.far c1 (by omega)]; exact c7 q b1 b2 b3 b4⟩
theorem end_1 (hs : SmO (smN N xs)) (Tb : TolS (smN N xs) Mb) {lv wv : Nat → Int} (LP : ∀ c, c < 3 → LeP (smN N xs) (Box (smN N xs)) c (lv c)) (MP : ∀ c, c < 3 → MoP (smN N xs) (Box (smN N xs)) c (wv c)) {i : Nat} (hi : i < 3) {M : Mem} (C : Cen Mb n2 n3 n4 lv wv M) (f : Nat → Nat → Int32 → Mem → Option (Int32 × Mem)) :
    ∃ M', Cen Mb n2 n3 n4 lv wv M' ∧ f_L_areClocks_b140_s N xs f n3 n4 (nI i) M = f n3 n4 (nI (i + 1)) M' := by
  have T := Tb.dat C.2.1
  obtain ⟨r2, M2, e2, v2, h2, o2⟩ := (an_camera01 C.1 (c := i) (by rw [(d_cn hs T).1]; exact hi)).2.2.1
  have x2 := least_eq hs T C.1.1.2.1 hi v2 (LP i hi) (MP i hi)
  have C2 := C.cam h2 o2
  have T2 := Tb.dat C2.2.1
  obtain ⟨r3, M3, e3, v3, h3, o3⟩ := (an_camera01 C2.1 (c := i) (by rw [(d_cn hs T2).1]; exact hi)).2.2.2
  have x3 := most_eq hs T2 C2.1.1.2.1 hi v3 (MP i hi)
  have C3 := C2.cam h3 o3
  have w2 := C2.2.2.2.2.1.2.2 i hi
  have w3 := C3.2.2.2.2.1.2.2 i hi
  have l2 := C2.2.2.2.1.2.2 i hi
  refine ⟨M3, C3, ?_⟩
  have z0 : (0 : Int32).toInt = 0 := by decide
  have tail : ∀ (y : Int32) (k : r2 = y), f_L_areClocks_b170 N xs f n3 n4 (nI i) r2 y M2 = f n3 n4 (nI (i + 1)) M3 := fun y k => by
    unfold f_L_areClocks_b170
    rw [if_pos k, e3, cl_s, gd_t (dq3 C3.2.2.2.2.1.1), gd_t (inb_nI (by rw [C3.2.2.2.2.1.2.1]; exact hi) (by rw [C3.2.2.2.2.1.2.1]; decide)), nI_clamp (by omega)]
    by_cases c : 0 ≤ wv i
    · rw [if_pos (by rw [Int32.le_iff_toInt_le, w3, z0]; exact c)]
      unfold f_L_areClocks_b198
      rw [if_pos (toInt_inj32 (by rw [x3, if_pos c, w3])), bnd_e, nI_1]
    · rw [if_neg (by rw [Int32.le_iff_toInt_le, w3, z0]; exact c)]
      unfold f_L_areClocks_b198
      rw [if_pos (toInt_inj32 (by rw [x3, if_neg c]; decide)), bnd_e, nI_1]
  unfold f_L_areClocks_b140_s
  rw [if_neg (show ¬ (3 : Int32) ≤ nI i from nge (a := i) (b := 3) (by omega) (by omega) hi), e2, cl_s, gd_t (dq3 C2.2.2.2.2.1.1), gd_t (inb_nI (by rw [C2.2.2.2.2.1.2.1]; exact hi) (by rw [C2.2.2.2.2.1.2.1]; decide))]
  by_cases c : 0 ≤ wv i
  · rw [if_pos (by rw [nI_clamp (by omega), Int32.le_iff_toInt_le, w2, z0]; exact c), gd_t (dq3 C2.2.2.2.1.1), gd_t (inb_nI (by rw [C2.2.2.2.1.2.1]; exact hi) (by rw [C2.2.2.2.1.2.1]; decide)), nI_clamp (by omega)]
    exact tail _ (toInt_inj32 (by rw [x2, if_pos c, l2]))
  · rw [if_neg (by rw [nI_clamp (by omega), Int32.le_iff_toInt_le, w2, z0]; exact c)]
    exact tail _ (toInt_inj32 (by rw [x2, if_neg c]; decide))
theorem end_f (hs : SmO (smN N xs)) (Tb : TolS (smN N xs) Mb) {lv wv : Nat → Int} (LP : ∀ c, c < 3 → LeP (smN N xs) (Box (smN N xs)) c (lv c)) (MP : ∀ c, c < 3 → MoP (smN N xs) (Box (smN N xs)) c (wv c)) {M : Mem} (C : Cen Mb n2 n3 n4 lv wv M) : ∃ M', f_L_areClocks_b140 N xs fuel n3 n4 0 M = some (1, M') ∧ Cen Mb n2 n3 n4 lv wv M' := by
  refine lp_inv (s := f_L_areClocks_b140_s N xs) (fun i a f => f n3 n4 (nI i) a) (fun _ a => Cen Mb n2 n3 n4 lv wv a) (fun r => ∃ M', r = some (1, M') ∧ Cen Mb n2 n3 n4 lv wv M') 3 (fun i hi a P f => Or.inr (end_1 hs Tb LP MP hi P f)) (fun a P f => ?_) fuel (by decide) M C
  have T := Tb.dat P.2.1
  obtain ⟨r, M', e, v, h1, o⟩ := an_camera3 P.1 (d_cn hs T).1
  show ∃ M', f_L_areClocks_b140_s N xs f n3 n4 (nI 3) a = some (1, M') ∧ _
  unfold f_L_areClocks_b140_s
  rw [if_pos (show (3 : Int32) ≤ nI 3 from Int32.le_refl _), e, cl_s, if_pos v]
  exact ⟨M', rfl, P.cam h1 o⟩
theorem loopc_f (hN : N < 2 ^ 30) (h23 : n2 ≠ n3) (h24 : n2 ≠ n4) (h34 : n3 ≠ n4) (Tb : TolS (smN N xs) Mb) : ∀ k l lv wv M, far3 (scb (smN N xs)) l < k → Cst (smN N xs) Mb n2 n3 n4 l lv wv M → Box (smN N xs) l → (∀ c, c < 3 → LeP (smN N xs) (fun m => Box (smN N xs) m ∧ LxO m l) c (lv c)) → (∀ c, c < 3 → MoP (smN N xs) (fun m => Box (smN N xs) m ∧ LxO m l) c (wv c)) →
    ∃ lv' wv' M', f_L_areClocks_b70 N xs k n2 n3 n4 M = some (1, M') ∧ Cen Mb n2 n3 n4 lv' wv' M' := by
  have hs := smN_ok N xs
  intro k
  induction k with
  | zero => intro l _ _ _ h; exact absurd h (Nat.not_lt_zero _)
  | succ k ih =>
    intro l lv wv M hk C B LP MP
    have T := Tb.dat C.2.1
    have A2 := C.2.2.2.1
    have hl : ∀ c, c < 3 → l c < 2 ^ 20 := A2.2.2.2
    -- behind the clock
    have go : ∀ lv' wv' M1, Cst (smN N xs) Mb n2 n3 n4 l lv' wv' M1 → (∀ c, c < 3 → LeP (smN N xs) (fun m => (Box (smN N xs) m ∧ LxO m l) ∨ (Box (smN N xs) m ∧ EqO m l)) c (lv' c)) → (∀ c, c < 3 → MoP (smN N xs) (fun m => (Box (smN N xs) m ∧ LxO m l) ∨ (Box (smN N xs) m ∧ EqO m l)) c (wv' c)) → ∃ lv2 wv2 M', f_L_areClocks_b129 N xs (f_L_areClocks_b70 N xs k) n2 n3 n4 M1 = some (1, M') ∧ Cen Mb n2 n3 n4 lv2 wv2 M' := by
      intro lv' wv' M1 C1 LP1 MP1
      obtain ⟨c1, c2, c3, c4, c5, c6, c7⟩ := C1
      have n210 := c4.1.1
      have n310 := c5.1.1
      have n410 := c6.1.1
      obtain ⟨r, M2, l', e2, h2, T2, A22, B2, kl, v⟩ := goes_f hN n210 c1 (Tb.dat c2) c4 B
      have d2 : Dat Mb M2 := c2.tr (fun a a1 _ _ => kl.2 a (by omega) a1)
      have t3 := c5.mem kl.1 (kl.2 n3 h23.symm (by omega))
      have t4 := c6.mem kl.1 (kl.2 n4 h24.symm (by omega))
      have k7 : ∀ q, 1000 ≤ q → q ≠ n2 → q ≠ n3 → q ≠ n4 → M2.1 q = Mb.1 q := fun q b1 b2 b3 b4 => by rw [kl.2 q b2 (by omega)]; exact c7 q b1 b2 b3 b4
      unfold f_L_areClocks_b129
      rw [e2, cl_s]
      rcases v with ⟨rfl, nx⟩ | ⟨rfl, la⟩
      · rw [if_neg (by decide)]
        have ff := odo_far (s_w hs) (show BxO (sca (smN N xs)) (scb (smN N xs)) l from B) nx
        have eqv : ∀ m, ((Box (smN N xs) m ∧ LxO m l) ∨ (Box (smN N xs) m ∧ EqO m l)) ↔ (Box (smN N xs) m ∧ LxO m l') := fun m => by
          constructor
          · rintro (⟨a, b⟩ | ⟨a, b⟩)
            · exact ⟨a, (odo_next (show BxO _ _ m from a) (show BxO _ _ l from B) nx).mpr (Or.inl b)⟩
            · exact ⟨a, (odo_next (show BxO _ _ m from a) (show BxO _ _ l from B) nx).mpr (Or.inr b)⟩
          · rintro ⟨a, b⟩
            rcases (odo_next (show BxO _ _ m from a) (show BxO _ _ l from B) nx).mp b with b | b
            · exact Or.inl ⟨a, b⟩
            · exact Or.inr ⟨a, b⟩
        exact ih l' lv' wv' M2 (by omega) ⟨h2, d2, kl.1.trans c3, A22, t3, t4, k7⟩ B2 (fun c hc => (LP1 c hc).cong eqv) (fun c hc => (MP1 c hc).cong eqv)
      · rw [if_pos rfl]
        have eqv : ∀ m, ((Box (smN N xs) m ∧ LxO m l) ∨ (Box (smN N xs) m ∧ EqO m l)) ↔ Box (smN N xs) m := fun m => by
          constructor
          · rintro (⟨a, -⟩ | ⟨a, -⟩) <;> exact a
          · intro a
            rcases odo_last (show BxO (sca (smN N xs)) (scb (smN N xs)) m from a) la with b | b
            · exact Or.inl ⟨a, b⟩
            · exact Or.inr ⟨a, b⟩
        obtain ⟨M', e, C'⟩ := end_f hs Tb (fun c hc => (LP1 c hc).cong eqv) (fun c hc => (MP1 c hc).cong eqv) (show Cen Mb n2 n3 n4 lv' wv' M2 from ⟨h2, d2, kl.1.trans c3, t3, t4, k7⟩)
        exact ⟨lv', wv', M', e, C'⟩
    show ∃ lv' wv' M', f_L_areClocks_b70_s N xs (f_L_areClocks_b70 N xs k) n2 n3 n4 M = some (1, M') ∧ _
    unfold f_L_areClocks_b70_s
    obtain ⟨r, e, v⟩ := canBe_f hN C.1 T A2
    rw [e, cl_s]
    rcases v with ⟨rfl, ok⟩ | ⟨rfl, f, hf, no⟩
    · rw [if_neg (by decide)]
      obtain ⟨M1, C1, e1⟩ := take_1 (xs := xs) h23 h24 h34 C hl (f_L_areClocks_b70 N xs k)
      rw [e1]
      exact go _ _ M1 C1 (fun c hc => (LP c hc).put hs B hc ok) (fun c hc => (MP c hc).put B hc ok)
    · rw [if_pos rfl]
      exact go lv wv M C (fun c hc => (LP c hc).skip hs (fun z => no (z f hf))) (fun c hc => (MP c hc).skip hs (fun z => no (z f hf)))
def fil3 (M : Mem) (n : Nat) (x : Int32) : Mem := setI (setI (setI M n 0 x) n 1 x) n 2 x
theorem fil3_ok {M : Mem} {n : Nat} {x : Int32} (d : dyo M n 20) (l : dln M n = 3) : Three (fil3 M n x) n (fun _ => x.toInt) ∧ Lt M (fil3 M n x) ∧ EQ M (fil3 M n x) ∧ ∀ q, q ≠ n → (fil3 M n x).1 q = M.1 q := by
  have r : ∀ q, q ≠ n → (fil3 M n x).1 q = M.1 q := fun q h => funext (fun k => by
    unfold fil3
    rw [setI_n (Or.inl h), setI_n (Or.inl h), setI_n (Or.inl h)])
  have q : EQ M (fil3 M n x) := ⟨rfl, rfl⟩
  refine ⟨⟨q.dyo d, l, fun m hm => ?_⟩, ⟨q.gx, fun c hc => r c (by have := d.1; omega), fun _ _ _ => rfl⟩, q, r⟩
  have : (fil3 M n x).1 n m = x := by
    unfold fil3
    rcases (show m = 0 ∨ m = 1 ∨ m = 2 by omega) with rfl | rfl | rfl
    · rw [setI_n (Or.inr (by omega)), setI_n (Or.inr (by omega)), setI_s]
    · rw [setI_n (Or.inr (by omega)), setI_s]
    · rw [setI_s]
  rw [this]
theorem areClocks_f (hN : N < 2 ^ 30) {M : Mem} (h : HB M) (T : TolS (smN N xs) M) (hc : 247 ≤ M.2.2.2) : ∃ M', f_L_areClocks N xs M = some (1, M') ∧ Kp M M' ∧ Mk M M' 3 9 := by
  have hs := smN_ok N xs
  obtain ⟨M1, e1⟩ : ∃ X, X = nwA 20 3 3 M := ⟨_, rfl⟩
  obtain ⟨n2, en2⟩ : ∃ n, n = nn M := ⟨_, rfl⟩
  obtain ⟨d1, l1⟩ := dyo_nw (M := M) 20 3 3 hc
  have L1 : Lt M M1 := by rw [e1]; exact lt_nw hc
  have K1 : Mk M M1 1 3 := by rw [e1]; exact mk_nw _ _ _ _
  have r1 : ∀ q, q ≠ n2 → M1.1 q = M.1 q := fun q h => by rw [e1]; exact nwA_I (by rw [← en2]; exact h)
  have c1 : M1.2.2.2 = M.2.2.2 + 1 := by rw [e1]; exact nwA_cn
  rw [← e1, ← en2] at d1 l1
  unfold f_L_areClocks
  rw [bnd_e, ← e1, ← en2]
  unfold f_L_areClocks_b3
  refine first3 (Q := fun r => ∃ M', r = some (1, M') ∧ Kp M M' ∧ Mk M M' 3 9) (f := fun M6m => bnd (nwA 20 3 3 M6m) fun M7m => f_L_areClocks_b34 N xs n2 (nn M6m) M7m) hs (h.lt L1) (T.lt L1) d1 l1 (fun M6 h6 p6 r6 A6 => ?_)
  have q6 : EQ M1 M6 := ⟨by rw [p6], by rw [p6]⟩
  have d6 : Dat M M6 := L1.dat.tr (fun a a1 a2 _ => r6 a a1 (by have := d1.1; omega))
  have hc6 : 247 ≤ M6.2.2.2 := Nat.le_trans hc (L1.1.tr q6.gx).1
  have c6 : M6.2.2.2 = M.2.2.2 + 1 := q6.1.trans c1
  -- least
  obtain ⟨M7, e7⟩ : ∃ X, X = nwA 20 3 3 M6 := ⟨_, rfl⟩
  obtain ⟨n3, en3⟩ : ∃ n, n = nn M6 := ⟨_, rfl⟩
  obtain ⟨d7, l7⟩ := dyo_nw (M := M6) 20 3 3 hc6
  have L7 : Lt M6 M7 := by rw [e7]; exact lt_nw hc6
  have K7 : Mk M6 M7 1 3 := by rw [e7]; exact mk_nw _ _ _ _
  have r7 : ∀ q, q ≠ n3 → M7.1 q = M6.1 q := fun q h => by rw [e7]; exact nwA_I (by rw [← en3]; exact h)
  have c7 : M7.2.2.2 = M6.2.2.2 + 1 := by rw [e7]; exact nwA_cn
  rw [← e7, ← en3] at d7 l7
  show ∃ M', bnd (nwA 20 3 3 M6) (fun M7m => f_L_areClocks_b34 N xs n2 (nn M6) M7m) = some (1, M') ∧ _
  rw [bnd_e, ← e7, ← en3]
  obtain ⟨w3, L8, q8, r8⟩ := fil3_ok (x := 9999) d7 l7
  have u34 : f_L_areClocks_b34 N xs n2 n3 M7 = bnd (nwA 20 3 3 (fil3 M7 n3 9999)) fun M4m => f_L_areClocks_b56 N xs n2 n3 (nn (fil3 M7 n3 9999)) M4m := by
    unfold f_L_areClocks_b34
    rw [gd_t (dq3 d7), l7, gd_t (by decide), bnd_e, gd_t (by decide), bnd_e, gd_t (by decide), bnd_e]
    rfl
  rw [u34, bnd_e]
  generalize e8 : fil3 M7 n3 9999 = M8 at w3 L8 q8 r8 ⊢
  have hc8 : 247 ≤ M8.2.2.2 := Nat.le_trans hc6 (L7.tr L8).1.1
  have c8 : M8.2.2.2 = M7.2.2.2 := q8.1
  -- most
  obtain ⟨M9, e9⟩ : ∃ X, X = nwA 20 3 3 M8 := ⟨_, rfl⟩
  obtain ⟨n4, en4⟩ : ∃ n, n = nn M8 := ⟨_, rfl⟩
  obtain ⟨d9, l9⟩ := dyo_nw (M := M8) 20 3 3 hc8
  have L9 : Lt M8 M9 := by rw [e9]; exact lt_nw hc8
  have K9 : Mk M8 M9 1 3 := by rw [e9]; exact mk_nw _ _ _ _
  have r9 : ∀ q, q ≠ n4 → M9.1 q = M8.1 q := fun q h => by rw [e9]; exact nwA_I (by rw [← en4]; exact h)
  rw [← e9, ← en4] at d9 l9
  rw [← e9, ← en4]
  obtain ⟨w4, La, qa, ra⟩ := fil3_ok (x := -1) d9 l9
  have u56 : f_L_areClocks_b56 N xs n2 n3 n4 M9 = f_L_areClocks_b70 N xs fuel n2 n3 n4 (fil3 M9 n4 (-1)) := by
    unfold f_L_areClocks_b56
    rw [gd_t (dq3 d9), l9, gd_t (by decide), bnd_e, gd_t (by decide), bnd_e, gd_t (by decide), bnd_e]
    rfl
  rw [u56]
  generalize ea : fil3 M9 n4 (-1) = Ma at w4 La qa ra ⊢
  have h23 : n2 ≠ n3 := by rw [en2, en3]; unfold nn; omega
  have h24 : n2 ≠ n4 := by rw [en2, en4]; unfold nn; omega
  have h34 : n3 ≠ n4 := by rw [en3, en4]; unfold nn; omega
  have La6 : Lt M6 Ma := ((L7.tr L8).tr L9).tr La
  have rA : ∀ q, q ≠ n3 → q ≠ n4 → Ma.1 q = M6.1 q := fun q z3 z4 => by rw [ra q z4, r9 q z4, r8 q z3, r7 q z3]
  have ha := h6.lt La6
  have dA : Dat M Ma := d6.tr La6.dat
  have Ta := T.dat dA
  have t3 : Three Ma n3 (fun _ => (9999 : Int32).toInt) := ⟨(L9.tr La).1.dyo w3.1, (L9.tr La).1.dl w3.1 w3.2.1, fun c hc => by rw [ra n3 h34, r9 n3 h34]; exact w3.2.2 c hc⟩
  have Bx : Box (smN N xs) (sca (smN N xs)) := fun c hc => ⟨Nat.le_refl _, (s_c1 hs c hc).1⟩
  have lef := odo_le (s_w hs) (show BxO (sca (smN N xs)) (scb (smN N xs)) (sca (smN N xs)) from Bx)
  have no : ∀ m, ¬ (Box (smN N xs) m ∧ LxO m (sca (smN N xs))) := fun m z => odo_first (show BxO (sca (smN N xs)) (scb (smN N xs)) m from z.1) (fun _ _ => rfl) z.2
  obtain ⟨lv', wv', M', e, g1, g2, g3, g4, g5, g6⟩ := loopc_f (Mb := Ma) hN h23 h24 h34 Ta fuel (sca (smN N xs)) (fun _ => (9999 : Int32).toInt) (fun _ => (-1 : Int32).toInt) Ma (show _ < 5000 by omega) ⟨ha, Dat.refl Ma, rfl, A6.oth La6.1 (rA n2 h23 h24), t3, w4, fun _ _ _ _ _ => rfl⟩ Bx (fun c _ => Or.inl ⟨by decide, fun m z => absurd z (no m)⟩) (fun c _ => Or.inl ⟨by decide, fun m z => absurd z (no m)⟩)
  have qe : EQ Ma M' := ⟨by rw [g3], by rw [g3]⟩
  refine ⟨M', e, ⟨g1, dA.tr g2, ((L1.1.tr q6.gx).tr La6.1).tr qe.gx, fun q b1 b2 => ?_⟩, (((((K1.tr q6.mk).tr K7).tr q8.mk).tr K9).tr (qa.mk.tr qe.mk)).le (by omega) (by omega)⟩
  have z2 : q ≠ n2 := by rw [en2]; unfold nn; omega
  have z3 : q ≠ n3 := by rw [en3]; unfold nn; omega
  have z4 : q ≠ n4 := by rw [en4]; unfold nn; omega
  rw [g6 q b1 z2 z3 z4, rA q z3 z4, r6 q (by omega) z2, r1 q z2]
end CLKF
