/-! a play -/
def ptX (T p : Nat) (a _i : Nat) : Prop := T + 31 + 5 * p ≤ a ∧ a ≤ T + 35 + 5 * p
def prY (p : Nat) (a i : Nat) : Prop := (330 ≤ a ∧ a ≤ 335 ∧ i = 8 + p) ∨ (336 ≤ a ∧ a ≤ 339 ∧ 80 + 10 * p ≤ i ∧ i < 90 + 10 * p)
theorem hf_p : ∀ a, 330 ≤ a → a ≤ 339 → hf a = if a ≤ 335 then 8 else 80 := by
  intro a h1 h2
  have e : a = 330 ∨ a = 331 ∨ a = 332 ∨ a = 333 ∨ a = 334 ∨ a = 335 ∨ a = 336 ∨ a = 337 ∨ a = 338 ∨ a = 339 := by omega
  rcases e with rfl | rfl | rfl | rfl | rfl | rfl | rfl | rfl | rfl | rfl <;> decide
theorem prY_p {p a i : Nat} (h : prY p a i) : 313 ≤ a ∧ a ≤ 339 ∧ hf a ≤ i := by
  rcases h with ⟨x1, x2, x3⟩ | ⟨x1, x2, x3, x4⟩
  · rw [hf_p a (by omega) (by omega), if_pos x2]; omega
  · rw [hf_p a (by omega) (by omega), if_neg (by omega)]; omega
def pk4 (x1 r4 : Int32) (M7m : Mem) : Option Mem := bnd (setI M7m 333 (x1.toNatClampNeg) r4) fun M8m => cl (f_X11_is 42 M8m) fun r5 M9m => if r5 = 0 then cl (f_X11_is 43 M9m) fun r6 M10m => if r6 = 0 then f_X11_playLine_b106 x1 0 M10m else f_X11_playLine_b101 x1 M10m else f_X11_playLine_b101 x1 M9m
def pk3 (x1 r3 : Int32) (M5m : Mem) : Option Mem := bnd (setI M5m 332 (x1.toNatClampNeg) r3) fun M6m => cl (f_X11_number 0 99 M6m) (pk4 x1)
def pk2 (x1 r2 : Int32) (M3m : Mem) : Option Mem := gd (inb x1 16) <| bnd (setI M3m 331 (x1.toNatClampNeg) r2) fun M4m => cl (f_X11_known 1 M4m) (pk3 x1)
def pk1 (x1 r1 : Int32) (M1m : Mem) : Option Mem := gd (inb x1 16) <| bnd (setI M1m 330 (x1.toNatClampNeg) r1) fun M2m => cl (f_X11_known 2 M2m) (pk2 x1)
theorem b40_k (x1 x3 : Int32) (M : Mem) : f_X11_playLine_b40 x1 x1 x3 M = cl (f_X11_number x3 999 M) (pk1 x1) := rfl
theorem dead_I {M : Mem} (h : M.1 311 9 ≠ 0) {a k : Nat} {x : Int32} (q : a ≠ 311) : (setI M a k x).1 311 9 ≠ 0 := by
  rw [setI_n (Or.inl (fun z => q z.symm))]; exact h
theorem pk4_d {M : Mem} (h : M.1 311 9 ≠ 0) {q : Nat} (hq : q < 16) (r : Int32) : pk4 (nI q) r M = some (setI M 333 q r) := by
  have d := dead_I h (a := 333) (k := q) (x := r) (by omega)
  unfold pk4 f_X11_playLine_b106
  rw [nI_clamp (show q < 2 ^ 31 by omega), bnd_e, is_d d, cl_s, if_pos rfl, is_d d, cl_s, if_pos rfl, must_d d, cl_s, if_pos rfl]
theorem pk3_d {M : Mem} (h : M.1 311 9 ≠ 0) {q : Nat} (hq : q < 16) (r : Int32) : pk3 (nI q) r M = some (setI (setI M 332 q r) 333 q 0) := by
  have d := dead_I h (a := 332) (k := q) (x := r) (by omega)
  unfold pk3
  rw [nI_clamp (show q < 2 ^ 31 by omega), bnd_e, number_d d, cl_s, pk4_d d hq]
theorem pk2_d {M : Mem} (h : M.1 311 9 ≠ 0) {q : Nat} (hq : q < 16) (r : Int32) : pk2 (nI q) r M = some (setI (setI (setI M 331 q r) 332 q 0) 333 q 0) := by
  have d := dead_I h (a := 331) (k := q) (x := r) (by omega)
  unfold pk2
  rw [gd_t (inb_nI (by omega) (by omega)), nI_clamp (show q < 2 ^ 31 by omega), bnd_e, known_d d, cl_s, pk3_d d hq]
theorem pk1_d {M : Mem} (h : M.1 311 9 ≠ 0) {q : Nat} (hq : q < 16) (r : Int32) : pk1 (nI q) r M = some (setI (setI (setI (setI M 330 q r) 331 q 0) 332 q 0) 333 q 0) := by
  have d := dead_I h (a := 330) (k := q) (x := r) (by omega)
  unfold pk1
  rw [gd_t (inb_nI (by omega) (by omega)), nI_clamp (show q < 2 ^ 31 by omega), bnd_e, known_d d, cl_s, pk2_d d hq]
theorem nI_pm (p : Nat) : nI (p + 1) - 1 = nI p := by
  rw [← nI_1]
  exact Int32.add_sub_cancel _ _
theorem FL.cl {Mc Mr Mc' : Mem} (h : FL Mc Mr) (e : Mc'.1 208 8 = Mc.1 208 8) : FL Mc' Mr := by
  unfold FL
  rw [e]
  exact h
/-- the middle of a play's line: from the name on -/
def PMR (n : Nat) (B : Nat → Nat) (T p : Nat) (st l : Nat) (rc : Option (Int32 × Mem)) (rr : Option Mem) (Mc Mr : Mem) : Prop :=
  (∃ f st' v k s w b Mc' Mr', st ≤ st' ∧ f ≤ 10 ∧ l ≤ v ∧ v ≤ 999 ∧ k < rdN Mr 2 ∧ s < rdN Mr 1 ∧ w ≤ 99 ∧ rc = f_X7_tellPlay_b234 Mc' ∧ rr = some (setI Mr' 313 10 (Mr'.1 313 10 + 1)) ∧ LPt n B st' Mc' Mr' ∧
    (Mc'.1 (T + 31 + 5 * p) 0 = nI v ∧ Mc'.1 (T + 31 + 5 * p) 1 = nI k ∧ Mc'.1 (T + 31 + 5 * p) 2 = nI s ∧ Mc'.1 (T + 31 + 5 * p) 3 = nI w ∧ Mc'.1 (T + 31 + 5 * p) 4 = b10 b ∧ Mc'.1 (T + 31 + 5 * p) 5 = nI f ∧ Mc'.1 (T + 31 + 5 * p) 10 = -3 ∧ Mc'.1 (T + 31 + 5 * p) 11 = -3) ∧
    (Mr'.1 330 (8 + p) = nI v ∧ Mr'.1 331 (8 + p) = nI k ∧ Mr'.1 332 (8 + p) = nI s ∧ Mr'.1 333 (8 + p) = nI w ∧ Mr'.1 334 (8 + p) = b10 b ∧ Mr'.1 335 (8 + p) = nI f) ∧ (∀ i, i < f → Frr T p (rdN Mr 0) Mc' Mr' i) ∧ GCx (ptX T p) Mc Mc' ∧ GRx (prY p) Mr Mr') ∨
  (∃ st' Mc0 Mc' Mr', ctN n B st' ≠ 5 ∧ rc = some (0, Mc') ∧ f_X7_fail 1 Mc0 = some (0, Mc') ∧ rr = some (setI Mr' 313 10 (Mr'.1 313 10 + 1)) ∧ LPt n B st' Mc0 Mr' ∧ GCx (ptX T p) Mc Mc0 ∧ GRx (prY p) Mr Mr') ∨
  (∃ Mc' Mr', rc = some (0, Mc') ∧ rr = some Mr' ∧ FL Mc' Mr' ∧ GCx (ptX T p) Mc Mc' ∧ GRx (prY p) Mr Mr')
/-- the class's, behind the name -/
def pb54 (o : Nat) (x : Int32) (M1m : Mem) : Option (Int32 × Mem) :=
  cl (f_X7_takeNumber x 999 M1m) fun r2 M2m =>
  if r2 = 0 then some (0, M2m) else
  gd (shc o = 6) <| bnd (setI M2m o 0 (M2m.1 208 7)) fun M3m => cl (f_X7_takeName 13 (-1) M3m) fun r3 M4m => bnd (setI M4m o 1 r3) fun M5m =>
  if (M5m.1 o 1) = (-1) then some (0, M5m) else
  cl (f_X7_takeName 12 (-1) M5m) fun r4 M6m => bnd (setI M6m o 2 r4) fun M7m =>
  if (M7m.1 o 2) = (-1) then some (0, M7m) else
  cl (f_X7_takeNumber 0 99 M7m) fun r5 M8m =>
  if r5 = 0 then some (0, M8m) else
  bnd (setI M8m o 3 (M8m.1 208 7)) fun M9m => gd ((M9m.2.2.1 208 4) < 26) <|
  if (M9m.2.2.1 208 4) = 24 then f_X7_tellPlay_b171 o o 1 M9m else f_X7_tellPlay_b171 o o 0 M9m
theorem b54_k (o : Nat) (x : Int32) (M : Mem) : f_X7_tellPlay_b54 o x M = gd (shc (M.2.2.1 208 1) = 8) (cl (f_X7_giveName 15 (M.1 (M.2.2.1 208 1) 11) M) fun r1 M1m => if r1 = 0 then some (0, M1m) else pb54 o x M1m) := rfl
set_option maxHeartbeats 4000000 in
theorem pmid_ls {n : Nat} {B : Nat → Nat} {T p st l pd : Nat} {Mc Mr : Mem} (hT : TT T) (hp : p < 8) (hpd : 0 ≠ pd ∧ 1 ≠ pd ∧ 2 ≠ pd) (hlo : l ≤ 999) (h : LPt n B st Mc Mr) (N : NmR pd Mc Mr) (c5 : Mc.1 (T + 31 + 5 * p) 5 = nI 0) (c10 : Mc.1 (T + 31 + 5 * p) 10 = -3) (c11 : Mc.1 (T + 31 + 5 * p) 11 = -3) : PMR n B T p st l (pb54 (T + 31 + 5 * p) (nI l) Mc) (cl (f_X11_number (nI l) 999 Mr) (pk1 (nI (8 + p)))) Mc Mr := by
  have tc := tt_208 hT
  obtain ⟨-, -, -, -, -, tps⟩ := tt_p hT p hp
  have m15 : ∀ pd' s, s < 5 → ∀ {Mc Mr : Mem}, NmR pd' Mc Mr → rdN Mr s ≤ 8 := fun pd' s hs Mc Mr N => by
    have a := (N.1 s (by omega)).2
    have b := mxS_8 s (by omega)
    unfold rq at a
    omega
  have xn : ∀ a i, ptX T p a i → a < 208 := fun a i u => by unfold ptX at u; omega
  have yn : ∀ a i, prY p a i → a ≠ 313 := fun a i u => by unfold prY at u; omega
  unfold pb54
  rcases num_ls h (lo := l) (hi := 999) (by omega) (by omega) with ⟨v, Mc1, Mr1, v1, v2, l1, e1, q7, e2, h1, oc1, or1⟩ | ⟨Mc1, Mr1, e1, e2, f1, oc1, or1⟩
  · have e1' : f_X7_takeNumber (nI l) 999 Mc = some (1, Mc1) := e1
    have e2' : f_X11_number (nI l) 999 Mr = some (nI v, Mr1) := e2
    have b1 := (nx_le (B := B) h.1).2 l1
    obtain ⟨Mc2, d2⟩ : ∃ X, X = setI Mc1 (T + 31 + 5 * p) 0 (nI v) := ⟨_, rfl⟩
    obtain ⟨Mr2, g2⟩ : ∃ X, X = setI Mr1 330 (8 + p) (nI v) := ⟨_, rfl⟩
    have h2 : LPt n B (nx n B st) Mc2 Mr2 := h1.sets (fun a i u => by rw [d2, setI_n (by omega)]) (by rw [d2]; rfl) (fun a i u => by rw [g2, setI_n (by omega)]) (by rw [g2]; rfl)
    have oc2 : GCx (ptX T p) Mc Mc2 := by rw [d2]; exact (oc1.x _).tr (gcx_I _ (by unfold ptX; omega))
    have or2 : GRx (prY p) Mr Mr2 := by rw [g2]; exact (or1.x _).tr (grx_I _ (by unfold prY; omega))
    have N2 : NmR pd Mc2 Mr2 := N.gx oc2 or2 xn yn
    rw [e1', cl_s, if_neg (show ¬ (1 : Int32) = 0 by decide), gd_t tps, q7, bnd_e, ← d2, e2', cl_s]
    unfold pk1
    rw [gd_t (inb_nI (by omega) (by omega)), nI_clamp (show 8 + p < 2 ^ 31 by omega), bnd_e, ← g2]
    rcases known_ls h2 N2 (s := 2) (by omega) hpd.2.2 with ⟨k, Mc3, Mr3, hk, l3, e3, e4, h3, oc3, or3⟩ | ⟨Mc3, Mr3, e3, e4, f3, oc3, or3⟩
    · have e3' : f_X7_takeName 13 (-1) Mc2 = some (nI k, Mc3) := e3
      have e4' : f_X11_known 2 Mr2 = some (nI k, Mr3) := e4
      have b3 := (nx_le (B := B) h2.1).2 l3
      have k8 := m15 pd 2 (by omega) N2
      obtain ⟨Mc4, d4⟩ : ∃ X, X = setI Mc3 (T + 31 + 5 * p) 1 (nI k) := ⟨_, rfl⟩
      obtain ⟨Mr4, g4⟩ : ∃ X, X = setI Mr3 331 (8 + p) (nI k) := ⟨_, rfl⟩
      have h4 : LPt n B (nx n B (nx n B st)) Mc4 Mr4 := h3.sets (fun a i u => by rw [d4, setI_n (by omega)]) (by rw [d4]; rfl) (fun a i u => by rw [g4, setI_n (by omega)]) (by rw [g4]; rfl)
      have oc4 : GCx (ptX T p) Mc Mc4 := by rw [d4]; exact oc2.tr ((oc3.g.x _).tr (gcx_I _ (by unfold ptX; omega)))
      have or4 : GRx (prY p) Mr Mr4 := by rw [g4]; exact or2.tr ((or3.g.x _).tr (grx_I _ (by unfold prY; omega)))
      have N4 : NmR pd Mc4 Mr4 := N.gx oc4 or4 xn yn
      have w41 : Mc4.1 (T + 31 + 5 * p) 1 = nI k := by rw [d4, setI_s]
      rw [e3', cl_s, bnd_e, ← d4, w41, if_neg (show ¬ nI k = -1 from nI_m1 (by omega)), e4', cl_s]
      unfold pk2
      rw [gd_t (inb_nI (by omega) (by omega)), nI_clamp (show 8 + p < 2 ^ 31 by omega), bnd_e, ← g4]
      rcases known_ls h4 N4 (s := 1) (by omega) hpd.2.1 with ⟨s, Mc5, Mr5, hs, l5, e5, e6, h5, oc5, or5⟩ | ⟨Mc5, Mr5, e5, e6, f5, oc5, or5⟩
      · have e5' : f_X7_takeName 12 (-1) Mc4 = some (nI s, Mc5) := e5
        have e6' : f_X11_known 1 Mr4 = some (nI s, Mr5) := e6
        have b5 := (nx_le (B := B) h4.1).2 l5
        have s8 := m15 pd 1 (by omega) N4
        obtain ⟨Mc6, d6⟩ : ∃ X, X = setI Mc5 (T + 31 + 5 * p) 2 (nI s) := ⟨_, rfl⟩
        obtain ⟨Mr6, g6⟩ : ∃ X, X = setI Mr5 332 (8 + p) (nI s) := ⟨_, rfl⟩
        have h6 : LPt n B (nx n B (nx n B (nx n B st))) Mc6 Mr6 := h5.sets (fun a i u => by rw [d6, setI_n (by omega)]) (by rw [d6]; rfl) (fun a i u => by rw [g6, setI_n (by omega)]) (by rw [g6]; rfl)
        have oc6 : GCx (ptX T p) Mc Mc6 := by rw [d6]; exact oc4.tr ((oc5.g.x _).tr (gcx_I _ (by unfold ptX; omega)))
        have or6 : GRx (prY p) Mr Mr6 := by rw [g6]; exact or4.tr ((or5.g.x _).tr (grx_I _ (by unfold prY; omega)))
        have w62 : Mc6.1 (T + 31 + 5 * p) 2 = nI s := by rw [d6, setI_s]
        rw [e5', cl_s, bnd_e, ← d6, w62, if_neg (show ¬ nI s = -1 from nI_m1 (by omega)), e6', cl_s]
        unfold pk3
        rw [nI_clamp (show 8 + p < 2 ^ 31 by omega), bnd_e, ← g6]
        rcases num_ls h6 (lo := 0) (hi := 99) (by omega) (by omega) with ⟨w, Mc7, Mr7, v3, v4, l7, e7, q77, e8, h7, oc7, or7⟩ | ⟨Mc7, Mr7, e7, e8, f7, oc7, or7⟩
        · have e7' : f_X7_takeNumber 0 99 Mc6 = some (1, Mc7) := e7
          have e8' : f_X11_number 0 99 Mr6 = some (nI w, Mr7) := e8
          have b7 := (nx_le (B := B) h6.1).2 l7
          obtain ⟨Mc8, d8⟩ : ∃ X, X = setI Mc7 (T + 31 + 5 * p) 3 (nI w) := ⟨_, rfl⟩
          obtain ⟨Mr8, g8⟩ : ∃ X, X = setI Mr7 333 (8 + p) (nI w) := ⟨_, rfl⟩
          obtain ⟨s8, hs8⟩ : ∃ s8, s8 = nx n B (nx n B (nx n B (nx n B st))) := ⟨_, rfl⟩
          have h8 : LPt n B s8 Mc8 Mr8 := by rw [hs8]; exact h7.sets (fun a i u => by rw [d8, setI_n (by omega)]) (by rw [d8]; rfl) (fun a i u => by rw [g8, setI_n (by omega)]) (by rw [g8]; rfl)
          have oc8 : GCx (ptX T p) Mc Mc8 := by rw [d8]; exact oc6.tr ((oc7.x _).tr (gcx_I _ (by unfold ptX; omega)))
          have or8 : GRx (prY p) Mr Mr8 := by rw [g8]; exact or6.tr ((or7.x _).tr (grx_I _ (by unfold prY; omega)))
          have kw8 := (k_word (LPt.k h8)).2.2.2
          have c48 := h8.2.1.2.2.2.1
          have is2 := is_f h8 (s := 42) (by omega) (by omega)
          have is3 := is_f h8 (s := 43) (by omega) (by omega)
          have e42 : stk 42 = 24 := by decide
          have e43 : stk 43 = 25 := by decide
          rw [e42] at is2
          rw [e43] at is3
          have u8 : (Mc8.1 (T + 31 + 5 * p) 0 = nI v ∧ Mc8.1 (T + 31 + 5 * p) 1 = nI k ∧ Mc8.1 (T + 31 + 5 * p) 2 = nI s ∧ Mc8.1 (T + 31 + 5 * p) 3 = nI w ∧ Mc8.1 (T + 31 + 5 * p) 5 = nI 0 ∧ Mc8.1 (T + 31 + 5 * p) 10 = -3 ∧ Mc8.1 (T + 31 + 5 * p) 11 = -3) := by
            refine ⟨?_, ?_, ?_, ?_, ?_, ?_, ?_⟩
            · rw [d8, setI_n (by omega), oc7.2.2.2 _ _ (by omega), d6, setI_n (by omega), oc5.2.2.2 _ _ (by omega), d4, setI_n (by omega), oc3.2.2.2 _ _ (by omega), d2, setI_s]
            · rw [d8, setI_n (by omega), oc7.2.2.2 _ _ (by omega), d6, setI_n (by omega), oc5.2.2.2 _ _ (by omega), w41]
            · rw [d8, setI_n (by omega), oc7.2.2.2 _ _ (by omega), w62]
            · rw [d8, setI_s]
            · rw [d8, setI_n (by omega), oc7.2.2.2 _ _ (by omega), d6, setI_n (by omega), oc5.2.2.2 _ _ (by omega), d4, setI_n (by omega), oc3.2.2.2 _ _ (by omega), d2, setI_n (by omega), oc1.2.2.2 _ _ (by omega), c5]
            · rw [d8, setI_n (by omega), oc7.2.2.2 _ _ (by omega), d6, setI_n (by omega), oc5.2.2.2 _ _ (by omega), d4, setI_n (by omega), oc3.2.2.2 _ _ (by omega), d2, setI_n (by omega), oc1.2.2.2 _ _ (by omega), c10]
            · rw [d8, setI_n (by omega), oc7.2.2.2 _ _ (by omega), d6, setI_n (by omega), oc5.2.2.2 _ _ (by omega), d4, setI_n (by omega), oc3.2.2.2 _ _ (by omega), d2, setI_n (by omega), oc1.2.2.2 _ _ (by omega), c11]
          have u9 : (Mr8.1 330 (8 + p) = nI v ∧ Mr8.1 331 (8 + p) = nI k ∧ Mr8.1 332 (8 + p) = nI s ∧ Mr8.1 333 (8 + p) = nI w) := by
            refine ⟨?_, ?_, ?_, ?_⟩
            · rw [g8, setI_n (by omega), or7.2.2 _ _ (by omega), g6, setI_n (by omega), or5.2.2 _ _ (by omega), g4, setI_n (by omega), or3.2.2 _ _ (by omega), g2, setI_s]
            · rw [g8, setI_n (by omega), or7.2.2 _ _ (by omega), g6, setI_n (by omega), or5.2.2 _ _ (by omega), g4, setI_s]
            · rw [g8, setI_n (by omega), or7.2.2 _ _ (by omega), g6, setI_s]
            · rw [g8, setI_s]
          rw [e7', cl_s, if_neg (show ¬ (1 : Int32) = 0 by decide), q77, bnd_e, ← d8, c48, gd_t kw8, e8', cl_s]
          unfold pk4
          rw [nI_clamp (show 8 + p < 2 ^ 31 by omega), bnd_e, ← g8, is2, cl_s, is3, cl_s]
          -- behind the case token
          have go : ∀ (b : Bool), ctN n B s8 = (if b then 24 else 25) → PMR n B T p st l (f_X7_tellPlay_b171 (T + 31 + 5 * p) (T + 31 + 5 * p) (b10 b) Mc8) (f_X11_playLine_b133 (nI (8 + p)) (nI (8 + p)) (b10 b) Mr8) Mc Mr := fun b hb => by
            obtain ⟨Mc9, d9⟩ : ∃ X, X = setI Mc8 (T + 31 + 5 * p) 4 (b10 b) := ⟨_, rfl⟩
            obtain ⟨Mr9, g9⟩ : ∃ X, X = setI Mr8 334 (8 + p) (b10 b) := ⟨_, rfl⟩
            have h9 : LPt n B s8 Mc9 Mr9 := h8.sets (fun a i u => by rw [d9, setI_n (by omega)]) (by rw [d9]; rfl) (fun a i u => by rw [g9, setI_n (by omega)]) (by rw [g9]; rfl)
            obtain ⟨McA, MrA, a1, a2, hA, a4, a5⟩ := h9.adv
            have lt9 : s8 < n := (k_end (LPt.k h8)).2 (by rw [hb]; split <;> decide)
            have bA := (nx_le (B := B) h8.1).2 lt9
            obtain ⟨MrB, gB⟩ : ∃ X, X = setI MrA 335 (8 + p) 0 := ⟨_, rfl⟩
            have hB : LPt n B (nx n B s8) McA MrB := hA.sets (fun _ _ _ => rfl) rfl (fun a i u => by rw [gB, setI_n (by omega)]) (by rw [gB]; rfl)
            have ocA : GCx (ptX T p) Mc McA := by refine oc8.tr (GCx.tr (M' := Mc9) ?_ (a4.g.x _)); rw [d9]; exact gcx_I _ (by unfold ptX; omega)
            have orB : GRx (prY p) Mr MrB := by rw [gB]; refine or8.tr (GRx.tr (M' := Mr9) ?_ ((a5.g.x _).tr (grx_I _ (by unfold prY; omega)))); rw [g9]; exact grx_I _ (by unfold prY; omega)
            have NB : NmR pd McA MrB := N.gx ocA orB xn yn
            have rB : rdN MrB 0 = rdN Mr 0 := by unfold rdN; rw [orB.2.2 _ _ (by unfold prY; omega) (by omega)]
            have c5A : McA.1 (T + 31 + 5 * p) 5 = nI 0 := by rw [a4.2.2.2 _ _ (by omega), d9, setI_n (by omega), u8.2.2.2.2.1]
            have r5B : MrB.1 335 (8 + p) = nI 0 := by rw [gB, setI_s]; rfl
            have c49 := h9.2.1.2.2.2.1
            have tk : ∀ t, t = ctN n B s8 → t < 26 → f_X7_take t Mc9 = some (1, McA) := fun t ht t26 => by
              unfold f_X7_take
              rw [c49, gd_t kw8, gd_t t26, if_pos ht.symm, a1, clv_s]
            have w94 : Mc9.1 (T + 31 + 5 * p) 4 = b10 b := by rw [d9, setI_s]
            have ec : f_X7_tellPlay_b171 (T + 31 + 5 * p) (T + 31 + 5 * p) (b10 b) Mc8 = f_X7_tellPlay_b202 fuel (T + 31 + 5 * p) 0 McA := by
              unfold f_X7_tellPlay_b171 f_X7_tellPlay_b192
              rw [gd_t tps, bnd_e, ← d9, gd_t tps, w94]
              cases b
              · have hb' : ctN n B s8 = 25 := hb
                rw [if_neg (show ¬ b10 false = 1 by decide), tk 25 hb'.symm (by omega), cl_s, if_neg (show ¬ (1 : Int32) = 0 by decide)]
              · have hb' : ctN n B s8 = 24 := hb
                rw [if_pos (show b10 true = 1 from rfl), tk 24 hb'.symm (by omega), cl_s, if_neg (show ¬ (1 : Int32) = 0 by decide)]
            have er : f_X11_playLine_b133 (nI (8 + p)) (nI (8 + p)) (b10 b) Mr8 = f_X11_playLine_b145 fuel (nI (8 + p)) MrB := by
              unfold f_X11_playLine_b133
              have i8 : (nI (8 + p)).toNatClampNeg = 8 + p := nI_clamp (by omega)
              have g9' : Mr9 = setI Mr8 334 ((nI (8 + p)).toNatClampNeg) (b10 b) := by rw [i8]; exact g9
              rw [gd_t (inb_nI (by omega) (by omega)), bnd_e, ← g9', a2, clv_s, gd_t (inb_nI (by omega) (by omega)), nI_clamp (show 8 + p < 2 ^ 31 by omega), bnd_e, ← gB]
            have fx : ∀ a i, fcX T p 0 a i → ptX T p a i := fun a i u => by unfold fcX at u; unfold ptX; omega
            have fy : ∀ a i, frX p 0 a i → prY p a i := fun a i u => by unfold frX at u; unfold prY; omega
            have ef1 : fuel = 4989 + 10 + 1 := rfl
            have ef2 : fuel = 4988 + 10 + 2 := rfl
            rw [ec, er]
            rcases floop_ls hpd.1 hT hp 4989 4988 10 0 (nx n B s8) McA MrB (by omega) hB NB rB c5A r5B (fun i hi => absurd hi (by omega)) with ⟨f, st', Mc', Mr', z1, z2, z3, z4, z5, z6, z7, z8, z9, z10⟩ | ⟨st', Mc0, Mc', Mr', z0, z1, z2, z3, z4, z5, z6⟩ | ⟨Mc', Mr', z1, z2, z3, z4, z5⟩
            · obtain ⟨t1, t2, t3, t4, t5, t6, t7⟩ := u8
              obtain ⟨y1, y2, y3, y4⟩ := u9
              have kc : ∀ i, i ≠ 5 → i ≠ 4 → Mc'.1 (T + 31 + 5 * p) i = Mc8.1 (T + 31 + 5 * p) i := fun i h1 h2 => by
                rw [z9.2.2.2 _ _ (by unfold fcX; omega) (by omega), a4.2.2.2 _ _ (by omega), d9, setI_n (by omega)]
              have kr : ∀ a, 330 ≤ a → a ≤ 333 → Mr'.1 a (8 + p) = Mr8.1 a (8 + p) := fun a h1 h2 => by
                rw [z10.2.2 _ _ (by unfold frX; omega) (by omega), gB, setI_n (by omega), a5.2.2 _ _ (by omega), g9, setI_n (by omega)]
              refine Or.inl ⟨f, st', v, k, s, w, b, Mc', Mr', by omega, z2, v1, v2, ?_, ?_, v4, z3, z4, z5, ⟨?_, ?_, ?_, ?_, ?_, z6, ?_, ?_⟩, ⟨?_, ?_, ?_, ?_, ?_, z7⟩, z8, ocA.tr (z9.mono fx), orB.tr (z10.mono fy)⟩
              · have e : rdN Mr2 2 = rdN Mr 2 := by unfold rdN; rw [or2.2.2 _ _ (by unfold prY; omega) (by omega)]
                omega
              · have e : rdN Mr4 1 = rdN Mr 1 := by unfold rdN; rw [or4.2.2 _ _ (by unfold prY; omega) (by omega)]
                omega
              · rw [kc 0 (by omega) (by omega), t1]
              · rw [kc 1 (by omega) (by omega), t2]
              · rw [kc 2 (by omega) (by omega), t3]
              · rw [kc 3 (by omega) (by omega), t4]
              · rw [z9.2.2.2 _ _ (by unfold fcX; omega) (by omega), a4.2.2.2 _ _ (by omega), w94]
              · rw [kc 10 (by omega) (by omega), t6]
              · rw [kc 11 (by omega) (by omega), t7]
              · rw [kr 330 (by omega) (by omega), y1]
              · rw [kr 331 (by omega) (by omega), y2]
              · rw [kr 332 (by omega) (by omega), y3]
              · rw [kr 333 (by omega) (by omega), y4]
              · rw [z10.2.2 _ _ (by unfold frX; omega) (by omega), gB, setI_n (by omega), a5.2.2 _ _ (by omega), g9, setI_s]
            · exact Or.inr (Or.inl ⟨st', Mc0, Mc', Mr', z0, z1, z2, z3, z4, ocA.tr (z5.mono fx), orB.tr (z6.mono fy)⟩)
            · exact Or.inr (Or.inr ⟨Mc', Mr', z1, z2, z3, ocA.tr (z4.mono fx), orB.tr (z5.mono fy)⟩)
          by_cases c24 : ctN n B s8 = 24
          · rw [if_pos c24, decide_eq_true c24, show b10 true = 1 from rfl, if_neg (show ¬ (1 : Int32) = 0 by decide)]
            have g := go true c24
            have is2' : f_X11_is 42 Mr8 = some (1, Mr8) := by rw [is2, decide_eq_true c24]; rfl
            have e101 : f_X11_playLine_b101 (nI (8 + p)) Mr8 = f_X11_playLine_b133 (nI (8 + p)) (nI (8 + p)) 1 Mr8 := by
              unfold f_X11_playLine_b101 f_X11_playLine_b106
              rw [must_t h8.2.2.2 (by decide), cl_s, if_neg (show ¬ (1 : Int32) = 0 by decide), is2', cl_s, if_neg (show ¬ (1 : Int32) = 0 by decide)]
            rw [e101]
            exact g
          · have is2' : f_X11_is 42 Mr8 = some (0, Mr8) := by rw [is2, decide_eq_false c24]; rfl
            rw [if_neg c24, decide_eq_false c24, show b10 false = 0 from rfl, if_pos rfl]
            by_cases c25 : ctN n B s8 = 25
            · rw [decide_eq_true c25, show b10 true = 1 from rfl, if_neg (show ¬ (1 : Int32) = 0 by decide)]
              have g := go false c25
              have e101 : f_X11_playLine_b101 (nI (8 + p)) Mr8 = f_X11_playLine_b133 (nI (8 + p)) (nI (8 + p)) 0 Mr8 := by
                unfold f_X11_playLine_b101 f_X11_playLine_b106
                rw [must_t h8.2.2.2 (by decide), cl_s, if_neg (show ¬ (1 : Int32) = 0 by decide), is2', cl_s, if_pos rfl]
              rw [e101]
              exact g
            · obtain ⟨Mc9, d9⟩ : ∃ X, X = setI Mc8 (T + 31 + 5 * p) 4 0 := ⟨_, rfl⟩
              have h9 : LPt n B s8 Mc9 Mr8 := h8.sets (fun a i u => by rw [d9, setI_n (by omega)]) (by rw [d9]; rfl) (fun _ _ _ => rfl) rfl
              obtain ⟨Mc', Mr', f1, f2, f3, f4, f5⟩ := fault h9 (k := 1) (by decide)
              have w94 : Mc9.1 (T + 31 + 5 * p) 4 = 0 := by rw [d9, setI_s]
              have c49 := h9.2.1.2.2.2.1
              rw [decide_eq_false c25, show b10 false = 0 from rfl, if_pos rfl]
              unfold f_X7_tellPlay_b171 f_X7_tellPlay_b192 f_X7_take f_X11_playLine_b106
              rw [gd_t tps, bnd_e, ← d9, gd_t tps, w94, if_neg (show ¬ (0 : Int32) = 1 by decide), c49, gd_t kw8, gd_t (show 25 < 26 by decide), if_neg c25, f1, cl_s, gd_t nar_b.1, cl_s, if_pos rfl, f2, cl_s, if_pos rfl]
              refine Or.inr (Or.inr ⟨Mc', Mr', rfl, rfl, f3, oc8.tr (GCx.tr (M' := Mc9) ?_ (f4.x _)), or8.tr (f5.x _)⟩)
              rw [d9]; exact gcx_I _ (by unfold ptX; omega)
        · have e7' : f_X7_takeNumber 0 99 Mc6 = some (0, Mc7) := e7
          have e8' : f_X11_number 0 99 Mr6 = some (0, Mr7) := e8
          rw [e7', cl_s, if_pos rfl, e8', cl_s, pk4_d f7.1 (by omega)]
          exact Or.inr (Or.inr ⟨Mc7, _, rfl, rfl, f7.set (by omega), oc6.tr (oc7.x _), or6.tr ((or7.x _).tr (grx_I _ (by unfold prY; omega)))⟩)
      · have e5' : f_X7_takeName 12 (-1) Mc4 = some (-1, Mc5) := e5
        have e6' : f_X11_known 1 Mr4 = some (0, Mr5) := e6
        rw [e5', cl_s, bnd_e, setI_s, if_pos rfl, e6', cl_s, pk3_d f5.1 (by omega)]
        exact Or.inr (Or.inr ⟨_, _, rfl, rfl, FL.cl ((f5.set (by omega)).set (by omega)) (setI_n (by omega)), oc4.tr ((oc5.x _).tr (gcx_I _ (by unfold ptX; omega))), or4.tr ((or5.x _).tr ((grx_I _ (by unfold prY; omega)).tr (grx_I _ (by unfold prY; omega))))⟩)
    · have e3' : f_X7_takeName 13 (-1) Mc2 = some (-1, Mc3) := e3
      have e4' : f_X11_known 2 Mr2 = some (0, Mr3) := e4
      rw [e3', cl_s, bnd_e, setI_s, if_pos rfl, e4', cl_s, pk2_d f3.1 (by omega)]
      exact Or.inr (Or.inr ⟨_, _, rfl, rfl, FL.cl (((f3.set (by omega)).set (by omega)).set (by omega)) (setI_n (by omega)), oc2.tr ((oc3.x _).tr (gcx_I _ (by unfold ptX; omega))), or2.tr ((or3.x _).tr ((grx_I _ (by unfold prY; omega)).tr ((grx_I _ (by unfold prY; omega)).tr (grx_I _ (by unfold prY; omega)))))⟩)
  · have e1' : f_X7_takeNumber (nI l) 999 Mc = some (0, Mc1) := e1
    have e2' : f_X11_number (nI l) 999 Mr = some (nI l, Mr1) := e2
    rw [e1', cl_s, if_pos rfl, e2', cl_s, pk1_d f1.1 (by omega)]
    exact Or.inr (Or.inr ⟨_, _, rfl, rfl, (((f1.set (by omega)).set (by omega)).set (by omega)).set (by omega), oc1.x _, (or1.x _).tr ((grx_I _ (by unfold prY; omega)).tr ((grx_I _ (by unfold prY; omega)).tr ((grx_I _ (by unfold prY; omega)).tr (grx_I _ (by unfold prY; omega)))))⟩)
