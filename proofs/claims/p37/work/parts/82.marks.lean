/-! marks of a frame -/
theorem sh_p {T : Nat} (h : TT T) : ∀ p, p < 8 → shc (T + 34 + 5 * p) = 20 ∧ shl (T + 34 + 5 * p) = 10 ∧ shc (T + 35 + 5 * p) = 20 ∧ shl (T + 35 + 5 * p) = 10 := tt_all (P := fun T => ∀ p, p < 8 → shc (T + 34 + 5 * p) = 20 ∧ shl (T + 34 + 5 * p) = 10 ∧ shc (T + 35 + 5 * p) = 20 ∧ shl (T + 35 + 5 * p) = 10) h (by decide +kernel) (by decide +kernel)
theorem pc_15 : ∀ m, m < 16 → pc m ≤ 4 ∧ (pc m = 4 → ∀ v, v < 4 → m.testBit v = true) := by decide +kernel
theorem pc_up : ∀ m, m < 16 → ∀ v, v < 4 → (m ||| 2 ^ v) < 16 ∧ (m.testBit v = false → pc (m ||| 2 ^ v) = pc m + 1) := by decide +kernel
theorem or_15 : ∀ y, y < 16 → ∀ z, z < 16 → (y ||| z) < 16 := by decide +kernel
theorem or_nI0 (y : Nat) : nI y ||| 0 = nI y := by
  have e := fa_or y 0
  rw [Nat.or_zero] at e
  exact e
def mcX (T p f : Nat) (a i : Nat) : Prop := (a = T + 34 + 5 * p ∨ a = T + 35 + 5 * p) ∧ i = f
def mrX (q : Nat) (a i : Nat) : Prop := (a = 338 ∨ a = 339) ∧ i = q
theorem b188_f {F : Nat → Int32 → Int32 → Mem → Option (Int32 × Mem)} {T p f x y z v : Nat} {M : Mem} (hT : TT T) (hp : p < 8) (hf : f < 10) (hv : v < 4) (h8 : M.1 (T + 34 + 5 * p) f = nI y) (h9 : M.1 (T + 35 + 5 * p) f = nI z) (q : M.1 208 7 = nI v) (w : Bool) :
    (if b10 w = 0 then f_X7_tellFrame_b188 F (T + 31 + 5 * p) (nI f) (nI x) (b10 w) (T + 34 + 5 * p) (nI f) (M.1 (T + 34 + 5 * p) (nI f).toNatClampNeg) 0 M else f_X7_tellFrame_b188 F (T + 31 + 5 * p) (nI f) (nI x) (b10 w) (T + 34 + 5 * p) (nI f) (M.1 (T + 34 + 5 * p) (nI f).toNatClampNeg) ((1 : Int32) <<< ((M.1 208 7) &&& 31)) M) = F (T + 31 + 5 * p) (nI f) (nI (x + 1)) (setI (setI M (T + 34 + 5 * p) f (nI (if w then y ||| 2 ^ v else y))) (T + 35 + 5 * p) f (nI (if w then z else z ||| 2 ^ v))) := by
  have tc := tt_208 hT
  obtain ⟨-, -, -, tp8, tp9, tps⟩ := tt_p hT p hp
  obtain ⟨s1, s2, s3, s4⟩ := sh_p hT p hp
  cases w
  · have q2 : (setI M (T + 34 + 5 * p) f (nI y)).1 208 7 = nI v := by rw [setI_n (by omega), q]
    have z2 : (setI M (T + 34 + 5 * p) f (nI y)).1 (T + 35 + 5 * p) f = nI z := by rw [setI_n (by omega), h9]
    unfold f_X7_tellFrame_b188 f_X7_tellFrame_b212
    rw [show b10 false = 0 from rfl, if_pos rfl, gd_t s1, s2, gd_t (inb_nI (by omega) (by omega)), bnd_e, gd_t tps, gd_t (inb_nI (by omega) (by omega)), tp9, if_pos rfl, gd_t s3, s4, gd_t (inb_nI (by omega) (by omega)), bnd_e, nI_clamp (show f < 2 ^ 31 by omega), h8, or_nI0, q2, z2, or_nI (by omega), nI_1, bnd_e]
    rfl
  · have z2 : (setI M (T + 34 + 5 * p) f (nI (y ||| 2 ^ v))).1 (T + 35 + 5 * p) f = nI z := by rw [setI_n (by omega), h9]
    unfold f_X7_tellFrame_b188 f_X7_tellFrame_b212
    rw [show b10 true = 1 from rfl, if_neg (show ¬ (1 : Int32) = 0 by decide), gd_t s1, s2, gd_t (inb_nI (by omega) (by omega)), bnd_e, gd_t tps, gd_t (inb_nI (by omega) (by omega)), tp9, if_neg (show ¬ (1 : Int32) = 0 by decide), gd_t s3, s4, gd_t (inb_nI (by omega) (by omega)), bnd_e, nI_clamp (show f < 2 ^ 31 by omega), h8, q, or_nI (by omega), z2, or_nI0, nI_1, bnd_e]
    rfl
theorem sign_ls {n : Nat} {B : Nat → Nat} {T p f st x y z q2 : Nat} {Mc Mr : Mem} (hT : TT T) (hp : p < 8) (hf : f < 10) (hq : q2 < 160) (F : Nat → Int32 → Int32 → Mem → Option (Int32 × Mem)) (G : Int32 → Int32 → Mem → Option Mem) (h : LPt n B st Mc Mr) (lt : st < n) (w : Bool) (x1 : Int32) (hy : y < 16) (hz : z < 16) (hx : pc (y ||| z) = x) (h8 : Mc.1 (T + 34 + 5 * p) f = nI y) (h9 : Mc.1 (T + 35 + 5 * p) f = nI z) (g8 : Mr.1 338 q2 = nI y) (g9 : Mr.1 339 q2 = nI z) :
    (∃ Mc' Mr', f_X7_tellFrame_b138 F (T + 31 + 5 * p) (nI f) (nI x) (b10 w) Mc = some (0, Mc') ∧ f_X11_readFrame_b121 G x1 (nI q2) (b10 w) Mr = some Mr' ∧ FL Mc' Mr' ∧ GC Mc Mc' ∧ GR Mr Mr') ∨
    (x < 4 ∧ ∃ st' y' z' Mc' Mr', st ≤ st' ∧ y' < 16 ∧ z' < 16 ∧ pc (y' ||| z') = x + 1 ∧ f_X7_tellFrame_b138 F (T + 31 + 5 * p) (nI f) (nI x) (b10 w) Mc = F (T + 31 + 5 * p) (nI f) (nI (x + 1)) Mc' ∧ f_X11_readFrame_b121 G x1 (nI q2) (b10 w) Mr = G x1 (nI q2) Mr' ∧ LPt n B st' Mc' Mr' ∧ Mc'.1 (T + 34 + 5 * p) f = nI y' ∧ Mc'.1 (T + 35 + 5 * p) f = nI z' ∧ Mr'.1 338 q2 = nI y' ∧ Mr'.1 339 q2 = nI z' ∧ GCx (mcX T p f) Mc Mc' ∧ GRx (mrX q2) Mr Mr') := by
  have tc := tt_208 hT
  obtain ⟨-, -, -, tp8, tp9, tps⟩ := tt_p hT p hp
  obtain ⟨Mc1, Mr1, a1, a2, h1, a4, a5⟩ := h.adv
  have b1 := (nx_le (B := B) h.1).2 lt
  have K := LPt.k h1
  have kn := k_num K
  have ke := (k_end K).2
  have kw := (k_word K).2.2.2
  obtain ⟨hs, ⟨c3, c5, c6, c4, sc⟩, ⟨r5, r4, r6, r7, r8, sr⟩, r9⟩ := id h1
  have i8 : Mc1.1 (T + 34 + 5 * p) f = nI y := by rw [a4.2.2.2 _ _ (by omega), h8]
  have i9 : Mc1.1 (T + 35 + 5 * p) f = nI z := by rw [a4.2.2.2 _ _ (by omega), h9]
  have j8 : Mr1.1 338 q2 = nI y := by rw [a5.2.2 _ _ (by omega), g8]
  have j9 : Mr1.1 339 q2 = nI z := by rw [a5.2.2 _ _ (by omega), g9]
  have yz := or_15 y hy z hz
  unfold f_X7_tellFrame_b138 f_X11_readFrame_b121
  rw [a1, clv_s, gd_t tps, gd_t (inb_nI (by omega) (by omega)), tp8, tp9, nI_clamp (show f < 2 ^ 31 by omega), i8, i9, fa_or, a2, clv_s, r6]
  unfold f_X7_takeMark f_X7_takeMark_b35
  rw [c4, gd_t kw, c6]
  by_cases c : ctN n B (nx n B st) = 4
  · obtain ⟨rt, v0, v1⟩ := num_v K c
    obtain ⟨v, hv⟩ : ∃ v, v = vlN n B (nx n B st) := ⟨_, rfl⟩
    rw [← hv] at v0 v1 c6
    rw [if_pos c, if_pos rt, ← hv]
    unfold f_X11_readFrame_b141 f_X11_readFrame_b184
    rw [must_t r9 (by decide), cl_s, if_neg (show ¬ (1 : Int32) = 0 by decide), r7, ← v0, gd_t (inb_nI (by omega) (by omega)), nI_clamp (show q2 < 2 ^ 31 by omega), j8, j9, fa_or]
    by_cases z1 : v < 4 ∧ (y ||| z).testBit v = false
    · obtain ⟨v4, bf⟩ := z1
      have x4 : x < 4 := by
        have p1 := (pc_15 _ yz).1
        rcases Nat.lt_or_ge x 4 with u | u
        · exact u
        · have p2 := (pc_15 _ yz).2 (by omega) v v4
          rw [p2] at bf
          exact absurd bf (by decide)
      obtain ⟨Mc2, g2⟩ : ∃ X, X = setI Mc1 208 7 (nI v) := ⟨_, rfl⟩
      obtain ⟨y', ey⟩ : ∃ y', y' = if w then y ||| 2 ^ v else y := ⟨_, rfl⟩
      obtain ⟨z', ez⟩ : ∃ z', z' = if w then z else z ||| 2 ^ v := ⟨_, rfl⟩
      have hy' : y' < 16 := by
        rw [ey]
        cases w
        · exact hy
        · exact (pc_up y hy v v4).1
      have hz' : z' < 16 := by
        rw [ez]
        cases w
        · exact (pc_up z hz v v4).1
        · exact hz
      have hpc : pc (y' ||| z') = x + 1 := by
        have e : y' ||| z' = (y ||| z) ||| 2 ^ v := by
          rw [ey, ez]
          cases w
          · show y ||| (z ||| 2 ^ v) = _
            rw [Nat.or_assoc]
          · show (y ||| 2 ^ v) ||| z = _
            rw [Nat.or_assoc, Nat.or_comm (2 ^ v), ← Nat.or_assoc]
        rw [e, (pc_up _ yz v v4).2 bf, hx]
      obtain ⟨Mr2, d2⟩ : ∃ X, X = (if w then setI Mr1 338 q2 (nI (y ||| 2 ^ v)) else setI Mr1 339 q2 (nI (z ||| 2 ^ v))) := ⟨_, rfl⟩
      have rd2 : ∀ a i, ¬ mrX q2 a i → Mr2.1 a i = Mr1.1 a i := fun a i q => by
        unfold mrX at q
        rw [d2]
        cases w
        · exact setI_n (by omega)
        · exact setI_n (by omega)
      have rd2' : Mr2.2 = Mr1.2 := by rw [d2]; cases w <;> rfl
      have l2 : LPt n B (nx n B st) Mc2 Mr2 := h1.cong (fun k hk => by rw [g2, setI_n (by omega)]) (by rw [g2]; rfl) (by rw [g2]; exact funext (fun k => setI_n (by omega))) (fun k _ _ => rd2 _ _ (by unfold mrX; omega)) (by rw [rd2']) (funext (fun k => rd2 _ _ (by unfold mrX; omega)))
      obtain ⟨Mc3, Mr3, d3, d4, l3, d5, d6⟩ := l2.adv
      have e8 : Mc3.1 (T + 34 + 5 * p) f = nI y := by rw [d5.2.2.2 _ _ (by omega), g2, setI_n (by omega), i8]
      have e9 : Mc3.1 (T + 35 + 5 * p) f = nI z := by rw [d5.2.2.2 _ _ (by omega), g2, setI_n (by omega), i9]
      have e7 : Mc3.1 208 7 = nI v := by rw [d5.2.2.2 _ _ (by omega), g2, setI_s]
      obtain ⟨Mc4, g4⟩ : ∃ X, X = setI (setI Mc3 (T + 34 + 5 * p) f (nI y')) (T + 35 + 5 * p) f (nI z') := ⟨_, rfl⟩
      have l4 : LPt n B (nx n B (nx n B st)) Mc4 Mr3 := l3.sets (fun c i q => by rw [g4, setI_n (by omega), setI_n (by omega)]) (by rw [g4]; rfl) (fun _ _ _ => rfl) rfl
      have b3 := (nx_le (B := B) h1.1).2 (ke (by omega))
      refine Or.inr ⟨x4, nx n B (nx n B st), y', z', Mc4, Mr3, by omega, hy', hz', hpc, ?_, ?_, l4, ?_, ?_, ?_, ?_, ?_, ?_⟩
      · rw [if_neg (show ¬ (4 : Int32) ≤ nI v from nI_ge (a := v) (b := 4) (by omega) (by omega)), bit_nI (by omega) (by omega), if_pos (show nI (if (y ||| z).testBit v = true then 1 else 0) = 0 by rw [bf]; rfl), bnd_e, ← g2, d3, clv_s, cl_s, if_neg (show ¬ (1 : Int32) = 0 by decide)]
        have e := b188_f (F := F) (x := x) hT hp hf v4 e8 e9 e7 w
        rw [← ey, ← ez, ← g4, nI_clamp (show f < 2 ^ 31 by omega)] at e
        exact e
      · rw [if_neg (show ¬ (4 : Int32) ≤ nI v from nI_ge (a := v) (b := 4) (by omega) (by omega)), has_f (by omega) (by omega), cl_s, if_neg (show ¬ (y ||| z).testBit v = true by rw [bf]; decide), if_pos rfl]
        unfold f_X11_readFrame_b185 f_X11_readFrame_b231
        cases w
        · have d2' : Mr2 = setI Mr1 339 q2 (nI (z ||| 2 ^ v)) := d2
          rw [must_t r9 (by decide), cl_s, if_neg (show ¬ (1 : Int32) = 0 by decide), show b10 false = 0 from rfl, if_pos rfl, gd_t (inb_nI (by omega) (by omega)), nI_clamp (show q2 < 2 ^ 31 by omega), j9, r7, ← v0, or_nI (by omega), bnd_e, ← d2', d4, clv_s]
        · have d2' : Mr2 = setI Mr1 338 q2 (nI (y ||| 2 ^ v)) := d2
          rw [must_t r9 (by decide), cl_s, if_neg (show ¬ (1 : Int32) = 0 by decide), show b10 true = 1 from rfl, if_neg (show ¬ (1 : Int32) = 0 by decide), gd_t (inb_nI (by omega) (by omega)), nI_clamp (show q2 < 2 ^ 31 by omega), j8, r7, ← v0, or_nI (by omega), bnd_e, ← d2', d4, clv_s]
      · rw [g4, setI_n (by omega), setI_s]
      · rw [g4, setI_s]
      · rw [d6.2.2 _ _ (by omega), d2, ey]
        cases w
        · show (setI Mr1 339 q2 _).1 338 q2 = nI y
          rw [setI_n (by omega), j8]
        · exact setI_s
      · rw [d6.2.2 _ _ (by omega), d2, ez]
        cases w
        · exact setI_s
        · show (setI Mr1 338 q2 _).1 339 q2 = nI z
          rw [setI_n (by omega), j9]
      · refine (a4.g.x _).tr (GCx.tr (M' := Mc2) ?_ ((d5.g.x _).tr ?_))
        · rw [g2]; exact (gc_I Mc1 (by omega)).x _
        · rw [g4]; exact (gcx_I _ (by unfold mcX; omega)).tr (gcx_I _ (by unfold mcX; omega))
      · exact (a5.g.x _).tr (GRx.tr (M' := Mr2) ⟨by rw [rd2'], fun a k _ => by rw [rd2'], fun a k u _ => rd2 a k u⟩ (d6.g.x _))
    · obtain ⟨Mc', Mr', f1, f2, f3, f4, f5⟩ := fault h1 (k := 3) (by decide)
      have e185 : f_X11_readFrame_b185 G x1 (nI q2) (b10 w) 0 Mr1 = some Mr' := by
        unfold f_X11_readFrame_b185
        rw [f2, cl_s, if_pos rfl]
      refine Or.inl ⟨Mc', Mr', ?_, ?_, f3, a4.g.tr f4, a5.g.tr f5⟩
      · rw [f1, cl_s, gd_t nar_b.1]
        by_cases u : v < 4
        · have bt : (y ||| z).testBit v = true := by
            cases e : (y ||| z).testBit v
            · exact absurd ⟨u, e⟩ z1
            · rfl
          rw [if_neg (show ¬ (4 : Int32) ≤ nI v from nI_ge (a := v) (b := 4) (by omega) (by omega)), bit_nI (by omega) (by omega), bt, if_neg (show ¬ nI (if true = true then 1 else 0) = 0 by decide), cl_s, if_pos rfl]
        · rw [if_pos (show (4 : Int32) ≤ nI v from le_nI (a := 4) (by omega) (by omega) (by omega)), cl_s, if_pos rfl]
      · rw [e185]
        by_cases u : v < 4
        · have bt : (y ||| z).testBit v = true := by
            cases e : (y ||| z).testBit v
            · exact absurd ⟨u, e⟩ z1
            · rfl
          rw [if_neg (show ¬ (4 : Int32) ≤ nI v from nI_ge (a := v) (b := 4) (by omega) (by omega)), has_f (by omega) (by omega), cl_s, bt, if_pos rfl, if_neg (show ¬ (1 : Int32) = 0 by decide), e185]
        · rw [if_pos (show (4 : Int32) ≤ nI v from le_nI (a := 4) (by omega) (by omega) (by omega))]
  · obtain ⟨Mc', Mr', f1, f2, f3, f4, f5⟩ := fault h1 (k := 1) (by decide)
    rw [if_neg c, if_neg (fun z => c (kn.mp z)), f1, cl_s, gd_t nar_b.1, cl_s, if_pos rfl]
    unfold f_X11_readFrame_b141
    rw [f2, cl_s, if_pos rfl]
    exact Or.inl ⟨Mc', Mr', rfl, rfl, f3, a4.g.tr f4, a5.g.tr f5⟩
/-! their loop -/
theorem mstep_ls {n : Nat} {B : Nat → Nat} {T p f st x y z q2 : Nat} {Mc Mr : Mem} (hT : TT T) (hp : p < 8) (hf : f < 10) (hq : q2 < 160) (F : Nat → Int32 → Int32 → Mem → Option (Int32 × Mem)) (G : Int32 → Int32 → Mem → Option Mem) (h : LPt n B st Mc Mr) (x1 : Int32) (hy : y < 16) (hz : z < 16) (hx : pc (y ||| z) = x) (h8 : Mc.1 (T + 34 + 5 * p) f = nI y) (h9 : Mc.1 (T + 35 + 5 * p) f = nI z) (g8 : Mr.1 338 q2 = nI y) (g9 : Mr.1 339 q2 = nI z) :
    (f_X7_tellFrame_b97_s F (T + 31 + 5 * p) (nI f) (nI x) Mc = some (1, Mc) ∧ f_X11_readFrame_b82_s G x1 (nI q2) Mr = f_X11_readFrame_b238 x1 Mr) ∨
    (∃ Mc' Mr', f_X7_tellFrame_b97_s F (T + 31 + 5 * p) (nI f) (nI x) Mc = some (0, Mc') ∧ f_X11_readFrame_b82_s G x1 (nI q2) Mr = some Mr' ∧ FL Mc' Mr' ∧ GC Mc Mc' ∧ GR Mr Mr') ∨
    (x < 4 ∧ ∃ st' y' z' Mc' Mr', st ≤ st' ∧ y' < 16 ∧ z' < 16 ∧ pc (y' ||| z') = x + 1 ∧ f_X7_tellFrame_b97_s F (T + 31 + 5 * p) (nI f) (nI x) Mc = F (T + 31 + 5 * p) (nI f) (nI (x + 1)) Mc' ∧ f_X11_readFrame_b82_s G x1 (nI q2) Mr = G x1 (nI q2) Mr' ∧ LPt n B st' Mc' Mr' ∧ Mc'.1 (T + 34 + 5 * p) f = nI y' ∧ Mc'.1 (T + 35 + 5 * p) f = nI z' ∧ Mr'.1 338 q2 = nI y' ∧ Mr'.1 339 q2 = nI z' ∧ GCx (mcX T p f) Mc Mc' ∧ GRx (mrX q2) Mr Mr') := by
  have kw := (k_word (LPt.k h)).2.2.2
  have x4 : x ≤ 4 := by rw [← hx]; exact (pc_15 _ (or_15 y hy z hz)).1
  have r33 : (Mr.1 311 6) = 33 ↔ ctN n B st = 8 := by
    rw [h.2.2.1.2.2.1]
    exact k_sgn (LPt.k h) (by unfold SgP; decide)
  have r63 : (Mr.1 311 6) = 63 ↔ ctN n B st = 9 := by
    rw [h.2.2.1.2.2.1]
    exact k_sgn (LPt.k h) (by unfold SgP; decide)
  have c4 := h.2.1.2.2.2.1
  unfold f_X7_tellFrame_b97_s f_X11_readFrame_b82_s f_X7_tellFrame_b123 f_X11_readFrame_b107
  rw [if_neg (show ¬ (4 : Int32) < nI x from fun q => by have := (lt_nI (a := 4) (b := x) (by omega) (by omega)).mp q; omega), c4, gd_t kw, if_pos h.2.2.2]
  by_cases c8 : ctN n B st = 8
  · have s := sign_ls hT hp hf hq F G h ((k_end (LPt.k h)).2 (by omega)) true x1 hy hz hx h8 h9 g8 g9
    rw [if_pos c8, gd_t kw, if_pos c8, if_pos (r33.mpr c8), if_pos (r33.mpr c8)]
    rcases s with s | s
    · exact Or.inr (Or.inl s)
    · exact Or.inr (Or.inr s)
  · rw [if_neg c8, if_neg (fun q => c8 (r33.mp q))]
    by_cases c9 : ctN n B st = 9
    · have s := sign_ls hT hp hf hq F G h ((k_end (LPt.k h)).2 (by omega)) false x1 hy hz hx h8 h9 g8 g9
      rw [if_pos c9, gd_t kw, if_neg c8, if_pos (r63.mpr c9), if_neg (fun q => c8 (r33.mp q))]
      rcases s with s | s
      · exact Or.inr (Or.inl s)
      · exact Or.inr (Or.inr s)
    · rw [if_neg c9, if_neg (fun q => c9 (r63.mp q))]
      exact Or.inl ⟨rfl, rfl⟩
theorem marks_ls {n : Nat} {B : Nat → Nat} {T p f q2 : Nat} (hT : TT T) (hp : p < 8) (hf : f < 10) (hq : q2 < 160) (x1 : Int32) (m1 m2 : Nat) : ∀ d x st y z Mc Mr, x + d = 4 → LPt n B st Mc Mr → y < 16 → z < 16 → pc (y ||| z) = x → Mc.1 (T + 34 + 5 * p) f = nI y → Mc.1 (T + 35 + 5 * p) f = nI z → Mr.1 338 q2 = nI y → Mr.1 339 q2 = nI z →
    (∃ st' y' z' Mc' Mr', st ≤ st' ∧ y' < 16 ∧ z' < 16 ∧ f_X7_tellFrame_b97 (m1 + d + 1) (T + 31 + 5 * p) (nI f) (nI x) Mc = some (1, Mc') ∧ f_X11_readFrame_b82 (m2 + d + 1) x1 (nI q2) Mr = f_X11_readFrame_b238 x1 Mr' ∧ LPt n B st' Mc' Mr' ∧ Mc'.1 (T + 34 + 5 * p) f = nI y' ∧ Mc'.1 (T + 35 + 5 * p) f = nI z' ∧ Mr'.1 338 q2 = nI y' ∧ Mr'.1 339 q2 = nI z' ∧ GCx (mcX T p f) Mc Mc' ∧ GRx (mrX q2) Mr Mr') ∨
    (∃ Mc' Mr', f_X7_tellFrame_b97 (m1 + d + 1) (T + 31 + 5 * p) (nI f) (nI x) Mc = some (0, Mc') ∧ f_X11_readFrame_b82 (m2 + d + 1) x1 (nI q2) Mr = some Mr' ∧ FL Mc' Mr' ∧ GCx (mcX T p f) Mc Mc' ∧ GRx (mrX q2) Mr Mr') := by
  intro d
  induction d with
  | zero =>
    intro x st y z Mc Mr hd h hy hz hx h8 h9 g8 g9
    rcases mstep_ls hT hp hf hq (f_X7_tellFrame_b97 (m1 + 0)) (f_X11_readFrame_b82 (m2 + 0)) h x1 hy hz hx h8 h9 g8 g9 with ⟨q1, q2'⟩ | ⟨Mc', Mr', q1, q2', q3, q4, q5⟩ | ⟨q, -⟩
    · exact Or.inl ⟨st, y, z, Mc, Mr, Nat.le_refl _, hy, hz, q1, q2', h, h8, h9, g8, g9, GCx.refl _ _, GRx.refl _ _⟩
    · exact Or.inr ⟨Mc', Mr', q1, q2', q3, q4.x _, q5.x _⟩
    · omega
  | succ d ih =>
    intro x st y z Mc Mr hd h hy hz hx h8 h9 g8 g9
    rcases mstep_ls hT hp hf hq (f_X7_tellFrame_b97 (m1 + d + 1)) (f_X11_readFrame_b82 (m2 + d + 1)) h x1 hy hz hx h8 h9 g8 g9 with ⟨q1, q2'⟩ | ⟨Mc', Mr', q1, q2', q3, q4, q5⟩ | ⟨x4, st2, y2, z2, Mc2, Mr2, l2, hy2, hz2, hx2, q1, q2', h2, k8, k9, j8, j9, oc2, or2⟩
    · exact Or.inl ⟨st, y, z, Mc, Mr, Nat.le_refl _, hy, hz, q1, q2', h, h8, h9, g8, g9, GCx.refl _ _, GRx.refl _ _⟩
    · exact Or.inr ⟨Mc', Mr', q1, q2', q3, q4.x _, q5.x _⟩
    · have e1 : f_X7_tellFrame_b97 (m1 + (d + 1) + 1) (T + 31 + 5 * p) (nI f) (nI x) Mc = f_X7_tellFrame_b97 (m1 + d + 1) (T + 31 + 5 * p) (nI f) (nI (x + 1)) Mc2 := q1
      have e2 : f_X11_readFrame_b82 (m2 + (d + 1) + 1) x1 (nI q2) Mr = f_X11_readFrame_b82 (m2 + d + 1) x1 (nI q2) Mr2 := q2'
      rw [e1, e2]
      rcases ih (x + 1) st2 y2 z2 Mc2 Mr2 (by omega) h2 hy2 hz2 hx2 k8 k9 j8 j9 with ⟨st', y', z', Mc', Mr', z1, z2', z3, z4, z5, z6, z7, z8, z9, z10, z11, z12⟩ | ⟨Mc', Mr', z4, z5, z6, z11, z12⟩
      · exact Or.inl ⟨st', y', z', Mc', Mr', by omega, z2', z3, z4, z5, z6, z7, z8, z9, z10, oc2.tr z11, or2.tr z12⟩
      · exact Or.inr ⟨Mc', Mr', z4, z5, z6, oc2.tr z11, or2.tr z12⟩
