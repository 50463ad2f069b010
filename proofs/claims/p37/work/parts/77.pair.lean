/-! frames with cells to spare -/
def GCx (X : Nat → Nat → Prop) (M M' : Mem) : Prop := M'.2.1 = M.2.1 ∧ M'.2.2.2 = M.2.2.2 ∧ (∀ a k, ¬ (a = 208 ∧ k = 4) → M'.2.2.1 a k = M.2.2.1 a k) ∧ ∀ a k, ¬ X a k → ¬ (a = 208 ∧ (k = 3 ∨ k = 5 ∨ k = 6 ∨ k = 7 ∨ k = 8)) → M'.1 a k = M.1 a k
def GRx (X : Nat → Nat → Prop) (M M' : Mem) : Prop := M'.2.2 = M.2.2 ∧ (∀ a k, ¬ (a = 311 ∧ k = 8) → M'.2.1 a k = M.2.1 a k) ∧ ∀ a k, ¬ X a k → ¬ (a = 311 ∧ (4 ≤ k ∧ k ≤ 10)) → M'.1 a k = M.1 a k
theorem GCx.refl (X : Nat → Nat → Prop) (M : Mem) : GCx X M M := ⟨rfl, rfl, fun _ _ _ => rfl, fun _ _ _ _ => rfl⟩
theorem GRx.refl (X : Nat → Nat → Prop) (M : Mem) : GRx X M M := ⟨rfl, fun _ _ _ => rfl, fun _ _ _ _ => rfl⟩
theorem GCx.tr {X : Nat → Nat → Prop} {M M' M'' : Mem} (h : GCx X M M') (h' : GCx X M' M'') : GCx X M M'' := ⟨h'.1.trans h.1, h'.2.1.trans h.2.1, fun a k x => (h'.2.2.1 a k x).trans (h.2.2.1 a k x), fun a k x y => (h'.2.2.2 a k x y).trans (h.2.2.2 a k x y)⟩
theorem GRx.tr {X : Nat → Nat → Prop} {M M' M'' : Mem} (h : GRx X M M') (h' : GRx X M' M'') : GRx X M M'' := ⟨h'.1.trans h.1, fun a k x => (h'.2.1 a k x).trans (h.2.1 a k x), fun a k x y => (h'.2.2 a k x y).trans (h.2.2 a k x y)⟩
theorem GCx.mono {X Y : Nat → Nat → Prop} {M M' : Mem} (h : GCx X M M') (xy : ∀ a k, X a k → Y a k) : GCx Y M M' := ⟨h.1, h.2.1, h.2.2.1, fun a k x y => h.2.2.2 a k (fun z => x (xy a k z)) y⟩
theorem GRx.mono {X Y : Nat → Nat → Prop} {M M' : Mem} (h : GRx X M M') (xy : ∀ a k, X a k → Y a k) : GRx Y M M' := ⟨h.1, h.2.1, fun a k x y => h.2.2 a k (fun z => x (xy a k z)) y⟩
theorem GC.x {M M' : Mem} (h : GC M M') (X : Nat → Nat → Prop) : GCx X M M' := ⟨h.1, h.2.1, h.2.2.1, fun a k _ y => h.2.2.2 a k y⟩
theorem GR.x {M M' : Mem} (h : GR M M') (X : Nat → Nat → Prop) : GRx X M M' := ⟨h.1, h.2.1, fun a k _ y => h.2.2 a k y⟩
theorem gcx_I {X : Nat → Nat → Prop} (M : Mem) {a k : Nat} {x : Int32} (h : X a k) : GCx X M (setI M a k x) := ⟨rfl, rfl, fun _ _ _ => rfl, fun b j q _ => setI_n (by
  by_cases z : b = a
  · by_cases z2 : j = k
    · rw [z, z2] at q; exact absurd h q
    · exact Or.inr z2
  · exact Or.inl z)⟩
theorem grx_I {X : Nat → Nat → Prop} (M : Mem) {a k : Nat} {x : Int32} (h : X a k) : GRx X M (setI M a k x) := ⟨rfl, fun _ _ _ => rfl, fun b j q _ => setI_n (by
  by_cases z : b = a
  · by_cases z2 : j = k
    · rw [z, z2] at q; exact absurd h q
    · exact Or.inr z2
  · exact Or.inl z)⟩
theorem GCx.p {X : Nat → Nat → Prop} {M M' : Mem} {T : Nat} (h : GCx X M M') (x : ∀ a k, X a k → T ≤ a ∧ a ≤ T + 70) : FPC T M M' := ⟨h.1, h.2.1, fun a k y _ => h.2.2.1 a k y, fun a k y _ _ w => h.2.2.2 a k (fun z => w (x a k z)) (by omega)⟩
theorem GRx.p {X : Nat → Nat → Prop} {M M' : Mem} (h : GRx X M M') (x : ∀ a k, X a k → 313 ≤ a ∧ a ≤ 339 ∧ hf a ≤ k) : FPR M M' := ⟨h.1, fun a k y _ => h.2.1 a k y, fun a k y w => h.2.2 a k (fun z => w (x a k z)) y⟩
theorem LPt.gx {n : Nat} {B : Nat → Nat} {st : Nat} {X Y : Nat → Nat → Prop} {Mc Mr : Mem} (h : LPt n B st Mc Mr) {a k b j : Nat} {x y : Int32} (h1 : 66 ≤ a ∧ a < 208) (h2 : 313 ≤ b) : LPt n B st (setI Mc a k x) (setI Mr b j y) :=
  h.sets (fun c i q => setI_n (by omega)) rfl (fun c i q => setI_n (by omega)) rfl
theorem NmR.gx {pd : Nat} {X Y : Nat → Nat → Prop} {Mc Mr Mc' Mr' : Mem} (h : NmR pd Mc Mr) (oc : GCx X Mc Mc') (or : GRx Y Mr Mr') (hx : ∀ a k, X a k → a < 208) (hy : ∀ a k, Y a k → a ≠ 313) : NmR pd Mc' Mr' :=
  h.cong (oc.2.2.2 _ _ (fun z => by have := hx _ _ z; omega) (by omega)) (funext (fun k => oc.2.2.2 _ _ (fun z => by have := hx _ _ z; omega) (by omega))) (funext (fun k => oc.2.2.2 _ _ (fun z => by have := hx _ _ z; omega) (by omega))) (funext (fun k => oc.2.2.1 _ _ (by omega))) (funext (fun k => or.2.1 _ _ (by omega))) (fun s _ => or.2.2 _ _ (fun z => hy _ _ z rfl) (by omega))
theorem FL.set {Mc Mr : Mem} (h : FL Mc Mr) {a k : Nat} {x : Int32} (q : a ≠ 311) : FL Mc (setI Mr a k x) := FLt h ⟨setI_n (Or.inl (fun z => q z.symm)), setI_n (Or.inl (fun z => q z.symm))⟩
theorem lpu {F R : Type} {z : F} {s : F → F} (app : F → R) (res : R) (h : ∀ f, app (s f) = res) : app (lpN z s fuel) = res :=
  lp_for (fun _ f => app f) 0 res (fun i hi => absurd hi (by omega)) h fuel (by unfold fuel; omega)
/-! a mark -/
theorem num_v {n : Nat} {B : Nat → Nat} {st : Nat} (K : Kind3 n B st) (c : ctN n B st = 4) : rtN n B st = 2 ∧ vlN n B st = rvN n B st ∧ vlN n B st < 10000 := by
  have rt := (k_num K).mpr c
  refine ⟨rt, ?_⟩
  rcases K with ⟨-, a, -⟩ | ⟨-, -, -, a⟩ | ⟨-, a, -⟩ | ⟨-, b, -⟩ | ⟨-, ⟨a, -⟩ | ⟨a, -⟩ | ⟨a, -⟩ | ⟨a, -⟩ | ⟨a, -⟩⟩
  · rw [a] at c; exact absurd c (by decide)
  · exact a
  · rw [a] at c; exact absurd c (by decide)
  · rw [rt] at b; exact absurd b (by decide)
  all_goals (rw [a] at c; exact absurd c (by decide))
theorem bits_0 : ∀ v, v < 4 → (((0 : Int32) >>> (nI v &&& 31)) &&& 1) = 0 := by decide +kernel
theorem bits_1 : ∀ a, a < 4 → ∀ v, v < 4 → (((((1 : Int32) <<< (nI a &&& 31)) >>> (nI v &&& 31)) &&& 1) = 0 ↔ v ≠ a) := by decide +kernel
theorem mark0 {n : Nat} {B : Nat → Nat} {st : Nat} {Mc Mr : Mem} (h : LPt n B st Mc Mr) : f_X7_takeMark 0 Mc = f_X7_takeNumber 0 3 Mc := by
  have K := LPt.k h
  have kw := (k_word K).2.2.2
  obtain ⟨-, ⟨-, -, c6, c4, -⟩, -⟩ := id h
  unfold f_X7_takeMark f_X7_takeNumber f_X7_takeMark_b35 f_X7_takeNumber_b32
  rw [c4, gd_t kw, gd_t kw, c6]
  by_cases c : ctN n B st = 4
  · obtain ⟨-, -, v1⟩ := num_v K c
    have n0 : ¬ nI (vlN n B st) < 0 := fun z => by have := (lt_nI (a := vlN n B st) (b := 0) (by omega) (by omega)).mp z; omega
    rw [if_pos c, if_pos c, if_neg n0]
    by_cases z : vlN n B st < 4
    · rw [if_neg (show ¬ (4 : Int32) ≤ nI (vlN n B st) from nI_ge (a := vlN n B st) (b := 4) (by omega) (by omega)), if_pos (bits_0 _ z), if_pos (show nI (vlN n B st) ≤ 3 from le_nI (b := 3) (by omega) (by omega) (by omega))]
    · rw [if_pos (show (4 : Int32) ≤ nI (vlN n B st) from le_nI (a := 4) (by omega) (by omega) (by omega)), if_neg (show ¬ nI (vlN n B st) ≤ 3 from nI_ge (a := 3) (by omega) (by omega))]
  · rw [if_neg c, if_neg c]
/-- the second of a pair -/
theorem mark_ls {n : Nat} {B : Nat → Nat} {st : Nat} {Mc Mr : Mem} (h : LPt n B st Mc Mr) {a x1 x2 j : Nat} (ha : a < 4) (h1 : x1 < 10) (h2 : x2 < 30) (ra : Mr.1 325 x2 = nI a) (rj : Mr.1 324 x1 = nI j) :
    (∃ b Mc' Mr', b < 4 ∧ a ≠ b ∧ st < n ∧ f_X7_takeMark ((1 : Int32) <<< (nI a &&& 31)) Mc = some (1, Mc') ∧ Mc'.1 208 7 = nI b ∧ (if (Mr.1 311 6) = 2 then f_X11_pair_b43 (nI x1) (nI x2) 1 Mr else f_X11_pair_b43 (nI x1) (nI x2) 0 Mr) = some Mr' ∧ LPt n B (nx n B st) Mc' Mr' ∧ GC Mc Mc' ∧ GRx (fun c i => (c = 324 ∧ i = x1) ∨ (c = 326 ∧ i = x2)) Mr Mr' ∧ Mr'.1 324 x1 = nI (j + 1) ∧ Mr'.1 326 x2 = nI b) ∨
    (∃ Mc' Mr', f_X7_takeMark ((1 : Int32) <<< (nI a &&& 31)) Mc = some (0, Mc') ∧ (if (Mr.1 311 6) = 2 then f_X11_pair_b43 (nI x1) (nI x2) 1 Mr else f_X11_pair_b43 (nI x1) (nI x2) 0 Mr) = some Mr' ∧ FL Mc' Mr' ∧ GC Mc Mc' ∧ GR Mr Mr') := by
  have K := LPt.k h
  have kn := k_num K
  have ke := (k_end K).2
  have kw := (k_word K).2.2.2
  obtain ⟨hs, ⟨c3, c5, c6, c4, sc⟩, ⟨r5, r4, r6, r7, r8, sr⟩, h9⟩ := id h
  unfold f_X7_takeMark f_X7_takeMark_b35
  rw [c4, gd_t kw, c6, r6]
  by_cases c : ctN n B st = 4
  · obtain ⟨rt, v0, v1⟩ := num_v K c
    rw [if_pos c, if_pos rt]
    unfold f_X11_pair_b43 f_X11_pair_b76
    rw [must_t h9 (by decide), cl_s, if_neg (show ¬ (1 : Int32) = 0 by decide), r7, ← v0, gd_t (inb_nI (by omega) (by omega)), nI_clamp (show x2 < 2 ^ 31 by omega), ra]
    by_cases z : vlN n B st < 4 ∧ vlN n B st ≠ a
    · obtain ⟨Mc1, g1⟩ : ∃ X, X = setI Mc 208 7 (nI (vlN n B st)) := ⟨_, rfl⟩
      obtain ⟨Mr1, g2⟩ : ∃ X, X = setI (setI Mr 326 x2 (nI (vlN n B st))) 324 x1 (nI (j + 1)) := ⟨_, rfl⟩
      have hl : LPt n B st Mc1 Mr1 := h.cong (fun k hk => by rw [g1, setI_n (by omega)]) (by rw [g1]; rfl) (by rw [g1]; exact funext (fun k => setI_n (by omega))) (fun k _ _ => by rw [g2, setI_n (by omega), setI_n (by omega)]) (by rw [g2]; rfl) (by rw [g2]; exact funext (fun k => by rw [setI_n (by omega), setI_n (by omega)]))
      obtain ⟨Mc2, Mr2, a1, a2, a3, a4, a5⟩ := hl.adv
      have j1 : (setI Mr 326 x2 (nI (vlN n B st))).1 324 x1 = nI j := by rw [setI_n (by omega), rj]
      refine Or.inl ⟨vlN n B st, Mc2, Mr2, z.1, fun q => z.2 q.symm, ke (by omega), ?_, ?_, ?_, a3, ?_, ?_, ?_, ?_⟩
      · rw [if_neg (show ¬ (4 : Int32) ≤ nI (vlN n B st) from nI_ge (a := vlN n B st) (b := 4) (by omega) (by omega)), if_pos ((bits_1 a ha _ z.1).mpr z.2), bnd_e, ← g1, a1, clv_s]
      · rw [a4.2.2.2 _ _ (by omega), g1, setI_s]
      · rw [if_neg (show ¬ (4 : Int32) ≤ nI (vlN n B st) from nI_ge (a := vlN n B st) (b := 4) (by omega) (by omega)), if_neg (show ¬ nI (vlN n B st) = nI a from fun q => z.2 ((nI_eq (by omega) (by omega)).mp q))]
        unfold f_X11_pair_b77
        rw [must_t h9 (by decide), cl_s, if_neg (show ¬ (1 : Int32) = 0 by decide), gd_t (inb_nI (by omega) (by omega)), nI_clamp (show x2 < 2 ^ 31 by omega), r7, ← v0, bnd_e, gd_t (inb_nI (by omega) (by omega)), nI_clamp (show x1 < 2 ^ 31 by omega), j1, nI_1, bnd_e, ← g2, a2, clv_s]
      · exact (show GC Mc Mc1 by rw [g1]; exact gc_I Mc (by omega)).tr a4.g
      · refine GRx.tr (M' := Mr1) ?_ (a5.g.x _)
        rw [g2]
        exact (grx_I _ (by omega)).tr (grx_I _ (by omega))
      · rw [a5.g.2.2 _ _ (by omega), g2, setI_s]
      · rw [a5.g.2.2 _ _ (by omega), g2, setI_n (by omega), setI_s]
    · obtain ⟨Mc', Mr', f1, f2, f3, f4, f5⟩ := fault h (k := 3) (by decide)
      have e77 : f_X11_pair_b77 (nI x1) (nI x2) 0 Mr = some Mr' := by
        unfold f_X11_pair_b77
        rw [f2, cl_s, if_pos rfl]
      refine Or.inr ⟨Mc', Mr', ?_, ?_, f3, f4, f5⟩
      · rw [f1, cl_s, gd_t nar_b.1]
        by_cases y : vlN n B st < 4
        · rw [if_neg (show ¬ (4 : Int32) ≤ nI (vlN n B st) from nI_ge (a := vlN n B st) (b := 4) (by omega) (by omega)), if_neg (fun q => z ⟨y, (bits_1 a ha _ y).mp q⟩)]
        · rw [if_pos (show (4 : Int32) ≤ nI (vlN n B st) from le_nI (a := 4) (by omega) (by omega) (by omega))]
      · rw [e77]
        by_cases y : vlN n B st < 4
        · rw [if_neg (show ¬ (4 : Int32) ≤ nI (vlN n B st) from nI_ge (a := vlN n B st) (b := 4) (by omega) (by omega)), if_pos (show nI (vlN n B st) = nI a by rw [show vlN n B st = a by omega])]
        · rw [if_pos (show (4 : Int32) ≤ nI (vlN n B st) from le_nI (a := 4) (by omega) (by omega) (by omega))]
  · obtain ⟨Mc', Mr', f1, f2, f3, f4, f5⟩ := fault h (k := 1) (by decide)
    rw [if_neg c, if_neg (fun z => c (kn.mp z))]
    unfold f_X11_pair_b43
    exact Or.inr ⟨Mc', Mr', by rw [f1, cl_s, gd_t nar_b.1], by rw [f2, cl_s, if_pos rfl], f3, f4, f5⟩
