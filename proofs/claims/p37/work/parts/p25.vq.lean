/-! THE LAW'S VERDICT is the class's word -/
section VQ
variable {N : Nat} {xs : Nat → Int32} {sm : Nat → Nat → Nat} {M : Mem} {p s : Nat}
def toN (l : Nat → Int) : Nat → Nat := fun c => (l c).toNat
theorem lclk_to {l : Nat → Int} (h : LClk sm l) (hs : SmO sm) : Box sm (toN l) ∧ (∀ f, f < snf sm → FlOk sm (toN l) f) ∧ ∀ c, c < 3 → lI (toN l) c = l c := by
  obtain ⟨h1, h2⟩ := h
  have e : ∀ c, c < 3 → lI (toN l) c = l c := fun c hc => by
    have := (h1 c hc).1
    unfold lI toN
    omega
  refine ⟨fun c hc => ?_, fun f hf => ?_, e⟩
  · obtain ⟨a, b⟩ := h1 c hc
    unfold toN
    omega
  · obtain ⟨a1, a2, -⟩ := s_c3 hs f hf
    have ea := e _ a1
    have eb := e _ a2
    have := h2 f hf
    unfold lI at ea eb
    unfold FlOk
    rw [ea, eb]
    exact this
theorem lclk_of {m : Nat → Nat} (hB : Box sm m) (f : ∀ f, f < snf sm → FlOk sm m f) : LClk sm (lI m) := by
  refine ⟨fun c hc => ?_, fun k hk => f k hk⟩
  obtain ⟨a, b⟩ := hB c hc
  unfold lI
  omega
theorem some_m (hs : SmO sm) (T : TolS sm M) (O : MOk M) (hp : p < Cn M 4) : SomeP M p s ↔ ∃ m, Box sm m ∧ GoodL sm M p s m := by
  rw [some_iff hs T O hp]
  constructor
  · rintro ⟨l, h1, h2⟩
    obtain ⟨a, b, c⟩ := lclk_to h1 hs
    obtain ⟨w1, w2⟩ := win3 (s := s) hs T hp c
    refine ⟨toN l, a, b, ?_⟩
    unfold CanW at h2 ⊢
    rw [w1, w2]
    exact h2
  · rintro ⟨m, a, b, c⟩
    exact ⟨lI m, lclk_of a b, c⟩
theorem all_m (hs : SmO sm) (T : TolS sm M) (O : MOk M) (hp : p < Cn M 4) : AllP M p s ↔ ∀ m, Box sm m → GoodL sm M p s m → AllL sm M p s m := by
  rw [all_iffP hs T O hp]
  constructor
  · intro h m a b
    exact h (lI m) (lclk_of a b.1) b.2
  · intro h l h1 h2
    obtain ⟨a, b, c⟩ := lclk_to h1 hs
    obtain ⟨w1, w2⟩ := win3 (s := s) hs T hp c
    have z := h (toN l) a ⟨b, by unfold CanW at h2 ⊢; rw [w1, w2]; exact h2⟩
    unfold AllL at z
    rw [w1, w2] at z
    exact z
theorem pra_k (hs : SmO sm) (T : TolS sm M) (hp : p < Cn M 4) (t : Nat → Int) : PrA M p t ↔ ∀ k, k < npK sm (spk sm p) → t (fK sm (spk sm p) k) < t (gK sm (spk sm p) k) := by
  have hp' : p < snp sm := by rw [← (d_cn hs T).2.2.1]; exact hp
  obtain ⟨-, ek, -, k2, -⟩ := d_pl hs T hp'
  have pr := d_pr hs T k2
  unfold PrA
  rw [ek]
  constructor
  · intro h k hk
    refine h _ _ ((pr _ _).mpr ?_)
    unfold npK at hk
    unfold fK gK
    by_cases z : k = 0
    · rw [if_pos z, if_pos z]
      exact Or.inl ⟨rfl, rfl⟩
    · rw [if_neg z, if_neg z]
      by_cases y : sm (27 + spk sm p) 3 = 0
      · exact Or.inr ⟨y, rfl, rfl⟩
      · rw [if_neg y] at hk
        omega
  · intro h f g hpr
    rcases (pr f g).mp hpr with ⟨rfl, rfl⟩ | ⟨y, rfl, rfl⟩
    · exact h 0 (by unfold npK; split <;> omega)
    · exact h 1 (by unfold npK; rw [if_pos y]; omega)
theorem none_m (hs : SmO (smN N xs)) (T : TolS (smN N xs) M) (O : MOk M) (hp : p < Cn M 4) : NoneP M p s ↔ ∀ m, Box (smN N xs) m → GoodL (smN N xs) M p s m → ¬ CanL (smN N xs) M p s m := by
  rw [none_iff]
  have key : ∀ m, Box (smN N xs) m → (∀ f, f < snf (smN N xs) → FlOk (smN N xs) m f) → ((∃ t, Tim M p s (lI m) t ∧ PrA M p t) ↔ CanW M p s (lI m) ∧ CanL (smN N xs) M p s m) := fun m a b => by
    have hc := (clk_iff hs T (lI m)).mpr (lclk_of a b)
    have ci := can_iff (M := M) (p := p) (s := s) (l := lI m) (lo := loF M p s (lI m) (Fn M p)) (hi := hiF M p s (lI m) (Fn M p)) (F := fK (smN N xs) (spk (smN N xs) p)) (G := gK (smN N xs) (spk (smN N xs) p)) (n := npK (smN N xs) (spk (smN N xs) p)) (np_le _ _).1 (fun k _ => by obtain ⟨x1, x2, x3⟩ := fg_ok hs (spk (smN N xs) p) k; exact ⟨by omega, by omega, x3⟩) (fun m _ => loF_is m) (fun m _ => hiF_is m) (fun i _ => by obtain ⟨x1, x2, x3⟩ := win_bd (s := s) hs T a hp i; exact ⟨by omega, by omega⟩)
    constructor
    · rintro ⟨t, h1, h2⟩
      exact ⟨(tim_iff O hp hc (fun m _ => loF_is m) (fun m _ => hiF_is m)).mp ⟨t, h1⟩, ci.mp ⟨t, h1, (pra_k hs T hp t).mp h2⟩⟩
    · rintro ⟨-, h⟩
      obtain ⟨t, h1, h2⟩ := ci.mpr h
      exact ⟨t, h1, (pra_k hs T hp t).mpr h2⟩
  constructor
  · intro h m a b c
    exact h (lI m) ((clk_iff hs T (lI m)).mpr (lclk_of a b.1)) ((key m a b.1).mpr ⟨b.2, c⟩)
  · intro h l h1 h2
    have h1' := (clk_iff hs T l).mp h1
    obtain ⟨a, b, c⟩ := lclk_to h1' hs
    have e : ∃ t, Tim M p s (lI (toN l)) t ∧ PrA M p t := by
      obtain ⟨t, t1, t2⟩ := h2
      refine ⟨t, fun k hk hb m hm => ?_, t2⟩
      rw [atk3 hs T hp hk c]
      exact t1 k hk hb m hm
    obtain ⟨z1, z2⟩ := (key (toN l) a b).mp e
    exact h (toN l) a ⟨b, z1⟩ z2
/-- the word by flags over all clocks is the class's -/
theorem wrd_vq (hs : SmO (smN N xs)) (T : TolS (smN N xs) M) (O : MOk M) (hp : p < Cn M 4) (hs16 : s < 16) {x5 x6 x7 : Int32} (F : Fl3 (smN N xs) M p s (Box (smN N xs)) x5 x6 x7) : wrd x5 x6 x7 = vq M p s := by
  have d1 := Classical.propDecidable (SomeP M p s)
  have d2 := Classical.propDecidable (AllP M p s)
  have d3 := Classical.propDecidable (NoneP M p s)
  rw [vq_word O hp (by omega)]
  obtain ⟨f1, f2, f3⟩ := F
  have g1 : Flg x5 (SomeP M p s) := f1.cong (some_m hs T O hp).symm
  have g2 : Flg x6 (AllP M p s) := f2.cong (all_m hs T O hp).symm
  have g3 : Flg x7 (NoneP M p s) := f3.cong (none_m hs T O hp).symm
  unfold wrd wordOf
  rcases g1 with ⟨rfl, a⟩ | ⟨rfl, a⟩
  · rw [if_neg (show ¬ (1 : Int32) = 0 by decide), if_neg (show ¬ ¬ SomeP M p s from fun z => z a)]
    rcases g2 with ⟨rfl, b⟩ | ⟨rfl, b⟩
    · rw [if_neg (show ¬ (1 : Int32) = 0 by decide), if_pos b]
    · rw [if_pos rfl, if_neg b]
      rcases g3 with ⟨rfl, c⟩ | ⟨rfl, c⟩
      · rw [if_neg (show ¬ (1 : Int32) = 0 by decide), if_pos c]
      · rw [if_pos rfl, if_neg c]
  · rw [if_pos rfl, if_pos a]
end VQ
section VERDF
variable {N : Nat} {xs : Nat → Int32}
theorem cam_0 (hs : SmO (smN N xs)) {M : Mem} (h : HB M) (T : TolS (smN N xs) M) {c : Nat} (hc : c < 3) : ∃ M1, f_X10_camera (nI c) 0 M = some (nI (sca (smN N xs) c), M1) ∧ HB M1 ∧ M1.2 = M.2 ∧ ∀ q, 313 ≤ q → M1.1 q = M.1 q := by
  obtain ⟨r, M1, e, v, h1, o⟩ := (an_camera01 h (c := c) (by rw [(d_cn hs T).1]; exact hc)).1
  rw [(d_cam hs T hc).1] at v
  rw [v] at e
  exact ⟨M1, e, h1, o.1, fun q hq => o.far h hq⟩
/-- the first clock, in an array made at n -/
theorem first3 (hs : SmO (smN N xs)) {M : Mem} {n : Nat} (h : HB M) (T : TolS (smN N xs) M) (d : dyo M n 20) (ln : dln M n = 3) {f : Mem → Option (Int32 × Mem)} {Q : Option (Int32 × Mem) → Prop}
    (k : ∀ M', HB M' → M'.2 = M.2 → (∀ q, 313 ≤ q → q ≠ n → M'.1 q = M.1 q) → LateA M' n (sca (smN N xs)) → Q (f M')) :
    Q (cl (f_X10_camera 0 0 M) fun r1 M1m =>
      gd (1000 ≤ n ∧ dsc M1m n = 20 ∧ n - 753 < M1m.2.2.2) <|
      gd (inb 0 (dln M1m n)) <|
      bnd (setI M1m n 0 r1) fun M2m =>
      cl (f_X10_camera 1 0 M2m) fun r2 M3m =>
      gd (inb 1 (dln M1m n)) <|
      bnd (setI M3m n 1 r2) fun M4m =>
      cl (f_X10_camera 2 0 M4m) fun r3 M5m =>
      gd (inb 2 (dln M1m n)) <|
      bnd (setI M5m n 2 r3) fun M6m => f M6m) := by
  have n10 := d.1
  obtain ⟨M1, e1, h1, p1, r1⟩ := cam_0 hs h T (c := 0) (by omega)
  have q1 : EQ M M1 := ⟨by rw [p1], by rw [p1]⟩
  have T1 : TolS (smN N xs) M1 := T.dat (fun a h1 _ _ => r1 a h1)
  have l1 : dln M1 n = 3 := by rw [q1.dlq]; exact ln
  rw [show f_X10_camera 0 0 M = some (nI (sca (smN N xs) 0), M1) from e1, cl_s, gd_t (dq3 (q1.dyo d)), l1, gd_t (by decide), bnd_e]
  obtain ⟨M2, m2⟩ : ∃ X, X = setI M1 n 0 (nI (sca (smN N xs) 0)) := ⟨_, rfl⟩
  rw [← m2]
  have h2 : HB M2 := by rw [m2]; exact h1.later n10
  have r2 : ∀ q, q ≠ n → M2.1 q = M1.1 q := fun q h => by rw [m2]; exact funext (fun j => setI_n (Or.inl h))
  have T2 : TolS (smN N xs) M2 := T1.dat (fun a _ h2 _ => r2 a (by omega))
  obtain ⟨M3, e3, h3, p3, r3⟩ := cam_0 hs h2 T2 (c := 1) (by omega)
  have T3 : TolS (smN N xs) M3 := T2.dat (fun a h1 _ _ => r3 a h1)
  rw [show f_X10_camera 1 0 M2 = some (nI (sca (smN N xs) 1), M3) from e3, cl_s, gd_t (by decide), bnd_e]
  obtain ⟨M4, m4⟩ : ∃ X, X = setI M3 n 1 (nI (sca (smN N xs) 1)) := ⟨_, rfl⟩
  rw [← m4]
  have h4 : HB M4 := by rw [m4]; exact h3.later n10
  have r4 : ∀ q, q ≠ n → M4.1 q = M3.1 q := fun q h => by rw [m4]; exact funext (fun j => setI_n (Or.inl h))
  have T4 : TolS (smN N xs) M4 := T3.dat (fun a _ h2 _ => r4 a (by omega))
  obtain ⟨M5, e5, h5, p5, r5⟩ := cam_0 hs h4 T4 (c := 2) (by omega)
  rw [show f_X10_camera 2 0 M4 = some (nI (sca (smN N xs) 2), M5) from e5, cl_s, gd_t (by decide), bnd_e]
  have pa : (setI M5 n 2 (nI (sca (smN N xs) 2))).2 = M.2 := by
    show M5.2 = M.2
    rw [p5, m4]
    show M3.2 = M.2
    rw [p3, m2]
    exact p1
  have q6 : EQ M (setI M5 n 2 (nI (sca (smN N xs) 2))) := ⟨by rw [pa], by rw [pa]⟩
  refine k _ (h5.later n10) pa (fun q hq hn => ?_) ⟨q6.dyo d, by rw [q6.dlq]; exact ln, fun c hc => ?_, fun c hc => ?_⟩
  · rw [show (setI M5 n 2 (nI (sca (smN N xs) 2))).1 q = M5.1 q from funext (fun j => setI_n (Or.inl hn)), r5 q hq, r4 q hn, r3 q hq, r2 q hn, r1 q hq]
  · rcases (show c = 0 ∨ c = 1 ∨ c = 2 by omega) with rfl | rfl | rfl
    · rw [setI_n (Or.inr (by omega)), r5 n (by omega), m4, setI_n (Or.inr (by omega)), r3 n (by omega), m2, setI_s]
    · rw [setI_n (Or.inr (by omega)), r5 n (by omega), m4, setI_s]
    · rw [setI_s]
  · have := hs c 3 (by omega)
    unfold sca
    omega
theorem lverd_f (hN : N < 2 ^ 30) {M : Mem} (h : HB M) (T : TolS (smN N xs) M) (hc : 247 ≤ M.2.2.2) {p s : Nat} (hp : p < Cn M 4) (hs16 : s < 16) : ∃ M', f_L_verdict N xs (nI p) (nI s) M = some (vq M p s, M') ∧ Kp M M' ∧ Mk M M' 201 803 := by
  have hs := smN_ok N xs
  obtain ⟨M1, e1⟩ : ∃ X, X = nwA 20 3 3 M := ⟨_, rfl⟩
  obtain ⟨n, en⟩ : ∃ n, n = nn M := ⟨_, rfl⟩
  obtain ⟨d1, l1⟩ := dyo_nw (M := M) 20 3 3 hc
  have L1 : Lt M M1 := by rw [e1]; exact lt_nw hc
  have K1 : Mk M M1 1 3 := by rw [e1]; exact mk_nw _ _ _ _
  have r1 : ∀ q, q ≠ n → M1.1 q = M.1 q := fun q h => by rw [e1]; exact nwA_I (by rw [← en]; exact h)
  have nc : M.2.2.2 ≤ n - 753 := by rw [en]; unfold nn; omega
  rw [← e1, ← en] at d1 l1
  unfold f_L_verdict
  rw [bnd_e, ← e1, ← en]
  have n10 := d1.1
  unfold f_L_verdict_b3
  refine first3 (Q := fun r => ∃ M', r = some (vq M p s, M') ∧ Kp M M' ∧ Mk M M' 201 803) hs (h.lt L1) (T.lt L1) d1 l1 (fun M6 h6 p6 r6 A6 => ?_)
  have q6 : EQ M1 M6 := ⟨by rw [p6], by rw [p6]⟩
  have d6 : Dat M1 M6 := fun a a1 a2 _ => r6 a a1 (by omega)
  have dM6 : Dat M M6 := L1.dat.tr d6
  have Bx : Box (smN N xs) (sca (smN N xs)) := fun c hc => ⟨Nat.le_refl _, (s_c1 hs c hc).1⟩
  have lef := odo_le (s_w hs) (show BxO (sca (smN N xs)) (scb (smN N xs)) (sca (smN N xs)) from Bx)
  have no : ∀ m, ¬ (Box (smN N xs) m ∧ LxO m (sca (smN N xs))) := fun m z => odo_first (show BxO (sca (smN N xs)) (scb (smN N xs)) m from z.1) (fun _ _ => rfl) z.2
  have K6 : Kp M M6 := ⟨h6, dM6, L1.1.tr q6.gx, fun q a1 a2 => by rw [r6 q (by omega) (by omega), r1 q (by omega)]⟩
  obtain ⟨y5, y6, y7, M', e, K, mk, F⟩ := loop_f (s := s) hN T hp hs16 fuel (sca (smN N xs)) M6 0 1 1 (show _ < 5000 by omega) K6 hc ((K1.tr q6.mk).le (by omega) (by omega)) A6 nc Bx ⟨Or.inr ⟨rfl, fun z => no z.choose z.choose_spec.1⟩, Or.inl ⟨rfl, fun m a => absurd a (no m)⟩, Or.inl ⟨rfl, fun m a => absurd a (no m)⟩⟩
  rw [wrd_vq hs T h.1.2.1 hp hs16 F] at e
  exact ⟨M', e, K, mk.le (by omega) (by omega)⟩
end VERDF
