/-- cell 344 alone differs -/
theorem sA_MOk {M : Mem} (d : Nat → Int32) (h : MOk M) : MOk (sA M 344 d) := h
theorem toNat_nI {x : Int32} {n : Nat} (hn : n < 2 ^ 31) (h : x = nI n) : x.toNatClampNeg = n := by rw [h, nI_clamp hn]
theorem flash_nat {M : Mem} (O : MOk M) {f : Nat} (hf : f < Cn M 5) : fi M f < Cn M 0 ∧ fj M f < Cn M 0 ∧ fi M f ≠ fj M f ∧ M.1 319 (4 * f) = nI (fi M f) ∧ M.1 319 (4 * f + 2) = nI (fj M f) := by
  have h5 := O.1.1.2
  obtain ⟨⟨a, b, ha, hb, hab, e1, e2⟩, -⟩ := O.2.2.1 f hf
  have f1 : fi M f = a := toNat_nI (by omega) e1
  have f2 : fj M f = b := toNat_nI (by omega) e2
  rw [f1, f2]
  exact ⟨ha, hb, hab, e1, e2⟩
theorem it_0 {α : Type} (f : Nat → α → α) (x : α) : it f 0 x = x := rfl
theorem it_base {N : Nat → Ct} {C : Ct} (n : Nat) : (fun a b v => C a b v ∨ ∃ i, i < n + 1 ∧ N i a b v) = fun a b v => (C a b v ∨ ∃ i, i < n ∧ N i a b v) ∨ N n a b v := by
  funext a b v
  apply propext
  constructor
  · rintro (h | ⟨i, hi, h⟩)
    · exact Or.inl (Or.inl h)
    · rcases Nat.lt_or_ge i n with c | c
      · exact Or.inl (Or.inr ⟨i, c, h⟩)
      · rw [show i = n by omega] at h; exact Or.inr h
  · rintro ((h | ⟨i, hi, h⟩) | h)
    · exact Or.inl h
    · exact Or.inr ⟨i, by omega, h⟩
    · exact Or.inr ⟨n, by omega, h⟩
theorem cam_ok {M : Mem} (O : MOk M) (d : Nat → Int32) : ∀ n, n ≤ Cn M 0 → LayOk (fun a b v => False ∨ ∃ c, c < n ∧ NC M c a b v) (it (dcam M) n (dini d)) ∧ ∀ c, n ≤ c → c < 5 → mx (it (dcam M) n (dini d)) 0 (1 + c) = IN ∧ mx (it (dcam M) n (dini d)) (1 + c) 0 = IN := by
  have h5 := O.1.1.2
  intro n
  induction n with
  | zero =>
    intro _
    refine ⟨(ini_ok d).cong (fun a b v => ⟨fun h => h.elim, fun h => by rcases h with h | ⟨c, hc, -⟩; exact h; exact absurd hc (Nat.not_lt_zero c)⟩), fun c _ hc => ?_⟩
    have e : ∀ a b, a < 10 → b < 10 → a ≠ b → mx (it (dcam M) 0 (dini d)) a b = IN := by
      intro a b ha hb hab
      show mx (dini d) a b = IN
      rw [mx_in _ ha hb]
      unfold dini
      rw [if_pos (by omega), if_neg (by omega)]
      exact far_toInt
    exact ⟨e _ _ (by omega) (by omega) (by omega), e _ _ (by omega) (by omega) (by omega)⟩
  | succ n ih =>
    intro hn
    obtain ⟨h1, h2⟩ := ih (by omega)
    obtain ⟨r1, r2, r3⟩ := O.2.1 n (by omega)
    rw [it_s, it_base]
    have hI := h2 n (Nat.le_refl n) (by omega)
    refine ⟨?_, fun c hc hc5 => ?_⟩
    · have := lay_cam (x := M.1 317 n) (y := M.1 318 n) h1 (by omega) r1 r2 r3 (fun a b v hC => ?_) hI
      · refine this.cong (fun a b v => ⟨fun h => ?_, fun h => ?_⟩)
        · rcases h with (h | ⟨e1, e2, e3⟩) | ⟨e1, e2, e3⟩
          · exact Or.inl h
          · exact Or.inr (Or.inl ⟨e1, e2, e3⟩)
          · exact Or.inr (Or.inr ⟨e1, e2, e3⟩)
        · rcases h with h | ⟨e1, e2, e3⟩ | ⟨e1, e2, e3⟩
          · exact Or.inl (Or.inl h)
          · exact Or.inl (Or.inr ⟨e1, e2, e3⟩)
          · exact Or.inr ⟨e1, e2, e3⟩
      · rcases hC with h | ⟨c, hc, ⟨e1, e2, -⟩ | ⟨e1, e2, -⟩⟩
        · exact h.elim
        · exact ⟨by omega, by omega⟩
        · exact ⟨by omega, by omega⟩
    · have e := h2 c (by omega) hc5
      have off : ∀ x y, ¬ (x = 0 ∧ y = 1 + n) → ¬ (x = 1 + n ∧ y = 0) → mx (dcam M n (it (dcam M) n (dini d))) x y = mx (it (dcam M) n (dini d)) x y := by
        intro x y n1 n2
        generalize it (dcam M) n (dini d) = g
        unfold dcam
        rw [mx_amd _ (by omega) (by omega), mx_amd _ (by omega) (by omega)]
        rcases am_or (D := am (mx g) 0 (1 + n) (-(M.1 317 n)).toInt) (a := 1 + n) (b := 0) (v := (M.1 318 n).toInt) x y with z | ⟨z1, z2, -⟩
        · rw [z]
          rcases am_or (D := mx g) (a := 0) (b := 1 + n) (v := (-(M.1 317 n)).toInt) x y with w | ⟨w1, w2, -⟩
          · exact w
          · exact absurd ⟨w1, w2⟩ n1
        · exact absurd ⟨z1, z2⟩ n2
      rw [off 0 (1 + c) (by omega) (by omega), off (1 + c) 0 (by omega) (by omega)]
      exact e
theorem clk_ok {M : Mem} (O : MOk M) (d : Nat → Int32) : LayOk (CC M) (dclk M d) := by
  have h5 := O.1.1.2
  have base := (cam_ok O d (Cn M 0) (Nat.le_refl _)).1
  have step : ∀ n, n ≤ Cn M 5 → LayOk (fun a b v => (∃ c, c < Cn M 0 ∧ NC M c a b v) ∨ ∃ f, f < n ∧ NF M f a b v) (it (dfl M) n (it (dcam M) (Cn M 0) (dini d))) := by
    intro n
    induction n with
    | zero =>
      intro _
      refine base.cong (fun a b v => ⟨fun h => Or.inl (h.resolve_left id), fun h => ?_⟩)
      rcases h with h | ⟨f, hf, -⟩
      · exact Or.inr h
      · exact absurd hf (Nat.not_lt_zero f)
    | succ n ih =>
      intro hn
      have h1 := ih (by omega)
      obtain ⟨g1, g2, g3, -, -⟩ := flash_nat O (show n < Cn M 5 by omega)
      obtain ⟨-, t1, t2, t3, t4⟩ := O.2.2.1 n (by omega)
      rw [it_s, it_base]
      have e1 : (M.1 319 (4 * n + 3) - M.1 319 (4 * n + 1)).toInt = fby M n := sub_toInt (by omega) (by omega)
      have e2 : (-(M.1 319 (4 * n + 3) - M.1 319 (4 * n + 1))).toInt = -fby M n := by
        rw [neg_toInt (by rw [e1]; unfold fby; omega), e1]
      have k1 := lay_add (a := 1 + fj M n) (b := 1 + fi M n) (v := M.1 319 (4 * n + 3) - M.1 319 (4 * n + 1)) h1 (by omega) (by omega) (by omega) (by omega) (by omega) (by rw [e1]; unfold fby; omega)
      have k2 := lay_add (a := 1 + fi M n) (b := 1 + fj M n) (v := -(M.1 319 (4 * n + 3) - M.1 319 (4 * n + 1))) k1 (by omega) (by omega) (by omega) (by omega) (by omega) (by rw [e2]; unfold fby; omega)
      rw [e1, e2] at k2
      refine k2.cong (fun a b v => ⟨fun h => ?_, fun h => ?_⟩)
      · rcases h with (h | ⟨q1, q2, q3⟩) | ⟨q1, q2, q3⟩
        · exact Or.inl h
        · exact Or.inr (Or.inl ⟨q1, q2, q3⟩)
        · exact Or.inr (Or.inr ⟨q1, q2, q3⟩)
      · rcases h with h | ⟨q1, q2, q3⟩ | ⟨q1, q2, q3⟩
        · exact Or.inl (Or.inl h)
        · exact Or.inl (Or.inr ⟨q1, q2, q3⟩)
        · exact Or.inr ⟨q1, q2, q3⟩
  exact step (Cn M 5) (Nat.le_refl _)
theorem frame_nat {M : Mem} (O : MOk M) {p k : Nat} (hp : p < Cn M 4) (hk : k < Fn M p) : qc M (10 * p + k) < Cn M 0 ∧ M.1 336 (10 * p + k) = nI (qc M (10 * p + k)) ∧ (0 ≤ (M.1 337 (10 * p + k)).toInt ∧ (M.1 337 (10 * p + k)).toInt ≤ 999) ∧ qs M (10 * p + k) < 16 ∧ M.1 338 (10 * p + k) = nI (qs M (10 * p + k)) ∧ qn M (10 * p + k) < 16 ∧ M.1 339 (10 * p + k) = nI (qn M (10 * p + k)) := by
  have h5 := O.1.1.2
  obtain ⟨⟨c, hc, e1⟩, t, ⟨s, hs, e2⟩, ⟨n, hn, e3⟩⟩ := (O.2.2.2.2.2.2.1 p hp).2.2.2.2.2.2 k hk
  have f1 : qc M (10 * p + k) = c := toNat_nI (by omega) e1
  have f2 : qs M (10 * p + k) = s := toNat_nI (by omega) e2
  have f3 : qn M (10 * p + k) = n := toNat_nI (by omega) e3
  rw [f1, f2, f3]
  exact ⟨hc, e1, t, hs, e2, hn, e3⟩
theorem mk_ok {M : Mem} {q : Nat} {C : Ct} {d : Nat → Int32} (hc : qc M q < 5) (ht : 0 ≤ (M.1 337 q).toInt ∧ (M.1 337 q).toInt ≤ 999) (h : LayOk C d) : ∀ n, n ≤ 4 → LayOk (fun a b v => C a b v ∨ ∃ m, m < n ∧ NM M q m a b v) (it (dmk M q) n d) := by
  intro n
  induction n with
  | zero => intro _; exact h.cong (fun a b v => ⟨Or.inl, fun z => by rcases z with z | ⟨m, hm, -⟩; exact z; exact absurd hm (Nat.not_lt_zero m)⟩)
  | succ n ih =>
    intro hn
    have h1 := ih (by omega)
    rw [it_s, it_base]
    have e1 : (-(M.1 337 q) - 1).toInt = -(M.1 337 q).toInt - 1 := by
      have a1 := neg_toInt (x := M.1 337 q) (by omega)
      rw [sub_toInt (by rw [a1, show (1 : Int32).toInt = 1 from rfl]; omega) (by rw [a1, show (1 : Int32).toInt = 1 from rfl]; omega), a1]; rfl
    generalize it (dmk M q) n d = g at h1 ⊢
    unfold dmk
    by_cases b1 : (qs M q).testBit n = true
    · have k1 := lay_add (a := 1 + qc M q) (b := 6 + n) (v := M.1 337 q) h1 (by omega) (by omega) (by omega) (by omega) (by omega) (by omega)
      by_cases b2 : (qn M q).testBit n = true
      · have k2 := lay_add (a := 6 + n) (b := 1 + qc M q) (v := -(M.1 337 q) - 1) k1 (by omega) (by omega) (by omega) (by omega) (by omega) (by rw [e1]; omega)
        rw [e1] at k2
        rw [if_pos b1, if_pos b2]
        refine k2.cong (fun a b v => ⟨fun z => ?_, fun z => ?_⟩)
        · rcases z with (z | z) | z
          · exact Or.inl z
          · exact Or.inr (Or.inl ⟨b1, z⟩)
          · exact Or.inr (Or.inr ⟨b2, z⟩)
        · rcases z with z | ⟨-, z⟩ | ⟨-, z⟩
          · exact Or.inl (Or.inl z)
          · exact Or.inl (Or.inr z)
          · exact Or.inr z
      · rw [if_pos b1, if_neg b2]
        refine k1.cong (fun a b v => ⟨fun z => ?_, fun z => ?_⟩)
        · rcases z with z | z
          · exact Or.inl z
          · exact Or.inr (Or.inl ⟨b1, z⟩)
        · rcases z with z | ⟨-, z⟩ | ⟨c, -⟩
          · exact Or.inl z
          · exact Or.inr z
          · exact absurd c b2
    · by_cases b2 : (qn M q).testBit n = true
      · have k2 := lay_add (a := 6 + n) (b := 1 + qc M q) (v := -(M.1 337 q) - 1) h1 (by omega) (by omega) (by omega) (by omega) (by omega) (by rw [e1]; omega)
        rw [e1] at k2
        rw [if_neg b1, if_pos b2]
        refine k2.cong (fun a b v => ⟨fun z => ?_, fun z => ?_⟩)
        · rcases z with z | z
          · exact Or.inl z
          · exact Or.inr (Or.inr ⟨b2, z⟩)
        · rcases z with z | ⟨c, -⟩ | ⟨-, z⟩
          · exact Or.inl z
          · exact absurd c b1
          · exact Or.inr z
      · rw [if_neg b1, if_neg b2]
        refine h1.cong (fun a b v => ⟨Or.inl, fun z => ?_⟩)
        rcases z with z | ⟨c, -⟩ | ⟨c, -⟩
        · exact z
        · exact absurd c b1
        · exact absurd c b2
theorem lay_zero {M : Mem} (O : MOk M) (d : Nat → Int32) (p s : Nat) : LayOk (fun a b v => CC M a b v ∨ ∃ k, k < 0 ∧ (s.testBit k = true ∧ ∃ m, m < 4 ∧ NM M (10 * p + k) m a b v)) (it (dfr M p s) 0 (dclk M d)) := by
  rw [it_0]
  exact (clk_ok O d).cong (fun a b v => ⟨Or.inl, fun z => z.elim id (fun ⟨m, hm, _⟩ => absurd hm (Nat.not_lt_zero m))⟩)
theorem lay_one {M : Mem} (O : MOk M) {p n s : Nat} (hp : p < Cn M 4) (hn : n < Fn M p) {g : Nat → Int32} {C : Ct} (h1 : LayOk C g) : LayOk (fun a b v => C a b v ∨ (s.testBit n = true ∧ ∃ m, m < 4 ∧ NM M (10 * p + n) m a b v)) (dfr M p s n g) := by
  have h5 := O.1.1.2
  obtain ⟨q1, -, q2, -⟩ := frame_nat O hp hn
  unfold dfr
  by_cases b : s.testBit n = true
  · rw [if_pos b]
    refine (mk_ok (by omega) q2 h1 4 (Nat.le_refl _)).cong (fun x y v => ⟨fun z => ?_, fun z => ?_⟩)
    · rcases z with z | z
      · exact Or.inl z
      · exact Or.inr ⟨b, z⟩
    · rcases z with z | ⟨-, z⟩
      · exact Or.inl z
      · exact Or.inr z
  · rw [if_neg b]
    refine h1.cong (fun x y v => ⟨Or.inl, fun z => ?_⟩)
    rcases z with z | ⟨c, -⟩
    · exact z
    · exact absurd c b
theorem lay_some {M : Mem} (O : MOk M) (d : Nat → Int32) {p : Nat} (hp : p < Cn M 4) (s : Nat) : ∀ n, n ≤ Fn M p → LayOk (fun a b v => CC M a b v ∨ ∃ k, k < n ∧ (s.testBit k = true ∧ ∃ m, m < 4 ∧ NM M (10 * p + k) m a b v)) (it (dfr M p s) n (dclk M d)) := by
  intro n
  induction n with
  | zero => intro _; exact lay_zero O d p s
  | succ n ih =>
    intro hn
    have h1 := ih (by omega)
    rw [it_s, it_base (N := fun k a b v => s.testBit k = true ∧ ∃ m, m < 4 ∧ NM M (10 * p + k) m a b v)]
    exact lay_one O hp hn h1
theorem lay_ok {M : Mem} (O : MOk M) (d : Nat → Int32) {p : Nat} (hp : p < Cn M 4) (s : Nat) : LayOk (CK M p s) (dlay M p s d) := by
  unfold CK dlay
  exact lay_some O d hp s (Fn M p) (Nat.le_refl _)
