/-! THE CLASS FINDS WHAT A PLAY IS -/
/-- a loop with an invariant: each round goes on or is done -/
theorem lp_inv {F S R : Type} {z : F} {s : F → F} (app : Nat → S → F → R) (P : Nat → S → Prop) (Q : R → Prop) (n : Nat) (hs : ∀ i, i < n → ∀ a, P i a → ∀ f, Q (app i a (s f)) ∨ ∃ a', P (i + 1) a' ∧ app i a (s f) = app (i + 1) a' f) (hx : ∀ a, P n a → ∀ f, Q (app n a (s f))) (k : Nat) (hk : n < k) (a : S) (h0 : P 0 a) : Q (app 0 a (lpN z s k)) := by
  have h : ∀ d, d ≤ n → ∀ k, d < k → ∀ a, P (n - d) a → Q (app (n - d) a (lpN z s k)) := by
    intro d
    induction d with
    | zero =>
      intro _ k hk a ha
      obtain ⟨j, rfl⟩ : ∃ j, k = j + 1 := ⟨k - 1, by omega⟩
      exact hx a ha _
    | succ d ih =>
      intro hd k hk a ha
      obtain ⟨j, rfl⟩ : ∃ j, k = j + 1 := ⟨k - 1, by omega⟩
      rw [lpN_s]
      rcases hs (n - (d + 1)) (by omega) a ha (lpN z s j) with hq | ⟨a', ha', e⟩
      · exact hq
      · rw [e]
        rw [show n - (d + 1) + 1 = n - d by omega] at ha' ⊢
        exact ih (by omega) j (by omega) a' ha'
  have := h n (Nat.le_refl n) k hk a (by rw [Nat.sub_self]; exact h0)
  rwa [Nat.sub_self] at this
theorem b_cells : shc 213 = 2 ∧ shc 215 = 2 ∧ cr 213 0 = 214 ∧ cr 215 0 = 216 := by decide +kernel
/-- in the bounds n0 stands C; but for them all is as in M0 -/
def SS (n0 : Nat) (C : Ct) (M0 M : Mem) : Prop := Rep C ∧ BB C M n0 ∧ Off M0 M n0 (cr n0 0)
theorem SS.cong {n0 : Nat} {C C' : Ct} {M0 M : Mem} (h : SS n0 C M0 M) (e : ∀ a b v, C a b v ↔ C' a b v) : SS n0 C' M0 M := by
  have : C = C' := by funext a b v; exact propext (e a b v)
  rw [← this]; exact h
theorem SS.tell {n0 : Nat} (hs : shc n0 = 2) (hne : n0 ≠ cr n0 0) {C : Ct} {M0 M : Mem} (h : SS n0 C M0 M) {x1 x2 : Nat} {v : Int32} (h1 : x1 < 10) (h2 : x2 < 10) (h12 : x2 ≠ x1) (hv : -1000 ≤ v.toInt ∧ v.toInt ≤ 1000) : ∃ M', f_X2_tell n0 (nI x1) (nI x2) v M = some M' ∧ SS n0 (cadd C x2 x1 v.toInt) M0 M' := by
  obtain ⟨M', e, r, b, o⟩ := tell_bb hs hne h1 h2 h12 hv h.1 h.2.1
  exact ⟨M', e, r, b, h.2.2.tr o⟩
theorem SS.row {n0 : Nat} {C : Ct} {M0 M : Mem} (h : SS n0 C M0 M) {a : Nat} (h1 : a ≠ n0) (h2 : a ≠ cr n0 0) (k : Nat) : M.1 a k = M0.1 a k := by rw [h.2.2.2 a h1 h2]
def NS (M : Mem) (q m : Nat) : Ct := fun a b v => (qs M q).testBit m = true ∧ a = 1 + qc M q ∧ b = 6 + m ∧ v = (M.1 337 q).toInt
def NN (M : Mem) (q m : Nat) : Ct := fun a b v => (qn M q).testBit m = true ∧ a = 6 + m ∧ b = 1 + qc M q ∧ v = -(M.1 337 q).toInt - 1
theorem tk_neg {x : Int32} (h : 0 ≤ x.toInt ∧ x.toInt ≤ 999) : (-x - 1).toInt = -x.toInt - 1 := by
  have e : (-x).toInt = -x.toInt := neg_toInt (by omega)
  have o : (1 : Int32).toInt = 1 := by decide
  rw [sub_toInt (by omega) (by omega), e, o]
theorem off_T {T a : Nat} (hT : TT T) (h : a ≤ T + 70) : a ≠ 213 ∧ a ≠ 214 ∧ a ≠ 215 ∧ a ≠ 216 := by
  have := (tt_c hT).2.1
  omega
theorem tf_55 {M0 M : Mem} {C : Ct} (O : MOk M0) {T p k m : Nat} (hT : TT T) (R : RTold M0 T) (hp : p < Cn M0 4) (hk : k < Fn M0 p) (hm : m < 4) (S : SS 213 C M0 M) (r : Nat → Int32 → Int32 → Int32 → Mem → Option Mem) :
    ∃ M', SS 213 (fun a b v => C a b v ∨ NN M0 (10 * p + k) m a b v) M0 M' ∧ f_X4_tellFrame_b55 r (T + 31 + 5 * p) (nI k) (nI (1 + qc M0 (10 * p + k))) (nI m) (nI (6 + m)) M = r (T + 31 + 5 * p) (nI k) (nI (1 + qc M0 (10 * p + k))) (nI (m + 1)) M' := by
  have h0 := O.1.1.2
  have h4 := O.1.2.2.2.2.1.2
  have hF := (O.2.2.2.2.2.2.1 p hp).2.2.2.2.2.1.2
  obtain ⟨q1, -, q2, q3, q4, q5, q6⟩ := frame_nat O hp hk
  obtain ⟨t1, t2, t3, t4, t5, t6⟩ := tt_p hT p (by omega)
  obtain ⟨r1, r2, r3, r4⟩ := (R.2.2.2.2.2.1 p hp).2.2.2.2.2.2 k hk
  obtain ⟨bc1, -, bc2, -⟩ := b_cells
  have rd : ∀ a, a ≤ T + 70 → M.1 a k = M0.1 a k := fun a ha => S.row (off_T hT ha).1 (by rw [bc2]; exact (off_T hT ha).2.1) k
  unfold f_X4_tellFrame_b55
  rw [gd_t t6, gd_t (inb_nI (by omega) (by omega)), nI_clamp (by omega), t5, t3, rd _ (by omega), rd _ (by omega), r4, r2, q6, bit_nI (by omega) (by omega)]
  by_cases hb : (qn M0 (10 * p + k)).testBit m = true
  · rw [if_pos hb, if_neg (by decide)]
    have tk := tk_neg q2
    obtain ⟨M', e, S'⟩ := S.tell bc1 (by rw [bc2]; decide) (x1 := 1 + qc M0 (10 * p + k)) (x2 := 6 + m) (v := -M0.1 337 (10 * p + k) - 1) (by omega) (by omega) (by omega) (by rw [tk]; omega)
    refine ⟨M', S'.cong (fun a b v => ?_), ?_⟩
    · rw [tk]
      constructor
      · rintro (h | ⟨e1, e2, e3⟩)
        · exact Or.inl h
        · exact Or.inr ⟨hb, e1, e2, e3⟩
      · rintro (h | ⟨-, e1, e2, e3⟩)
        · exact Or.inl h
        · exact Or.inr ⟨e1, e2, e3⟩
    · rw [e, clv_s, bnd_e, nI_1]
  · rw [if_neg hb, nI_0, if_pos rfl, bnd_e, nI_1]
    refine ⟨M, S.cong (fun a b v => ⟨Or.inl, ?_⟩), rfl⟩
    rintro (h | ⟨h, -⟩)
    · exact h
    · exact absurd h hb
theorem tf_12 {M0 M : Mem} {C : Ct} (O : MOk M0) {T p k m : Nat} (hT : TT T) (R : RTold M0 T) (hp : p < Cn M0 4) (hk : k < Fn M0 p) (hm : m < 4) (S : SS 213 C M0 M) (r : Nat → Int32 → Int32 → Int32 → Mem → Option Mem) :
    ∃ M', SS 213 (fun a b v => C a b v ∨ NM M0 (10 * p + k) m a b v) M0 M' ∧ f_X4_tellFrame_b12_s r (T + 31 + 5 * p) (nI k) (nI (1 + qc M0 (10 * p + k))) (nI m) M = r (T + 31 + 5 * p) (nI k) (nI (1 + qc M0 (10 * p + k))) (nI (m + 1)) M' := by
  have h0 := O.1.1.2
  have h4 := O.1.2.2.2.2.1.2
  have hF := (O.2.2.2.2.2.2.1 p hp).2.2.2.2.2.1.2
  obtain ⟨q1, -, q2, q3, q4, q5, q6⟩ := frame_nat O hp hk
  obtain ⟨t1, t2, t3, t4, t5, t6⟩ := tt_p hT p (by omega)
  obtain ⟨r1, r2, r3, r4⟩ := (R.2.2.2.2.2.1 p hp).2.2.2.2.2.2 k hk
  obtain ⟨bc1, -, bc2, -⟩ := b_cells
  have rd : ∀ a, a ≤ T + 70 → M.1 a k = M0.1 a k := fun a ha => S.row (off_T hT ha).1 (by rw [bc2]; exact (off_T hT ha).2.1) k
  have fin : ∀ a b v, ((C a b v ∨ NS M0 (10 * p + k) m a b v) ∨ NN M0 (10 * p + k) m a b v) ↔ (C a b v ∨ NM M0 (10 * p + k) m a b v) := by
    intro a b v
    constructor
    · rintro ((h | h) | h)
      · exact Or.inl h
      · exact Or.inr (Or.inl h)
      · exact Or.inr (Or.inr h)
    · rintro (h | h | h)
      · exact Or.inl (Or.inl h)
      · exact Or.inl (Or.inr h)
      · exact Or.inr h
  unfold f_X4_tellFrame_b12_s
  rw [if_neg (by rw [show (4 : Int32) = nI 4 from rfl]; exact nI_ge hm (by omega)), bnd_e, n6, gd_t t6, gd_t (inb_nI (by omega) (by omega)), nI_clamp (by omega), t4, t3, rd _ (by omega), rd _ (by omega), r3, r2, q4, bit_nI (by omega) (by omega)]
  by_cases hb : (qs M0 (10 * p + k)).testBit m = true
  · rw [if_pos hb, if_neg (by decide)]
    obtain ⟨M1, e, S1⟩ := S.tell bc1 (by rw [bc2]; decide) (x1 := 6 + m) (x2 := 1 + qc M0 (10 * p + k)) (v := M0.1 337 (10 * p + k)) (by omega) (by omega) (by omega) (by omega)
    have S2 : SS 213 (fun a b v => C a b v ∨ NS M0 (10 * p + k) m a b v) M0 M1 := S1.cong (fun a b v => ⟨fun h => by
      rcases h with h | ⟨e1, e2, e3⟩
      · exact Or.inl h
      · exact Or.inr ⟨hb, e1, e2, e3⟩, fun h => by
      rcases h with h | ⟨-, e1, e2, e3⟩
      · exact Or.inl h
      · exact Or.inr ⟨e1, e2, e3⟩⟩)
    obtain ⟨M', S3, e3⟩ := tf_55 O hT R hp hk hm S2 r
    exact ⟨M', S3.cong fin, by rw [e, clv_s, e3]⟩
  · rw [if_neg hb, nI_0, if_pos rfl]
    have S2 : SS 213 (fun a b v => C a b v ∨ NS M0 (10 * p + k) m a b v) M0 M := S.cong (fun a b v => ⟨Or.inl, fun h => by
      rcases h with h | ⟨h, -⟩
      · exact h
      · exact absurd h hb⟩)
    obtain ⟨M', S3, e3⟩ := tf_55 O hT R hp hk hm S2 r
    exact ⟨M', S3.cong fin, e3⟩
theorem tellFrame_f {M0 M : Mem} {C : Ct} (O : MOk M0) {T p k : Nat} (hT : TT T) (R : RTold M0 T) (hp : p < Cn M0 4) (hk : k < Fn M0 p) (S : SS 213 C M0 M) :
    ∃ M', f_X4_tellFrame (T + 31 + 5 * p) (nI k) M = some M' ∧ SS 213 (fun a b v => C a b v ∨ ∃ m, m < 4 ∧ NM M0 (10 * p + k) m a b v) M0 M' := by
  have h0 := O.1.1.2
  have h4 := O.1.2.2.2.2.1.2
  have hF := (O.2.2.2.2.2.2.1 p hp).2.2.2.2.2.1.2
  obtain ⟨q1, q0, -⟩ := frame_nat O hp hk
  obtain ⟨t1, t2, t3, t4, t5, t6⟩ := tt_p hT p (by omega)
  obtain ⟨r1, -⟩ := (R.2.2.2.2.2.1 p hp).2.2.2.2.2.2 k hk
  obtain ⟨-, -, bc2, -⟩ := b_cells
  have rd : ∀ a, a ≤ T + 70 → M.1 a k = M0.1 a k := fun a ha => S.row (off_T hT ha).1 (by rw [bc2]; exact (off_T hT ha).2.1) k
  unfold f_X4_tellFrame
  rw [gd_t t6, gd_t (inb_nI (by omega) (by omega)), nI_clamp (by omega), t2, rd _ (by omega), r1, q0, bnd_e, n1]
  have h := lp_inv (z := fun _ _ _ _ _ => none) (s := f_X4_tellFrame_b12_s) (fun j (M : Mem) (f : Nat → Int32 → Int32 → Int32 → Mem → Option Mem) => f (T + 31 + 5 * p) (nI k) (nI (1 + qc M0 (10 * p + k))) (nI j) M) (fun j M => SS 213 (fun a b v => C a b v ∨ ∃ m, m < j ∧ NM M0 (10 * p + k) m a b v) M0 M) (fun r => ∃ M', r = some M' ∧ SS 213 (fun a b v => C a b v ∨ ∃ m, m < 4 ∧ NM M0 (10 * p + k) m a b v) M0 M') 4 (fun j hj M1 hM f => by
    obtain ⟨M', S', e⟩ := tf_12 O hT R hp hk hj hM f
    refine Or.inr ⟨M', S'.cong (fun a b v => ?_), e⟩
    constructor
    · rintro ((h | ⟨m, hm, h⟩) | h)
      · exact Or.inl h
      · exact Or.inr ⟨m, by omega, h⟩
      · exact Or.inr ⟨j, by omega, h⟩
    · rintro (h | ⟨m, hm, h⟩)
      · exact Or.inl (Or.inl h)
      · rcases Nat.lt_or_ge m j with c | c
        · exact Or.inl (Or.inr ⟨m, c, h⟩)
        · rw [show m = j by omega] at h; exact Or.inr h) (fun M1 hM f => by
    refine ⟨M1, ?_, hM⟩
    show f_X4_tellFrame_b12_s f _ _ _ (nI 4) M1 = some M1
    unfold f_X4_tellFrame_b12_s
    rw [if_pos (by decide)]) fuel (by decide) M (S.cong (fun a b v => ⟨Or.inl, fun h => by
      rcases h with h | ⟨m, hm, -⟩
      · exact h
      · exact absurd hm (Nat.not_lt_zero m)⟩))
  exact h
theorem rep_cc {M : Mem} (O : MOk M) : Rep (CC M) := by
  obtain ⟨h1, h2, h3, h4, h5, -⟩ := clk_ok O (fun _ => 0)
  exact ⟨h1, _, h2, h3, h4, fun a b => by
    rcases h5 a b with e | e
    · omega
    · unfold IN; omega, h5⟩
def CKn (M : Mem) (p s n : Nat) : Ct := fun a b v => CC M a b v ∨ ∃ k, k < n ∧ s.testBit k = true ∧ ∃ m, m < 4 ∧ NM M (10 * p + k) m a b v
theorem sure_14 {M0 M : Mem} (O : MOk M0) {T p k s : Nat} (hT : TT T) (R : RTold M0 T) (hp : p < Cn M0 4) (hk : k < Fn M0 p) (hs : s < 1024) (S : SS 213 (CKn M0 p s k) M0 M) (f : Nat → Int32 → Int32 → Mem → Option (Nat × Mem)) :
    ∃ M', SS 213 (CKn M0 p s (k + 1)) M0 M' ∧ f_X4_sureOf_b14_s f (T + 31 + 5 * p) (nI s) (nI k) M = f (T + 31 + 5 * p) (nI s) (nI (k + 1)) M' := by
  have h4 := O.1.2.2.2.2.1.2
  have hF := (O.2.2.2.2.2.2.1 p hp).2.2.2.2.2.1
  obtain ⟨t1, t2, t3, t4, t5, t6⟩ := tt_p hT p (by omega)
  have r5 := (R.2.2.2.2.2.1 p hp).2.2.2.2.2.1
  obtain ⟨-, -, bc2, -⟩ := b_cells
  have rd : M.1 (T + 31 + 5 * p) 5 = nI (Fn M0 p) := by
    rw [S.row (off_T hT (by omega)).1 (by rw [bc2]; exact (off_T hT (by omega)).2.1) 5, r5, hF.1]
  unfold f_X4_sureOf_b14_s
  rw [gd_t t6, rd, if_neg (nI_ge hk (by omega)), bit_nI (by omega) (by omega)]
  by_cases hb : s.testBit k = true
  · obtain ⟨M', e, S'⟩ := tellFrame_f O hT R hp hk S
    rw [if_pos hb, if_neg (by decide), e, clv_s, bnd_e, nI_1]
    refine ⟨M', S'.cong (fun a b v => ?_), rfl⟩
    constructor
    · rintro ((h | ⟨m, hm, h⟩) | h)
      · exact Or.inl h
      · exact Or.inr ⟨m, by omega, h⟩
      · exact Or.inr ⟨k, by omega, hb, h⟩
    · rintro (h | ⟨m, hm, h2, h⟩)
      · exact Or.inl (Or.inl h)
      · rcases Nat.lt_or_ge m k with c | c
        · exact Or.inl (Or.inr ⟨m, c, h2, h⟩)
        · rw [show m = k by omega] at h; exact Or.inr h
  · rw [if_neg hb, nI_0, if_pos rfl, bnd_e, nI_1]
    refine ⟨M, S.cong (fun a b v => ?_), rfl⟩
    constructor
    · rintro (h | ⟨m, hm, h⟩)
      · exact Or.inl h
      · exact Or.inr ⟨m, by omega, h⟩
    · rintro (h | ⟨m, hm, h2, h⟩)
      · exact Or.inl h
      · rcases Nat.lt_or_ge m k with c | c
        · exact Or.inr ⟨m, c, h2, h⟩
        · rw [show m = k by omega] at h2; exact absurd h2 hb
theorem sureOf_f {M0 : Mem} (O : MOk M0) {T p s : Nat} (hT : TT T) (R : RTold M0 T) (B : BB (CC M0) M0 (T + 3)) (hp : p < Cn M0 4) (hs : s < 1024) :
    ∃ M', f_X4_sureOf T (T + 31 + 5 * p) (nI s) M0 = some (213, M') ∧ SS 213 (CK M0 p s) M0 M' := by
  have h4 := O.1.2.2.2.2.1.2
  have hF := (O.2.2.2.2.2.2.1 p hp).2.2.2.2.2.1
  obtain ⟨bc1, -, bc2, -⟩ := b_cells
  obtain ⟨-, -, tr, tr2, -⟩ := tt_r hT
  obtain ⟨tc, tc2, tc3⟩ := tt_c hT
  obtain ⟨t1, t2, t3, t4, t5, t6⟩ := tt_p hT p (by omega)
  have r5 := (R.2.2.2.2.2.1 p hp).2.2.2.2.2.1
  unfold f_X4_sureOf
  rw [gd_t (tt_0 hT), tr]
  obtain ⟨M1, e1, B1, O1⟩ := copy_bb (n0 := 213) (n1 := T + 3) bc1 tc (by rw [bc2]; decide) (by omega) (by rw [tr2, bc2]; omega) (by rw [bc2]; omega) B
  rw [e1, clv_s]
  have S1 : SS 213 (CKn M0 p s 0) M0 M1 := SS.cong ⟨rep_cc O, B1, O1⟩ (fun a b v => ⟨Or.inl, fun h => by
    rcases h with h | ⟨m, hm, -⟩
    · exact h
    · exact absurd hm (Nat.not_lt_zero m)⟩)
  have h := lp_inv (z := fun _ _ _ _ => none) (s := f_X4_sureOf_b14_s) (fun j (M : Mem) (f : Nat → Int32 → Int32 → Mem → Option (Nat × Mem)) => f (T + 31 + 5 * p) (nI s) (nI j) M) (fun j M => SS 213 (CKn M0 p s j) M0 M) (fun r => ∃ M', r = some (213, M') ∧ SS 213 (CK M0 p s) M0 M') (Fn M0 p) (fun j hj M1 hM f => by
    obtain ⟨M', S', e⟩ := sure_14 O hT R hp hj hs hM f
    exact Or.inr ⟨M', S', e⟩) (fun M1 hM f => by
    refine ⟨M1, ?_, hM⟩
    show f_X4_sureOf_b14_s f (T + 31 + 5 * p) (nI s) (nI (Fn M0 p)) M1 = some (213, M1)
    unfold f_X4_sureOf_b14_s
    rw [gd_t t6, hM.row (off_T hT (by omega)).1 (by rw [bc2]; exact (off_T hT (by omega)).2.1) 5, r5, hF.1, if_pos (Int32.le_refl _)]) fuel (by unfold fuel; omega) M1 S1
  exact h
/-- the pairs of the play's kind, read off the class's bounds -/
theorem must_f {M0 M : Mem} {C : Ct} (O : MOk M0) {T k : Nat} (hT : TT T) (R : RTold M0 T) (hk : k < Cn M0 2) (S : SS 213 C M0 M) (hn : ¬ Neg C) :
    ((∀ f s', PR M0 k f s' → ∃ v, v < 0 ∧ Der C (6 + s') (6 + f) v) ∧ f_X4_mustHold (T + 10 + 3 * k) M = some (1, M)) ∨ ((¬ ∀ f s', PR M0 k f s' → ∃ v, v < 0 ∧ Der C (6 + s') (6 + f) v) ∧ f_X4_mustHold (T + 10 + 3 * k) M = some (0, M)) := by
  have h2 := O.1.2.2.1.2
  have hP := (O.2.2.2.2.1 k hk).2.2.2.1
  obtain ⟨bc1, -, bc2, -⟩ := b_cells
  obtain ⟨t1, t2, t3, t4⟩ := tt_k hT k (by omega)
  obtain ⟨-, -, -, r4, r5⟩ := R.2.2.2.1 k hk
  have iN : IN = 100000000 := rfl
  obtain ⟨b0, ok, t⟩ := Or.resolve_right S.2.1 (fun z => hn z.2)
  rw [bc2] at ok t
  have rd : ∀ a j, a ≤ T + 70 → M.1 a j = M0.1 a j := fun a j ha => S.row (off_T hT ha).1 (by rw [bc2]; exact (off_T hT ha).2.1) j
  have iff1 : ∀ i, i < Pn M0 k → (M.1 214 (10 * (6 + pf M0 k i) + (6 + ps M0 k i)) < 0 ↔ ∃ v, v < 0 ∧ Der C (6 + ps M0 k i) (6 + pf M0 k i) v) := by
    intro i hi
    obtain ⟨p1, p2, p3, -, -⟩ := pair_nat O hk hi
    have em := cm_in (M.1 214) (a := 6 + ps M0 k i) (b := 6 + pf M0 k i) (by omega) (by omega)
    constructor
    · intro h
      have h1 : M.1 214 (10 * (6 + pf M0 k i) + (6 + ps M0 k i)) ≠ (268435456 : Int32) := fun e => by
        rw [e] at h; exact absurd h (by decide)
      rw [if_neg h1] at em
      have h3 : (M.1 214 (10 * (6 + pf M0 k i) + (6 + ps M0 k i))).toInt < 0 := Int32.lt_iff_toInt_lt.mp h
      exact ⟨_, by rw [em]; exact h3, t.2.2.1 _ _ (by rw [em]; omega)⟩
    · rintro ⟨v, hv, hd⟩
      have := (cls_der S.1.1 t.1 t.2.1 t.2.2.2 (by unfold IN; omega) hd (by omega) (by omega) (by omega)).2
      rw [em] at this
      by_cases h1 : M.1 214 (10 * (6 + pf M0 k i) + (6 + ps M0 k i)) = (268435456 : Int32)
      · rw [if_pos h1] at this; omega
      · rw [if_neg h1] at this
        exact Int32.lt_iff_toInt_lt.mpr (by have h0 : (0 : Int32).toInt = 0 := by decide
                                            rw [h0]; omega)
  have hl := lp_inv (z := fun _ _ _ => none) (s := f_X4_mustHold_b2_s) (fun j (_ : Unit) (f : Nat → Int32 → Mem → Option (Int32 × Mem)) => f (T + 10 + 3 * k) (nI j) M) (fun j _ => ∀ i, i < j → ∃ v, v < 0 ∧ Der C (6 + ps M0 k i) (6 + pf M0 k i) v) (fun r => ((∀ f s', PR M0 k f s' → ∃ v, v < 0 ∧ Der C (6 + s') (6 + f) v) ∧ r = some (1, M)) ∨ ((¬ ∀ f s', PR M0 k f s' → ∃ v, v < 0 ∧ Der C (6 + s') (6 + f) v) ∧ r = some (0, M))) (Pn M0 k) (fun j hj _ hM f => by
    obtain ⟨p1, p2, p3, e1, e2⟩ := pair_nat O hk hj
    obtain ⟨r6, r7⟩ := r5 j hj
    have i1 := iff1 j hj
    show (_ ∨ _) ∨ ∃ _ : Unit, (∀ i, i < j + 1 → _) ∧ f_X4_mustHold_b2_s f (T + 10 + 3 * k) (nI j) M = f (T + 10 + 3 * k) (nI (j + 1)) M
    have ev : f_X4_mustHold_b2_s f (T + 10 + 3 * k) (nI j) M = if M.1 214 (10 * (6 + pf M0 k j) + (6 + ps M0 k j)) < 0 then f (T + 10 + 3 * k) (nI (j + 1)) M else some (0, M) := by
      unfold f_X4_mustHold_b2_s f_X2_markLess
      rw [gd_t t4, rd _ 3 (by omega), r4, hP.1, if_neg (nI_ge hj (by omega)), gd_t (inb_nI (by omega) (by omega)), nI_clamp (by omega), t2, t3, rd _ j (by omega), rd _ j (by omega), r6, r7, e1, e2, gd_t bc1, n6, show nI (6 + pf M0 k j) * 10 + 6 + nI (ps M0 k j) = nI (10 * (6 + pf M0 k j) + (6 + ps M0 k j)) by rw [show (6 : Int32) = nI 6 from rfl, i10r, nI_add]; congr 1; omega, gd_t (inb_nI (by omega) (by omega)), nI_clamp (by omega), bc2, cl_s, bnd_e, nI_1]
    by_cases c : M.1 214 (10 * (6 + pf M0 k j) + (6 + ps M0 k j)) < 0
    · refine Or.inr ⟨(), fun i hi => ?_, by rw [ev, if_pos c]⟩
      rcases Nat.lt_or_ge i j with z | z
      · exact hM i z
      · rw [show i = j by omega]; exact i1.mp c
    · exact Or.inl (Or.inr ⟨fun z => c (i1.mpr (z _ _ ⟨j, hj, rfl, rfl⟩)), by
        show f_X4_mustHold_b2_s f (T + 10 + 3 * k) (nI j) M = some (0, M)
        rw [ev, if_neg c]⟩)) (fun _ hM f => by
    refine Or.inl ⟨?_, ?_⟩
    · rintro f' s' ⟨i, hi, rfl, rfl⟩
      exact hM i hi
    · show f_X4_mustHold_b2_s f (T + 10 + 3 * k) (nI (Pn M0 k)) M = some (1, M)
      unfold f_X4_mustHold_b2_s
      rw [gd_t t4, rd _ 3 (by omega), r4, hP.1, if_pos (Int32.le_refl _)]) fuel (by unfold fuel; omega) () (fun i hi => absurd hi (Nat.not_lt_zero i))
  exact hl
def C3 (M : Mem) (k : Nat) (C : Ct) (n : Nat) : Ct := fun a b v => C a b v ∨ ∃ i, i < n ∧ a = 6 + ps M k i ∧ b = 6 + pf M k i ∧ v = -1
theorem can_f {M0 M : Mem} {C : Ct} (O : MOk M0) {T k : Nat} (hT : TT T) (R : RTold M0 T) (hk : k < Cn M0 2) (S : SS 213 C M0 M) :
    ∃ M', Off M M' 215 216 ∧ ((¬ Neg (fun a b v => C a b v ∨ ∃ f s', PR M0 k f s' ∧ a = 6 + s' ∧ b = 6 + f ∧ v = -1) ∧ f_X4_canHold (T + 10 + 3 * k) M = some (1, M')) ∨ (Neg (fun a b v => C a b v ∨ ∃ f s', PR M0 k f s' ∧ a = 6 + s' ∧ b = 6 + f ∧ v = -1) ∧ f_X4_canHold (T + 10 + 3 * k) M = some (0, M'))) := by
  have h2 := O.1.2.2.1.2
  have hP := (O.2.2.2.2.1 k hk).2.2.2.1
  obtain ⟨bc1, bc3, bc2, bc4⟩ := b_cells
  obtain ⟨t1, t2, t3, t4⟩ := tt_k hT k (by omega)
  obtain ⟨-, -, -, r4, r5⟩ := R.2.2.2.1 k hk
  obtain ⟨M1, e1, B1, O1⟩ := copy_bb (n0 := 215) (n1 := 213) bc3 bc1 (by rw [bc4]; decide) (by decide) (by rw [bc2, bc4]; decide) (by rw [bc4]; decide) S.2.1
  have S1 : SS 215 (C3 M0 k C 0) M M1 := SS.cong ⟨S.1, B1, O1⟩ (fun a b v => ⟨Or.inl, fun h => by
    rcases h with h | ⟨m, hm, -⟩
    · exact h
    · exact absurd hm (Nat.not_lt_zero m)⟩)
  have ec : (fun a b v => C a b v ∨ ∃ f s', PR M0 k f s' ∧ a = 6 + s' ∧ b = 6 + f ∧ v = -1) = C3 M0 k C (Pn M0 k) := by
    funext a b v
    apply propext
    constructor
    · rintro (h | ⟨f, s', ⟨i, hi, rfl, rfl⟩, h1, h2, h3⟩)
      · exact Or.inl h
      · exact Or.inr ⟨i, hi, h1, h2, h3⟩
    · rintro (h | ⟨i, hi, h1, h2, h3⟩)
      · exact Or.inl h
      · exact Or.inr ⟨_, _, ⟨i, hi, rfl, rfl⟩, h1, h2, h3⟩
  rw [ec]
  have rd : ∀ M2 C2, SS 215 C2 M M2 → ∀ a j, a ≤ T + 70 → M2.1 a j = M0.1 a j := fun M2 C2 S2 a j ha => by
    rw [S2.row (off_T hT ha).2.2.1 (by rw [bc4]; exact (off_T hT ha).2.2.2) j, S.row (off_T hT ha).1 (by rw [bc2]; exact (off_T hT ha).2.1) j]
  have hl := lp_inv (z := fun _ _ _ => none) (s := f_X4_canHold_b13_s) (fun j (M2 : Mem) (f : Nat → Int32 → Mem → Option (Int32 × Mem)) => f (T + 10 + 3 * k) (nI j) M2) (fun j M2 => SS 215 (C3 M0 k C j) M M2) (fun r => ∃ M', Off M M' 215 216 ∧ ((¬ Neg (C3 M0 k C (Pn M0 k)) ∧ r = some (1, M')) ∨ (Neg (C3 M0 k C (Pn M0 k)) ∧ r = some (0, M')))) (Pn M0 k) (fun j hj M2 S2 f => by
    obtain ⟨p1, p2, p3, e1, e2⟩ := pair_nat O hk hj
    obtain ⟨r6, r7⟩ := r5 j hj
    obtain ⟨M3, e3, S3⟩ := S2.tell bc3 (by rw [bc4]; decide) (x1 := 6 + pf M0 k j) (x2 := 6 + ps M0 k j) (v := -1) (by omega) (by omega) (by omega) (by decide)
    refine Or.inr ⟨M3, S3.cong (fun a b v => ?_), ?_⟩
    · constructor
      · rintro ((h | ⟨i, hi, h⟩) | h)
        · exact Or.inl h
        · exact Or.inr ⟨i, by omega, h⟩
        · exact Or.inr ⟨j, by omega, h⟩
      · rintro (h | ⟨i, hi, h⟩)
        · exact Or.inl (Or.inl h)
        · rcases Nat.lt_or_ge i j with c | c
          · exact Or.inl (Or.inr ⟨i, c, h⟩)
          · rw [show i = j by omega] at h; exact Or.inr h
    · show f_X4_canHold_b13_s f (T + 10 + 3 * k) (nI j) M2 = f (T + 10 + 3 * k) (nI (j + 1)) M3
      unfold f_X4_canHold_b13_s
      rw [gd_t t4, rd M2 _ S2 _ 3 (by omega), r4, hP.1, if_neg (nI_ge hj (by omega)), gd_t (inb_nI (by omega) (by omega)), nI_clamp (by omega), t2, t3, rd M2 _ S2 _ j (by omega), rd M2 _ S2 _ j (by omega), r6, r7, e1, e2, n6, n6, e3, clv_s, bnd_e, nI_1]) (fun M2 S2 f => by
    refine ⟨M2, by rw [← bc4]; exact S2.2.2, ?_⟩
    show (_ ∧ f_X4_canHold_b13_s f (T + 10 + 3 * k) (nI (Pn M0 k)) M2 = some (1, M2)) ∨ (_ ∧ f_X4_canHold_b13_s f (T + 10 + 3 * k) (nI (Pn M0 k)) M2 = some (0, M2))
    unfold f_X4_canHold_b13_s
    rw [gd_t t4, rd M2 _ S2 _ 3 (by omega), r4, hP.1, if_pos (Int32.le_refl _)]
    rcases S2.2.1 with ⟨b0, -, t⟩ | ⟨b0, n⟩
    · exact Or.inl ⟨t.noneg S2.1.1, by rw [if_pos b0]⟩
    · exact Or.inr ⟨n, by rw [b0, if_neg (by decide)]⟩) fuel (by unfold fuel; omega) M1 S1
  unfold f_X4_canHold
  rw [e1, clv_s]
  exact hl
/-- all is as it was but for the judge's two bounds -/
def OffJ (M M' : Mem) : Prop := M'.2 = M.2 ∧ ∀ a, a < 213 ∨ 216 < a → M'.1 a = M.1 a
theorem OffJ.refl (M : Mem) : OffJ M M := ⟨rfl, fun _ _ => rfl⟩
theorem OffJ.tr {M M' M'' : Mem} (h : OffJ M M') (h' : OffJ M' M'') : OffJ M M'' := ⟨h'.1.trans h.1, fun a x => (h'.2 a x).trans (h.2 a x)⟩
theorem byFrames_f {M : Mem} (O : MOk M) {T p s : Nat} (hT : TT T) (R : RTold M T) (B : BB (CC M) M (T + 3)) (hp : p < Cn M 4) (hs : s < 1024) :
    ∃ r M', f_X4_byFrames T (T + 31 + 5 * p) (nI s) M = some (r, M') ∧ IsV (CK M p s) (PR M (kp M p)) r ∧ OffJ M M' := by
  have h4 := O.1.2.2.2.2.1.2
  have h2 := O.1.2.2.1.2
  obtain ⟨hk, ek⟩ := play_kind O hp
  obtain ⟨bc1, bc3, bc2, bc4⟩ := b_cells
  obtain ⟨t1, t2, t3, t4, t5, t6⟩ := tt_p hT p (by omega)
  obtain ⟨-, -, -, -, -, tr8, -⟩ := tt_r hT
  obtain ⟨u1, -⟩ := tt_k hT (kp M p) (by omega)
  have r1 := (R.2.2.2.2.2.1 p hp).2.1
  obtain ⟨M1, e1, S⟩ := sureOf_f O hT R B hp hs
  have o1 : OffJ M M1 := ⟨S.2.2.1, fun a ha => S.2.2.2 a (by omega) (by rw [bc2]; omega)⟩
  have rd : M1.1 (T + 31 + 5 * p) 1 = nI (kp M p) := by
    rw [S.row (off_T hT (by omega)).1 (by rw [bc2]; exact (off_T hT (by omega)).2.1) 1, r1, ek]
  unfold f_X4_byFrames
  rw [e1, cl_s, gd_t bc1]
  rcases S.2.1 with ⟨b0, ok, t⟩ | ⟨b0, n⟩
  · have hn := t.noneg S.1.1
    rw [if_pos b0, gd_t (tt_0 hT), gd_t t6, rd, gd_t (inb_nI (by omega) (by omega)), nI_clamp (by omega), tr8, u1, bnd_e]
    rcases must_f O hT R hk S hn with ⟨m, e2⟩ | ⟨m, e2⟩
    · exact ⟨1, M1, by rw [e2, cl_s, if_neg (by decide)], Or.inr (Or.inl ⟨hn, m, rfl⟩), o1⟩
    · obtain ⟨M2, o2, e3⟩ := can_f O hT R hk S
      have o3 : OffJ M M2 := o1.tr ⟨o2.1, fun a ha => o2.2 a (by omega) (by omega)⟩
      rcases e3 with ⟨c, e3⟩ | ⟨c, e3⟩
      · exact ⟨2, M2, by rw [e2, cl_s, if_pos rfl, e3, cl_s, if_neg (by decide)], Or.inr (Or.inr (Or.inr ⟨hn, m, c, rfl⟩)), o3⟩
      · exact ⟨0, M2, by rw [e2, cl_s, if_pos rfl, e3, cl_s, if_pos rfl], Or.inr (Or.inr (Or.inl ⟨hn, m, c, rfl⟩)), o3⟩
  · exact ⟨3, M1, by rw [b0, if_neg (by decide)], Or.inl ⟨n, rfl⟩, o1⟩
/-- what a play is by the frames s -/
theorem vd_ex {M : Mem} (O : MOk M) {p s : Nat} (hp : p < Cn M 4) (hs : s < 1024) : ∃ r, IsV (CK M p s) (PR M (kp M p)) r := by
  obtain ⟨r, d', -, h⟩ := verdict_f O hp hs (fun _ => 0)
  exact ⟨r, h⟩
