/-! BOTH READ A TOKEN, side by side -/
def nx (n : Nat) (B : Nat → Nat) (st : Nat) : Nat := nxt n B (eN n B st)
theorem eN_le {n : Nat} {B : Nat → Nat} {st : Nat} (h : st ≤ n) : eN n B st ≤ n ∧ st ≤ eN n B st ∧ (st < n → st < eN n B st) := by
  have l1 := rnn_le dg n B st
  have l2 := rnn_le ltr n B st
  unfold eN
  by_cases c : n ≤ st
  · rw [if_pos c]; omega
  rw [if_neg c]
  by_cases cd : dg (B st) = true
  · have := rnn_pos (p := dg) (show st < n by omega) cd
    rw [if_pos cd]; omega
  rw [if_neg cd]
  by_cases cl : ltr (B st) = true
  · have := rnn_pos (p := ltr) (show st < n by omega) cl
    rw [if_pos cl]; omega
  rw [if_neg cl]; omega
theorem nx_le {n : Nat} {B : Nat → Nat} {st : Nat} (h : st ≤ n) : nx n B st ≤ n ∧ (st < n → st < nx n B st) := by
  have e := eN_le (B := B) h
  have l := rnn_le bl n B (eN n B st)
  unfold nx nxt
  omega
def TC (n : Nat) (B : Nat → Nat) (st : Nat) (M : Mem) : Prop := M.1 208 3 = nI (eN n B st) ∧ M.1 208 5 = nI st ∧ M.1 208 6 = nI (vlN n B st) ∧ M.2.2.1 208 4 = ctN n B st ∧ ScC n B M
def TR (n : Nat) (B : Nat → Nat) (st : Nat) (M : Mem) : Prop := M.1 311 5 = nI (eN n B st) ∧ M.1 311 4 = nI st ∧ M.1 311 6 = rtN n B st ∧ M.1 311 7 = nI (rvN n B st) ∧ M.2.1 311 8 = lN (rwN n B st) ∧ ScR n B M
theorem ScC.fs {n : Nat} {B : Nat → Nat} {M M' : Mem} (h : ScC n B M) (o : FsC M M') : ScC n B M' := ⟨by rw [o.2.2.2 _ _ (by omega)]; exact h.1, h.2.1, fun k hk => ⟨(h.2.2 k hk).1, by rw [o.2.2.2 _ _ (by omega)]; exact (h.2.2 k hk).2⟩⟩
theorem ScR.fs {n : Nat} {B : Nat → Nat} {M M' : Mem} (h : ScR n B M) (o : FsR M M') : ScR n B M' := ⟨by rw [o.2.2 _ _ (by omega)]; exact h.1, h.2.1, fun k hk => ⟨(h.2.2 k hk).1, by rw [o.2.2 _ _ (by omega)]; exact (h.2.2 k hk).2⟩⟩
theorem TC.adv {n : Nat} {B : Nat → Nat} {st : Nat} {M : Mem} (h : TC n B st M) (hs : st ≤ n) : ∃ M', f_X7_advance M = some M' ∧ TC n B (nx n B st) M' ∧ FsC M M' := by
  obtain ⟨t3, t5, t6, t4, sc⟩ := h
  obtain ⟨M', e, q3, q5, q6, q4, f⟩ := adv_c sc (eN_le hs).1 t3
  exact ⟨M', e, ⟨q3, q5, q6, q4, sc.fs f⟩, f⟩
theorem TR.adv {n : Nat} {B : Nat → Nat} {st : Nat} {M : Mem} (h : TR n B st M) (hs : st ≤ n) : ∃ M', f_X11_steps M = some M' ∧ TR n B (nx n B st) M' ∧ FsR M M' := by
  obtain ⟨t5, t4, t6, t7, t8, sc⟩ := h
  obtain ⟨M', e, q4, q5, q6, q7, q8, f⟩ := steps_r sc (eN_le hs).1 t5
  exact ⟨M', e, ⟨q5, q4, q6, q7, q8, sc.fs f⟩, f⟩
/-- at most what lexing changes -/
def GC (M M' : Mem) : Prop := M'.2.1 = M.2.1 ∧ M'.2.2.2 = M.2.2.2 ∧ (∀ a k, ¬ (a = 208 ∧ k = 4) → M'.2.2.1 a k = M.2.2.1 a k) ∧ ∀ a k, ¬ (a = 208 ∧ (k = 3 ∨ k = 5 ∨ k = 6 ∨ k = 7 ∨ k = 8)) → M'.1 a k = M.1 a k
def GR (M M' : Mem) : Prop := M'.2.2 = M.2.2 ∧ (∀ a k, ¬ (a = 311 ∧ k = 8) → M'.2.1 a k = M.2.1 a k) ∧ ∀ a k, ¬ (a = 311 ∧ (4 ≤ k ∧ k ≤ 10)) → M'.1 a k = M.1 a k
theorem GC.refl (M : Mem) : GC M M := ⟨rfl, rfl, fun _ _ _ => rfl, fun _ _ _ => rfl⟩
theorem GR.refl (M : Mem) : GR M M := ⟨rfl, fun _ _ _ => rfl, fun _ _ _ => rfl⟩
theorem GC.tr {M M' M'' : Mem} (h : GC M M') (h' : GC M' M'') : GC M M'' := ⟨h'.1.trans h.1, h'.2.1.trans h.2.1, fun a k x => (h'.2.2.1 a k x).trans (h.2.2.1 a k x), fun a k x => (h'.2.2.2 a k x).trans (h.2.2.2 a k x)⟩
theorem GR.tr {M M' M'' : Mem} (h : GR M M') (h' : GR M' M'') : GR M M'' := ⟨h'.1.trans h.1, fun a k x => (h'.2.1 a k x).trans (h.2.1 a k x), fun a k x => (h'.2.2 a k x).trans (h.2.2 a k x)⟩
theorem FsC.g {M M' : Mem} (h : FsC M M') : GC M M' := ⟨h.1, h.2.1, h.2.2.1, fun a k x => h.2.2.2 a k (by omega)⟩
theorem FsR.g {M M' : Mem} (h : FsR M M') : GR M M' := ⟨h.1, h.2.1, fun a k x => h.2.2 a k (by omega)⟩
theorem gc_I (M : Mem) {k : Nat} {x : Int32} (h : k = 7 ∨ k = 8) : GC M (setI M 208 k x) := ⟨rfl, rfl, fun _ _ _ => rfl, fun a j q => setI_n (by omega)⟩
theorem gr_I (M : Mem) {k : Nat} {x : Int32} (h : k = 9 ∨ k = 10) : GR M (setI M 311 k x) := ⟨rfl, fun _ _ _ => rfl, fun a j q => setI_n (by omega)⟩
theorem GC.row {M M' : Mem} (h : GC M M') {a : Nat} (ha : a ≠ 208) : M'.1 a = M.1 a := funext (fun k => h.2.2.2 a k (by omega))
theorem GR.row {M M' : Mem} (h : GR M M') {a : Nat} (ha : a ≠ 311) : M'.1 a = M.1 a := funext (fun k => h.2.2 a k (by omega))
theorem GR.lrow {M M' : Mem} (h : GR M M') {a : Nat} (ha : a ≠ 311) : M'.2.1 a = M.2.1 a := funext (fun k => h.2.1 a k (by omega))
theorem GC.rrow {M M' : Mem} (h : GC M M') {a : Nat} (ha : a ≠ 208) : M'.2.2.1 a = M.2.2.1 a := funext (fun k => h.2.2.1 a k (by omega))
/-- both stand at st, no fault yet -/
def LPt (n : Nat) (B : Nat → Nat) (st : Nat) (Mc Mr : Mem) : Prop := st ≤ n ∧ TC n B st Mc ∧ TR n B st Mr ∧ Mr.1 311 9 = 0
/-- both have the same fault -/
def FL (Mc Mr : Mem) : Prop := Mr.1 311 9 ≠ 0 ∧ Mc.1 208 8 = (8 * Mr.1 311 10) + Mr.1 311 9
theorem FL.n600 {n : Nat} {B : Nat → Nat} {st : Nat} {Mc Mr : Mem} (h : LPt n B st Mc Mr) : n ≤ 600 := h.2.1.2.2.2.2.2.1
/-! what tokens are -/
theorem sg_c : ∀ b, b < 256 → (sgC b = 2 ∨ sgC b = 5 ∨ sgC b = 6 ∨ sgC b = 7 ∨ sgC b = 8 ∨ sgC b = 9) ∧ (sgR b = 3 ↔ sgC b = 2) ∧ (sgR b = 59 ↔ sgC b = 5) ∧ (sgR b = 40 ↔ sgC b = 6) ∧ (sgR b = 41 ↔ sgC b = 7) ∧ (sgR b = 33 ↔ sgC b = 8) ∧ (sgR b = 63 ↔ sgC b = 9) ∧ sgR b ≠ 0 ∧ sgR b ≠ 1 ∧ sgR b ≠ 2 := by decide +kernel
theorem tokW_r (w : Nat) : tokW w = 3 ∨ (10 ≤ tokW w ∧ tokW w < 26) := by
  by_cases h : ∃ s, 28 ≤ s ∧ s < 44 ∧ w = scd s
  · obtain ⟨s, h1, h2, rfl⟩ := h
    obtain ⟨-, -, e, a, b⟩ := scd_ok s h1 h2
    rw [e]
    exact Or.inr ⟨a, b⟩
  · exact Or.inl (tokW_3 (fun s h1 h2 e => h ⟨s, h1, h2, e⟩))
/-- what stands at a place, told by both -/
def Kind3 (n : Nat) (B : Nat → Nat) (st : Nat) : Prop :=
  (n ≤ st ∧ ctN n B st = 1 ∧ rtN n B st = 0) ∨
  (st < n ∧ ctN n B st = 4 ∧ rtN n B st = 2 ∧ vlN n B st = rvN n B st ∧ vlN n B st < 10000) ∨
  (st < n ∧ ctN n B st = 2 ∧ rtN n B st = 3) ∨
  (st < n ∧ rtN n B st = 1 ∧ ctN n B st = tokW (vlN n B st) ∧ rwN n B st = vlN n B st ∧ 0 < vlN n B st ∧ vlN n B st < 2 ^ 30) ∨
  (st < n ∧ (ctN n B st = 5 ∧ rtN n B st = 59 ∨ ctN n B st = 6 ∧ rtN n B st = 40 ∨ ctN n B st = 7 ∧ rtN n B st = 41 ∨ ctN n B st = 8 ∧ rtN n B st = 33 ∨ ctN n B st = 9 ∧ rtN n B st = 63))
theorem kinds {n : Nat} {B : Nat → Nat} (hB : ∀ k, k < n → B k < 256) (st : Nat) : Kind3 n B st := by
  unfold Kind3
  by_cases c : n ≤ st
  · exact Or.inl ⟨c, by unfold ctN; rw [if_pos c], by unfold rtN; rw [if_pos c]⟩
  have lt : st < n := by omega
  by_cases cd : dg (B st) = true
  · have al : ∀ j, j < rnn dg n B st → dg (B (st + j)) = true := fun j hj => (rnn_in hj).2
    by_cases c4 : 4 < rnn dg n B st
    · exact Or.inr (Or.inr (Or.inl ⟨lt, by unfold ctN; rw [if_neg c, if_pos cd, if_pos c4], by unfold rtN; rw [if_neg c, if_pos cd, if_pos c4]⟩))
    · exact Or.inr (Or.inl ⟨lt, by unfold ctN; rw [if_neg c, if_pos cd, if_neg c4], by unfold rtN; rw [if_neg c, if_pos cd, if_neg c4], by unfold vlN rvN; rw [if_neg c, if_neg c, if_pos cd, if_pos cd], by unfold vlN; rw [if_neg c, if_pos cd]; exact nv_4 al⟩)
  by_cases cl : ltr (B st) = true
  · have al : ∀ j, j < rnn ltr n B st → ltr (B (st + j)) = true := fun j hj => (rnn_in hj).2
    have ps := rnn_pos (p := ltr) lt cl
    by_cases c6 : 6 < rnn ltr n B st
    · exact Or.inr (Or.inr (Or.inl ⟨lt, by unfold ctN; rw [if_neg c, if_neg cd, if_pos cl, if_pos c6], by unfold rtN; rw [if_neg c, if_neg cd, if_pos cl, if_pos c6]⟩))
    · have ev : vlN n B st = wv B st (rnn ltr n B st) := by unfold vlN; rw [if_neg c, if_neg cd, if_pos cl]
      refine Or.inr (Or.inr (Or.inr (Or.inl ⟨lt, by unfold rtN; rw [if_neg c, if_neg cd, if_pos cl, if_neg c6], by rw [ev]; unfold ctN; rw [if_neg c, if_neg cd, if_pos cl, if_neg c6], by rw [ev]; unfold rwN; rw [if_neg c, if_neg cd, if_pos cl], ?_, ?_⟩)))
      · rw [ev]; exact wv_pos ps al
      · rw [ev]; exact wv_30 al
  · have e1 : ctN n B st = sgC (B st) := by unfold ctN; rw [if_neg c, if_neg cd, if_neg cl]
    have e2 : rtN n B st = sgR (B st) := by unfold rtN; rw [if_neg c, if_neg cd, if_neg cl]
    rw [e1, e2]
    obtain ⟨z, z2, z5, z6, z7, z8, z9, -⟩ := sg_c _ (hB st lt)
    rcases z with z | z | z | z | z | z
    · exact Or.inr (Or.inr (Or.inl ⟨lt, z, z2.mpr z⟩))
    · exact Or.inr (Or.inr (Or.inr (Or.inr ⟨lt, Or.inl ⟨z, z5.mpr z⟩⟩)))
    · exact Or.inr (Or.inr (Or.inr (Or.inr ⟨lt, Or.inr (Or.inl ⟨z, z6.mpr z⟩)⟩)))
    · exact Or.inr (Or.inr (Or.inr (Or.inr ⟨lt, Or.inr (Or.inr (Or.inl ⟨z, z7.mpr z⟩))⟩)))
    · exact Or.inr (Or.inr (Or.inr (Or.inr ⟨lt, Or.inr (Or.inr (Or.inr (Or.inl ⟨z, z8.mpr z⟩)))⟩)))
    · exact Or.inr (Or.inr (Or.inr (Or.inr ⟨lt, Or.inr (Or.inr (Or.inr (Or.inr ⟨z, z9.mpr z⟩)))⟩)))
theorem LPt.k {n : Nat} {B : Nat → Nat} {st : Nat} {Mc Mr : Mem} (h : LPt n B st Mc Mr) : Kind3 n B st := kinds (fun k hk => (h.2.1.2.2.2.2.2.2 k hk).1) st
/-- the class's token by the reference's -/
theorem k_num {n : Nat} {B : Nat → Nat} {st : Nat} (h : Kind3 n B st) : rtN n B st = 2 ↔ ctN n B st = 4 := by
  rcases h with ⟨-, a, b⟩ | ⟨-, a, b, -⟩ | ⟨-, a, b⟩ | ⟨-, b, a, -⟩ | ⟨-, ⟨a, b⟩ | ⟨a, b⟩ | ⟨a, b⟩ | ⟨a, b⟩ | ⟨a, b⟩⟩ <;> rw [a, b]
  · decide
  · decide
  · decide
  · have := tokW_r (vlN n B st)
    exact ⟨fun z => absurd z (by decide), fun z => by omega⟩
  all_goals decide
theorem k_end {n : Nat} {B : Nat → Nat} {st : Nat} (h : Kind3 n B st) : (rtN n B st = 0 ↔ ctN n B st = 1) ∧ (ctN n B st ≠ 1 → st < n) := by
  rcases h with ⟨l, a, b⟩ | ⟨l, a, b, -⟩ | ⟨l, a, b⟩ | ⟨l, b, a, -⟩ | ⟨l, ⟨a, b⟩ | ⟨a, b⟩ | ⟨a, b⟩ | ⟨a, b⟩ | ⟨a, b⟩⟩ <;> rw [a, b]
  · exact ⟨by decide, fun z => absurd rfl z⟩
  · exact ⟨by decide, fun _ => l⟩
  · exact ⟨by decide, fun _ => l⟩
  · have := tokW_r (vlN n B st)
    exact ⟨⟨fun z => absurd z (by decide), fun z => by omega⟩, fun _ => l⟩
  all_goals exact ⟨by decide, fun _ => l⟩
/-- signs: the reference's number, the class's token -/
def SgP (s : Int32) (t : Nat) : Prop := (s = 59 ∧ t = 5) ∨ (s = 40 ∧ t = 6) ∨ (s = 41 ∧ t = 7) ∨ (s = 33 ∧ t = 8) ∨ (s = 63 ∧ t = 9)
theorem k_sgn {n : Nat} {B : Nat → Nat} {st : Nat} (h : Kind3 n B st) {s : Int32} {t : Nat} (hs : SgP s t) : rtN n B st = s ↔ ctN n B st = t := by
  rcases h with ⟨l, a, b⟩ | ⟨l, a, b, -⟩ | ⟨l, a, b⟩ | ⟨l, b, a, -⟩ | ⟨l, ⟨a, b⟩ | ⟨a, b⟩ | ⟨a, b⟩ | ⟨a, b⟩ | ⟨a, b⟩⟩ <;> rcases hs with ⟨rfl, rfl⟩ | ⟨rfl, rfl⟩ | ⟨rfl, rfl⟩ | ⟨rfl, rfl⟩ | ⟨rfl, rfl⟩ <;> rw [a, b] <;> first | decide | (have := tokW_r (vlN n B st); exact ⟨fun z => absurd z (by decide), fun z => by omega⟩)
theorem k_word {n : Nat} {B : Nat → Nat} {st : Nat} (h : Kind3 n B st) : (rtN n B st = 1 ↔ ctN n B st = 3 ∨ 10 ≤ ctN n B st) ∧ (rtN n B st = 1 → ctN n B st = tokW (vlN n B st) ∧ rwN n B st = vlN n B st ∧ 0 < vlN n B st ∧ vlN n B st < 2 ^ 30) ∧ 1 ≤ ctN n B st ∧ ctN n B st < 26 := by
  rcases h with ⟨l, a, b⟩ | ⟨l, a, b, -⟩ | ⟨l, a, b⟩ | ⟨l, b, a, c⟩ | ⟨l, ⟨a, b⟩ | ⟨a, b⟩ | ⟨a, b⟩ | ⟨a, b⟩ | ⟨a, b⟩⟩ <;> rw [a, b]
  · exact ⟨by decide, fun z => absurd z (by decide), by omega, by omega⟩
  · exact ⟨by decide, fun z => absurd z (by decide), by omega, by omega⟩
  · exact ⟨by decide, fun z => absurd z (by decide), by omega, by omega⟩
  · have := tokW_r (vlN n B st)
    exact ⟨⟨fun _ => by omega, fun _ => rfl⟩, fun _ => ⟨rfl, c⟩, by omega, by omega⟩
  all_goals exact ⟨by decide, fun z => absurd z (by decide), by omega, by omega⟩
theorem lN_inj {a b : Nat} (ha : a < 2 ^ 62) (hb : b < 2 ^ 62) (h : lN a = lN b) : a = b := by
  have e := congrArg Int64.toInt h
  rw [pf_lI (by omega), pf_lI (by omega)] at e
  omega
theorem lg0 (x y : Int64) : lg_cmp x y = 0 ↔ x = y := by
  unfold lg_cmp
  by_cases c : x > y
  · rw [if_pos c]
    refine ⟨fun z => absurd z (by decide), fun z => ?_⟩
    rw [z] at c
    exact absurd c (Int64.lt_irrefl)
  · rw [if_neg c]
    by_cases c2 : x = y
    · rw [if_pos c2]; exact ⟨fun _ => c2, fun _ => rfl⟩
    · rw [if_neg c2]; exact ⟨fun z => absurd z (by decide), fun z => absurd z c2⟩
/-- the reference asks for a word -/
theorem is_f {n : Nat} {B : Nat → Nat} {st : Nat} {Mc Mr : Mem} (h : LPt n B st Mc Mr) {s : Nat} (h1 : 28 ≤ s) (h2 : s < 44) : f_X11_is s Mr = some (b10 (decide (ctN n B st = stk s)), Mr) := by
  obtain ⟨-, -, ⟨-, -, t6, -, t8, -⟩, t9⟩ := id h
  have k := k_word (LPt.k h)
  obtain ⟨s0, s1, s2, s3, s4⟩ := scd_ok s h1 h2
  unfold f_X11_is
  rw [t9, if_pos rfl, t6, t8]
  by_cases c : rtN n B st = 1
  · obtain ⟨w1, w2, w3, w4⟩ := k.2.1 c
    rw [if_pos c, spl_f _ h1 h2, cl_s, w2]
    have iff : lg_cmp (lN (vlN n B st)) (lN (scd s)) = 0 ↔ ctN n B st = stk s := by
      rw [lg0, w1, tokW_s h1 h2]
      exact ⟨fun z => lN_inj (by omega) (by omega) z, fun z => by rw [z]⟩
    by_cases c2 : ctN n B st = stk s
    · rw [if_pos (iff.mpr c2), decide_eq_true c2]; rfl
    · rw [if_neg (fun z => c2 (iff.mp z)), decide_eq_false c2]; rfl
  · rw [if_neg c, decide_eq_false (fun z => c (k.1.mpr (Or.inr (by omega))))]; rfl
theorem is_d {Mr : Mem} (h : Mr.1 311 9 ≠ 0) (s : Nat) : f_X11_is s Mr = some (0, Mr) := by
  unfold f_X11_is
  rw [if_neg h]
/-- must, alive and dead -/
theorem must_d {Mr : Mem} (h : Mr.1 311 9 ≠ 0) (x k : Int32) : f_X11_must x k Mr = some (0, Mr) := by
  unfold f_X11_must f_X11_must_b24
  rw [if_neg h]
  rw [if_neg h]
theorem must_t {Mr : Mem} (h : Mr.1 311 9 = 0) {x : Int32} (hx : x ≠ 0) (k : Int32) : f_X11_must x k Mr = some (1, Mr) := by
  unfold f_X11_must f_X11_must_b24
  rw [if_pos h, if_neg hx, if_pos h]
theorem must_z {Mr : Mem} (h : Mr.1 311 9 = 0) {k : Int32} (hk : k ≠ 0) : f_X11_must 0 k Mr = some (0, setI (setI Mr 311 9 k) 311 10 (Mr.1 311 4)) := by
  unfold f_X11_must f_X11_must_b24
  simp only [bnd_e]
  have e : (setI (setI Mr 311 9 k) 311 10 (Mr.1 311 4)).1 311 9 = k := by rw [setI_n (by omega), setI_s]
  have e4 : (setI Mr 311 9 k).1 311 4 = Mr.1 311 4 := setI_n (by omega)
  rw [if_pos h, if_pos trivial, e4, e, if_neg hk]
/-- a fault, told by both -/
theorem fault {n : Nat} {B : Nat → Nat} {st : Nat} {Mc Mr : Mem} (h : LPt n B st Mc Mr) {k : Int32} (hk : k ≠ 0) : ∃ Mc' Mr', f_X7_fail k Mc = some (0, Mc') ∧ f_X11_must 0 k Mr = some (0, Mr') ∧ FL Mc' Mr' ∧ GC Mc Mc' ∧ GR Mr Mr' := by
  obtain ⟨-, ⟨-, t5, -⟩, ⟨-, t4, -⟩, t9⟩ := h
  refine ⟨_, _, rfl, must_z t9 hk, ⟨?_, ?_⟩, gc_I Mc (by omega), (gr_I Mr (by omega)).tr (gr_I _ (by omega))⟩
  · rw [setI_n (by omega), setI_s]; exact hk
  · rw [setI_s, setI_s, setI_n (by omega), setI_s, t5, t4]
theorem LPt.adv {n : Nat} {B : Nat → Nat} {st : Nat} {Mc Mr : Mem} (h : LPt n B st Mc Mr) : ∃ Mc' Mr', f_X7_advance Mc = some Mc' ∧ f_X11_steps Mr = some Mr' ∧ LPt n B (nx n B st) Mc' Mr' ∧ FsC Mc Mc' ∧ FsR Mr Mr' := by
  obtain ⟨hs, hc, hr, h9⟩ := h
  obtain ⟨Mc', e1, c1, f1⟩ := hc.adv hs
  obtain ⟨Mr', e2, c2, f2⟩ := hr.adv hs
  exact ⟨Mc', Mr', e1, e2, ⟨(nx_le hs).1, c1, c2, by rw [f2.2.2 _ _ (by omega), h9]⟩, f1, f2⟩
/-- LPt stands where its cells stand -/
theorem LPt.cong {n : Nat} {B : Nat → Nat} {st : Nat} {Mc Mr Mc' Mr' : Mem} (h : LPt n B st Mc Mr) (e1 : ∀ k, k ≤ 6 → Mc'.1 208 k = Mc.1 208 k) (e2 : Mc'.2.2.1 208 4 = Mc.2.2.1 208 4) (e3 : Mc'.1 65 = Mc.1 65) (e4 : ∀ k, 3 ≤ k → k ≤ 9 → Mr'.1 311 k = Mr.1 311 k) (e5 : Mr'.2.1 311 8 = Mr.2.1 311 8) (e6 : Mr'.1 312 = Mr.1 312) : LPt n B st Mc' Mr' := by
  obtain ⟨hs, ⟨c3, c5, c6, c4, ⟨s1, s2, s3⟩⟩, ⟨r5, r4, r6, r7, r8, ⟨u1, u2, u3⟩⟩, h9⟩ := h
  refine ⟨hs, ⟨by rw [e1 3 (by omega), c3], by rw [e1 5 (by omega), c5], by rw [e1 6 (by omega), c6], by rw [e2, c4], ⟨by rw [e1 2 (by omega), s1], s2, fun k hk => by rw [e3]; exact s3 k hk⟩⟩, ⟨by rw [e4 5 (by omega) (by omega), r5], by rw [e4 4 (by omega) (by omega), r4], by rw [e4 6 (by omega) (by omega), r6], by rw [e4 7 (by omega) (by omega), r7], by rw [e5, r8], ⟨by rw [e4 3 (by omega) (by omega), u1], u2, fun k hk => by rw [e6]; exact u3 k hk⟩⟩, by rw [e4 9 (by omega) (by omega), h9]⟩
/-! numbers -/
theorem number_d {Mr : Mem} (h : Mr.1 311 9 ≠ 0) (x y : Int32) : f_X11_number x y Mr = some (x, Mr) := by
  unfold f_X11_number f_X11_number_b14
  rw [must_d h, cl_s, if_pos rfl]
  rw [must_d h, cl_s, if_pos rfl]
  split <;> rfl
theorem num_ls {n : Nat} {B : Nat → Nat} {st : Nat} {Mc Mr : Mem} (h : LPt n B st Mc Mr) {lo hi : Nat} (hlo : lo < 2 ^ 30) (hhi : hi < 2 ^ 30) :
    (∃ v Mc' Mr', lo ≤ v ∧ v ≤ hi ∧ st < n ∧ f_X7_takeNumber (nI lo) (nI hi) Mc = some (1, Mc') ∧ Mc'.1 208 7 = nI v ∧ f_X11_number (nI lo) (nI hi) Mr = some (nI v, Mr') ∧ LPt n B (nx n B st) Mc' Mr' ∧ GC Mc Mc' ∧ GR Mr Mr') ∨
    (∃ Mc' Mr', f_X7_takeNumber (nI lo) (nI hi) Mc = some (0, Mc') ∧ f_X11_number (nI lo) (nI hi) Mr = some (nI lo, Mr') ∧ FL Mc' Mr' ∧ GC Mc Mc' ∧ GR Mr Mr') := by
  have K := LPt.k h
  have kn := k_num K
  have ke := (k_end K).2
  have kw := (k_word K).2.2.2
  obtain ⟨hs, ⟨c3, c5, c6, c4, sc⟩, ⟨r5, r4, r6, r7, r8, sr⟩, h9⟩ := id h
  unfold f_X7_takeNumber f_X11_number f_X11_number_b14 f_X7_takeNumber_b32
  rw [c4, gd_t kw, c6, r6]
  by_cases c : ctN n B st = 4
  · have rt := kn.mpr c
    have vv : vlN n B st = rvN n B st ∧ vlN n B st < 10000 := by
      rcases K with ⟨-, a, -⟩ | ⟨-, -, -, a⟩ | ⟨-, a, -⟩ | ⟨-, b, -⟩ | ⟨-, ⟨a, -⟩ | ⟨a, -⟩ | ⟨a, -⟩ | ⟨a, -⟩ | ⟨a, -⟩⟩
      · rw [a] at c; exact absurd c (by decide)
      · exact a
      · rw [a] at c; exact absurd c (by decide)
      · rw [rt] at b; exact absurd b (by decide)
      all_goals (rw [a] at c; exact absurd c (by decide))
    have wi : f_X11_within (nI (vlN n B st)).toInt64 (nI lo).toInt64 (nI hi).toInt64 Mr = some (if nI lo ≤ nI (vlN n B st) ∧ nI (vlN n B st) ≤ nI hi then 1 else 0, Mr) := within32 _ _ _ _
    rw [if_pos c, if_pos rt, must_t h9 (by decide), cl_s, if_neg (show ¬ (1 : Int32) = 0 by decide), r7, ← vv.1, wi, cl_s]
    by_cases c1 : lo ≤ vlN n B st ∧ vlN n B st ≤ hi
    · obtain ⟨Mc1, e1⟩ : ∃ X, X = setI Mc 208 7 (nI (vlN n B st)) := ⟨_, rfl⟩
      have h1 : LPt n B st Mc1 Mr := h.cong (fun k hk => by rw [e1, setI_n (by omega)]) (by rw [e1]; rfl) (by rw [e1]; exact funext (fun k => setI_n (by omega))) (fun _ _ _ => rfl) rfl rfl
      obtain ⟨Mc2, Mr2, a1, a2, a3, a4, a5⟩ := h1.adv
      refine Or.inl ⟨vlN n B st, Mc2, Mr2, c1.1, c1.2, ke (by omega), ?_, ?_, ?_, a3, ?_, a5.g⟩
      · have nlt : ¬ nI (vlN n B st) < nI lo := fun z => by have := (lt_nI (by omega) (by omega)).mp z; omega
        rw [if_neg nlt, if_pos (show nI (vlN n B st) ≤ nI hi from le_nI (by omega) (by omega) c1.2), bnd_e, ← e1, a1, clv_s]
      · rw [a4.2.2.2 _ _ (by omega), e1, setI_s]
      · rw [if_pos (show nI lo ≤ nI (vlN n B st) ∧ nI (vlN n B st) ≤ nI hi from ⟨le_nI (by omega) (by omega) c1.1, le_nI (by omega) (by omega) c1.2⟩), must_t h9 (by decide), cl_s, if_neg (show ¬ (1 : Int32) = 0 by decide), bnd_e, r7, ← vv.1, a2, clv_s]
      · exact (show GC Mc Mc1 by rw [e1]; exact gc_I Mc (by omega)).tr a4.g
    · obtain ⟨Mc', Mr', f1, f2, f3, f4, f5⟩ := fault h (k := 3) (by decide)
      have no : ¬ (nI lo ≤ nI (vlN n B st) ∧ nI (vlN n B st) ≤ nI hi) := fun z => c1 ⟨by
        rcases Nat.lt_or_ge (vlN n B st) lo with q | q
        · exact absurd z.1 (nI_ge q (by omega))
        · exact q, by
        rcases Nat.lt_or_ge hi (vlN n B st) with q | q
        · exact absurd z.2 (nI_ge q (by omega))
        · exact q⟩
      refine Or.inr ⟨Mc', Mr', ?_, ?_, f3, f4, f5⟩
      · rw [f1, cl_s, gd_t nar_b.1]
        by_cases z : nI (vlN n B st) < nI lo
        · rw [if_pos z]
        · rw [if_neg z, if_neg (fun q => no ⟨Int32.not_lt.mp z, q⟩)]
      · rw [if_neg no, f2, cl_s, if_pos rfl]
  · obtain ⟨Mc', Mr', f1, f2, f3, f4, f5⟩ := fault h (k := 1) (by decide)
    rw [if_neg c, if_neg (fun z => c (kn.mp z))]
    exact Or.inr ⟨Mc', Mr', by rw [f1, cl_s, gd_t nar_b.1], by rw [f2, cl_s, if_pos rfl], f3, f4, f5⟩
/-! signs and words taken -/
theorem takes_d {Mr : Mem} (h : Mr.1 311 9 ≠ 0) (x : Int32) : f_X11_takes x Mr = some Mr := by
  unfold f_X11_takes f_X11_takes_b14
  rw [must_d h, cl_s, if_pos rfl]
  rw [must_d h, cl_s, if_pos rfl]
  split <;> rfl
theorem take_ls {n : Nat} {B : Nat → Nat} {st : Nat} {Mc Mr : Mem} (h : LPt n B st Mc Mr) {s : Int32} {t : Nat} (hs : SgP s t) :
    (∃ Mc' Mr', st < n ∧ f_X7_take t Mc = some (1, Mc') ∧ f_X11_takes s Mr = some Mr' ∧ LPt n B (nx n B st) Mc' Mr' ∧ FsC Mc Mc' ∧ FsR Mr Mr') ∨
    (∃ Mc' Mr', f_X7_take t Mc = some (0, Mc') ∧ f_X11_takes s Mr = some Mr' ∧ FL Mc' Mr' ∧ GC Mc Mc' ∧ GR Mr Mr') := by
  have K := LPt.k h
  have kn := k_sgn K hs
  have ke := (k_end K).2
  have kw := (k_word K).2.2.2
  have t26 : t < 26 ∧ t ≠ 1 := by rcases hs with ⟨-, rfl⟩ | ⟨-, rfl⟩ | ⟨-, rfl⟩ | ⟨-, rfl⟩ | ⟨-, rfl⟩ <;> omega
  obtain ⟨hs', ⟨c3, c5, c6, c4, sc⟩, ⟨r5, r4, r6, r7, r8, sr⟩, h9⟩ := id h
  unfold f_X7_take f_X11_takes f_X11_takes_b14
  rw [c4, gd_t kw, gd_t t26.1, r6]
  by_cases c : ctN n B st = t
  · obtain ⟨Mc2, Mr2, a1, a2, a3, a4, a5⟩ := h.adv
    rw [if_pos c, if_pos (kn.mpr c), must_t h9 (by decide), cl_s, if_neg (show ¬ (1 : Int32) = 0 by decide)]
    exact Or.inl ⟨Mc2, Mr2, ke (by omega), by rw [a1, clv_s], by rw [a2, clv_s], a3, a4, a5⟩
  · obtain ⟨Mc', Mr', f1, f2, f3, f4, f5⟩ := fault h (k := 1) (by decide)
    rw [if_neg c, if_neg (fun z => c (kn.mp z))]
    exact Or.inr ⟨Mc', Mr', by rw [f1, cl_s, gd_t nar_b.1], by rw [f2, cl_s, if_pos rfl], f3, f4, f5⟩
theorem takesWord_d {Mr : Mem} (h : Mr.1 311 9 ≠ 0) (s : Nat) : f_X11_takesWord s Mr = some Mr := by
  unfold f_X11_takesWord
  rw [is_d h, cl_s, must_d h, cl_s, if_pos rfl]
theorem takeW_ls {n : Nat} {B : Nat → Nat} {st : Nat} {Mc Mr : Mem} (h : LPt n B st Mc Mr) {s : Nat} (h1 : 28 ≤ s) (h2 : s < 44) :
    (∃ Mc' Mr', st < n ∧ f_X7_take (stk s) Mc = some (1, Mc') ∧ f_X11_takesWord s Mr = some Mr' ∧ LPt n B (nx n B st) Mc' Mr' ∧ FsC Mc Mc' ∧ FsR Mr Mr') ∨
    (∃ Mc' Mr', f_X7_take (stk s) Mc = some (0, Mc') ∧ f_X11_takesWord s Mr = some Mr' ∧ FL Mc' Mr' ∧ GC Mc Mc' ∧ GR Mr Mr') := by
  have K := LPt.k h
  have ke := (k_end K).2
  have kw := (k_word K).2.2.2
  obtain ⟨s0, s1, s2, s3, s4⟩ := scd_ok s h1 h2
  obtain ⟨hs', ⟨c3, c5, c6, c4, sc⟩, ⟨r5, r4, r6, r7, r8, sr⟩, h9⟩ := id h
  unfold f_X7_take f_X11_takesWord
  rw [c4, gd_t kw, gd_t s4, is_f h h1 h2, cl_s]
  by_cases c : ctN n B st = stk s
  · obtain ⟨Mc2, Mr2, a1, a2, a3, a4, a5⟩ := h.adv
    rw [if_pos c, decide_eq_true c, must_t h9 (by decide), cl_s, if_neg (show ¬ (1 : Int32) = 0 by decide)]
    exact Or.inl ⟨Mc2, Mr2, ke (by omega), by rw [a1, clv_s], by rw [a2, clv_s], a3, a4, a5⟩
  · obtain ⟨Mc', Mr', f1, f2, f3, f4, f5⟩ := fault h (k := 1) (by decide)
    rw [if_neg c, decide_eq_false c, show b10 false = 0 from rfl]
    exact Or.inr ⟨Mc', Mr', by rw [f1, cl_s, gd_t nar_b.1], by rw [f2, cl_s, if_pos rfl], f3, f4, f5⟩
theorem maybe_d {Mr : Mem} (h : Mr.1 311 9 ≠ 0) (s : Nat) : f_X11_maybe s Mr = some (0, Mr) := by
  unfold f_X11_maybe
  rw [is_d h, cl_s, if_pos rfl, gd_t nar_b.1]
/-- a word that may be there -/
theorem maybe_ls {n : Nat} {B : Nat → Nat} {st : Nat} {Mc Mr : Mem} (h : LPt n B st Mc Mr) {s : Nat} (h1 : 28 ≤ s) (h2 : s < 44) :
    ∃ (b : Bool) (st' : Nat) (Mc' Mr' : Mem), st ≤ st' ∧ f_X7_skip (stk s) Mc = some (b10 b, Mc') ∧ f_X11_maybe s Mr = some (b10 b, Mr') ∧ LPt n B st' Mc' Mr' ∧ FsC Mc Mc' ∧ FsR Mr Mr' := by
  have K := LPt.k h
  have ke := (k_end K).2
  have kw := (k_word K).2.2.2
  obtain ⟨s0, s1, s2, s3, s4⟩ := scd_ok s h1 h2
  obtain ⟨hs', ⟨c3, c5, c6, c4, sc⟩, ⟨r5, r4, r6, r7, r8, sr⟩, h9⟩ := id h
  unfold f_X7_skip f_X11_maybe f_X7_skip_b13
  rw [c4, gd_t kw, gd_t s4, is_f h h1 h2, cl_s]
  by_cases c : ctN n B st = stk s
  · obtain ⟨Mc2, Mr2, a1, a2, a3, a4, a5⟩ := h.adv
    have lt := ke (by omega)
    have := (nx_le (B := B) hs').2 lt
    rw [if_pos c, decide_eq_true c, show b10 true = 1 from rfl, if_neg (show ¬ (1 : Int32) = 0 by decide), if_neg (show ¬ (1 : Int32) = 0 by decide), a1, clv_s, a2, clv_s, gd_t nar_b.2, gd_t nar_b.2]
    exact ⟨true, _, Mc2, Mr2, by omega, rfl, rfl, a3, a4, a5⟩
  · rw [if_neg c, decide_eq_false c, show b10 false = 0 from rfl, if_pos rfl, if_pos rfl, gd_t nar_b.1, gd_t nar_b.1]
    exact ⟨false, st, Mc, Mr, Nat.le_refl _, rfl, rfl, h, FsC.refl _, FsR.refl _⟩
