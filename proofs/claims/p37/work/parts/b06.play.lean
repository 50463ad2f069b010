/-! A PLAY's line (p37) -/
theorem or_mk : ∀ x, x < 16 → ∀ m, m < 4 → nI x ||| ((1 : Int32) <<< (nI m &&& 31)) = nI (x ||| 2 ^ m) ∧ x ||| 2 ^ m < 16 := by decide +kernel
theorem or_xy : ∀ x, x < 16 → ∀ y, y < 16 → nI x ||| nI y = nI (x ||| y) ∧ x ||| y < 16 := by decide +kernel
theorem or_xym : ∀ x, x < 16 → ∀ y, y < 16 → ∀ m, m < 4 → (x ||| 2 ^ m) ||| y = (x ||| y) ||| 2 ^ m ∧ x ||| (y ||| 2 ^ m) = (x ||| y) ||| 2 ^ m := by decide +kernel
/-- marks: seen there or not yet -/
def mkA : Nat → List (Bool × Nat) → Nat
  | x, [] => x
  | x, (b, m) :: l => mkA (if b then x ||| 2 ^ m else x) l
def mkB : Nat → List (Bool × Nat) → Nat
  | y, [] => y
  | y, (b, m) :: l => mkB (if b then y else y ||| 2 ^ m) l
def mkOk : Nat → List (Bool × Nat) → Prop
  | _, [] => True
  | s, (_, m) :: l => m < 4 ∧ s.testBit m = false ∧ mkOk (s ||| 2 ^ m) l
def mkT : List (Bool × Nat) → List Tok
  | [] => []
  | (b, m) :: l => ((if b then (33 : Int32) else 63), (0 : Nat), (0 : Nat)) :: ((2 : Int32), m, (0 : Nat)) :: mkT l
def FmI (a q : Nat) : Nat → Nat → Prop := fun r k => ((r = 336 ∨ r = 337 ∨ r = 338 ∨ r = 339) ∧ k = q) ∨ (r = 335 ∧ k = a)
section PLAY
variable {n : Nat} {B : Nat → Nat} {ts : List Tok} {t : Tok} {M M' : Mem} {cn : Nat → Nat}
theorem marks_r {a q j : Nat} (ha : a < 16) (hq : q < 160) (ht : t.1 ≠ 33 ∧ t.1 ≠ 63) (ms : List (Bool × Nat)) : ∀ (x y : Nat) (M : Mem), x < 16 → y < 16 → mkOk (x ||| y) ms → RP n B (mkT ms ++ t :: ts) M → M.1 338 q = nI x → M.1 339 q = nI y → M.1 335 a = nI j → ∀ k, ms.length < k →
    ∃ M', f_X11_readFrame_b82 k (nI a) (nI q) M = some M' ∧ RP n B (t :: ts) M' ∧ M'.1 338 q = nI (mkA x ms) ∧ M'.1 339 q = nI (mkB y ms) ∧ M'.1 335 a = nI (j + 1) ∧ (M'.1 336 q = M.1 336 q ∧ M'.1 337 q = M.1 337 q) ∧ Fr (FmI a q) noC M M' := by
  have cq : (nI q).toNatClampNeg = q := nI_clamp (by omega)
  have ca : (nI a).toNatClampNeg = a := nI_clamp (by omega)
  induction ms with
  | nil =>
    intro x y M hx hy hok h e8 e9 e5 k hk
    obtain ⟨k, rfl⟩ : ∃ k', k = k' + 1 := ⟨k - 1, by have : 0 < k := hk; omega⟩
    have h' : RP n B (t :: ts) M := h
    refine ⟨setI M 335 a (nI (j + 1)), ?_, h'.I (by omega), (by rw [setI_n (by omega)]; exact e8), (by rw [setI_n (by omega)]; exact e9), setI_s, ⟨setI_n (by omega), setI_n (by omega)⟩, fr_I M (Or.inr ⟨rfl, rfl⟩)⟩
    have e5' : M.1 335 (nI a).toNatClampNeg = nI j := by rw [ca]; exact e5
    have s5' : setI M 335 (nI a).toNatClampNeg (nI (j + 1)) = setI M 335 a (nI (j + 1)) := by rw [ca]
    show f_X11_readFrame_b82_s (f_X11_readFrame_b82 k) (nI a) (nI q) M = _
    unfold f_X11_readFrame_b82_s f_X11_readFrame_b238
    simp only [bnd_e]
    rw [if_pos h'.f9, if_neg (by rw [h'.rt.1]; exact ht.1), if_neg (by rw [h'.rt.1]; exact ht.2), gd_t (inb_nI (by omega) (by omega)), e5', show nI j + 1 = nI (j + 1) from nI_1 j, s5']
  | cons bm ms ih =>
    intro x y M hx hy hok h e8 e9 e5 k hk
    obtain ⟨b, m⟩ := bm
    obtain ⟨o1, o2, o3⟩ := hok
    obtain ⟨k, rfl⟩ : ∃ k', k = k' + 1 := ⟨k - 1, by have : 0 < k := Nat.lt_of_le_of_lt (Nat.zero_le _) hk; omega⟩
    rw [List.length_cons] at hk
    have h' : RP n B (((if b then (33 : Int32) else 63), (0 : Nat), (0 : Nat)) :: (((2 : Int32), m, (0 : Nat)) :: (mkT ms ++ t :: ts))) M := h
    obtain ⟨M1, e1, p1, f1⟩ := h'.adv
    have r6 : M.1 311 6 = if b then (33 : Int32) else 63 := h'.rt.1
    obtain ⟨q6, q7, -, q9⟩ := p1.rt
    have q7' : M1.1 311 7 = nI m := q7
    have d8 : M1.1 338 q = nI x := by rw [f1.2.2 _ _ (by omega), e8]
    have d9 : M1.1 339 q = nI y := by rw [f1.2.2 _ _ (by omega), e9]
    have d8' : M1.1 338 (nI q).toNatClampNeg = nI x := by rw [cq]; exact d8
    have d9' : M1.1 339 (nI q).toNatClampNeg = nI y := by rw [cq]; exact d9
    obtain ⟨xy1, xy2⟩ := or_xy x hx y hy
    have has0 : f_X11_has (nI x ||| nI y) (nI m) M1 = some (0, M1) := by
      rw [xy1, has_f (by omega) (by omega), o2]
      rfl
    obtain ⟨z1, z2⟩ := or_xym x hx y hy m o1
    cases b with
    | true =>
      obtain ⟨m1, m2⟩ := or_mk x hx m o1
      obtain ⟨M2, h2⟩ : ∃ X, X = setI M1 338 q (nI (x ||| 2 ^ m)) := ⟨_, rfl⟩
      have h2' : setI M1 338 (nI q).toNatClampNeg (nI (x ||| 2 ^ m)) = M2 := by rw [cq, h2]
      have p2 := p1.I' h2 (by omega)
      obtain ⟨M3, e3, p3, f3⟩ := p2.adv
      have g2 : Fr (FmI a q) noC M1 M2 := by rw [h2]; exact fr_I M1 (Or.inl ⟨by omega, rfl⟩)
      have kp : ∀ r k, ¬ (r = 311 ∧ 4 ≤ k ∧ k ≤ 7) → ¬ (r = 338 ∧ k = q) → M3.1 r k = M.1 r k := fun r k u v => by rw [f3.2.2 _ _ u, h2, setI_n (by omega), f1.2.2 _ _ u]
      obtain ⟨M4, e4, p4, a4, b4, c4, k4, f4⟩ := ih (x ||| 2 ^ m) y M3 m2 hy (by rw [z1]; exact o3) p3 (by rw [f3.2.2 _ _ (by omega), h2, setI_s]) (by rw [kp _ _ (by omega) (by omega), e9]) (by rw [kp _ _ (by omega) (by omega), e5]) k (by omega)
      refine ⟨M4, ?_, p4, a4, b4, c4, ⟨by rw [k4.1, kp _ _ (by omega) (by omega)], by rw [k4.2, kp _ _ (by omega) (by omega)]⟩, f1.fr.tr (g2.tr (f3.fr.tr f4))⟩
      show f_X11_readFrame_b82_s (f_X11_readFrame_b82 k) (nI a) (nI q) M = _
      unfold f_X11_readFrame_b82_s f_X11_readFrame_b107 f_X11_readFrame_b121 f_X11_readFrame_b141 f_X11_readFrame_b185 f_X11_readFrame_b231
      simp only [bnd_e]
      rw [if_pos h'.f9, if_pos (show M.1 311 6 = 33 from r6), if_pos (show M.1 311 6 = 33 from r6), e1, clv_s, if_pos (show M1.1 311 6 = 2 from q6), must_t q9 (by decide), cl_s, if_neg (show ¬ (1 : Int32) = 0 by decide), q7', if_neg (show ¬ (4 : Int32) ≤ nI m by rw [show (4 : Int32) = nI 4 from rfl]; exact nI_ge o1 (by omega)), gd_t (inb_nI (by omega) (by omega)), d8', d9', has0, cl_s, if_pos rfl, must_t q9 (by decide), cl_s, if_neg (show ¬ (1 : Int32) = 0 by decide), if_neg (show ¬ (1 : Int32) = 0 by decide), gd_t (inb_nI (by omega) (by omega)), d8', q7', m1, h2', e3, clv_s, e4]
    | false =>
      obtain ⟨m1, m2⟩ := or_mk y hy m o1
      obtain ⟨M2, h2⟩ : ∃ X, X = setI M1 339 q (nI (y ||| 2 ^ m)) := ⟨_, rfl⟩
      have h2' : setI M1 339 (nI q).toNatClampNeg (nI (y ||| 2 ^ m)) = M2 := by rw [cq, h2]
      have p2 := p1.I' h2 (by omega)
      obtain ⟨M3, e3, p3, f3⟩ := p2.adv
      have g2 : Fr (FmI a q) noC M1 M2 := by rw [h2]; exact fr_I M1 (Or.inl ⟨by omega, rfl⟩)
      have kp : ∀ r k, ¬ (r = 311 ∧ 4 ≤ k ∧ k ≤ 7) → ¬ (r = 339 ∧ k = q) → M3.1 r k = M.1 r k := fun r k u v => by rw [f3.2.2 _ _ u, h2, setI_n (by omega), f1.2.2 _ _ u]
      obtain ⟨M4, e4, p4, a4, b4, c4, k4, f4⟩ := ih x (y ||| 2 ^ m) M3 hx m2 (by rw [z2]; exact o3) p3 (by rw [kp _ _ (by omega) (by omega), e8]) (by rw [f3.2.2 _ _ (by omega), h2, setI_s]) (by rw [kp _ _ (by omega) (by omega), e5]) k (by omega)
      refine ⟨M4, ?_, p4, a4, b4, c4, ⟨by rw [k4.1, kp _ _ (by omega) (by omega)], by rw [k4.2, kp _ _ (by omega) (by omega)]⟩, f1.fr.tr (g2.tr (f3.fr.tr f4))⟩
      have r63 : M.1 311 6 = 63 := r6
      have n33 : ¬ M.1 311 6 = 33 := by rw [r63]; decide
      show f_X11_readFrame_b82_s (f_X11_readFrame_b82 k) (nI a) (nI q) M = _
      unfold f_X11_readFrame_b82_s f_X11_readFrame_b107 f_X11_readFrame_b121 f_X11_readFrame_b141 f_X11_readFrame_b185 f_X11_readFrame_b231
      simp only [bnd_e]
      rw [if_pos h'.f9, if_neg n33, if_pos r63, if_neg n33, e1, clv_s, if_pos (show M1.1 311 6 = 2 from q6), must_t q9 (by decide), cl_s, if_neg (show ¬ (1 : Int32) = 0 by decide), q7', if_neg (show ¬ (4 : Int32) ≤ nI m by rw [show (4 : Int32) = nI 4 from rfl]; exact nI_ge o1 (by omega)), gd_t (inb_nI (by omega) (by omega)), d8', d9', has0, cl_s, if_pos rfl, must_t q9 (by decide), cl_s, if_neg (show ¬ (1 : Int32) = 0 by decide), if_pos trivial, gd_t (inb_nI (by omega) (by omega)), d9', q7', m1, h2', e3, clv_s, e4]
/-- a frame: camera, tick, marks -/
abbrev FrD : Type := Nat × Nat × List (Bool × Nat)
def frT (f : FrD) : List Tok := ((1 : Int32), (0 : Nat), nmv 0 f.1) :: ((2 : Int32), f.2.1, (0 : Nat)) :: mkT f.2.2
def FdOk (cn : Nat → Nat) (f : FrD) : Prop := f.1 < cn 0 ∧ f.2.1 ≤ 999 ∧ mkOk 0 f.2.2 ∧ f.2.2.length < 100
/-- what a frame's cells hold -/
def FdC (M : Mem) (q : Nat) (f : FrD) : Prop := M.1 336 q = nI f.1 ∧ M.1 337 q = nI f.2.1 ∧ M.1 338 q = nI (mkA 0 f.2.2) ∧ M.1 339 q = nI (mkB 0 f.2.2)
theorem readFrame_r {a j : Nat} {f : FrD} (ha : a < 16) (hj : j < 10) (ht : t.1 ≠ 33 ∧ t.1 ≠ 63) (h : RP n B (frT f ++ t :: ts) M) (N : NmS cn nmv M) (ok : FdOk cn f) (e5 : M.1 335 a = nI j) :
    ∃ M', f_X11_readFrame (nI a) M = some M' ∧ RP n B (t :: ts) M' ∧ FdC M' (10 * a + j) f ∧ M'.1 335 a = nI (j + 1) ∧ Fr (FmI a (10 * a + j)) noC M M' := by
  obtain ⟨c, tk, ms⟩ := f
  obtain ⟨ok1, ok2, ok3, ok4⟩ := ok
  have c0 := (N.1 0 (by omega)).2
  have h' : RP n B (((1 : Int32), (0 : Nat), nmv 0 c) :: (((2 : Int32), tk, (0 : Nat)) :: (mkT ms ++ t :: ts))) M := h
  have el := looksUp_r h' (noOwn_nmv (by omega) (by have : c < cn 0 := ok1; omega)) N (x := 0) (by omega) ok1 rfl (fun a ha z => (nmv_inj 0 (by omega) 0 (by omega) a (by omega) c (by have : c < cn 0 := ok1; omega) z).2)
  have el' : f_X11_looksUp 0 M = some (nI c, M) := el
  have ca : (nI a).toNatClampNeg = a := nI_clamp (by omega)
  have cq : (nI (10 * a + j)).toNatClampNeg = 10 * a + j := nI_clamp (by omega)
  have e5' : M.1 335 (nI a).toNatClampNeg = nI j := by rw [ca]; exact e5
  have ix : 10 * nI a + nI j = nI (10 * a + j) := by rw [show (10 : Int32) = nI 10 from rfl, nI_mul', nI_add]
  obtain ⟨M1, h1⟩ : ∃ X, X = setI M 336 (10 * a + j) (nI c) := ⟨_, rfl⟩
  have h1' : setI M 336 (nI (10 * a + j)).toNatClampNeg (nI c) = M1 := by rw [cq, h1]
  have p1 := h'.I' h1 (by omega)
  obtain ⟨M2, e2, p2, f2⟩ := p1.adv
  obtain ⟨M3, e3, p3, f3⟩ := number_r p2 (lo := 0) (hi := 999) (by omega) ok2 (by omega)
  have e3' : f_X11_number 0 999 M2 = some (nI tk, M3) := e3
  obtain ⟨M4, h4⟩ : ∃ X, X = setI M3 337 (10 * a + j) (nI tk) := ⟨_, rfl⟩
  obtain ⟨M5, h5⟩ : ∃ X, X = setI M4 338 (10 * a + j) 0 := ⟨_, rfl⟩
  obtain ⟨M6, h6⟩ : ∃ X, X = setI M5 339 (10 * a + j) 0 := ⟨_, rfl⟩
  have h4' : setI M3 337 (nI (10 * a + j)).toNatClampNeg (nI tk) = M4 := by rw [cq, h4]
  have h5' : setI M4 338 (nI (10 * a + j)).toNatClampNeg 0 = M5 := by rw [cq, h5]
  have h6' : setI M5 339 (nI (10 * a + j)).toNatClampNeg 0 = M6 := by rw [cq, h6]
  have p6 := ((p3.I' h4 (by omega)).I' h5 (by omega)).I' h6 (by omega)
  obtain ⟨M7, e7, p7, a7, b7, c7, k7, f7⟩ := marks_r (t := t) (ts := ts) (j := j) ha (show 10 * a + j < 160 by omega) ht ms 0 0 M6 (by omega) (by omega) ok3 p6 (by rw [h6, setI_n (by omega), h5, setI_s]; rfl) (by rw [h6, setI_s]; rfl) (by rw [h6, setI_n (by omega), h5, setI_n (by omega), h4, setI_n (by omega), f3.2.2 _ _ (by omega), f2.2.2 _ _ (by omega), h1, setI_n (by omega), e5]) fuel (by
    have : ms.length < 100 := ok4
    unfold fuel; omega)
  refine ⟨M7, ?_, p7, ⟨?_, ?_, a7, b7⟩, c7, ?_⟩
  · unfold f_X11_readFrame f_X11_readFrame_b35
    simp only [bnd_e]
    rw [gd_t (inb_nI (by omega) (by omega)), e5', ix, el', cl_s, e5', if_neg (show ¬ (10 : Int32) ≤ nI j by rw [show (10 : Int32) = nI 10 from rfl]; exact nI_ge hj (by omega)), must_t h.f9 (by decide), cl_s, if_neg (show ¬ (1 : Int32) = 0 by decide), gd_t (inb_nI (by omega) (by omega)), h1', e2, clv_s, e3', cl_s, h4', h5', h6', e7]
  · rw [k7.1, h6, setI_n (by omega), h5, setI_n (by omega), h4, setI_n (by omega), f3.2.2 _ _ (by omega), f2.2.2 _ _ (by omega), h1, setI_s]
  · rw [k7.2, h6, setI_n (by omega), h5, setI_n (by omega), h4, setI_s]
  · have g1 : Fr (FmI a (10 * a + j)) noC M M1 := by rw [h1]; exact fr_I M (Or.inl ⟨by omega, rfl⟩)
    have g4 : Fr (FmI a (10 * a + j)) noC M3 M4 := by rw [h4]; exact fr_I M3 (Or.inl ⟨by omega, rfl⟩)
    have g5 : Fr (FmI a (10 * a + j)) noC M4 M5 := by rw [h5]; exact fr_I M4 (Or.inl ⟨by omega, rfl⟩)
    have g6 : Fr (FmI a (10 * a + j)) noC M5 M6 := by rw [h6]; exact fr_I M5 (Or.inl ⟨by omega, rfl⟩)
    exact g1.tr (f2.fr.tr (f3.fr.tr (g4.tr (g5.tr (g6.tr f7)))))
def FsI (a : Nat) : Nat → Nat → Prop := fun r k => ((r = 336 ∨ r = 337 ∨ r = 338 ∨ r = 339) ∧ 10 * a ≤ k ∧ k < 10 * a + 10) ∨ (r = 335 ∧ k = a) ∨ (r = 313 ∧ k = 10)
theorem FdC.fr {q : Nat} {f : FrD} {I : Nat → Nat → Prop} (h : FdC M q f) (g : Fr I noC M M') (hI : ∀ r, r = 336 ∨ r = 337 ∨ r = 338 ∨ r = 339 → ¬ I r q) : FdC M' q f := by
  obtain ⟨h1, h2, h3, h4⟩ := h
  exact ⟨by rw [g.2.2 _ _ (by omega) (hI _ (by omega)), h1], by rw [g.2.2 _ _ (by omega) (hI _ (by omega)), h2], by rw [g.2.2 _ _ (by omega) (hI _ (by omega)), h3], by rw [g.2.2 _ _ (by omega) (hI _ (by omega)), h4]⟩
def frsT (fs : List FrD) : List Tok := fs.flatMap frT
theorem frs_hd (fs : List FrD) (ts : List Tok) : ∃ t r, frsT fs ++ ((59 : Int32), (0 : Nat), (0 : Nat)) :: ts = t :: r ∧ t.1 ≠ 33 ∧ t.1 ≠ 63 := by
  cases fs with
  | nil => exact ⟨((59 : Int32), (0 : Nat), (0 : Nat)), ts, rfl, by show (59 : Int32) ≠ 33; decide, by show (59 : Int32) ≠ 63; decide⟩
  | cons f fs => exact ⟨((1 : Int32), (0 : Nat), nmv 0 f.1), _, rfl, by show (1 : Int32) ≠ 33; decide, by show (1 : Int32) ≠ 63; decide⟩
theorem frames_r {a : Nat} (ha : a < 16) (fs : List FrD) : ∀ (j : Nat) (M : Mem), fs.length + j ≤ 10 → RP n B (frsT fs ++ ((59 : Int32), (0 : Nat), (0 : Nat)) :: ts) M → NmS cn nmv M → (∀ f, f ∈ fs → FdOk cn f) → M.1 335 a = nI j → ∀ k, fs.length < k →
    ∃ M', f_X11_playLine_b145 k (nI a) M = some M' ∧ RP n B (((59 : Int32), (0 : Nat), (0 : Nat)) :: ts) M' ∧ (∀ (i : Nat) (f : FrD), fs[i]? = some f → FdC M' (10 * a + (j + i)) f) ∧ (∀ i f, i < j → FdC M (10 * a + i) f → FdC M' (10 * a + i) f) ∧ M'.1 335 a = nI (j + fs.length) ∧ M'.1 313 10 = nI (cn 4 + 1) ∧ Fr (FsI a) noC M M' := by
  induction fs with
  | nil =>
    intro j M hl h N ok e5 k hk
    obtain ⟨k, rfl⟩ : ∃ k', k = k' + 1 := ⟨k - 1, by have : 0 < k := hk; omega⟩
    have h' : RP n B (((59 : Int32), (0 : Nat), (0 : Nat)) :: ts) M := h
    have g : Fr (FsI a) noC M (setI M 313 10 (nI (cn 4 + 1))) := fr_I M (Or.inr (Or.inr ⟨rfl, rfl⟩))
    refine ⟨setI M 313 10 (nI (cn 4 + 1)), ?_, h'.I (by omega), (fun i f z => by cases z), (fun i f hi z => z.fr (I := fun r k => r = 313 ∧ k = 10) (fr_I M ⟨rfl, rfl⟩) (fun r hr y => by omega)), (by rw [setI_n (by omega)]; exact e5), setI_s, g⟩
    show f_X11_playLine_b145_s (f_X11_playLine_b145 k) (nI a) M = _
    unfold f_X11_playLine_b145_s f_X11_playLine_b168
    simp only [bnd_e]
    rw [if_pos h'.f9, if_neg (by rw [show M.1 311 6 = 59 from h'.rt.1]; decide), if_pos h'.f9, show M.1 313 10 = nI (cn 4) from (N.1 4 (by omega)).1, nI_1]
  | cons f fs ih =>
    intro j M hl h N ok e5 k hk
    obtain ⟨k, rfl⟩ : ∃ k', k = k' + 1 := ⟨k - 1, by have : 0 < k := Nat.lt_of_le_of_lt (Nat.zero_le _) hk; omega⟩
    rw [List.length_cons] at hl hk
    have h' : RP n B (frT f ++ (frsT fs ++ ((59 : Int32), (0 : Nat), (0 : Nat)) :: ts)) M := by
      have : frsT (f :: fs) ++ ((59 : Int32), (0 : Nat), (0 : Nat)) :: ts = frT f ++ (frsT fs ++ ((59 : Int32), (0 : Nat), (0 : Nat)) :: ts) := by
        unfold frsT
        rw [List.flatMap_cons, List.append_assoc]
      rw [this] at h
      exact h
    have r6 : M.1 311 6 = 1 := by
      have h2 : RP n B (((1 : Int32), (0 : Nat), nmv 0 f.1) :: (((2 : Int32), f.2.1, (0 : Nat)) :: mkT f.2.2 ++ (frsT fs ++ ((59 : Int32), (0 : Nat), (0 : Nat)) :: ts))) M := h'
      exact h2.rt.1
    obtain ⟨t, r, et, t1, t2⟩ := frs_hd fs ts
    rw [et] at h'
    obtain ⟨M1, e1, p1, d1, c1, f1⟩ := readFrame_r ha (show j < 10 by omega) ⟨t1, t2⟩ h' N (ok f (List.mem_cons_self)) e5
    rw [← et] at p1
    have N1 : NmS cn nmv M1 := N.fr f1 (fun k hk z => by unfold FmI at z; omega) (fun _ _ _ _ z => z)
    obtain ⟨M2, e2, p2, d2, o2, c2, n2, f2⟩ := ih (j + 1) M1 (by omega) p1 N1 (fun g hg => ok g (List.mem_cons_of_mem _ hg)) c1 k (by omega)
    refine ⟨M2, ?_, p2, ?_, ?_, ?_, n2, ?_⟩
    · show f_X11_playLine_b145_s (f_X11_playLine_b145 k) (nI a) M = _
      unfold f_X11_playLine_b145_s
      rw [if_pos h.f9, if_pos r6, e1, clv_s, e2]
    · intro i g z
      cases i with
      | zero => cases z; exact o2 j _ (by omega) d1
      | succ i =>
        have := d2 i g z
        rw [show j + 1 + i = j + (i + 1) by omega] at this
        exact this
    · intro i g hi z
      exact o2 i g (by omega) (z.fr f1 (fun r hr y => by unfold FmI at y; omega))
    · rw [c2, List.length_cons]
      congr 1
      omega
    · refine (f1.mono (fun r k z => ?_) (fun _ _ z => z)).tr f2
      unfold FmI at z
      unfold FsI
      omega
def PyI (p : Nat) : Nat → Nat → Prop := fun r k => FsI (8 + p) r k ∨ ((r = 330 ∨ r = 331 ∨ r = 332 ∨ r = 333 ∨ r = 334) ∧ k = 8 + p)
def playT (p mi k s po : Nat) (y : Bool) (fs : List FrD) : List Tok := ((1 : Int32), (0 : Nat), nmv 4 p) :: ((2 : Int32), mi, (0 : Nat)) :: ((1 : Int32), (0 : Nat), nmv 2 k) :: ((1 : Int32), (0 : Nat), nmv 1 s) :: ((2 : Int32), po, (0 : Nat)) :: ((1 : Int32), (0 : Nat), scd (if y then 42 else 43)) :: frsT fs
theorem playLine_r {p mi lo k s po : Nat} {y : Bool} {fs : List FrD} (h : RP n B (playT p mi k s po y fs ++ ((59 : Int32), (0 : Nat), (0 : Nat)) :: ts) M) (N : NmS cn nmv M) (hp : cn 4 = p) (h8 : p < 8) (hk : k < cn 2) (hs : s < cn 1) (hlo : lo = 0 ∨ M.1 330 (8 + p - 1) = nI lo) (hlo2 : p = 0 → lo = 0) (hlo3 : p ≠ 0 → M.1 330 (8 + p - 1) = nI lo) (hmi : lo ≤ mi) (hmi2 : mi ≤ 999) (hpo : po ≤ 99) (hl : fs.length ≤ 10) (ok : ∀ f, f ∈ fs → FdOk cn f) :
    ∃ M', f_X11_playLine M = some M' ∧ RP n B (((59 : Int32), (0 : Nat), (0 : Nat)) :: ts) M' ∧ NmS (cnU cn 4) nmv M' ∧ M'.1 330 (8 + p) = nI mi ∧ M'.1 331 (8 + p) = nI k ∧ M'.1 335 (8 + p) = nI fs.length ∧ (∀ (i : Nat) (f : FrD), fs[i]? = some f → FdC M' (10 * (8 + p) + i) f) ∧ Fr (PyI p) (fun r k => r = 316 ∧ k = 72 + p) M M' := by
  subst hp
  have k1 := (N.1 1 (by omega)).2
  have k2 := (N.1 2 (by omega)).2
  have h0 : RP n B (((1 : Int32), (0 : Nat), nmv 4 (cn 4)) :: (((2 : Int32), mi, (0 : Nat)) :: ((1 : Int32), (0 : Nat), nmv 2 k) :: ((1 : Int32), (0 : Nat), nmv 1 s) :: ((2 : Int32), po, (0 : Nat)) :: ((1 : Int32), (0 : Nat), scd (if y then 42 else 43)) :: (frsT fs ++ ((59 : Int32), (0 : Nat), (0 : Nat)) :: ts))) M := h
  have ca : (nI (8 + cn 4)).toNatClampNeg = 8 + cn 4 := nI_clamp (by omega)
  obtain ⟨M1, e1, p1, w1, f1⟩ := newName_r h0 (noOwn_nmv (by omega) (by omega)) N (x := 4) (by omega) (by omega) (N.no (by omega) (by omega))
  have e1' : f_X11_newName 4 M = some M1 := e1
  have N1 : NmS cn nmv M1 := N.fr f1 (fun _ _ z => z) (fun s k hs hk z => by
    have := (N.1 s (by omega)).2
    rcases (show s = 0 ∨ s = 1 ∨ s = 2 ∨ s = 3 ∨ s = 4 by omega) with q | q | q | q | q <;> subst q <;> omega)
  obtain ⟨M2, e2, p2, f2⟩ := number_r p1 (lo := lo) (hi := 999) hmi hmi2 (by omega)
  have e2' : f_X11_number (nI lo) 999 M1 = some (nI mi, M2) := e2
  have N2 := N1.fs f2
  obtain ⟨M3, h3⟩ : ∃ X, X = setI M2 330 (8 + cn 4) (nI mi) := ⟨_, rfl⟩
  have h3' : setI M2 330 (nI (8 + cn 4)).toNatClampNeg (nI mi) = M3 := by rw [ca, h3]
  have p3 := p2.I' h3 (by omega)
  have N3 : NmS cn nmv M3 := by rw [h3]; exact N2.I (by omega)
  obtain ⟨M4, e4, p4, f4⟩ := known_r p3 (noOwn_nmv (by omega) (by omega)) N3 (x := 2) (by omega) hk rfl (fun a ha z => (nmv_inj 2 (by omega) 2 (by omega) a (by omega) k (by omega) z).2)
  have e4' : f_X11_known 2 M3 = some (nI k, M4) := e4
  have N4 := N3.fs f4
  obtain ⟨M5, h5⟩ : ∃ X, X = setI M4 331 (8 + cn 4) (nI k) := ⟨_, rfl⟩
  have h5' : setI M4 331 (nI (8 + cn 4)).toNatClampNeg (nI k) = M5 := by rw [ca, h5]
  have p5 := p4.I' h5 (by omega)
  have N5 : NmS cn nmv M5 := by rw [h5]; exact N4.I (by omega)
  obtain ⟨M6, e6, p6, f6⟩ := known_r p5 (noOwn_nmv (by omega) (by omega)) N5 (x := 1) (by omega) hs rfl (fun a ha z => (nmv_inj 1 (by omega) 1 (by omega) a (by omega) s (by omega) z).2)
  have e6' : f_X11_known 1 M5 = some (nI s, M6) := e6
  have N6 := N5.fs f6
  obtain ⟨M7, h7⟩ : ∃ X, X = setI M6 332 (8 + cn 4) (nI s) := ⟨_, rfl⟩
  have h7' : setI M6 332 (nI (8 + cn 4)).toNatClampNeg (nI s) = M7 := by rw [ca, h7]
  have p7 := p6.I' h7 (by omega)
  have N7 : NmS cn nmv M7 := by rw [h7]; exact N6.I (by omega)
  obtain ⟨M8, e8, p8, f8⟩ := number_r p7 (lo := 0) (hi := 99) (by omega) hpo (by omega)
  have e8' : f_X11_number 0 99 M7 = some (nI po, M8) := e8
  have N8 := N7.fs f8
  obtain ⟨M9, h9⟩ : ∃ X, X = setI M8 333 (8 + cn 4) (nI po) := ⟨_, rfl⟩
  have h9' : setI M8 333 (nI (8 + cn 4)).toNatClampNeg (nI po) = M9 := by rw [ca, h9]
  have p9 := p8.I' h9 (by omega)
  have N9 : NmS cn nmv M9 := by rw [h9]; exact N8.I (by omega)
  have s42 : f_X11_is 42 M9 = some (if y then 1 else 0, M9) := by
    cases y with
    | true => exact risY (s := 42) p9 (by omega) (by omega)
    | false => exact risN (s := 42) p9 (by omega) (by omega) (by show scd 43 < 2 ^ 30; decide) (Or.inr (by show scd 43 ≠ scd 42; decide))
  have s43 : y = false → f_X11_is 43 M9 = some (1, M9) := fun q => by
    subst q
    exact risY (s := 43) p9 (by omega) (by omega)
  obtain ⟨M10, h10⟩ : ∃ X, X = setI M9 334 (8 + cn 4) (if y then 1 else 0) := ⟨_, rfl⟩
  have h10' : setI M9 334 (nI (8 + cn 4)).toNatClampNeg (if y then 1 else 0) = M10 := by rw [ca, h10]
  have p10 := p9.I' h10 (by omega)
  obtain ⟨M11, e11, p11, f11⟩ := p10.adv
  have N11 : NmS cn nmv M11 := by
    have : NmS cn nmv M10 := by rw [h10]; exact N9.I (by omega)
    exact this.fs f11
  obtain ⟨M12, h12⟩ : ∃ X, X = setI M11 335 (8 + cn 4) 0 := ⟨_, rfl⟩
  have h12' : setI M11 335 (nI (8 + cn 4)).toNatClampNeg 0 = M12 := by rw [ca, h12]
  have p12 := p11.I' h12 (by omega)
  have N12 : NmS cn nmv M12 := by rw [h12]; exact N11.I (by omega)
  obtain ⟨M13, e13, p13, d13, -, c13, n13, f13⟩ := frames_r (a := 8 + cn 4) (by omega) fs 0 M12 (by omega) p12 N12 ok (by rw [h12, setI_s]; rfl) fuel (by unfold fuel; omega)
  have keep : ∀ r k, r = 330 ∨ r = 331 → M13.1 r k = M12.1 r k := fun r k hr => f13.2.2 _ _ (by omega) (fun z => by unfold FsI at z; omega)
  have w12 : M12.2.1 316 (40 + 8 * 4 + cn 4) = lN (nmv 4 (cn 4)) := by
    rw [h12]
    show M11.2.1 _ _ = _
    rw [f11.2.1 _ _ (by omega), h10]
    show M9.2.1 _ _ = _
    rw [h9]
    show M8.2.1 _ _ = _
    rw [f8.2.1 _ _ (by omega), h7]
    show M6.2.1 _ _ = _
    rw [f6.2.1 _ _ (by omega), h5]
    show M4.2.1 _ _ = _
    rw [f4.2.1 _ _ (by omega), h3]
    show M2.2.1 _ _ = _
    rw [f2.2.1 _ _ (by omega)]
    exact w1
  refine ⟨M13, ?_, p13, ?_, ?_, ?_, ?_, ?_, ?_⟩
  · have tail : f_X11_playLine_b40 (nI (8 + cn 4)) (nI (8 + cn 4)) (nI lo) M1 = some M13 := by
      unfold f_X11_playLine_b40 f_X11_playLine_b101 f_X11_playLine_b106 f_X11_playLine_b133
      simp only [bnd_e]
      rw [e2', cl_s, gd_t (inb_nI (by omega) (by omega)), h3', e4', cl_s, gd_t (inb_nI (by omega) (by omega)), h5', e6', cl_s, h7', e8', cl_s, h9', s42, cl_s]
      cases y with
      | true => 
        rw [if_neg (show ¬ (if true then (1 : Int32) else 0) = 0 by decide), must_t p9.f9 (by decide), cl_s, if_neg (show ¬ (1 : Int32) = 0 by decide), s42, cl_s, if_neg (show ¬ (if true then (1 : Int32) else 0) = 0 by decide), gd_t (inb_nI (by omega) (by omega))]
        exact (congrArg (fun X => clv (f_X11_steps X) _) h10').trans (by rw [e11, clv_s, gd_t (inb_nI (by omega) (by omega)), h12', e13])
      | false =>
        rw [if_pos (show (if false then (1 : Int32) else 0) = 0 by decide), s43 rfl, cl_s, if_neg (show ¬ (1 : Int32) = 0 by decide), must_t p9.f9 (by decide), cl_s, if_neg (show ¬ (1 : Int32) = 0 by decide), s42, cl_s, if_pos (show (if false then (1 : Int32) else 0) = 0 by decide), gd_t (inb_nI (by omega) (by omega))]
        exact (congrArg (fun X => clv (f_X11_steps X) _) h10').trans (by rw [e11, clv_s, gd_t (inb_nI (by omega) (by omega)), h12', e13])
    have rd : f_X11_read 4 M1 = some (nI (cn 4), M1) := read_r N1 (x := 4) (by omega)
    have ad : (8 : Int32) + nI (cn 4) = nI (8 + cn 4) := nI_add 8 (cn 4)
    unfold f_X11_playLine
    simp only [bnd_e]
    rw [e1', clv_s, rd, cl_s, rd, cl_s, ad]
    by_cases c : cn 4 = 0
    · rw [if_pos (by rw [c]; rfl)]
      have := hlo2 c
      subst this
      exact tail
    · have sub1 : nI (8 + cn 4) - 1 = nI (8 + cn 4 - 1) := by
        have := nI_add (8 + cn 4 - 1) 1
        rw [show 8 + cn 4 - 1 + 1 = 8 + cn 4 by omega] at this
        rw [← this, show (1 : Int32) = nI 1 from rfl, Int32.add_sub_cancel]
      have c1 : (nI (8 + cn 4 - 1)).toNatClampNeg = 8 + cn 4 - 1 := nI_clamp (by omega)
      have e330 : M1.1 330 (nI (8 + cn 4 - 1)).toNatClampNeg = nI lo := by
        rw [c1, f1.2.2 _ _ (by omega) (fun z => z)]
        exact hlo3 c
      rw [if_neg (show ¬ nI (cn 4) = (0 : Int32) from fun z => c (inj_nI (a := cn 4) (b := 0) (by omega) (by omega) z)), sub1, gd_t (inb_nI (by omega) (by omega)), e330]
      exact tail
  · refine ⟨fun s hs => ?_, fun s k hs hk => ?_⟩
    · unfold cnU
      by_cases cs : s = 4
      · subst cs
        rw [if_pos rfl]
        exact ⟨n13, by omega⟩
      · rw [if_neg cs, f13.2.2 _ _ (by omega) (fun z => by unfold FsI at z; omega)]
        exact N12.1 s hs
    · rw [f13.2.1 _ _ (by omega) (fun z => z)]
      unfold cnU at hk
      by_cases cs : s = 4
      · subst cs
        rw [if_pos rfl] at hk
        rcases Nat.lt_or_ge k (cn 4) with q | q
        · exact N12.2 4 k hs q
        · rw [show k = cn 4 by omega]
          exact ⟨w12, (nmv_own 4 (by omega) (cn 4) (by omega)).1⟩
      · rw [if_neg cs] at hk
        exact N12.2 s k hs hk
  · rw [keep _ _ (by omega), h12, setI_n (by omega), f11.2.2 _ _ (by omega), h10, setI_n (by omega), h9, setI_n (by omega), f8.2.2 _ _ (by omega), h7, setI_n (by omega), f6.2.2 _ _ (by omega), h5, setI_n (by omega), f4.2.2 _ _ (by omega), h3, setI_s]
  · rw [keep _ _ (by omega), h12, setI_n (by omega), f11.2.2 _ _ (by omega), h10, setI_n (by omega), h9, setI_n (by omega), f8.2.2 _ _ (by omega), h7, setI_n (by omega), f6.2.2 _ _ (by omega), h5, setI_s]
  · rw [c13, Nat.zero_add]
  · intro i f z
    have := d13 i f z
    rw [Nat.zero_add] at this
    exact this
  · have g : ∀ (X : Mem) (r : Nat) (v : Int32), (r = 330 ∨ r = 331 ∨ r = 332 ∨ r = 333 ∨ r = 334) → Fr (PyI (cn 4)) (fun r k => r = 316 ∧ k = 72 + cn 4) X (setI X r (8 + cn 4) v) := fun X r v hr => fr_I X (Or.inr ⟨hr, rfl⟩)
    have g3 := g M2 330 (nI mi) (by omega)
    have g5 := g M4 331 (nI k) (by omega)
    have g7 := g M6 332 (nI s) (by omega)
    have g9 := g M8 333 (nI po) (by omega)
    have g10 := g M9 334 (if y then 1 else 0) (by omega)
    have g12 : Fr (PyI (cn 4)) (fun r k => r = 316 ∧ k = 72 + cn 4) M11 (setI M11 335 (8 + cn 4) 0) := fr_I M11 (Or.inl (Or.inr (Or.inl ⟨rfl, rfl⟩)))
    rw [← h3] at g3; rw [← h5] at g5; rw [← h7] at g7; rw [← h9] at g9; rw [← h10] at g10; rw [← h12] at g12
    exact (f1.mono (fun _ _ z => z.elim) (fun _ _ z => by omega)).tr (f2.fr.tr (g3.tr (f4.fr.tr (g5.tr (f6.fr.tr (g7.tr (f8.fr.tr (g9.tr (g10.tr (f11.fr.tr (g12.tr (f13.mono (fun _ _ z => Or.inl z) (fun _ _ z => z.elim)))))))))))))
end PLAY
