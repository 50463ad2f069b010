/-! THE REFERENCE RUNS over tokens, without a fault (p37) -/
def RP (n : Nat) (B : Nat → Nat) (ts : List Tok) (M : Mem) : Prop := ∃ st, st ≤ n ∧ TR n B st M ∧ LX n B ts st ∧ M.1 311 9 = 0
section RUN
variable {n : Nat} {B : Nat → Nat} {ts : List Tok} {t : Tok} {M M' : Mem}
theorem RP.adv (h : RP n B (t :: ts) M) : ∃ M', f_X11_steps M = some M' ∧ RP n B ts M' ∧ FsR M M' := by
  obtain ⟨st, hs, hr, ⟨l1, l2, l3, l4, l5⟩, h9⟩ := h
  obtain ⟨M', e, c, f⟩ := hr.adv hs
  exact ⟨M', e, ⟨_, (nx_le hs).1, c, l5, by rw [f.2.2 _ _ (by omega), h9]⟩, f⟩
theorem RP.rt (h : RP n B (t :: ts) M) : M.1 311 6 = t.1 ∧ M.1 311 7 = nI t.2.1 ∧ M.2.1 311 8 = lN t.2.2 ∧ M.1 311 9 = 0 := by
  obtain ⟨st, hs, ⟨r1, r2, r3, r4, r5, r6⟩, ⟨l1, l2, l3, l4, l5⟩, h9⟩ := h
  exact ⟨by rw [r3, l2], by rw [r4, l3], by rw [r5, l4], h9⟩
theorem RP.end (h : RP n B [] M) : M.1 311 6 = 0 ∧ M.1 311 9 = 0 := by
  obtain ⟨st, hs, ⟨r1, r2, r3, r4, r5, r6⟩, l, h9⟩ := h
  refine ⟨?_, h9⟩
  rw [r3]
  unfold rtN
  rw [if_pos (Nat.le_of_eq (show n = st from (show st = n from l).symm))]
theorem RP.f9 (h : RP n B ts M) : M.1 311 9 = 0 := h.choose_spec.2.2.2
theorem RP.cong (h : RP n B ts M) (e1 : ∀ k, 3 ≤ k → k ≤ 9 → M'.1 311 k = M.1 311 k) (e2 : M'.2.1 311 8 = M.2.1 311 8) (e3 : ∀ k, M'.1 312 k = M.1 312 k) : RP n B ts M' := by
  obtain ⟨st, hs, ⟨r5, r4, r6, r7, r8, ⟨u1, u2, u3⟩⟩, l, h9⟩ := h
  exact ⟨st, hs, ⟨by rw [e1 5 (by omega) (by omega), r5], by rw [e1 4 (by omega) (by omega), r4], by rw [e1 6 (by omega) (by omega), r6], by rw [e1 7 (by omega) (by omega), r7], by rw [e2, r8], ⟨by rw [e1 3 (by omega) (by omega), u1], u2, fun k hk => ⟨(u3 k hk).1, by rw [e3]; exact (u3 k hk).2⟩⟩⟩, l, by rw [e1 9 (by omega) (by omega), h9]⟩
theorem RP.I (h : RP n B ts M) {a k : Nat} {x : Int32} (ha : a ≠ 311 ∧ a ≠ 312) : RP n B ts (setI M a k x) :=
  h.cong (fun j _ _ => setI_n (by omega)) rfl (fun j => setI_n (by omega))
theorem setL_n {M : Mem} {a k a' k' : Nat} {x : Int64} (h : ¬ (a' = a ∧ k' = k)) : (setL M a k x).2.1 a' k' = M.2.1 a' k' := by rw [setL_2, if_neg h]
theorem RP.L (h : RP n B ts M) {a k : Nat} {x : Int64} (ha : a ≠ 311) : RP n B ts (setL M a k x) :=
  h.cong (fun j _ _ => rfl) (setL_n (by omega)) (fun j => rfl)
/-! frames: of the ghost rows, what is told apart -/
def Fr (I L : Nat → Nat → Prop) (M M' : Mem) : Prop := M'.2.2 = M.2.2 ∧ (∀ a k, ¬ (a = 311 ∧ k = 8) → ¬ L a k → M'.2.1 a k = M.2.1 a k) ∧ ∀ a k, ¬ (a = 311 ∧ (4 ≤ k ∧ k ≤ 7)) → ¬ I a k → M'.1 a k = M.1 a k
def noC : Nat → Nat → Prop := fun _ _ => False
theorem FsR.fr (h : FsR M M') {I L : Nat → Nat → Prop} : Fr I L M M' := ⟨h.1, fun a k x _ => h.2.1 a k x, fun a k x _ => h.2.2 a k x⟩
theorem Fr.refl (I L : Nat → Nat → Prop) (M : Mem) : Fr I L M M := ⟨rfl, fun _ _ _ _ => rfl, fun _ _ _ _ => rfl⟩
theorem Fr.tr {I L : Nat → Nat → Prop} {M'' : Mem} (h : Fr I L M M') (h' : Fr I L M' M'') : Fr I L M M'' := ⟨h'.1.trans h.1, fun a k x y => (h'.2.1 a k x y).trans (h.2.1 a k x y), fun a k x y => (h'.2.2 a k x y).trans (h.2.2 a k x y)⟩
theorem fr_I {I L : Nat → Nat → Prop} (M : Mem) {a k : Nat} {x : Int32} (h : I a k) : Fr I L M (setI M a k x) := ⟨rfl, fun _ _ _ _ => rfl, fun a' k' _ y => by
  show (if a' = a ∧ k' = k then x else M.1 a' k') = _
  rw [if_neg (fun z => y (by rw [z.1, z.2]; exact h))]⟩
theorem fr_L {I L : Nat → Nat → Prop} (M : Mem) {a k : Nat} {x : Int64} (h : L a k) : Fr I L M (setL M a k x) := ⟨rfl, fun a' k' _ y => setL_n (fun z => y (by rw [z.1, z.2]; exact h)), fun _ _ _ _ => rfl⟩
theorem Fr.mono {I L I' L' : Nat → Nat → Prop} (h : Fr I L M M') (hi : ∀ a k, I a k → I' a k) (hl : ∀ a k, L a k → L' a k) : Fr I' L' M M' := ⟨h.1, fun a k x y => h.2.1 a k x (fun z => y (hl a k z)), fun a k x y => h.2.2 a k x (fun z => y (hi a k z))⟩
/-! words, numbers, signs -/
theorem risY {s : Nat} (h : RP n B (((1 : Int32), (0 : Nat), scd s) :: ts) M) (h1 : 28 ≤ s) (h2 : s < 44) : f_X11_is s M = some (1, M) := by
  obtain ⟨r6, -, r8, r9⟩ := h.rt
  unfold f_X11_is
  rw [if_pos r9, if_pos r6, spl_f _ h1 h2, cl_s, if_pos (by rw [r8]; exact (lg0 _ _).mpr rfl)]
theorem risN (h : RP n B (t :: ts) M) {s : Nat} (h1 : 28 ≤ s) (h2 : s < 44) (hw : t.2.2 < 2 ^ 30) (hn : t.1 ≠ 1 ∨ t.2.2 ≠ scd s) : f_X11_is s M = some (0, M) := by
  obtain ⟨r6, -, r8, r9⟩ := h.rt
  have s1 := scd_ok s h1 h2
  unfold f_X11_is
  rw [if_pos r9, r6]
  by_cases c : t.1 = 1
  · rw [if_pos c, spl_f _ h1 h2, cl_s, if_neg]
    rw [r8]
    intro z
    exact (hn.resolve_left (fun q => q c)) (lN_inj (by omega) (by omega) ((lg0 _ _).mp z))
  · rw [if_neg c]
/-- no own word -/
def NoOwn (w : Nat) : Prop := w < 2 ^ 30 ∧ ∀ s, 28 ≤ s → s < 44 → w ≠ scd s
theorem rownN {w : Nat} (h : RP n B (((1 : Int32), (0 : Nat), w) :: ts) M) (hw : NoOwn w) : f_X11_isOwn M = some (0, M) := by
  have k : ∀ s, 28 ≤ s → s < 44 → f_X11_is s M = some (0, M) := fun s h1 h2 => risN h h1 h2 hw.1 (Or.inr (hw.2 s h1 h2))
  unfold f_X11_isOwn f_X11_isOwn_b90 f_X11_isOwn_b95
  rw [k 28 (by omega) (by omega), cl_s, k 29 (by omega) (by omega), cl_s, k 30 (by omega) (by omega), cl_s, k 31 (by omega) (by omega), cl_s, k 32 (by omega) (by omega), cl_s, k 33 (by omega) (by omega), cl_s, k 34 (by omega) (by omega), cl_s, k 35 (by omega) (by omega), cl_s, k 36 (by omega) (by omega), cl_s, k 37 (by omega) (by omega), cl_s, k 38 (by omega) (by omega), cl_s, k 39 (by omega) (by omega), cl_s, k 40 (by omega) (by omega), cl_s, k 41 (by omega) (by omega), cl_s, k 42 (by omega) (by omega), cl_s, k 43 (by omega) (by omega), cl_s]
  rfl
theorem risName {w : Nat} (h : RP n B (((1 : Int32), (0 : Nat), w) :: ts) M) (hw : NoOwn w) : f_X11_isName M = some (1, M) := by
  obtain ⟨r6, -⟩ := h.rt
  unfold f_X11_isName
  rw [if_pos r6, rownN h hw, cl_s, if_pos rfl]
theorem number_r {v w lo hi : Nat} (h : RP n B (((2 : Int32), v, w) :: ts) M) (h1 : lo ≤ v) (h2 : v ≤ hi) (h3 : hi < 2 ^ 30) : ∃ M', f_X11_number (nI lo) (nI hi) M = some (nI v, M') ∧ RP n B ts M' ∧ FsR M M' := by
  obtain ⟨r6, r7, -, r9⟩ := h.rt
  obtain ⟨M', e, p, f⟩ := h.adv
  refine ⟨M', ?_, p, f⟩
  have r7' : M.1 311 7 = nI v := r7
  have wi : f_X11_within (nI v).toInt64 (nI lo).toInt64 (nI hi).toInt64 M = some (if nI lo ≤ nI v ∧ nI v ≤ nI hi then 1 else 0, M) := within32 _ _ _ _
  unfold f_X11_number f_X11_number_b14
  rw [if_pos (show M.1 311 6 = 2 from r6), must_t r9 (by decide), cl_s, if_neg (show ¬ (1 : Int32) = 0 by decide), r7', wi, cl_s, if_pos (show nI lo ≤ nI v ∧ nI v ≤ nI hi from ⟨le_nI (by omega) (by omega) h1, le_nI (by omega) (by omega) h2⟩), must_t r9 (by decide), cl_s, if_neg (show ¬ (1 : Int32) = 0 by decide), bnd_e, r7', e, clv_s]
theorem takes_r {s : Int32} (h : RP n B ((s, (0 : Nat), (0 : Nat)) :: ts) M) : ∃ M', f_X11_takes s M = some M' ∧ RP n B ts M' ∧ FsR M M' := by
  obtain ⟨r6, -, -, r9⟩ := h.rt
  obtain ⟨M', e, p, f⟩ := h.adv
  refine ⟨M', ?_, p, f⟩
  unfold f_X11_takes f_X11_takes_b14
  rw [if_pos (show M.1 311 6 = s from r6), must_t r9 (by decide), cl_s, if_neg (show ¬ (1 : Int32) = 0 by decide), e, clv_s]
theorem takesWord_r {s : Nat} (h : RP n B (((1 : Int32), (0 : Nat), scd s) :: ts) M) (h1 : 28 ≤ s) (h2 : s < 44) : ∃ M', f_X11_takesWord s M = some M' ∧ RP n B ts M' ∧ FsR M M' := by
  obtain ⟨-, -, -, r9⟩ := h.rt
  obtain ⟨M', e, p, f⟩ := h.adv
  refine ⟨M', ?_, p, f⟩
  unfold f_X11_takesWord
  rw [risY h h1 h2, cl_s, must_t r9 (by decide), cl_s, if_neg (show ¬ (1 : Int32) = 0 by decide), e, clv_s]
theorem rmayY {s : Nat} (h : RP n B (((1 : Int32), (0 : Nat), scd s) :: ts) M) (h1 : 28 ≤ s) (h2 : s < 44) : ∃ M', f_X11_maybe s M = some (1, M') ∧ RP n B ts M' ∧ FsR M M' := by
  obtain ⟨M', e, p, f⟩ := h.adv
  refine ⟨M', ?_, p, f⟩
  unfold f_X11_maybe
  rw [risY h h1 h2, cl_s, if_neg (show ¬ (1 : Int32) = 0 by decide), e, clv_s, gd_t (by decide)]
theorem rmayN {s : Nat} (h : RP n B (t :: ts) M) (h1 : 28 ≤ s) (h2 : s < 44) (hw : t.2.2 < 2 ^ 30) (hn : t.1 ≠ 1 ∨ t.2.2 ≠ scd s) : f_X11_maybe s M = some (0, M) := by
  unfold f_X11_maybe
  rw [risN h h1 h2 hw hn, cl_s, if_pos rfl, gd_t (by decide)]
/-! names -/
/-- the names told so far: sort x has cn x of them, the j-th is nm x j -/
def NmS (cn : Nat → Nat) (nm : Nat → Nat → Nat) (M : Mem) : Prop := (∀ s, s < 6 → M.1 313 (6 + s) = nI (cn s) ∧ cn s ≤ 8) ∧ ∀ s k, s < 5 → k < cn s → M.2.1 316 (40 + 8 * s + k) = lN (nm s k) ∧ nm s k < 2 ^ 30
theorem rdN_of {cn : Nat → Nat} {nm : Nat → Nat → Nat} (N : NmS cn nm M) {s : Nat} (hs : s < 6) : rdN M s = cn s := by
  obtain ⟨e, h⟩ := N.1 s hs
  unfold rdN
  rw [e, nI_clamp (by omega)]
theorem rnamY {cn : Nat → Nat} {nm : Nat → Nat → Nat} {x j w : Nat} (N : NmS cn nm M) (hx : x < 5) (hj : j < cn x) (hw : M.2.1 311 8 = lN w) (hwj : nm x j = w) (hu : ∀ i, i < cn x → nm x i = w → i = j) : f_X11_named (nI x) M = some (nI j, M) := by
  obtain ⟨e, h⟩ := N.1 x (by omega)
  have r := rdN_of N (show x < 6 by omega)
  have l30 := (N.2 x j hx hj).2
  rcases named_f (w := w) hx hw (by rw [r, e]) (by omega) with ⟨k, hk, e1, e2⟩ | ⟨no, -⟩
  · rw [r] at hk
    have q := (N.2 x k hx hk)
    rw [e1] at q
    have : w = nm x k := lN_inj (by omega) (by omega) q.1
    rw [hu k hk this.symm] at e2
    exact e2
  · exact absurd (by rw [(N.2 x j hx hj).1, hwj]) (no j (by rw [r]; exact hj))
theorem rnamN {cn : Nat → Nat} {nm : Nat → Nat → Nat} {x w : Nat} (N : NmS cn nm M) (hx : x < 5) (hw : M.2.1 311 8 = lN w) (hw30 : w < 2 ^ 30) (hno : ∀ i, i < cn x → nm x i ≠ w) : f_X11_named (nI x) M = some (-1, M) := by
  obtain ⟨e, h⟩ := N.1 x (by omega)
  have r := rdN_of N (show x < 6 by omega)
  rcases named_f (w := w) hx hw (by rw [r, e]) (by omega) with ⟨k, hk, e1, e2⟩ | ⟨-, e2⟩
  · rw [r] at hk
    have q := (N.2 x k hx hk)
    rw [e1] at q
    exact absurd (lN_inj (by omega) (by omega) q.1).symm (hno k hk)
  · exact e2
theorem read_r {cn : Nat → Nat} {nm : Nat → Nat → Nat} {x : Nat} (N : NmS cn nm M) (hx : x < 6) : f_X11_read (nI x) M = some (nI (cn x), M) := by
  unfold f_X11_read
  rw [show (6 : Int32) + nI x = nI (6 + x) from nI_add _ _, gd_t (inb_nI (by omega) (by omega)), nI_clamp (by omega), (N.1 x hx).1]
theorem newName_r {cn : Nat → Nat} {nm : Nat → Nat → Nat} {x w : Nat} (h : RP n B (((1 : Int32), (0 : Nat), w) :: ts) M) (hw : NoOwn w) (N : NmS cn nm M) (hx : x < 5) (hc : cn x < 8) (hno : ∀ s i, s < 5 → i < cn s → nm s i ≠ w) :
    ∃ M', f_X11_newName (nI x) M = some M' ∧ RP n B ts M' ∧ M'.2.1 316 (40 + 8 * x + cn x) = lN w ∧ Fr noC (fun a k => a = 316 ∧ k = 40 + 8 * x + cn x) M M' := by
  obtain ⟨r6, -, r8, r9⟩ := h.rt
  have ixx : (40 + (8 * nI x)) + nI (cn x) = nI (40 + 8 * x + cn x) := by
    rw [show (8 : Int32) = nI 8 from rfl, nI_mul', show (40 : Int32) = nI 40 from rfl, nI_add, nI_add]
  obtain ⟨X, hX⟩ : ∃ X, X = setL M 316 (40 + 8 * x + cn x) (M.2.1 311 8) := ⟨_, rfl⟩
  have pX : RP n B (((1 : Int32), (0 : Nat), w) :: ts) X := by rw [hX]; exact h.L (by omega)
  obtain ⟨M', e, p, f⟩ := pX.adv
  have key : f_X11_newName_b17 fuel (nI x) 1 0 M = some M' := by
    have hl := lp_for (z := fun _ _ _ _ => none) (s := f_X11_newName_b17_s) (fun j (g : Int32 → Int32 → Int32 → Mem → Option Mem) => g (nI x) 1 (nI j) M) 5 (some M') (fun j hj g => by
      show f_X11_newName_b17_s g (nI x) 1 (nI j) M = g (nI x) 1 (nI (j + 1)) M
      unfold f_X11_newName_b17_s
      simp only [bnd_e]
      rw [if_neg (show ¬ (5 : Int32) ≤ nI j by rw [show (5 : Int32) = nI 5 from rfl]; exact nI_ge (by omega) (by omega)), rnamN N (show j < 5 from hj) r8 hw.1 (fun i hi => hno j i hj hi), cl_s, if_neg (show ¬ (0 : Int32) ≤ -1 by decide), nI_1]
      rfl) (fun g => by
      show f_X11_newName_b17_s g (nI x) 1 (nI 5) M = some M'
      unfold f_X11_newName_b17_s
      simp only [bnd_e]
      rw [if_pos (show (5 : Int32) ≤ nI 5 by decide), must_t r9 (by decide), cl_s, if_neg (show ¬ (1 : Int32) = 0 by decide), read_r N (by omega), cl_s, ixx, gd_t (inb_nI (by omega) (by omega)), nI_clamp (by omega), ← hX, e, clv_s]) fuel (by unfold fuel; omega)
    exact hl
  refine ⟨M', ?_, p, ?_, ?_⟩
  · unfold f_X11_newName
    rw [risName h hw, cl_s, must_t r9 (by decide), cl_s, if_neg (show ¬ (1 : Int32) = 0 by decide)]
    exact key
  · rw [f.2.1 _ _ (by omega), hX, setL_2, if_pos ⟨rfl, rfl⟩, r8]
  · refine Fr.tr (M' := X) ?_ f.fr
    rw [hX]
    exact fr_L M ⟨rfl, rfl⟩
/-- a known name -/
theorem looksUp_r {cn : Nat → Nat} {nm : Nat → Nat → Nat} {x j w : Nat} (h : RP n B (((1 : Int32), (0 : Nat), w) :: ts) M) (hw : NoOwn w) (N : NmS cn nm M) (hx : x < 5) (hj : j < cn x) (hwj : nm x j = w) (hu : ∀ i, i < cn x → nm x i = w → i = j) : f_X11_looksUp (nI x) M = some (nI j, M) := by
  obtain ⟨r6, -, r8, r9⟩ := h.rt
  have c8 := (N.1 x (by omega)).2
  have nj := rnamY N hx hj r8 hwj hu
  unfold f_X11_looksUp f_X11_looksUp_b26
  rw [risName h hw, cl_s, must_t r9 (by decide), cl_s, if_neg (show ¬ (1 : Int32) = 0 by decide), nj, cl_s, if_neg (neg_nI (by omega)), must_t r9 (by decide), cl_s, if_neg (show ¬ (1 : Int32) = 0 by decide), nj, cl_s]
theorem known_r {cn : Nat → Nat} {nm : Nat → Nat → Nat} {x j w : Nat} (h : RP n B (((1 : Int32), (0 : Nat), w) :: ts) M) (hw : NoOwn w) (N : NmS cn nm M) (hx : x < 5) (hj : j < cn x) (hwj : nm x j = w) (hu : ∀ i, i < cn x → nm x i = w → i = j) : ∃ M', f_X11_known (nI x) M = some (nI j, M') ∧ RP n B ts M' ∧ FsR M M' := by
  obtain ⟨M', e, p, f⟩ := h.adv
  refine ⟨M', ?_, p, f⟩
  unfold f_X11_known
  rw [looksUp_r h hw N hx hj hwj hu, cl_s, if_pos h.f9, e, clv_s]
/-- a line begins -/
theorem begins_r {cn : Nat → Nat} {nm : Nat → Nat → Nat} {x m : Nat} (h : RP n B (t :: ts) M) (N : NmS cn nm M) (hx : x < 6) (hm : cn x < m) (hm2 : m < 2 ^ 30) : ∃ M', f_X11_begins (nI x) (nI m) M = some (1, M') ∧ RP n B ts M' ∧ FsR M M' := by
  obtain ⟨M', e, p, f⟩ := h.adv
  refine ⟨M', ?_, p, f⟩
  unfold f_X11_begins f_X11_begins_b15
  rw [read_r N hx, cl_s, if_neg (show ¬ nI m ≤ nI (cn x) from nI_ge hm (by omega)), must_t h.f9 (by decide), cl_s, if_neg (show ¬ (1 : Int32) = 0 by decide), e, clv_s]
end RUN
