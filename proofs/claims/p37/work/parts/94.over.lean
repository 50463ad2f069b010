/-! what was read taken over -/
def cpy (h j : Nat) (d : Nat → Int32) : Nat → Int32 := fun k => if k < j then d (h + k) else d k
theorem cpy_s (h j : Nat) (d : Nat → Int32) : upd (cpy h j d) j (cpy h j d (h + j)) = cpy h (j + 1) d := by
  funext k
  have e : cpy h j d (h + j) = d (h + j) := if_neg (by omega)
  rw [e]
  show (if k = j then d (h + j) else if k < j then d (h + k) else d k) = if k < j + 1 then d (h + k) else d k
  by_cases c : k = j
  · rw [if_pos c, if_pos (by omega), c]
  · rw [if_neg c]
    by_cases c2 : k < j
    · rw [if_pos c2, if_pos (by omega)]
    · rw [if_neg c2, if_neg (by omega)]
theorem copies_f {a h : Nat} (s1 : shg a = 20) (s2 : shgl a = 2 * h) (s3 : Int32.ofNat (shgl a) / 2 = nI h) (hh : h ≤ 80) (M : Mem) : f_X11_copies a M = some (sA M a (cpy h h (M.1 a))) := by
  have hl := lp_for (z := fun _ _ _ => none) (s := f_X11_copies_b2_s) (fun j (f : Nat → Int32 → Mem → Option Mem) => f a (nI j) (sA M a (cpy h j (M.1 a)))) h (some (sA M a (cpy h h (M.1 a)))) (fun j hj f => by
    show f_X11_copies_b2_s f a (nI j) (sA M a (cpy h j (M.1 a))) = f a (nI (j + 1)) (sA M a (cpy h (j + 1) (M.1 a)))
    unfold f_X11_copies_b2_s
    rw [gd_t s1, s3, if_neg (show ¬ nI h ≤ nI j from nI_ge hj (by omega)), s2, nI_add, gd_t (inb_nI (by omega) (by omega)), gd_t (inb_nI (by omega) (by omega)), nI_clamp (show j < 2 ^ 31 by omega), nI_clamp (show h + j < 2 ^ 31 by omega), setI_sA, sA_rw, sA_two, cpy_s, bnd_e, nI_1, bnd_e]) (fun f => by
    show f_X11_copies_b2_s f a (nI h) (sA M a (cpy h h (M.1 a))) = _
    unfold f_X11_copies_b2_s
    rw [gd_t s1, s3, if_pos (show nI h ≤ nI h from le_nI (by omega) (by omega) (Nat.le_refl _))]) fuel (by unfold fuel; omega)
  have e0 : cpy h 0 (M.1 a) = M.1 a := funext (fun i => if_neg (by omega))
  simp only [e0, sA_self] at hl
  unfold f_X11_copies
  exact hl
def cpR (a : Nat) : Bool := a = 313 ∨ a = 314 ∨ (317 ≤ a ∧ a ≤ 321) ∨ (324 ≤ a ∧ a ≤ 339)
theorem sh_cp : ∀ a, a < 340 → cpR a = true → shg a = 20 ∧ shgl a = 2 * hf a ∧ Int32.ofNat (shgl a) / 2 = nI (hf a) ∧ hf a ≤ 80 := by decide +kernel
theorem cp_f {a : Nat} (h1 : a < 340) (h2 : cpR a = true) (M : Mem) : f_X11_copies a M = some (sA M a (cpy (hf a) (hf a) (M.1 a))) := by
  obtain ⟨s1, s2, s3, s4⟩ := sh_cp a h1 h2
  exact copies_f s1 s2 s3 s4 M
/-- rows taken over one by one -/
def ovX (X : Nat → Bool) (M M' : Mem) : Prop := M'.2 = M.2 ∧ ∀ a k, M'.1 a k = if X a = true ∧ k < hf a then M.1 a (hf a + k) else M.1 a k
theorem ovX_0 (M : Mem) : ovX (fun _ => false) M M := ⟨rfl, fun a k => by rw [if_neg (fun z => Bool.false_ne_true z.1)]⟩
theorem ovX_s {X : Nat → Bool} {M M' : Mem} (h : ovX X M M') {a : Nat} (h1 : a < 340) (h2 : cpR a = true) (h3 : X a = false) : ∃ M2, f_X11_copies a M' = some M2 ∧ ovX (fun b => X b || decide (b = a)) M M2 := by
  refine ⟨_, cp_f h1 h2 M', by rw [← h.1]; rfl, fun b k => ?_⟩
  by_cases c : b = a
  · rw [c, sA_s]
    show (if k < hf a then M'.1 a (hf a + k) else M'.1 a k) = _
    have e : (fun b => X b || decide (b = a)) a = true := by
      show (X a || decide (a = a)) = true
      rw [h3, decide_eq_true rfl]
      rfl
    rw [e]
    by_cases c2 : k < hf a
    · rw [if_pos c2, if_pos ⟨rfl, c2⟩, h.2, if_neg (fun z => by rw [h3] at z; exact absurd z.1 (by decide))]
    · rw [if_neg c2, if_neg (fun z => c2 z.2), h.2, if_neg (fun z => c2 z.2)]
  · rw [sA_n _ _ _ c, h.2]
    have e : (fun b => X b || decide (b = a)) b = X b := by
      show (X b || decide (b = a)) = X b
      rw [decide_eq_false c, Bool.or_false]
    rw [e]
/-! the flags of kinds, narrowed -/
def flg (j : Nat) (d : Nat → Int32) : Nat → Int32 := fun k => if k < j then vp_nar .boolean (d (5 + k)) else d k
theorem flg_s (j : Nat) (d : Nat → Int32) (hj : j < 5) : upd (flg j d) j (vp_nar .boolean (flg j d (5 + j))) = flg (j + 1) d := by
  funext k
  have e : flg j d (5 + j) = d (5 + j) := if_neg (by omega)
  rw [e]
  show (if k = j then _ else if k < j then vp_nar .boolean (d (5 + k)) else d k) = if k < j + 1 then vp_nar .boolean (d (5 + k)) else d k
  by_cases c : k = j
  · rw [if_pos c, if_pos (by omega), c]
  · rw [if_neg c]
    by_cases c2 : k < j
    · rw [if_pos c2, if_pos (by omega)]
    · rw [if_neg c2, if_neg (by omega)]
theorem t225_f (M : Mem) {c : Nat} (hc : c ≤ 4) (h : M.1 313 1 = nI c) : ∃ M', f_X11_takesOver_b225 fuel 0 M = some M' ∧ M'.2 = M.2 ∧ M'.1 311 40 = 0 ∧ M'.1 343 0 = 0 ∧ M'.1 343 1 = 0 ∧ (∀ x, x < c → M'.1 340 (33 + x) = M.1 320 x) ∧ (∀ k, ¬ (33 ≤ k ∧ k < 33 + c) → M'.1 340 k = M.1 340 k) ∧ ∀ a k, ¬ (a = 311 ∧ k = 40) → a ≠ 343 → a ≠ 340 → M'.1 a k = M.1 a k := by
  have key : ∀ d x M, x + d = c → M.1 313 1 = nI c → ∀ m, ∃ M', f_X11_takesOver_b225 (m + d + 1) (nI x) M = some M' ∧ M'.2 = M.2 ∧ M'.1 311 40 = 0 ∧ M'.1 343 0 = 0 ∧ M'.1 343 1 = 0 ∧ (∀ y, x ≤ y → y < c → M'.1 340 (33 + y) = M.1 320 y) ∧ (∀ k, ¬ (33 + x ≤ k ∧ k < 33 + c) → M'.1 340 k = M.1 340 k) ∧ ∀ a k, ¬ (a = 311 ∧ k = 40) → a ≠ 343 → a ≠ 340 → M'.1 a k = M.1 a k := by
    intro d
    induction d with
    | zero =>
      intro x M hx h m
      have e : f_X11_takesOver_b225 (m + 0 + 1) (nI x) M = f_X11_takesOver_b225_s (f_X11_takesOver_b225 (m + 0)) (nI x) M := rfl
      refine ⟨setI (setI (setI M 311 40 0) 343 0 0) 343 1 0, ?_, rfl, ?_, ?_, setI_s, fun y h1 h2 => absurd h1 (by omega), fun k _ => ?_, fun a k h1 h2 h3 => ?_⟩
      · rw [e]
        unfold f_X11_takesOver_b225_s
        rw [h, if_pos (show nI c ≤ nI x by rw [show x = c by omega]; exact le_nI (by omega) (by omega) (Nat.le_refl _)), bnd_e, nar_b.1, bnd_e, bnd_e]
      · rw [setI_n (by omega), setI_n (by omega), setI_s]
      · rw [setI_n (by omega), setI_s]
      · rw [setI_n (by omega), setI_n (by omega), setI_n (by omega)]
      · rw [setI_n (by omega), setI_n (by omega), setI_n (by omega)]
    | succ d ih =>
      intro x M hx h m
      have e : f_X11_takesOver_b225 (m + (d + 1) + 1) (nI x) M = f_X11_takesOver_b225_s (f_X11_takesOver_b225 (m + d + 1)) (nI x) M := rfl
      have i33 : (33 : Int32) + nI x = nI (33 + x) := nI_add _ _
      obtain ⟨M1, d1⟩ : ∃ X, X = setI M 340 (33 + x) (M.1 320 x) := ⟨_, rfl⟩
      have r1 : ∀ a k, ¬ (a = 340 ∧ k = 33 + x) → M1.1 a k = M.1 a k := fun a k q => by rw [d1, setI_n (by omega)]
      obtain ⟨M', e1, e2, e3, e4, e5, e6, e7, e8⟩ := ih (x + 1) M1 (by omega) (by rw [r1 _ _ (by omega)]; exact h) m
      refine ⟨M', ?_, by rw [e2, d1]; rfl, e3, e4, e5, fun y h1 h2 => ?_, fun k hk => ?_, fun a k h1 h2 h3 => ?_⟩
      · rw [e]
        unfold f_X11_takesOver_b225_s
        rw [h, if_neg (show ¬ nI c ≤ nI x from nI_ge (by omega) (by omega)), gd_t (inb_nI (by omega) (by omega)), i33, gd_t (inb_nI (by omega) (by omega)), nI_clamp (show 33 + x < 2 ^ 31 by omega), nI_clamp (show x < 2 ^ 31 by omega), bnd_e, ← d1, nI_1, bnd_e]
        exact e1
      · by_cases z : y = x
        · rw [z, e7 _ (by omega), d1, setI_s]
        · rw [e6 y (by omega) h2, r1 _ _ (by omega)]
      · rw [e7 k (by omega), r1 _ _ (by omega)]
      · rw [e8 a k h1 h2 h3, r1 _ _ (by omega)]
  obtain ⟨M', e1, e2, e3, e4, e5, e6, e7, e8⟩ := key c 0 M (by omega) h (4999 - c)
  have ef : 4999 - c + c + 1 = fuel := by unfold fuel; omega
  rw [ef] at e1
  exact ⟨M', e1, e2, e3, e4, e5, fun x hx => e6 x (by omega) hx, fun k hk => e7 k (by omega), e8⟩
theorem t204_f (M : Mem) {c : Nat} (hc : c ≤ 4) (h : M.1 313 1 = nI c) : ∃ M', f_X11_takesOver_b204 fuel 0 M = some M' ∧ M'.2 = M.2 ∧ M'.1 311 40 = 0 ∧ M'.1 343 0 = 0 ∧ M'.1 343 1 = 0 ∧ (∀ x, x < c → M'.1 340 (33 + x) = M.1 320 x) ∧ (∀ k, k < 114 → ¬ (33 ≤ k ∧ k < 33 + c) → M'.1 340 k = 0) ∧ ∀ a k, ¬ (a = 311 ∧ k = 40) → a ≠ 343 → a ≠ 340 → M'.1 a k = M.1 a k := by
  have r : ∀ a, a ≠ 340 → (sA M 340 (zer 0 114 (M.1 340))).1 a = M.1 a := fun a ha => funext (fun k => sA_n M _ k ha)
  obtain ⟨M', e1, e2, e3, e4, e5, e6, e7, e8⟩ := t225_f (sA M 340 (zer 0 114 (M.1 340))) hc (by rw [r 313 (by omega)]; exact h)
  refine ⟨M', ?_, e2, e3, e4, e5, fun x hx => by rw [e6 x hx, r 320 (by omega)], fun k hk hn => ?_, fun a k h1 h2 h3 => by rw [e8 a k h1 h2 h3, r a h3]⟩
  · have hl := lp_for (z := fun _ _ => none) (s := f_X11_takesOver_b204_s) (fun j (f : Int32 → Mem → Option Mem) => f (nI j) (sA M 340 (zer 0 j (M.1 340)))) 114 (some M') (fun j hj f => by
      show f_X11_takesOver_b204_s f (nI j) (sA M 340 (zer 0 j (M.1 340))) = f (nI (j + 1)) (sA M 340 (zer 0 (j + 1) (M.1 340)))
      have z := zer_s 0 j (M.1 340)
      rw [Nat.zero_add] at z
      unfold f_X11_takesOver_b204_s
      rw [if_neg (show ¬ (114 : Int32) ≤ nI j from nI_ge (a := j) (b := 114) hj (by omega)), gd_t (inb_nI (by omega) (by omega)), nI_clamp (by omega), setI_sA, sA_rw, sA_two, z, bnd_e, nI_1, bnd_e]) (fun f => by
      show f_X11_takesOver_b204_s f (nI 114) (sA M 340 (zer 0 114 (M.1 340))) = _
      unfold f_X11_takesOver_b204_s
      rw [if_pos (show (114 : Int32) ≤ nI 114 by decide), e1]) fuel (by unfold fuel; omega)
    simp only [zer_0, sA_self] at hl
    exact hl
  · rw [e7 k hn, sA_s]
    exact if_pos (by omega)
