/-! the lines of a text -/
theorem sem_k {rc : Option (Int32 × Mem)} {z : Mem → Option (Int32 × Mem)} {k : Mem → Option (Int32 × Mem)} : (cl rc fun r1 M1 => if r1 = 0 then z M1 else cl (f_X7_take 5 M1) fun r2 M2 => if r2 = 0 then z M2 else k M2) = cl (semC rc) fun r M => if r = 0 then z M else k M := by
  unfold semC
  cases rc with
  | none => rfl
  | some q =>
    obtain ⟨r, M⟩ := q
    rw [cl_s, cl_s]
    by_cases c : r = 0
    · rw [if_pos c, if_pos c, cl_s, if_pos rfl]
    · rw [if_neg c, if_neg c]
theorem tx_d {Mr : Mem} (h9 : Mr.1 311 9 ≠ 0) (m : Nat) : f_X11_text_b50 (m + 1) Mr = f_X11_text_b71 Mr := by
  show f_X11_text_b50_s (f_X11_text_b50 m) Mr = _
  unfold f_X11_text_b50_s
  rw [if_neg h9]
theorem tloop_ls {n : Nat} {B : Nat → Nat} {T : Nat} (m1 m2 : Nat) : ∀ d x st Mc Mr, n - st ≤ d → x ≤ st → PP n B T st Mc Mr →
    (∃ st' Mc' Mr', f_X10_text_b33 (m1 + d + 1) (nI x) Mc = f_X10_text_b93 Mc' ∧ f_X11_text_b50 (m2 + d + 1) Mr = f_X11_text_b71 Mr' ∧ PP n B T st' Mc' Mr' ∧ FPC T Mc Mc' ∧ FPR Mr Mr') ∨
    (∃ Mc' Mr', f_X10_text_b33 (m1 + d + 1) (nI x) Mc = f_X10_text_b76 Mc' ∧ f_X11_text_b50 (m2 + d + 1) Mr = f_X11_text_b71 Mr' ∧ FL Mc' Mr' ∧ FPC T Mc Mc' ∧ FPR Mr Mr') := by
  intro d
  induction d with
  | zero =>
    intro x st Mc Mr hd hx h
    have n6 := FL.n600 h.1
    have hs := h.1.1
    have kw := (k_word (LPt.k h.1)).2.2.2
    have ke := k_end (LPt.k h.1)
    have c1 : ctN n B st = 1 := Decidable.byContradiction fun z => by have := ke.2 z; omega
    have e1 : f_X10_text_b33 (m1 + 0 + 1) (nI x) Mc = f_X10_text_b33_s (f_X10_text_b33 (m1 + 0)) (nI x) Mc := rfl
    have e2 : f_X11_text_b50 (m2 + 0 + 1) Mr = f_X11_text_b50_s (f_X11_text_b50 (m2 + 0)) Mr := rfl
    rw [e1, e2]
    unfold f_X10_text_b33_s f_X11_text_b50_s
    rw [if_neg (show ¬ (600 : Int32) < nI x from fun u => by have := (lt_nI (a := 600) (b := x) (by omega) (by omega)).mp u; omega), h.1.2.1.2.2.2.1, gd_t kw, if_pos c1, if_pos h.1.2.2.2, h.1.2.2.1.2.2.1, if_pos (ke.1.mpr c1)]
    exact Or.inl ⟨st, Mc, Mr, rfl, rfl, h, FPC.refl _ _, FPR.refl _⟩
  | succ d ih =>
    intro x st Mc Mr hd hx h
    have n6 := FL.n600 h.1
    have hs := h.1.1
    have kw := (k_word (LPt.k h.1)).2.2.2
    have ke := k_end (LPt.k h.1)
    have e1 : f_X10_text_b33 (m1 + (d + 1) + 1) (nI x) Mc = f_X10_text_b33_s (f_X10_text_b33 (m1 + d + 1)) (nI x) Mc := rfl
    have e2 : f_X11_text_b50 (m2 + (d + 1) + 1) Mr = f_X11_text_b50_s (f_X11_text_b50 (m2 + d + 1)) Mr := rfl
    rw [e1, e2]
    unfold f_X10_text_b33_s f_X11_text_b50_s
    rw [if_neg (show ¬ (600 : Int32) < nI x from fun u => by have := (lt_nI (a := 600) (b := x) (by omega) (by omega)).mp u; omega), h.1.2.1.2.2.2.1, gd_t kw, if_pos h.1.2.2.2, h.1.2.2.1.2.2.1]
    by_cases c1 : ctN n B st = 1
    · rw [if_pos c1, if_pos (ke.1.mpr c1)]
      exact Or.inl ⟨st, Mc, Mr, rfl, rfl, h, FPC.refl _ _, FPR.refl _⟩
    · rw [if_neg c1, if_neg (fun z => c1 (ke.1.mp z)), sem_k (k := fun M2 => bnd (nI x + 1) fun a1 => f_X10_text_b33 (m1 + d + 1) a1 M2)]
      rcases tell_ls h (ke.2 c1) with ⟨st2, Mc2, Mr2, l2, e3, e4, P2, oc, or⟩ | ⟨Mc2, Mr2, e3, e4, f2, oc, or⟩
      · rw [e3, cl_s, if_neg (show ¬ (1 : Int32) = 0 by decide), nI_1, bnd_e, e4, clv_s]
        rcases ih (x + 1) st2 Mc2 Mr2 (by omega) (by omega) P2 with ⟨st', Mc', Mr', z1, z2, z3, z4, z5⟩ | ⟨Mc', Mr', z1, z2, z3, z4, z5⟩
        · exact Or.inl ⟨st', Mc', Mr', z1, z2, z3, oc.tr z4, or.tr z5⟩
        · exact Or.inr ⟨Mc', Mr', z1, z2, z3, oc.tr z4, or.tr z5⟩
      · rw [e3, cl_s, if_pos rfl, e4, clv_s, tx_d f2.1]
        exact Or.inr ⟨Mc2, Mr2, rfl, rfl, f2, oc, or⟩
