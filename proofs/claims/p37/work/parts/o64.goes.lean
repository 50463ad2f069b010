/-! THE ODOMETER: the law's goesOn -/
theorem HB.later {M : Mem} (h : HB M) {n k : Nat} {x : Int32} (hn : 1000 ≤ n) : HB (setI M n k x) :=
  h.offT ⟨rfl, fun a h1 _ => funext (fun j => setI_n (Or.inl (by omega))), fun a _ h2 => funext (fun j => setI_n (Or.inl (by omega))), ⟨funext (fun j => setI_n (Or.inl (by omega))), funext (fun j => setI_n (Or.inl (by omega)))⟩, setI_n (Or.inl (by omega)), setI_n (Or.inl (by omega)), setI_n (Or.inl (by omega)), setI_n (Or.inl (by omega))⟩
theorem TolS.cong {sm : Nat → Nat → Nat} {M M' : Mem} (h : TolS sm M) (e : ∀ a, 313 ≤ a → a ≤ 339 → M'.1 a = M.1 a) : TolS sm M' := by
  unfold TolS TolD FdC at h ⊢
  rw [e 313 (by omega) (by omega), e 317 (by omega) (by omega), e 318 (by omega) (by omega), e 319 (by omega) (by omega), e 324 (by omega) (by omega), e 325 (by omega) (by omega), e 326 (by omega) (by omega), e 331 (by omega) (by omega), e 335 (by omega) (by omega), e 336 (by omega) (by omega), e 337 (by omega) (by omega), e 338 (by omega) (by omega), e 339 (by omega) (by omega)]
  exact h
/-- only row n and the class's own rows change -/
def KL (n : Nat) (M M' : Mem) : Prop := M'.2 = M.2 ∧ ∀ a, a ≠ n → 313 ≤ a → M'.1 a = M.1 a
theorem KL.refl (n : Nat) (M : Mem) : KL n M M := ⟨rfl, fun _ _ _ => rfl⟩
theorem KL.tr {n : Nat} {A B C : Mem} (h : KL n A B) (h' : KL n B C) : KL n A C := ⟨h'.1.trans h.1, fun a h1 h2 => (h'.2 a h1 h2).trans (h.2 a h1 h2)⟩
theorem OffC.far {M M' : Mem} (h : HB M) (o : OffC (tld M) M M') {a : Nat} (ha : 313 ≤ a) : M'.1 a = M.1 a := o.row (by omega) (fun q _ => by
  have := h.1.1
  unfold TT at this
  omega)
theorem OffC.kl {M M' : Mem} (h : HB M) (o : OffC (tld M) M M') (n : Nat) : KL n M M' := ⟨o.1, fun a _ h2 => o.far h h2⟩
theorem KL.tol {sm : Nat → Nat → Nat} {n : Nat} {M M' : Mem} (hn : 1000 ≤ n) (k : KL n M M') (h : TolS sm M) : TolS sm M' := h.cong (fun a h1 h2 => k.2 a (by omega) h1)
theorem kl_set {n k : Nat} {x : Int32} (M : Mem) : KL n M (setI M n k x) := ⟨rfl, fun a h _ => funext (fun j => setI_n (Or.inl h))⟩
section GOES
variable {N : Nat} {xs : Nat → Int32} {n : Nat}
theorem LateA.off {M M' : Mem} {l : Nat → Nat} (A : LateA M n l) (h2 : M'.2 = M.2) (h1 : M'.1 n = M.1 n) : LateA M' n l := by
  obtain ⟨a1, a2, a3, a4⟩ := A
  unfold LateA dsc dln at *
  rw [h2, h1]
  exact ⟨a1, a2, a3, a4⟩
theorem LateA.set {M : Mem} {l : Nat → Nat} (A : LateA M n l) {j v : Nat} (hv : v < 2 ^ 20) : LateA (setI M n j (nI v)) n (fun c => if c = j then v else l c) := by
  obtain ⟨a1, a2, a3, a4⟩ := A
  refine ⟨a1, a2, fun c hc => ?_, fun c hc => ?_⟩
  · show (setI M n j (nI v)).1 n c = nI (if c = j then v else l c)
    by_cases z : c = j
    · rw [if_pos z, z, setI_s]
    · rw [if_neg z, setI_n (Or.inr z)]
      exact a3 c hc
  · show (if c = j then v else l c) < 2 ^ 20
    split
    · exact hv
    · exact a4 c hc
def Box (sm : Nat → Nat → Nat) (l : Nat → Nat) : Prop := ∀ c, c < 3 → sca sm c ≤ l c ∧ l c ≤ scb sm c
theorem ix_1 : ∀ j, j < 3 → nI (j + 1) + (-1) = nI j ∧ ¬ nI j < 0 := by decide
theorem goes_2 (hN : N < 2 ^ 30) (hn : 1000 ≤ n) : ∀ j, j ≤ 3 → ∀ M l k, j < k → HB M → TolS (smN N xs) M → LateA M n l → Box (smN N xs) l →
    ∃ r M' l', f_L_goesOn_b2 N xs k n (nI j + (-1)) M = some (r, M') ∧ HB M' ∧ TolS (smN N xs) M' ∧ LateA M' n l' ∧ Box (smN N xs) l' ∧ KL n M M' ∧
    ((r = 1 ∧ ∃ c, c < j ∧ l c < scb (smN N xs) c ∧ l' c = l c + 1 ∧ (∀ d, c < d → d < j → l d = scb (smN N xs) d ∧ l' d = sca (smN N xs) d) ∧ ∀ d, d < c ∨ j ≤ d → l' d = l d) ∨
     (r = 0 ∧ (∀ d, d < j → l d = scb (smN N xs) d ∧ l' d = sca (smN N xs) d) ∧ ∀ d, j ≤ d → l' d = l d)) := by
  have hs := smN_ok N xs
  intro j
  induction j with
  | zero =>
    intro _ M l k hk h T A B
    obtain ⟨k, rfl⟩ : ∃ k', k = k' + 1 := ⟨k - 1, by omega⟩
    refine ⟨0, M, l, ?_, h, T, A, B, KL.refl n M, Or.inr ⟨rfl, fun d hd => absurd hd (Nat.not_lt_zero d), fun d _ => rfl⟩⟩
    show f_L_goesOn_b2_s N xs (f_L_goesOn_b2 N xs k) n (nI 0 + (-1)) M = _
    unfold f_L_goesOn_b2_s
    rw [if_pos (by decide)]
  | succ j ih =>
    intro hj M l k hk h T A B
    obtain ⟨k, rfl⟩ : ∃ k', k = k' + 1 := ⟨k - 1, by omega⟩
    obtain ⟨i1, i2⟩ := ix_1 j (by omega)
    obtain ⟨c0, -⟩ := d_cn hs T
    have hj3 : j < 3 := by omega
    obtain ⟨bl, bu⟩ := B j hj3
    obtain ⟨s1, s2⟩ := s_c1 hs j hj3
    obtain ⟨r1, M1, e1, v1, h1, o1⟩ := (an_camera01 h (c := j) (by rw [c0]; exact hj3)).2.1
    have k1 := o1.kl h n
    have T1 := k1.tol hn T
    have A1 : LateA M1 n l := A.off o1.1 (o1.far h (by omega))
    have v1' : r1 = nI (scb (smN N xs) j) := by rw [v1]; exact (d_cam hs T hj3).2.1
    have lj : M.1 n (nI j).toNatClampNeg = nI (l j) := by rw [nI_clamp (by omega)]; exact A.2.2.1 j hj3
    have l1 : M1.1 n (nI j).toNatClampNeg = nI (l j) := by rw [nI_clamp (by omega)]; exact A1.2.2.1 j hj3
    by_cases z : scb (smN N xs) j ≤ l j
    · have ez : l j = scb (smN N xs) j := by omega
      obtain ⟨r2, M2, e2, v2, h2, o2⟩ := (an_camera01 h1 (c := j) (by rw [(d_cn hs T1).1]; exact hj3)).1
      have k2 := o2.kl h1 n
      have T2 := k2.tol hn T1
      have A2 : LateA M2 n l := A1.off o2.1 (o2.far h1 (by omega))
      have v2' : r2 = nI (sca (smN N xs) j) := by rw [v2]; exact (d_cam hs T1 hj3).1
      have A3 := A2.set (j := j) (v := sca (smN N xs) j) (by omega)
      have B3 : Box (smN N xs) (fun c => if c = j then sca (smN N xs) j else l c) := fun c hc => by
        show sca (smN N xs) c ≤ (if c = j then sca (smN N xs) j else l c) ∧ (if c = j then sca (smN N xs) j else l c) ≤ scb (smN N xs) c
        by_cases y : c = j
        · rw [if_pos y, y]; exact ⟨Nat.le_refl _, s1⟩
        · rw [if_neg y]; exact B c hc
      obtain ⟨r, M', l', e, h', T', A', B', k', v⟩ := ih (by omega) (setI M2 n j (nI (sca (smN N xs) j))) _ k (by omega) (h2.later hn) ((kl_set M2).tol hn T2) A3 B3
      refine ⟨r, M', l', ?_, h', T', A', B', k1.tr (k2.tr ((kl_set M2).tr k')), ?_⟩
      · have u : ∀ x, f_L_goesOn_b2 N xs (k + 1) n x M = f_L_goesOn_b2_s N xs (f_L_goesOn_b2 N xs k) n x M := fun _ => rfl
        rw [i1, u]
        unfold f_L_goesOn_b2_s
        simp only [bnd_e]
        rw [if_neg i2, gd_t A.1, A.2.1, gd_t (inb_nI hj3 (by omega)), e1, cl_s, v1', lj, if_pos (le_nI (by omega) (by omega) z), e2, cl_s, gd_t A2.1, A2.2.1, gd_t (inb_nI hj3 (by omega)), v2', nI_clamp (by omega)]
        exact e
      · rcases v with ⟨w1, c, w2, w3, w4, w5, w6⟩ | ⟨w1, w2, w3⟩
        · refine Or.inl ⟨w1, c, by omega, ?_, ?_, fun d hd hd2 => ?_, fun d hd => ?_⟩
          · rw [if_neg (by omega)] at w3; exact w3
          · rw [if_neg (by omega)] at w4; exact w4
          · rcases Nat.lt_or_ge d j with y | y
            · have := w5 d hd y
              rw [if_neg (by omega)] at this
              exact this
            · have ed : d = j := by omega
              have := w6 d (Or.inr y)
              rw [if_pos ed] at this
              rw [ed] at this ⊢
              exact ⟨ez, this⟩
          · have := w6 d (by omega)
            rw [if_neg (by omega)] at this
            exact this
        · refine Or.inr ⟨w1, fun d hd => ?_, fun d hd => ?_⟩
          · rcases Nat.lt_or_ge d j with y | y
            · have := w2 d y
              rw [if_neg (by omega)] at this
              exact this
            · have ed : d = j := by omega
              have := w3 d y
              rw [if_pos ed] at this
              rw [ed] at this ⊢
              exact ⟨ez, this⟩
          · have := w3 d (by omega)
            rw [if_neg (by omega)] at this
            exact this
    · have A4 := A1.set (j := j) (v := l j + 1) (by omega)
      refine ⟨1, setI M1 n j (nI (l j + 1)), _, ?_, h1.later hn, (kl_set M1).tol hn T1, A4, fun c hc => ?_, k1.tr (kl_set M1), Or.inl ⟨rfl, j, by omega, by omega, if_pos rfl, fun d h1 h2 => absurd h2 (by omega), fun d hd => if_neg (by omega)⟩⟩
      · have u : ∀ x, f_L_goesOn_b2 N xs (k + 1) n x M = f_L_goesOn_b2_s N xs (f_L_goesOn_b2 N xs k) n x M := fun _ => rfl
        rw [i1, u]
        unfold f_L_goesOn_b2_s
        simp only [bnd_e]
        rw [if_neg i2, gd_t A.1, A.2.1, gd_t (inb_nI hj3 (by omega)), e1, cl_s, v1', lj, if_neg (nI_ge (by omega) (by omega)), gd_t A1.1, A1.2.1, gd_t (inb_nI hj3 (by omega)), l1, nI_1, nI_clamp (by omega)]
      · show sca (smN N xs) c ≤ (if c = j then l j + 1 else l c) ∧ (if c = j then l j + 1 else l c) ≤ scb (smN N xs) c
        by_cases y : c = j
        · rw [if_pos y, y]; omega
        · rw [if_neg y]; exact B c hc
end GOES
