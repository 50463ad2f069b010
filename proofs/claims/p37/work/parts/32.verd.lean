/-! WHAT A PLAY IS, by the reference -/
def kp (M : Mem) (p : Nat) : Nat := (M.1 331 p).toNatClampNeg
def pf (M : Mem) (k i : Nat) : Nat := (M.1 325 (3 * k + i)).toNatClampNeg
def ps (M : Mem) (k i : Nat) : Nat := (M.1 326 (3 * k + i)).toNatClampNeg
def PR (M : Mem) (k : Nat) : Nat → Nat → Prop := fun f s => ∃ i, i < Pn M k ∧ f = pf M k i ∧ s = ps M k i
theorem play_kind {M : Mem} (O : MOk M) {p : Nat} (hp : p < Cn M 4) : kp M p < Cn M 2 ∧ M.1 331 p = nI (kp M p) := by
  have h2 := O.1.2.2.1.2
  obtain ⟨k, hk, e⟩ := (O.2.2.2.2.2.2.1 p hp).2.1
  have : kp M p = k := toNat_nI (by omega) e
  rw [this]; exact ⟨hk, e⟩
theorem pair_nat {M : Mem} (O : MOk M) {k i : Nat} (hk : k < Cn M 2) (hi : i < Pn M k) : pf M k i < 4 ∧ ps M k i < 4 ∧ pf M k i ≠ ps M k i ∧ M.1 325 (3 * k + i) = nI (pf M k i) ∧ M.1 326 (3 * k + i) = nI (ps M k i) := by
  obtain ⟨a, b, ha, hb, hab, e1, e2⟩ := (O.2.2.2.2.1 k hk).2.2.2.2 i hi
  have f1 : pf M k i = a := toNat_nI (by omega) e1
  have f2 : ps M k i = b := toNat_nI (by omega) e2
  rw [f1, f2]; exact ⟨ha, hb, hab, e1, e2⟩
def vacc (M : Mem) (k : Nat) (g : Nat → Int32) : Nat → Int32
  | 0 => 1
  | j + 1 => if 0 ≤ g (10 * (6 + ps M k j) + (6 + pf M k j)) then vacc M k g j &&& 0 else vacc M k g j &&& 1
theorem vacc_or (M : Mem) (k : Nat) (g : Nat → Int32) : ∀ j, (vacc M k g j = 1 ∧ ∀ i, i < j → ¬ 0 ≤ g (10 * (6 + ps M k i) + (6 + pf M k i))) ∨ (vacc M k g j = 0 ∧ ∃ i, i < j ∧ 0 ≤ g (10 * (6 + ps M k i) + (6 + pf M k i)))
  | 0 => Or.inl ⟨rfl, fun i h => absurd h (Nat.not_lt_zero i)⟩
  | j + 1 => by
    show ((if 0 ≤ g (10 * (6 + ps M k j) + (6 + pf M k j)) then vacc M k g j &&& 0 else vacc M k g j &&& 1) = 1 ∧ _) ∨ ((if 0 ≤ g (10 * (6 + ps M k j) + (6 + pf M k j)) then vacc M k g j &&& 0 else vacc M k g j &&& 1) = 0 ∧ _)
    by_cases h : 0 ≤ g (10 * (6 + ps M k j) + (6 + pf M k j))
    · rw [if_pos h]
      refine Or.inr ⟨?_, j, Nat.lt_succ_self j, h⟩
      rcases vacc_or M k g j with ⟨e, -⟩ | ⟨e, -⟩ <;> rw [e] <;> decide
    · rw [if_neg h]
      rcases vacc_or M k g j with ⟨e, h2⟩ | ⟨e, i, hi, h2⟩
      · refine Or.inl ⟨by rw [e]; decide, fun i hi => ?_⟩
        rcases Nat.lt_or_ge i j with c | c
        · exact h2 i c
        · rw [show i = j by omega]; exact h
      · exact Or.inr ⟨by rw [e]; decide, i, by omega, h2⟩
theorem vd_30 {M : Mem} (O : MOk M) {k : Nat} (hk : k < Cn M 2) (g : Nat → Int32) : f_X11_verdictOf_b30 fuel (nI k) 1 (nI (3 * k)) (sA M 344 g) = if vacc M k g (Pn M k) = 0 then f_X11_verdictOf_b105 fuel (nI k) (nI (3 * k)) (sA M 344 g) else some (1, sA M 344 g) := by
  have h2 := O.1.2.2.1.2
  have hP := (O.2.2.2.2.1 k hk).2.2.2.1
  have h := lp_for (z := fun _ _ _ _ => none) (s := f_X11_verdictOf_b30_s) (fun j (f : Int32 → Int32 → Int32 → Mem → Option (Int32 × Mem)) => f (nI k) (vacc M k g j) (nI (3 * k + j)) (sA M 344 g)) (Pn M k) (if vacc M k g (Pn M k) = 0 then f_X11_verdictOf_b105 fuel (nI k) (nI (3 * k)) (sA M 344 g) else some (1, sA M 344 g)) (fun j hj f => by
    obtain ⟨p1, p2, -, e1, e2⟩ := pair_nat O hk hj
    show f_X11_verdictOf_b30_s f (nI k) (vacc M k g j) (nI (3 * k + j)) (sA M 344 g) = f (nI k) (vacc M k g (j + 1)) (nI (3 * k + (j + 1))) (sA M 344 g)
    unfold f_X11_verdictOf_b30_s
    simp only [bnd_e]
    rw [gd_t (inb_nI (by omega) (by omega)), nI_clamp (by omega), sA_n M _ k (by omega), hP.1, m3, nI_add, if_neg (nI_ge (by omega) (by omega)), gd_t (inb_nI (by omega) (by omega)), nI_clamp (by omega), sA_n M _ _ (by omega), sA_n M _ _ (by omega), e1, e2, n6, m10, show nI (10 * (6 + ps M k j)) + 6 + nI (pf M k j) = nI (10 * (6 + ps M k j) + (6 + pf M k j)) by rw [show (6 : Int32) = nI 6 from rfl, nI_add, nI_add]; congr 1; omega, gd_t (inb_nI (by omega) (by omega)), nI_clamp (by omega), sA_s]
    show _ = f (nI k) (if 0 ≤ g (10 * (6 + ps M k j) + (6 + pf M k j)) then vacc M k g j &&& 0 else vacc M k g j &&& 1) (nI (3 * k + (j + 1))) (sA M 344 g)
    by_cases c : 0 ≤ g (10 * (6 + ps M k j) + (6 + pf M k j))
    · rw [if_pos c, if_pos c, nI_1]; rfl
    · rw [if_neg c, if_neg c, nI_1]; rfl) (fun f => by
    show f_X11_verdictOf_b30_s f (nI k) (vacc M k g (Pn M k)) (nI (3 * k + Pn M k)) (sA M 344 g) = _
    unfold f_X11_verdictOf_b30_s
    rw [gd_t (inb_nI (by omega) (by omega)), nI_clamp (by omega), sA_n M _ k (by omega), hP.1, m3, nI_add, if_pos (Int32.le_refl _), bnd_e]) fuel (by unfold fuel; omega)
  exact h
def dpr (M : Mem) (k i : Nat) (d : Nat → Int32) : Nat → Int32 := amd d (10 * (6 + ps M k i) + (6 + pf M k i)) (-1)
theorem vd_105 {M : Mem} (O : MOk M) {k : Nat} (hk : k < Cn M 2) (g : Nat → Int32) : f_X11_verdictOf_b105 fuel (nI k) (nI (3 * k)) (sA M 344 g) = cl (f_X11_closes (sA M 344 (it (dpr M k) (Pn M k) g))) (fun r1 M1m => if r1 = 0 then some (0, M1m) else some (2, M1m)) := by
  have h2 := O.1.2.2.1.2
  have hP := (O.2.2.2.2.1 k hk).2.2.2.1
  have h := lp_for (z := fun _ _ _ => none) (s := f_X11_verdictOf_b105_s) (fun j (f : Int32 → Int32 → Mem → Option (Int32 × Mem)) => f (nI k) (nI (3 * k + j)) (sA M 344 (it (dpr M k) j g))) (Pn M k) (cl (f_X11_closes (sA M 344 (it (dpr M k) (Pn M k) g))) (fun r1 M1m => if r1 = 0 then some (0, M1m) else some (2, M1m))) (fun j hj f => by
    obtain ⟨p1, p2, -, e1, e2⟩ := pair_nat O hk hj
    show f_X11_verdictOf_b105_s f (nI k) (nI (3 * k + j)) (sA M 344 (it (dpr M k) j g)) = f (nI k) (nI (3 * k + (j + 1))) (sA M 344 (it (dpr M k) (j + 1) g))
    rw [it_s]
    generalize it (dpr M k) j g = d
    unfold f_X11_verdictOf_b105_s
    simp only [bnd_e]
    rw [gd_t (inb_nI (by omega) (by omega)), nI_clamp (by omega), sA_n M _ k (by omega), hP.1, m3, nI_add, if_neg (nI_ge (by omega) (by omega)), gd_t (inb_nI (by omega) (by omega)), nI_clamp (by omega), sA_n M _ _ (by omega), sA_n M _ _ (by omega), e1, e2, n6, n6, atMost_f M d (by omega) (by omega), clv_s, nI_1]
    rfl) (fun f => by
    show f_X11_verdictOf_b105_s f (nI k) (nI (3 * k + Pn M k)) (sA M 344 (it (dpr M k) (Pn M k) g)) = _
    unfold f_X11_verdictOf_b105_s
    rw [gd_t (inb_nI (by omega) (by omega)), nI_clamp (by omega), sA_n M _ k (by omega), hP.1, m3, nI_add, if_pos (Int32.le_refl _)]) fuel (by unfold fuel; omega)
  rw [it_0] at h
  exact h
/-- the diagonal, read off the row -/
theorem dia_iff (d : Nat → Int32) : (∀ a, a < 10 → 0 ≤ d (11 * a)) ↔ ∀ a, a < 10 → 0 ≤ mx d a a := by
  constructor
  · intro h a ha
    rw [mx_in d ha ha, show 10 * a + a = 11 * a by omega]
    exact Int32.le_iff_toInt_le.mp (h a ha)
  · intro h a ha
    have := h a ha
    rw [mx_in d ha ha, show 10 * a + a = 11 * a by omega] at this
    exact Int32.le_iff_toInt_le.mpr this
theorem closes_1 {C : Ct} {d : Nat → Int32} (h : LayOk C d) (M : Mem) : ((Neg C ∧ f_X11_closes (sA M 344 d) = some (0, sA M 344 (fw32 d))) ∨ (¬ Neg C ∧ f_X11_closes (sA M 344 d) = some (1, sA M 344 (fw32 d)) ∧ Cls (mx (fw32 d)) ∧ Bel C (mx (fw32 d)) ∧ Snd C (mx (fw32 d)) ∧ Rng 1024000 1024000 (mx (fw32 d)))) := by
  obtain ⟨h1, h2, h3, h4, h5, h6, h7⟩ := h
  have hi : ∀ a b, mx d a b ≤ IN := fun a b => by
    rcases h5 a b with e | e
    · omega
    · unfold IN; omega
  have e := fw_mx1 d h4 h5 h6 h7
  obtain ⟨k1, k2⟩ := fw_ok h1 h2 h3 h4 hi (by omega) (by omega) h5 (by unfold IN; omega)
  rw [clo_2, ← e] at *
  rw [← dia_iff] at k1
  by_cases hn : Neg C
  · exact Or.inl ⟨hn, (clo_110 M (fw32 d)).2 (fun z => k1.mp z hn)⟩
  · refine Or.inr ⟨hn, (clo_110 M (fw32 d)).1 (k1.mpr hn), ?_⟩
    obtain ⟨c1, c2, c3, c4⟩ := k2 hn
    exact ⟨c1, c2, c3, fun a b => by
      rcases c4 a b with z | z
      · exact Or.inl z
      · exact Or.inr ⟨by omega, by omega⟩⟩
