/-! WHAT IS TOLD, as numbers (p37): the law's script and the reference's rows -/
section TOLD
variable {sm : Nat → Nat → Nat} {M : Mem}
theorem cl_nI {x : Int32} {v : Nat} (h : x = nI v) (hv : v < 2 ^ 31) : x.toNatClampNeg = v := by rw [h]; exact nI_clamp hv
theorem ti_nI {x : Int32} {v : Nat} (h : x = nI v) (hv : v < 2 ^ 31) : x.toInt = (v : Int) := by rw [h]; exact nI_toInt hv
theorem d_cn (hs : SmO sm) (T : TolS sm M) : Cn M 0 = 3 ∧ Cn M 2 = 2 ∧ Cn M 4 = snp sm ∧ Cn M 5 = snf sm := by
  obtain ⟨⟨a, b, c, d, e, f⟩, -⟩ := T
  have h1 := s_c7 hs
  have h2 := s_c2 hs
  exact ⟨cl_nI a (by omega), cl_nI c (by omega), cl_nI e (by omega), cl_nI f (by omega)⟩
theorem d_cam (hs : SmO sm) (T : TolS sm M) {c : Nat} (hc : c < 3) : M.1 317 c = nI (sca sm c) ∧ M.1 318 c = nI (scb sm c) ∧ (M.1 317 c).toInt = (sca sm c : Int) ∧ (M.1 318 c).toInt = (scb sm c : Int) := by
  obtain ⟨a, b⟩ := T.2.1 c hc
  have h := s_c1 hs c hc
  exact ⟨a, b, ti_nI a (by omega), ti_nI b (by omega)⟩
theorem d_fl (hs : SmO sm) (T : TolS sm M) {f : Nat} (hf : f < snf sm) : fi M f = sfa sm f ∧ fj M f = sfb sm f ∧ (M.1 319 (4 * f + 1)).toInt = (sfx sm f : Int) ∧ (M.1 319 (4 * f + 3)).toInt = (sfy sm f : Int) := by
  obtain ⟨a, b, c, d⟩ := T.2.2.1 f hf
  obtain ⟨h1, h2, -, h4, h5⟩ := s_c3 hs f hf
  exact ⟨cl_nI a (by omega), cl_nI c (by omega), ti_nI b (by omega), ti_nI d (by omega)⟩
theorem d_pl (hs : SmO sm) (T : TolS sm M) {p : Nat} (hp : p < snp sm) : M.1 331 p = nI (spk sm p) ∧ kp M p = spk sm p ∧ Fn M p = sfn sm p ∧ spk sm p < 2 ∧ sfn sm p ≤ 4 := by
  obtain ⟨a, b, -⟩ := T.2.2.2.2 p hp
  obtain ⟨-, h2, -, -, h5, -⟩ := s_c9 hs p hp
  have h6 := hs (64 + p) 5 (by omega)
  rw [spf_len] at b
  exact ⟨a, cl_nI a (by omega), cl_nI b (by unfold sfn; omega), h2, by unfold sfn; omega⟩
theorem mk_lt16 (hs : SmO sm) (p k : Nat) : mkA 0 (smk sm p k) < 16 ∧ mkB 0 (smk sm p k) < 16 := by
  have h1 := hs (sat p k) 3 (by omega)
  obtain ⟨m, e⟩ : ∃ m, m = sm (sat p k) 3 := ⟨_, rfl⟩
  unfold smk
  rw [← e] at h1 ⊢
  generalize (sm (sat p k + 3) 2 == 0) = b1
  generalize (sm (sat p k + 3) 3 == 0) = b2
  rcases (show m = 0 ∨ m = 1 ∨ m = 2 by omega) with rfl | rfl | rfl <;> split <;> cases b1 <;> cases b2 <;> decide
theorem d_fr (hs : SmO sm) (T : TolS sm M) {p k : Nat} (hp : p < snp sm) (hk : k < sfn sm p) : (M.1 336 (10 * p + k) = nI (sm (sat p k + 1) 3) ∧ M.1 337 (10 * p + k) = nI (8 + sm (sat p k + 2) 9) ∧ M.1 338 (10 * p + k) = nI (mkA 0 (smk sm p k)) ∧ M.1 339 (10 * p + k) = nI (mkB 0 (smk sm p k))) ∧ qc M (10 * p + k) = sm (sat p k + 1) 3 ∧ (M.1 337 (10 * p + k)).toInt = ((8 + sm (sat p k + 2) 9 : Nat) : Int) ∧ qs M (10 * p + k) = mkA 0 (smk sm p k) ∧ qn M (10 * p + k) = mkB 0 (smk sm p k) := by
  obtain ⟨-, -, c⟩ := T.2.2.2.2 p hp
  obtain ⟨a1, a2, a3, a4⟩ := c k (sfd sm p k) (spf_at.mpr ⟨hk, rfl⟩)
  have h1 := hs (sat p k + 1) 3 (by omega)
  have h2 := hs (sat p k + 2) 9 (by omega)
  obtain ⟨h3, h4⟩ := mk_lt16 hs p k
  exact ⟨⟨a1, a2, a3, a4⟩, cl_nI a1 (by show sm (sat p k + 1) 3 < _; omega), ti_nI a2 (by show 8 + sm (sat p k + 2) 9 < _; omega), cl_nI a3 (by show mkA 0 (smk sm p k) < _; omega), cl_nI a4 (by show mkB 0 (smk sm p k) < _; omega)⟩
theorem d_pr (hs : SmO sm) (T : TolS sm M) {k : Nat} (hk : k < 2) (f g : Nat) : PR M k f g ↔ (f = skf sm k ∧ g = skg sm k) ∨ (sm (27 + k) 3 = 0 ∧ f = 0 ∧ g = 1 + sm (29 + k) 2) := by
  obtain ⟨a, b⟩ := T.2.2.2.1 k hk
  obtain ⟨p1, p2, p3, p4⟩ := s_kpr hs (k := k)
  have hl : (skl sm k).length ≤ 2 := (s_c5 hs k hk).2.1
  have hP : Pn M k = 1 + (skl sm k).length := cl_nI a (by omega)
  have at0 : pf M k 0 = skf sm k ∧ ps M k 0 = skg sm k := by
    obtain ⟨x, y⟩ := b 0 (skf sm k) (skg sm k) rfl
    exact ⟨cl_nI x (by omega), cl_nI y (by omega)⟩
  by_cases q : sm (27 + k) 3 = 0
  · have e1 : skl sm k = [(0, 1 + sm (29 + k) 2)] := by unfold skl; rw [if_pos q]
    have at1 : pf M k 1 = 0 ∧ ps M k 1 = 1 + sm (29 + k) 2 := by
      obtain ⟨x, y⟩ := b 1 0 (1 + sm (29 + k) 2) (by rw [e1]; rfl)
      exact ⟨cl_nI x (by omega), cl_nI y (by omega)⟩
    have hP2 : Pn M k = 2 := by rw [hP, e1]; rfl
    constructor
    · rintro ⟨i, hi, e2, e3⟩
      rw [hP2] at hi
      rcases (show i = 0 ∨ i = 1 by omega) with rfl | rfl
      · exact Or.inl ⟨e2.trans at0.1, e3.trans at0.2⟩
      · exact Or.inr ⟨q, e2.trans at1.1, e3.trans at1.2⟩
    · rintro (⟨e2, e3⟩ | ⟨-, e2, e3⟩)
      · exact ⟨0, by rw [hP2]; omega, e2.trans at0.1.symm, e3.trans at0.2.symm⟩
      · exact ⟨1, by rw [hP2]; omega, e2.trans at1.1.symm, e3.trans at1.2.symm⟩
  · have e1 : skl sm k = [] := by unfold skl; rw [if_neg q]
    have hP2 : Pn M k = 1 := by rw [hP, e1]; rfl
    constructor
    · rintro ⟨i, hi, e2, e3⟩
      rw [hP2] at hi
      obtain rfl : i = 0 := by omega
      exact Or.inl ⟨e2.trans at0.1, e3.trans at0.2⟩
    · rintro (⟨e2, e3⟩ | ⟨z, -, -⟩)
      · exact ⟨0, by rw [hP2]; omega, e2.trans at0.1.symm, e3.trans at0.2.symm⟩
      · exact absurd z q
/-- clocks that can be, as the law says -/
def LClk (sm : Nat → Nat → Nat) (l : Nat → Int) : Prop := (∀ c, c < 3 → (sca sm c : Int) ≤ l c ∧ l c ≤ (scb sm c : Int)) ∧ ∀ f, f < snf sm → (sfx sm f : Int) - l (sfa sm f) = (sfy sm f : Int) - l (sfb sm f)
theorem clk_iff (hs : SmO sm) (T : TolS sm M) (l : Nat → Int) : Clk M l ↔ LClk sm l := by
  obtain ⟨c0, -, -, c5⟩ := d_cn hs T
  unfold Clk LClk
  rw [c0, c5]
  constructor
  · rintro ⟨a, b⟩
    refine ⟨fun c hc => ?_, fun f hf => ?_⟩
    · obtain ⟨-, -, e1, e2⟩ := d_cam hs T hc
      rw [← e1, ← e2]; exact a c hc
    · obtain ⟨e1, e2, e3, e4⟩ := d_fl hs T hf
      rw [← e1, ← e2, ← e3, ← e4]; exact b f hf
  · rintro ⟨a, b⟩
    refine ⟨fun c hc => ?_, fun f hf => ?_⟩
    · obtain ⟨-, -, e1, e2⟩ := d_cam hs T hc
      rw [e1, e2]; exact a c hc
    · obtain ⟨e1, e2, e3, e4⟩ := d_fl hs T hf
      rw [e1, e2, e3, e4]; exact b f hf
end TOLD
