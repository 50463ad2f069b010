/-! THE LAW'S WORD of a play by a set of frames, over all clocks that can be -/
section WORD
variable {sm : Nat → Nat → Nat} {M : Mem} {p s : Nat}
def CanW (M : Mem) (p s : Nat) (l : Nat → Int) : Prop := ∀ m, m < 4 → loF M p s l (Fn M p) m ≤ hiF M p s l (Fn M p) m
theorem some_iff (hs : SmO sm) (T : TolS sm M) (O : MOk M) (hp : p < Cn M 4) : SomeP M p s ↔ ∃ l, LClk sm l ∧ CanW M p s l := by
  constructor
  · rintro ⟨l, t, h1, h2⟩
    exact ⟨l, (clk_iff hs T l).mp h1, (tim_iff O hp h1 (fun m _ => loF_is m) (fun m _ => hiF_is m)).mp ⟨t, h2⟩⟩
  · rintro ⟨l, h1, h2⟩
    have h1' := (clk_iff hs T l).mpr h1
    obtain ⟨t, ht⟩ := (tim_iff O hp h1' (fun m _ => loF_is m) (fun m _ => hiF_is m)).mpr h2
    exact ⟨l, t, h1', ht⟩
theorem all_iffP (hs : SmO sm) (T : TolS sm M) (O : MOk M) (hp : p < Cn M 4) : AllP M p s ↔ ∀ l, LClk sm l → CanW M p s l → PrsK sm (spk sm p) (fun f g => hiF M p s l (Fn M p) f < loF M p s l (Fn M p) g) := by
  have hp' : p < snp sm := by rw [← (d_cn hs T).2.2.1]; exact hp
  obtain ⟨-, ek, -, k2, -⟩ := d_pl hs T hp'
  obtain ⟨p1, p2, p3, p4⟩ := s_kpr hs (k := spk sm p)
  have pr := d_pr hs T k2
  constructor
  · intro h l h1 h2
    have h1' := (clk_iff hs T l).mpr h1
    have key : ∀ f g, f < 4 → g < 4 → f ≠ g → PR M (kp M p) f g → hiF M p s l (Fn M p) f < loF M p s l (Fn M p) g := fun f g hf hg hfg hpr =>
      (all_iff O hp h1' (fun m _ => loF_is m) (fun m _ => hiF_is m) h2 hf hg hfg).mp (fun t ht => h l t h1' ht f g hpr)
    refine ⟨key _ _ (by omega) (by omega) p3 ?_, fun q => key _ _ (by omega) (by omega) (by omega) ?_⟩
    · rw [ek, pr]; exact Or.inl ⟨rfl, rfl⟩
    · rw [ek, pr]; exact Or.inr ⟨q, rfl, rfl⟩
  · intro h l t h1 h2 f g hpr
    rw [ek, pr] at hpr
    have hcan : CanW M p s l := (tim_iff O hp h1 (fun m _ => loF_is m) (fun m _ => hiF_is m)).mp ⟨t, h2⟩
    obtain ⟨q1, q2⟩ := h l ((clk_iff hs T l).mp h1) hcan
    rcases hpr with ⟨e1, e2⟩ | ⟨q, e1, e2⟩
    · rw [e1, e2]
      exact (all_iff O hp h1 (fun m _ => loF_is m) (fun m _ => hiF_is m) hcan (by omega) (by omega) p3).mpr q1 t h2
    · rw [e1, e2]
      exact (all_iff O hp h1 (fun m _ => loF_is m) (fun m _ => hiF_is m) hcan (by omega) (by omega) (by omega)).mpr (q2 q) t h2
theorem none_iff : NoneP M p s ↔ ∀ l, Clk M l → ¬ ∃ t, Tim M p s l t ∧ PrA M p t := by
  constructor
  · rintro h l h1 ⟨t, h2, h3⟩
    exact h l t h1 h2 h3
  · intro h l t h1 h2 h3
    exact h l h1 ⟨t, h2, h3⟩
end WORD
