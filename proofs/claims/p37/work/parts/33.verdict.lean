def C2 (M : Mem) (k : Nat) (C : Ct) (n : Nat) : Ct := fun a b v => C a b v ∨ ∃ i, i < n ∧ (a = 6 + ps M k i ∧ b = 6 + pf M k i ∧ v = -1)
theorem prs_ok {M : Mem} (O : MOk M) {k : Nat} (hk : k < Cn M 2) {C : Ct} {g : Nat → Int32} (h10 : In10 C) (hs : Snd C (mx g)) (hb : Bel C (mx g)) (hr : Rng 1024000 1024000 (mx g)) : ∀ n, n ≤ Pn M k → In10 (C2 M k C n) ∧ Prs (mx g) (mx (it (dpr M k) n g)) ∧ Snd (C2 M k C n) (mx (it (dpr M k) n g)) ∧ Bel (C2 M k C n) (mx (it (dpr M k) n g)) ∧ Rng 1024000 1024000 (mx (it (dpr M k) n g)) := by
  intro n
  induction n with
  | zero =>
    intro _
    rw [it_0]
    refine ⟨fun a b v h => ?_, ⟨fun _ _ _ => rfl, fun _ _ => Int.le_refl _, fun _ _ => Or.inl rfl⟩, hs.sub (fun _ _ _ h => Or.inl h), fun a b v h => ?_, hr⟩
    · rcases h with h | ⟨i, hi, -⟩
      · exact h10 a b v h
      · exact absurd hi (Nat.not_lt_zero i)
    · rcases h with h | ⟨i, hi, -⟩
      · exact hb a b v h
      · exact absurd hi (Nat.not_lt_zero i)
  | succ n ih =>
    intro hn
    obtain ⟨i1, ⟨i2, i3, i4⟩, i5, i6, i7⟩ := ih (by omega)
    obtain ⟨p1, p2, p3, -, -⟩ := pair_nat O hk (show n < Pn M k by omega)
    rw [it_s]
    generalize it (dpr M k) n g = d at i2 i3 i4 i5 i6 i7 ⊢
    have e : mx (dpr M k n d) = am (mx d) (6 + ps M k n) (6 + pf M k n) (-1) := by
      unfold dpr
      rw [mx_amd d (by omega) (by omega)]; rfl
    rw [e]
    have up : ∀ a b v, C2 M k C n a b v → C2 M k C (n + 1) a b v := fun a b v h => by
      rcases h with h | ⟨i, hi, h⟩
      · exact Or.inl h
      · exact Or.inr ⟨i, by omega, h⟩
    have new : C2 M k C (n + 1) (6 + ps M k n) (6 + pf M k n) (-1) := Or.inr ⟨n, Nat.lt_succ_self n, rfl, rfl, rfl⟩
    have old : ∀ a b v, C2 M k C (n + 1) a b v → C2 M k C n a b v ∨ (a = 6 + ps M k n ∧ b = 6 + pf M k n ∧ v = -1) := fun a b v h => by
      rcases h with h | ⟨i, hi, h⟩
      · exact Or.inl (Or.inl h)
      · rcases Nat.lt_or_ge i n with c | c
        · exact Or.inl (Or.inr ⟨i, c, h⟩)
        · rw [show i = n by omega] at h; exact Or.inr h
    refine ⟨fun a b v h => ?_, ⟨fun a b h => ?_, fun a b => Int.le_trans (am_le a b) (i3 a b), fun a b => ?_⟩, am_snd (i5.sub up) (Der.base new), fun a b v h => ?_, fun a b => ?_⟩
    · rcases old a b v h with h | ⟨rfl, rfl, rfl⟩
      · exact i1 a b v h
      · exact ⟨by omega, by omega, by decide⟩
    · rcases am_or (D := mx d) (a := 6 + ps M k n) (b := 6 + pf M k n) (v := -1) a b with z | ⟨z1, z2, -⟩
      · rw [z]; exact i2 a b h
      · omega
    · rcases am_or (D := mx d) (a := 6 + ps M k n) (b := 6 + pf M k n) (v := -1) a b with z | ⟨-, -, z, -⟩
      · rw [z]; exact i4 a b
      · exact Or.inr z
    · rcases old a b v h with h | ⟨rfl, rfl, rfl⟩
      · exact Int.le_trans (am_le a b) (i6 a b v h)
      · exact am_v
    · rcases am_or (D := mx d) (a := 6 + ps M k n) (b := 6 + pf M k n) (v := -1) a b with z | ⟨-, -, z, -⟩
      · rw [z]; exact i7 a b
      · rw [z]; exact Or.inr ⟨by omega, by omega⟩
theorem verdict_f {M : Mem} (O : MOk M) {p s : Nat} (hp : p < Cn M 4) (hs : s < 1024) (d : Nat → Int32) : ∃ r d', f_X11_verdictOf (nI p) (nI s) (sA M 344 d) = some (r, sA M 344 d') ∧ IsV (CK M p s) (PR M (kp M p)) r := by
  have h4 := O.1.2.2.2.2.1.2
  obtain ⟨hk, ek⟩ := play_kind O hp
  have L := lay_ok O d hp s
  unfold f_X11_verdictOf
  rw [laysFrames_f O hp hs, clv_s]
  rcases closes_1 L M with ⟨hn, e⟩ | ⟨hn, e, c1, c2, c3, c4⟩
  · exact ⟨3, _, by rw [e, cl_s, if_pos rfl], Or.inl ⟨hn, rfl⟩⟩
  · rw [e, cl_s, if_neg (by decide), gd_t (inb_nI (by omega) (by omega)), nI_clamp (by omega), bnd_e, bnd_e, sA_n M _ p (by omega), ek, m3, vd_30 O hk]
    generalize fw32 (dlay M p s d) = g at c1 c2 c3 c4 e ⊢
    have iff1 : ∀ i, i < Pn M (kp M p) → (¬ 0 ≤ g (10 * (6 + ps M (kp M p) i) + (6 + pf M (kp M p) i)) ↔ ∃ v, v < 0 ∧ Der (CK M p s) (6 + ps M (kp M p) i) (6 + pf M (kp M p) i) v) := by
      intro i hi
      obtain ⟨p1, p2, p3, -, -⟩ := pair_nat O hk hi
      have em := mx_in g (a := 6 + ps M (kp M p) i) (b := 6 + pf M (kp M p) i) (by omega) (by omega)
      have e0 : (0 ≤ g (10 * (6 + ps M (kp M p) i) + (6 + pf M (kp M p) i))) ↔ 0 ≤ mx g (6 + ps M (kp M p) i) (6 + pf M (kp M p) i) := by
        rw [em]; exact Int32.le_iff_toInt_le
      rw [e0]
      constructor
      · intro h
        exact ⟨_, by omega, c3 _ _ (by unfold IN; omega)⟩
      · rintro ⟨v, hv, hd⟩ h
        have := (cls_der L.1 c1 c2 c4 (by unfold IN; omega) hd (by omega) (by omega) (by unfold IN; omega)).2
        omega
    rcases vacc_or M (kp M p) g (Pn M (kp M p)) with ⟨v1, v2⟩ | ⟨v1, i, hi, v2⟩
    · refine ⟨1, g, by rw [v1, if_neg (by decide)], Or.inr (Or.inl ⟨hn, ?_, rfl⟩)⟩
      rintro f s' ⟨i, hi, rfl, rfl⟩
      exact (iff1 i hi).mp (v2 i hi)
    · have notall : ¬ (∀ f s', PR M (kp M p) f s' → ∃ v, v < 0 ∧ Der (CK M p s) (6 + s') (6 + f) v) := fun z => (iff1 i hi).mpr (z _ _ ⟨i, hi, rfl, rfl⟩) v2
      rw [v1, if_pos rfl, vd_105 O hk]
      obtain ⟨q1, q2, q3, q4, q5⟩ := prs_ok O hk L.1 c3 c2 c4 (Pn M (kp M p)) (Nat.le_refl _)
      generalize it (dpr M (kp M p)) (Pn M (kp M p)) g = E at q2 q3 q4 q5 ⊢
      have hi2 : ∀ a b, mx g a b ≤ IN := fun a b => by
        rcases c4 a b with z | z
        · omega
        · unfold IN; omega
      have e2 := fw_mx2 E c1 hi2 q2 q5
      have k1 := fw_ok2 q1 c1 hi2 q2 q3 q4 q5
      rw [← e2, ← dia_iff] at k1
      have ec : C2 M (kp M p) (CK M p s) (Pn M (kp M p)) = fun a b v => CK M p s a b v ∨ ∃ f s', PR M (kp M p) f s' ∧ a = 6 + s' ∧ b = 6 + f ∧ v = -1 := by
        funext a b v
        apply propext
        constructor
        · rintro (h | ⟨i, hi, h1, h2, h3⟩)
          · exact Or.inl h
          · exact Or.inr ⟨_, _, ⟨i, hi, rfl, rfl⟩, h1, h2, h3⟩
        · rintro (h | ⟨f, s', ⟨i, hi, rfl, rfl⟩, h1, h2, h3⟩)
          · exact Or.inl h
          · exact Or.inr ⟨i, hi, h1, h2, h3⟩
      rw [ec] at k1
      rw [clo_2]
      by_cases hn2 : Neg (fun a b v => CK M p s a b v ∨ ∃ f s', PR M (kp M p) f s' ∧ a = 6 + s' ∧ b = 6 + f ∧ v = -1)
      · exact ⟨0, _, by rw [(clo_110 M (fw32 E)).2 (fun z => k1.mp z hn2), cl_s, if_pos rfl], Or.inr (Or.inr (Or.inl ⟨hn, notall, hn2, rfl⟩))⟩
      · exact ⟨2, _, by rw [(clo_110 M (fw32 E)).1 (k1.mpr hn2), cl_s, if_neg (by decide)], Or.inr (Or.inr (Or.inr ⟨hn, notall, hn2, rfl⟩))⟩
