/-! the relation, by the lower halves -/
theorem Inv.low {M M' : Mem} (h : Inv M) (L : Low M M') (e2 : M'.2.2.1 64 2 = M.2.2.1 64 2) (w : ∀ a, tld M ≤ a → a ≤ tld M + 70 → M'.1 a = M.1 a) (r : ∀ a, (217 ≤ a ∧ a ≤ 310 ∧ a ≠ 226) ∨ (340 ≤ a ∧ a ≤ 343) → M'.1 a = M.1 a) (s : M'.1 64 8 = M.1 64 8 ∧ M'.1 64 9 = M.1 64 9 ∧ M'.1 311 40 = M.1 311 40) (hT : RT M') : Inv M' := by
  have c4 := h.c4
  obtain ⟨h1, h2, ⟨a, u, v, h3, h4⟩, h5, -⟩ := h
  obtain ⟨s8, s9, s40⟩ := s
  have et : tld M' = tld M := e2
  have cn : ∀ i, i < 6 → Cn M' i = Cn M i := fun i hi => L.cn hi
  have day : ∀ n s s', DN n → RDay M n s → (∀ k, k < 114 → s' k = s k) → RDay M' n s' := fun n s s' hn hr hs => by
    have rg := dn_rng hn
    have n226 : ∀ b, n ≤ b → b ≤ n + 5 → b ≠ 226 := fun b q1 q2 => by
      rcases hn with rfl | ⟨i, hi, rfl⟩ | rfl | rfl <;> omega
    exact hr.rows c4 (cn 4 (by omega)) (cn 1 (by omega)) (fun b q1 q2 => r b (Or.inl ⟨by omega, by omega, n226 b q1 q2⟩)) hs
  refine ⟨?_, day 217 _ _ (Or.inl rfl) h2 (fun k _ => by rw [r 340 (by omega)]), ⟨a, u, v, ?_, ?_⟩, fun i hi => ?_, hT⟩
  · unfold HB
    rw [et]
    exact Low.hb h1 L w
  · obtain ⟨u8, u9, ha, hu, ud⟩ := h3
    exact ⟨by rw [s8, u8], by rw [s9, u9], ha, hu, fun j hj => day _ _ _ (Or.inr (Or.inl ⟨(a + 12 - u + j) % 12, Nat.mod_lt _ (by decide), rfl⟩)) (ud j hj) (fun _ _ => rfl)⟩
  · obtain ⟨u1, hu, ud⟩ := h4
    exact ⟨by rw [s40, u1], hu, fun j hj k hk => by rw [r 341 (by omega)]; exact ud j hj k hk⟩
  · rw [r 225 (by omega), r 343 (by omega), r 342 (by omega)]
    rcases h5 i hi with z | ⟨z1, z2, z3⟩
    · exact Or.inl z
    · refine Or.inr ⟨z1, z2, day _ _ _ ?_ z3 (fun _ _ => rfl)⟩
      rcases Nat.lt_or_ge i 1 with q | q
      · rw [show i = 0 by omega]; exact Or.inr (Or.inr (Or.inl rfl))
      · rw [show i = 1 by omega]; exact Or.inr (Or.inr (Or.inr rfl))
/-- a text that both refuse: what was told stays told -/
theorem Inv.refused {M Mc Mr : Mem} (h : Inv M) (hT : TT (M.2.2.1 64 3)) (fc : FCt (M.2.2.1 64 3) M Mc) (fr : FRt Mc Mr) : Inv Mr := by
  obtain ⟨c1, c2, c3, c4, c5⟩ := fc
  obtain ⟨f1, f2, ⟨f3, f4⟩, f5⟩ := fr
  have hT2 : TT (tld M) := h.1.1.1
  have tc := tt_208 hT
  have tc2 := tt_208 hT2
  obtain ⟨⟨t, ht, e1, e2, e3⟩, ⟨j, hj, j1, j2, j3⟩, e203⟩ := id h.2.2.2.2
  have ne : ∀ a, tld M ≤ a → a ≤ tld M + 70 → ¬ (M.2.2.1 64 3 ≤ a ∧ a ≤ M.2.2.1 64 3 + 70) := fun a h1 h2 => by
    have z : M.2.2.1 64 2 = 66 ∨ M.2.2.1 64 2 = 137 := hT2
    have y : tld M = M.2.2.1 64 2 := rfl
    omega
  have rr : ∀ a, a ≠ 64 → a < 66 ∨ (212 ≤ a ∧ a ≤ 310) ∨ a = 312 ∨ 340 ≤ a → Mr.1 a = M.1 a := fun a h0 ha => funext (fun k => by rw [f5 _ _ (by omega) (by omega), c5 _ _ (by omega) (by omega) (by omega) (by omega) (by omega)])
  have r64 : ∀ k, k ≠ 1 → Mr.1 64 k = M.1 64 k := fun k hk => by rw [f5 _ _ (by omega) (by omega), c5 _ _ (by omega) (by omega) (by omega) (by omega) (by omega)]
  have ref : ∀ k, Mr.2.2.1 64 k = M.2.2.1 64 k := fun k => by rw [f1, c3 _ _ (by omega) (by omega)]
  refine h.low (fun a k h1 h2 h3 h4 h5 _ => by rw [f5 _ _ (by omega) (by omega), c5 _ _ (by omega) (by omega) (by omega) (by omega) (by omega)]) (ref 2) (fun a h1 h2 => funext (fun k => by rw [f5 _ _ (by omega) (by omega), c5 _ _ (by omega) (by omega) (by omega) (by omega) (ne a h1 h2)])) (fun a ha => rr a (by omega) (by omega)) ⟨r64 8 (by omega), r64 9 (by omega), by rw [f5 _ _ (by omega) (by omega), c5 _ _ (by omega) (by omega) (by omega) (by omega) (by omega)]⟩ ?_
  refine ⟨⟨0, by omega, by rw [f5 _ _ (by omega) (by omega), c4]; rfl, by rw [f4]; rfl, fun k hk => absurd hk (by omega)⟩, ⟨j, hj, by rw [r64 13 (by omega), j1], by rw [f5 _ _ (by omega) (by omega), c5 _ _ (by omega) (by omega) (by omega) (by omega) (by omega), j2], fun k hk => by rw [rr 226 (by omega) (by omega), rr 345 (by omega) (by omega)]; exact j3 k hk⟩, by rw [ref 2, ref 3]; exact e203⟩
/-- a text out of range -/
theorem text_out {M : Mem} (h : Inv M) {t : Nat} (h641 : M.1 64 1 = nI t) (h2 : M.1 311 2 = nI t) (ht : t ≤ 600) {x : Int32} (hx : ¬ (0 ≤ x ∧ x ≤ nI t)) : f_X10_text x M = some (-1, M) ∧ ∃ M2, f_X11_text x M = some (-1, M2) ∧ Inv M2 ∧ M2.1 311 0 = 0 := by
  refine ⟨?_, setI M 311 0 0, ?_, ?_, setI_s⟩
  · unfold f_X10_text
    rw [h641]
    by_cases c : x < 0
    · rw [if_pos c]
    · rw [if_neg c, if_neg (fun z => hx ⟨Int32.not_lt.mp c, z⟩)]
  · have w : f_X11_within x.toInt64 (0 : Int32).toInt64 (nI t).toInt64 (setI M 311 0 0) = some (if (0 : Int32) ≤ x ∧ x ≤ nI t then 1 else 0, setI M 311 0 0) := within32 _ _ _ _
    have e : (0 : Int32).toInt64 = 0 := by decide
    rw [e, if_neg hx] at w
    unfold f_X11_text
    rw [bnd_e, setI_n (by omega), h2, w, cl_s, if_pos rfl]
  · have r : ∀ a, a ≠ 311 → (setI M 311 0 0).1 a = M.1 a := fun a ha => funext (fun k => setI_n (Or.inl ha))
    have tc := tt_208 h.1.1.1
    exact h.low (fun a k h1 h2 _ _ _ _ => by rw [r a (by omega)]) rfl (fun a h1 h2 => r a (by omega)) (fun a ha => r a (by omega)) ⟨by rw [r 64 (by omega)], by rw [r 64 (by omega)], setI_n (by omega)⟩ (h.2.2.2.2.cong rfl ⟨r 65 (by omega), r 312 (by omega), r 226 (by omega), r 345 (by omega)⟩ ⟨by rw [r 64 (by omega)], by rw [r 64 (by omega)], setI_n (by omega), setI_n (by omega)⟩)
