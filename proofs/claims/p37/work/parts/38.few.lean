/-! FEWEST FRAMES, asked of both -/
/-- the class's half is as it was but for the judge's two bounds and what it keeps of plays -/
def OffC (T : Nat) (M M' : Mem) : Prop := M'.2 = M.2 ∧ ∀ a k, a < 213 ∨ 216 < a → (∀ q, q < 8 → a = T + 31 + 5 * q → k ≠ 10 ∧ k ≠ 11) → M'.1 a k = M.1 a k
theorem OffJ.offC {M M' : Mem} (T : Nat) (h : OffJ M M') : OffC T M M' := ⟨h.1, fun a k ha _ => by rw [h.2 a ha]⟩
theorem OffC.refl (T : Nat) (M : Mem) : OffC T M M := ⟨rfl, fun _ _ _ _ => rfl⟩
theorem OffC.tr {T : Nat} {M M' M'' : Mem} (h : OffC T M M') (h' : OffC T M' M'') : OffC T M M'' := ⟨h'.1.trans h.1, fun a k ha hq => (h'.2 a k ha hq).trans (h.2 a k ha hq)⟩
theorem OffC.row {T : Nat} {M M' : Mem} (h : OffC T M M') {a : Nat} (ha : a < 213 ∨ 216 < a) (hq : ∀ q, q < 8 → a ≠ T + 31 + 5 * q) : M'.1 a = M.1 a := funext (fun k => h.2 a k ha (fun q h1 h2 => absurd h2 (hq q h1)))
theorem OffC.dat {T : Nat} (hT : TT T) {M M' : Mem} (h : OffC T M M') : Dat M M' := fun a h1 h2 _ => h.row (by omega) (fun q _ => by
  have := (tt_c hT).2.1
  omega)
theorem RTold.offC {M M' : Mem} {T : Nat} (hT : TT T) (O : MOk M) (R : RTold M T) (h : OffC T M M') : RTold M' T := by
  have b0 := O.1.1.2
  have b1 := O.1.2.1.2
  have b2 := O.1.2.2.1.2
  have b3 := O.1.2.2.2.1.2
  have b4 := O.1.2.2.2.2.1.2
  have tc := (tt_c hT).2.1
  have e : ∀ a, a ≤ T + 70 ∨ 313 ≤ a → (∀ q, q < 8 → a ≠ T + 31 + 5 * q) → M'.1 a = M.1 a := fun a ha hq => h.row (by omega) hq
  have e5 : ∀ q k, q < 8 → k < 10 → M'.1 (T + 31 + 5 * q) k = M.1 (T + 31 + 5 * q) k := fun q k hq hk => h.2 _ _ (by omega) (fun _ _ _ => ⟨by omega, by omega⟩)
  have cn : ∀ i, Cn M' i = Cn M i := fun i => by unfold Cn; rw [e 313 (by omega) (fun q _ => by omega)]
  have fn : ∀ i, Fn M' i = Fn M i := fun i => by unfold Fn; rw [e 335 (by omega) (fun q _ => by omega)]
  have pn : ∀ i, Pn M' i = Pn M i := fun i => by unfold Pn; rw [e 324 (by omega) (fun q _ => by omega)]
  have bn : ∀ i, Bn M' i = Bn M i := fun i => by unfold Bn; rw [e 328 (by omega) (fun q _ => by omega)]
  obtain ⟨r1, r2, r3, r4, r5, r6, r7⟩ := R
  refine ⟨?_, fun c hc => ?_, fun k hk => ?_, fun k hk => ?_, fun b hb => ?_, fun p hp => ?_, fun k hk => ?_⟩
  · rw [e T (by omega) (fun q _ => by omega), e 313 (by omega) (fun q _ => by omega)]; exact r1
  · rw [cn] at hc
    rw [e (T + 1) (by omega) (fun q _ => by omega), e (T + 2) (by omega) (fun q _ => by omega), e 317 (by omega) (fun q _ => by omega), e 318 (by omega) (fun q _ => by omega)]; exact r2 c hc
  · rw [cn] at hk
    rw [e (T + 5) (by omega) (fun q _ => by omega), e 320 (by omega) (fun q _ => by omega)]; exact r3 k hk
  · rw [cn] at hk
    rw [pn, e (T + 10 + 3 * k) (by omega) (fun q _ => by omega), e (T + 11 + 3 * k) (by omega) (fun q _ => by omega), e (T + 12 + 3 * k) (by omega) (fun q _ => by omega), e 321 (by omega) (fun q _ => by omega), e 322 (by omega) (fun q _ => by omega), e 323 (by omega) (fun q _ => by omega), e 324 (by omega) (fun q _ => by omega), e 325 (by omega) (fun q _ => by omega), e 326 (by omega) (fun q _ => by omega)]; exact r4 k hk
  · rw [cn] at hb
    rw [bn, e (T + 25 + 2 * b) (by omega) (fun q _ => by omega), e (T + 26 + 2 * b) (by omega) (fun q _ => by omega), e 327 (by omega) (fun q _ => by omega), e 328 (by omega) (fun q _ => by omega), e 329 (by omega) (fun q _ => by omega)]; exact r5 b hb
  · rw [cn] at hp
    rw [fn, e5 p 0 (by omega) (by omega), e5 p 1 (by omega) (by omega), e5 p 2 (by omega) (by omega), e5 p 3 (by omega) (by omega), e5 p 4 (by omega) (by omega), e5 p 5 (by omega) (by omega), e (T + 32 + 5 * p) (by omega) (fun q _ => by omega), e (T + 33 + 5 * p) (by omega) (fun q _ => by omega), e (T + 34 + 5 * p) (by omega) (fun q _ => by omega), e (T + 35 + 5 * p) (by omega) (fun q _ => by omega), e 330 (by omega) (fun q _ => by omega), e 331 (by omega) (fun q _ => by omega), e 332 (by omega) (fun q _ => by omega), e 333 (by omega) (fun q _ => by omega), e 334 (by omega) (fun q _ => by omega), e 335 (by omega) (fun q _ => by omega), e 336 (by omega) (fun q _ => by omega), e 337 (by omega) (fun q _ => by omega), e 338 (by omega) (fun q _ => by omega), e 339 (by omega) (fun q _ => by omega)]; exact r6 p hp
  · rw [e (T + 9) (by omega) (fun q _ => by omega), e 314 (by omega) (fun q _ => by omega)]; exact r7 k hk
theorem TB.offC {M M' : Mem} {T : Nat} (h : TB M T) (o : OffC T M M') : TB M' T := by
  obtain ⟨hT, O, R, B⟩ := h
  have e := (tt_c hT).2.1
  obtain ⟨-, -, -, tr2, -⟩ := tt_r hT
  refine ⟨hT, O.dat (o.dat hT), R.offC hT O o, ?_⟩
  rw [CC_dat (o.dat hT)]
  exact B.cong (fun _ _ _ => Iff.rfl) (by rw [o.row (a := T + 3) (by omega) (fun q _ => by omega)]) (by rw [tr2, o.row (a := T + 4) (by omega) (fun q _ => by omega)])
/-! what is asked, by the meaning -/
def vall (M : Mem) (p : Nat) : Int32 := vq M p (2 ^ Fn M p - 1)
def Sure (v : Int32) : Prop := v = 0 ∨ v = 1
def FewV (M : Mem) (p : Nat) (r : Int32) : Prop := (¬ Sure (vall M p) ∧ r = -2) ∨ (Sure (vall M p) ∧ ∃ m, r = nI m ∧ Best (2 ^ Fn M p) (fun s => vq M p s = vall M p) m)
theorem FewV.uniq {M : Mem} {p : Nat} {r r' : Int32} (h : FewV M p r) (h' : FewV M p r') : r = r' := by
  rcases h with ⟨a, e⟩ | ⟨a, m, e, b⟩ <;> rcases h' with ⟨a', e'⟩ | ⟨a', m', e', b'⟩
  · rw [e, e']
  · exact absurd a' a
  · exact absurd a a'
  · rw [e, e', b.uniq b']
theorem vall_dat {M M' : Mem} (O : MOk M) (h : Dat M M') {p : Nat} (hp : p < Cn M 4) : vall M' p = vall M p := by
  have hF := (O.2.2.2.2.2.2.1 p hp).2.2.2.2.2.1.2
  have h2 := two_le hF
  have h1 : 1 ≤ 2 ^ Fn M p := Nat.one_le_two_pow
  unfold vall
  rw [Fn_dat h, vq_dat O h hp (by omega)]
theorem Best.cong {N : Nat} {P Q : Nat → Prop} {m : Nat} (h : Best N P m) (e : ∀ k, k < N → (P k ↔ Q k)) : Best N Q m := ⟨h.1, (e m h.1).mp h.2.1, fun k hk hq => h.2.2 k hk ((e k hk).mpr hq)⟩
theorem FewV.dat {M M' : Mem} (O : MOk M) (h : Dat M M') {p : Nat} (hp : p < Cn M 4) {r : Int32} (f : FewV M p r) : FewV M' p r := by
  have hF := (O.2.2.2.2.2.2.1 p hp).2.2.2.2.2.1.2
  have h2 := two_le hF
  unfold FewV at *
  rw [vall_dat O h hp, Fn_dat h]
  rcases f with f | ⟨f1, m, e, b⟩
  · exact Or.inl f
  · exact Or.inr ⟨f1, m, e, b.cong (fun k hk => by rw [vq_dat O h hp (by omega)])⟩
theorem sure_ref (v : Int32) (M : Mem) : (Sure v ∧ f_X11_isSure v M = some (1, M)) ∨ (¬ Sure v ∧ f_X11_isSure v M = some (0, M)) := by
  unfold f_X11_isSure Sure
  by_cases h0 : v = 0
  · rw [if_pos h0]; exact Or.inl ⟨Or.inl h0, rfl⟩
  · rw [if_neg h0]
    by_cases h1 : v = 1
    · rw [if_pos h1]; exact Or.inl ⟨Or.inr h1, rfl⟩
    · rw [if_neg h1]; exact Or.inr ⟨fun z => z.elim h0 h1, rfl⟩
theorem sure_cls (v : Int32) (M : Mem) : (Sure v ∧ f_X4_isSure v M = some (1, M)) ∨ (¬ Sure v ∧ f_X4_isSure v M = some (0, M)) := by
  unfold f_X4_isSure Sure
  by_cases h0 : v = 1
  · rw [if_pos h0]; exact Or.inl ⟨Or.inr h0, rfl⟩
  · rw [if_neg h0]
    by_cases h1 : v = 0
    · rw [if_pos h1]; exact Or.inl ⟨Or.inl h1, rfl⟩
    · rw [if_neg h1]; exact Or.inr ⟨fun z => z.elim h1 h0, rfl⟩
theorem allc_f {M : Mem} {T p : Nat} (h : TB M T) (hp : p < Cn M 4) : f_X6_allFrames (T + 31 + 5 * p) M = some (nI (2 ^ Fn M p - 1), M) := by
  have O := h.2.1
  have h4 := O.1.2.2.2.2.1.2
  have hF := (O.2.2.2.2.2.2.1 p hp).2.2.2.2.2.1
  obtain ⟨t1, t2, t3, t4, t5, t6⟩ := tt_p h.1 p (by omega)
  have r5 := (h.2.2.1.2.2.2.2.2.1 p hp).2.2.2.2.2.1
  unfold f_X6_allFrames
  rw [gd_t t6, r5, hF.1, all_nI _ hF.2]
theorem allJ_f {M M1 : Mem} {T p : Nat} (h : TB M T) (o : OffJ M M1) (hp : p < Cn M 4) : f_X6_allFrames (T + 31 + 5 * p) M1 = some (nI (2 ^ Fn M p - 1), M1) := by
  have := allc_f (h.offJ o) (p := p) (by rw [Cn_dat o.dat]; exact hp)
  rw [Fn_dat o.dat] at this
  exact this
theorem byAllc_f {M : Mem} {T p : Nat} (h : TB M T) (hp : p < Cn M 4) : ∃ M', f_X4_byFrames T (T + 31 + 5 * p) (nI (2 ^ Fn M p - 1)) M = some (vall M p, M') ∧ OffJ M M' := by
  have O := h.2.1
  have h4 := O.1.2.2.2.2.1.2
  have hF := (O.2.2.2.2.2.2.1 p hp).2.2.2.2.2.1
  have h2 := two_le hF.2
  have h1 : 1 ≤ 2 ^ Fn M p := Nat.one_le_two_pow
  obtain ⟨t1, t2, t3, t4, t5, t6⟩ := tt_p h.1 p (by omega)
  obtain ⟨M', e, o⟩ := vq_J h (OffJ.refl M) hp (s := 2 ^ Fn M p - 1) (by omega)
  exact ⟨M', e, o⟩
theorem byAll_f {M : Mem} (O : MOk M) {p : Nat} (hp : p < Cn M 4) : ∃ d', f_X11_byAll (nI p) M = some (vall M p, sA M 344 d') := by
  have hF := (O.2.2.2.2.2.2.1 p hp).2.2.2.2.2.1
  have h2 := two_le hF.2
  have h1 : 1 ≤ 2 ^ Fn M p := Nat.one_le_two_pow
  obtain ⟨d', e, -⟩ := vq_ref O hp (s := 2 ^ Fn M p - 1) (by omega)
  refine ⟨d', ?_⟩
  unfold f_X11_byAll
  rw [all_f O hp, cl_s, e, cl_s]
  rfl
/-- the reference's -/
theorem few_ref {M : Mem} (O : MOk M) {p : Nat} (hp : p < Cn M 4) : ∃ r d', f_X11_fewest (nI p) M = some (r, sA (setI M 311 0 0) 344 d') ∧ FewV M p r := by
  have h4 := O.1.2.2.2.2.1
  have hF := (O.2.2.2.2.2.2.1 p hp).2.2.2.2.2.1
  have h2 := two_le hF.2
  have h1 : 1 ≤ 2 ^ Fn M p := Nat.one_le_two_pow
  have dt : Dat M (setI M 311 0 0) := fun a ha _ _ => funext (fun k => by rw [setI_1, if_neg (by omega)])
  have O1 := O.dat dt
  have hp1 : p < Cn (setI M 311 0 0) 4 := by rw [Cn_dat dt]; exact hp
  have ip : f_X11_isPlay (nI p) (setI M 311 0 0) = some (1, setI M 311 0 0) := by
    unfold f_X11_isPlay
    rw [O1.1.2.2.2.2.1.1, Cn_dat dt, within_n (by omega), cl_s, if_pos ⟨by rw [show (0 : Int32) = nI 0 from rfl, lt_nI (by omega) (by omega)]; omega, (lt_nI (by omega) (by omega)).mpr hp⟩, gd_t (by decide)]
  obtain ⟨d1, e1⟩ := byAll_f O1 hp1
  rw [vall_dat O dt hp] at e1
  unfold f_X11_fewest
  simp only [bnd_e]
  rw [ip, cl_s, if_neg (by decide), e1, cl_s]
  rcases sure_ref (vall M p) (sA (setI M 311 0 0) 344 d1) with ⟨s, e⟩ | ⟨s, e⟩
  · rw [e, cl_s, if_neg (by decide)]
    obtain ⟨m, d', e2, b⟩ := few_36 O1 hp1 (vall M p) d1 (k := 2 ^ Fn M p - 1) (by rw [Fn_dat dt]; omega) (by rw [vq_dat O dt hp (by omega)]; rfl)
    rw [Fn_dat dt] at b
    exact ⟨nI m, d', e2, Or.inr ⟨s, m, rfl, b.cong (fun k hk => by rw [vq_dat O dt hp (by omega)])⟩⟩
  · rw [e, cl_s, if_pos rfl]
    exact ⟨-2, d1, rfl, Or.inl ⟨s, rfl⟩⟩
/-- the class's -/
theorem few_cls {M : Mem} {T p : Nat} (h : TB M T) (hp : p < Cn M 4) : ∃ r M', f_X4_searchFewest T (T + 31 + 5 * p) M = some (r, M') ∧ OffJ M M' ∧ FewV M p r := by
  have O := h.2.1
  have h4 := O.1.2.2.2.2.1.2
  obtain ⟨t1, t2, t3, t4, t5, t6⟩ := tt_p h.1 p (by omega)
  obtain ⟨M1, e1, o1⟩ := byAllc_f h hp
  unfold f_X4_searchFewest
  rw [gd_t t6, allc_f h hp, cl_s, e1, cl_s]
  rcases sure_cls (vall M p) M1 with ⟨s, e⟩ | ⟨s, e⟩
  · rw [e, cl_s, if_neg (by decide)]
    obtain ⟨m, M', e2, o2, b⟩ := csf_26 h hp (vall M p) o1 rfl
    exact ⟨nI m, M', e2, o2, Or.inr ⟨s, m, rfl, b⟩⟩
  · rw [e, cl_s, if_pos rfl]
    exact ⟨-2, M1, rfl, o1, Or.inl ⟨s, rfl⟩⟩
theorem fewest_f {M : Mem} {T p : Nat} (h : TB M T) (hp : p < Cn M 4) (hc : M.1 (T + 31 + 5 * p) 10 = -3 ∨ FewV M p (M.1 (T + 31 + 5 * p) 10)) :
    ∃ r M', f_X4_fewestFrames T (T + 31 + 5 * p) M = some (r, M') ∧ OffC T M M' ∧ FewV M p r ∧ ∀ q, q < 8 → M'.1 (T + 31 + 5 * q) 11 = M.1 (T + 31 + 5 * q) 11 ∧ (M'.1 (T + 31 + 5 * q) 10 = M.1 (T + 31 + 5 * q) 10 ∨ (q = p ∧ M'.1 (T + 31 + 5 * q) 10 = r)) := by
  have O := h.2.1
  have h4 := O.1.2.2.2.2.1.2
  have tc := (tt_c h.1).2.1
  obtain ⟨t1, t2, t3, t4, t5, t6⟩ := tt_p h.1 p (by omega)
  unfold f_X4_fewestFrames
  rw [gd_t t6]
  by_cases c : M.1 (T + 31 + 5 * p) 10 = -3
  · rw [if_pos c]
    obtain ⟨r, M1, e1, o1, f⟩ := few_cls h hp
    rw [e1, cl_s]
    refine ⟨r, setI M1 (T + 31 + 5 * p) 10 r, ?_, ⟨o1.1, fun a k ha hq => ?_⟩, f, fun q hq => ⟨?_, ?_⟩⟩
    · simp only [bnd_e]
      rw [setI_1, if_pos ⟨rfl, rfl⟩]
    · rw [setI_1]
      rw [if_neg (fun z => (hq p (by omega) z.1).1 z.2), o1.2 a ha]
    · rw [setI_1, if_neg (fun z => by omega), o1.2 _ (by omega)]
    · rw [setI_1]
      by_cases z : q = p
      · exact Or.inr ⟨z, by rw [if_pos ⟨by omega, rfl⟩]⟩
      · exact Or.inl (by rw [if_neg (fun y => by omega), o1.2 _ (by omega)])
  · rw [if_neg c]
    exact ⟨_, M, rfl, OffC.refl _ _, hc.resolve_left c, fun q _ => ⟨rfl, Or.inl rfl⟩⟩
