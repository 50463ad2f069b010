/-! ASKED OF BOTH: what a play is, fewest, key, enough, mend -/
def LeftV (M : Mem) (p : Nat) (r : Int32) : Prop := (vq M p 0 = 3 ∧ r = -2) ∨ (vq M p 0 ≠ 3 ∧ ∃ m, r = nI m ∧ Best (2 ^ Fn M p) (fun s => vq M p (mk M p s) ≠ 3) m)
theorem LeftV.uniq {M : Mem} {p : Nat} {r r' : Int32} (h : LeftV M p r) (h' : LeftV M p r') : r = r' := by
  rcases h with ⟨a, e⟩ | ⟨a, m, e, b⟩ <;> rcases h' with ⟨a', e'⟩ | ⟨a', m', e', b'⟩
  · rw [e, e']
  · exact absurd a a'
  · exact absurd a' a
  · rw [e, e', b.uniq b']
theorem mk_dat {M M' : Mem} (h : Dat M M') (p s : Nat) : mk M' p s = mk M p s := by
  unfold mk
  rw [Fn_dat h]
theorem LeftV.dat {M M' : Mem} (O : MOk M) (h : Dat M M') {p : Nat} (hp : p < Cn M 4) {r : Int32} (f : LeftV M p r) : LeftV M' p r := by
  unfold LeftV at *
  rw [vq_dat O h hp (by omega), Fn_dat h]
  rcases f with f | ⟨f1, m, e, b⟩
  · exact Or.inl f
  · exact Or.inr ⟨f1, m, e, b.cong (fun k hk => by rw [mk_dat h, vq_dat O h hp (mk_lt O hp k)])⟩
theorem ck_0 (M : Mem) (p : Nat) : CK M p 0 = CC M := by
  funext a b v
  apply propext
  constructor
  · rintro (h | ⟨k, hk, hb, -⟩)
    · exact h
    · rw [Nat.zero_testBit] at hb
      exact absurd hb (by decide)
  · exact Or.inl
/-- what the class keeps of plays -/
def Kept (M : Mem) (T : Nat) : Prop := ∀ p, p < Cn M 4 → (M.1 (T + 31 + 5 * p) 10 = -3 ∨ FewV M p (M.1 (T + 31 + 5 * p) 10)) ∧ (M.1 (T + 31 + 5 * p) 11 = -3 ∨ LeftV M p (M.1 (T + 31 + 5 * p) 11))
def tld (M : Mem) : Nat := M.2.2.1 64 2
/-- the class holds what the reference does of what is told -/
def HB (M : Mem) : Prop := TB M (tld M) ∧ Kept M (tld M)
/-- an asking changes no more than this -/
def Sm (T : Nat) (M M' : Mem) : Prop := M'.2 = M.2 ∧ ∀ a k, ¬ (212 ≤ a ∧ a ≤ 216) → a ≠ 344 → ¬ (a = 311 ∧ (k = 0 ∨ k = 44)) → (∀ q, q < 8 → a = T + 31 + 5 * q → k ≠ 10 ∧ k ≠ 11) → M'.1 a k = M.1 a k
theorem Sm.refl (T : Nat) (M : Mem) : Sm T M M := ⟨rfl, fun _ _ _ _ _ _ => rfl⟩
theorem Sm.tr {T : Nat} {M M' M'' : Mem} (h : Sm T M M') (h' : Sm T M' M'') : Sm T M M'' := ⟨h'.1.trans h.1, fun a k h1 h2 h3 h4 => (h'.2 a k h1 h2 h3 h4).trans (h.2 a k h1 h2 h3 h4)⟩
theorem OffC.sm {T : Nat} {M M' : Mem} (h : OffC T M M') : Sm T M M' := ⟨h.1, fun a k h1 _ _ h4 => h.2 a k (by omega) h4⟩
theorem OffJ.sm {M M' : Mem} (T : Nat) (h : OffJ M M') : Sm T M M' := (h.offC T).sm
theorem Sm.row {T : Nat} {M M' : Mem} (h : Sm T M M') {a : Nat} (h1 : ¬ (212 ≤ a ∧ a ≤ 216)) (h2 : a ≠ 344) (h3 : a ≠ 311) (hq : ∀ q, q < 8 → a ≠ T + 31 + 5 * q) : M'.1 a = M.1 a := funext (fun k => h.2 a k h1 h2 (fun z => h3 z.1) (fun q q1 q2 => absurd q2 (hq q q1)))
theorem Sm.dat {T : Nat} (hT : TT T) {M M' : Mem} (h : Sm T M M') : Dat M M' := fun a h1 h2 _ => h.row (by omega) (by omega) (by omega) (fun q _ => by
  have := (tt_c hT).2.1
  omega)
theorem RTold.sm {M M' : Mem} {T : Nat} (hT : TT T) (O : MOk M) (R : RTold M T) (h : Sm T M M') : RTold M' T := by
  have b0 := O.1.1.2
  have b1 := O.1.2.1.2
  have b2 := O.1.2.2.1.2
  have b3 := O.1.2.2.2.1.2
  have b4 := O.1.2.2.2.2.1.2
  have tc := (tt_c hT).2.1
  have e : ∀ a, a ≤ T + 70 ∨ (313 ≤ a ∧ a ≤ 339) → (∀ q, q < 8 → a ≠ T + 31 + 5 * q) → M'.1 a = M.1 a := fun a ha hq => h.row (by omega) (by omega) (by omega) hq
  have e5 : ∀ q k, q < 8 → k < 10 → M'.1 (T + 31 + 5 * q) k = M.1 (T + 31 + 5 * q) k := fun q k hq hk => h.2 _ _ (by omega) (by omega) (by omega) (fun _ _ _ => ⟨by omega, by omega⟩)
  have cn : ∀ i, Cn M' i = Cn M i := fun i => by unfold Cn; rw [e 313 (by omega) (fun q _ => by omega)]
  have fn : ∀ i, Fn M' i = Fn M i := fun i => by unfold Fn; rw [e 335 (by omega) (fun q _ => by omega)]
  have pn : ∀ i, Pn M' i = Pn M i := fun i => by unfold Pn; rw [e 324 (by omega) (fun q _ => by omega)]
  have bn : ∀ i, Bn M' i = Bn M i := fun i => by unfold Bn; rw [e 328 (by omega) (fun q _ => by omega)]
  obtain ⟨r1, r2, r3, r4, r5, r6, r7⟩ := R
  refine ⟨?_, fun c hc => ?_, fun k hk => ?_, fun k hk => ?_, fun b hb => ?_, fun p hp => ?_, fun k hk => ?_⟩
  · rw [e T (by omega) (fun q _ => by omega), e 313 (by omega) (fun q _ => by omega)]; exact r1
  · rw [cn] at hc
    rw [e (T + 1) (by omega) (fun q _ => by omega), e (T + 2) (by omega) (fun q _ => by omega), e 317 (by omega) (fun q _ => by omega), e 318 (by omega) (fun q _ => by omega)]; exact r2 c hc
  · rw [cn] at hk
    rw [e (T + 5) (by omega) (fun q _ => by omega), e 320 (by omega) (fun q _ => by omega)]; exact r3 k hk
  · rw [cn] at hk
    rw [pn, e (T + 10 + 3 * k) (by omega) (fun q _ => by omega), e (T + 11 + 3 * k) (by omega) (fun q _ => by omega), e (T + 12 + 3 * k) (by omega) (fun q _ => by omega), e 321 (by omega) (fun q _ => by omega), e 322 (by omega) (fun q _ => by omega), e 323 (by omega) (fun q _ => by omega), e 324 (by omega) (fun q _ => by omega), e 325 (by omega) (fun q _ => by omega), e 326 (by omega) (fun q _ => by omega)]; exact r4 k hk
  · rw [cn] at hb
    rw [bn, e (T + 25 + 2 * b) (by omega) (fun q _ => by omega), e (T + 26 + 2 * b) (by omega) (fun q _ => by omega), e 327 (by omega) (fun q _ => by omega), e 328 (by omega) (fun q _ => by omega), e 329 (by omega) (fun q _ => by omega)]; exact r5 b hb
  · rw [cn] at hp
    rw [fn, e5 p 0 (by omega) (by omega), e5 p 1 (by omega) (by omega), e5 p 2 (by omega) (by omega), e5 p 3 (by omega) (by omega), e5 p 4 (by omega) (by omega), e5 p 5 (by omega) (by omega), e (T + 32 + 5 * p) (by omega) (fun q _ => by omega), e (T + 33 + 5 * p) (by omega) (fun q _ => by omega), e (T + 34 + 5 * p) (by omega) (fun q _ => by omega), e (T + 35 + 5 * p) (by omega) (fun q _ => by omega), e 330 (by omega) (fun q _ => by omega), e 331 (by omega) (fun q _ => by omega), e 332 (by omega) (fun q _ => by omega), e 333 (by omega) (fun q _ => by omega), e 334 (by omega) (fun q _ => by omega), e 335 (by omega) (fun q _ => by omega), e 336 (by omega) (fun q _ => by omega), e 337 (by omega) (fun q _ => by omega), e 338 (by omega) (fun q _ => by omega), e 339 (by omega) (fun q _ => by omega)]; exact r6 p hp
  · rw [e (T + 9) (by omega) (fun q _ => by omega), e 314 (by omega) (fun q _ => by omega)]; exact r7 k hk
theorem TB.sm {M M' : Mem} {T : Nat} (h : TB M T) (o : Sm T M M') : TB M' T := by
  obtain ⟨hT, O, R, B⟩ := h
  have e := (tt_c hT).2.1
  obtain ⟨-, -, -, tr2, -⟩ := tt_r hT
  refine ⟨hT, O.dat (o.dat hT), R.sm hT O o, ?_⟩
  rw [CC_dat (o.dat hT)]
  exact B.cong (fun _ _ _ => Iff.rfl) (by rw [o.row (a := T + 3) (by omega) (by omega) (by omega) (fun q _ => by omega)]) (by rw [tr2, o.row (a := T + 4) (by omega) (by omega) (by omega) (fun q _ => by omega)])
/-- the reference's asking changes no more than this -/
def Rf (M M' : Mem) : Prop := M'.2 = M.2 ∧ ∀ a k, a ≠ 344 → ¬ (a = 311 ∧ (k = 0 ∨ k = 44)) → M'.1 a k = M.1 a k
theorem Rf.refl (M : Mem) : Rf M M := ⟨rfl, fun _ _ _ _ => rfl⟩
theorem Rf.tr {M M' M'' : Mem} (h : Rf M M') (h' : Rf M' M'') : Rf M M'' := ⟨h'.1.trans h.1, fun a k h1 h2 => (h'.2 a k h1 h2).trans (h.2 a k h1 h2)⟩
theorem Rf.sm {M M' : Mem} (T : Nat) (h : Rf M M') : Sm T M M' := ⟨h.1, fun a k _ h2 h3 _ => h.2 a k h2 h3⟩
theorem Rf.offC {T : Nat} {M M' : Mem} (h : Rf M M') {a : Nat} (h1 : a ≠ 344) (h2 : a ≠ 311) : M'.1 a = M.1 a := funext (fun k => h.2 a k h1 (fun z => h2 z.1))
theorem rf_sA (M : Mem) (d : Nat → Int32) : Rf M (sA M 344 d) := ⟨rfl, fun a k h _ => sA_n M d k h⟩
theorem rf_0 (M : Mem) (x : Int32) : Rf M (setI M 311 0 x) := ⟨rfl, fun a k _ h => by rw [setI_1, if_neg (fun z => h ⟨z.1, Or.inl z.2⟩)]⟩
theorem Rf.dat {M M' : Mem} (h : Rf M M') : Dat M M' := fun a h1 h2 _ => h.offC (T := 0) (by omega) (by omega)
/-- what is kept of plays is as it was -/
def KS (T : Nat) (M M' : Mem) : Prop := ∀ q, q < 8 → M'.1 (T + 31 + 5 * q) 10 = M.1 (T + 31 + 5 * q) 10 ∧ M'.1 (T + 31 + 5 * q) 11 = M.1 (T + 31 + 5 * q) 11
theorem HB.sm {M M' : Mem} (h : HB M) (o : Sm (tld M) M M') (k : KS (tld M) M M') : HB M' := by
  have hT := h.1.1
  have O := h.1.2.1
  have h4 := O.1.2.2.2.2.1.2
  have et : tld M' = tld M := by unfold tld; rw [o.1]
  unfold HB
  rw [et]
  refine ⟨h.1.sm o, fun p hp => ?_⟩
  rw [Cn_dat (o.dat hT)] at hp
  obtain ⟨k1, k2⟩ := k p (by omega)
  rw [k1, k2]
  obtain ⟨a, b⟩ := h.2 p hp
  exact ⟨a.imp id (fun z => z.dat O (o.dat hT) hp), b.imp id (fun z => z.dat O (o.dat hT) hp)⟩
theorem HB.rf {M M' : Mem} (h : HB M) (o : Rf M M') : HB M' := h.sm (o.sm _) (fun q hq => by
  have := (tt_c h.1.1).2.1
  rw [o.offC (T := 0) (a := tld M + 31 + 5 * q) (by omega) (by omega)]
  exact ⟨rfl, rfl⟩)
theorem HB.offJ {M M' : Mem} (h : HB M) (o : OffJ M M') : HB M' := h.sm (o.sm _) (fun q hq => by
  have := (tt_c h.1.1).2.1
  rw [o.2 (tld M + 31 + 5 * q) (by omega)]
  exact ⟨rfl, rfl⟩)
/-- an asking: both answer alike and nothing else changes; nothing is thrown -/
def Ask (f g : Mem → Option (Int32 × Mem)) : Prop := ∀ M, HB M → ∃ r M1 M2, f M = some (r, M1) ∧ g M1 = some (r, M2) ∧ HB M2 ∧ Sm (tld M) M M2 ∧ M2.1 311 0 = 0
/-! the plays -/
def IsP (M : Mem) (x : Int32) : Prop := ∃ p, p < Cn M 4 ∧ x = nI p
theorem play_c {M : Mem} (h : HB M) (x : Int32) : (IsP M x ∧ f_X10_isPlay x M = some (1, M)) ∨ (¬ IsP M x ∧ f_X10_isPlay x M = some (0, M)) := by
  have O := h.1.2.1
  have h4 := O.1.2.2.2.2.1
  have r := h.1.2.2.1.1.2.2.2.2.1
  unfold f_X10_isPlay
  by_cases c : x < 0
  · rw [if_pos c]
    refine Or.inr ⟨?_, rfl⟩
    rintro ⟨p, hp, rfl⟩
    rw [show (0 : Int32) = nI 0 from rfl, lt_nI (by omega) (by omega)] at c
    omega
  · rw [if_neg c]
    have e : M.2.2.1 64 2 = tld M := rfl
    rw [e, gd_t (tt_0 h.1.1), r, h4.1]
    obtain ⟨j, hj, rfl⟩ := nI_of c
    by_cases c2 : nI (Cn M 4) ≤ nI j
    · rw [if_pos c2]
      refine Or.inr ⟨?_, rfl⟩
      rintro ⟨p, hp, e2⟩
      rw [e2] at c2
      exact absurd c2 (nI_ge hp (by omega))
    · rw [if_neg c2]
      exact Or.inl ⟨⟨j, (lt_nI hj (by omega)).mp (Int32.not_le.mp c2), rfl⟩, rfl⟩
theorem play_r {M : Mem} (O : MOk M) (x : Int32) : (IsP M x ∧ f_X11_isPlay x M = some (1, M)) ∨ (¬ IsP M x ∧ f_X11_isPlay x M = some (0, M)) := by
  have h4 := O.1.2.2.2.2.1
  unfold f_X11_isPlay
  rw [h4.1, within_n (by omega), cl_s]
  by_cases c : ¬ x < 0 ∧ x < nI (Cn M 4)
  · rw [if_pos c, gd_t (by decide)]
    obtain ⟨j, hj, e⟩ := idx_of (by omega) c.1 c.2
    exact Or.inl ⟨⟨j, hj, e⟩, rfl⟩
  · rw [if_neg c, gd_t (by decide)]
    refine Or.inr ⟨?_, rfl⟩
    rintro ⟨p, hp, rfl⟩
    exact c ⟨by rw [show (0 : Int32) = nI 0 from rfl, lt_nI (by omega) (by omega)]; omega, (lt_nI (by omega) (by omega)).mpr hp⟩
theorem IsP.cong {M M' : Mem} (h : Dat M M') (x : Int32) : IsP M' x ↔ IsP M x := by
  unfold IsP
  rw [Cn_dat h]
theorem set_0 (M : Mem) : (setI M 311 0 0).1 311 0 = 0 := by rw [setI_1, if_pos ⟨rfl, rfl⟩]
theorem sA_0 {M : Mem} (d : Nat → Int32) : (sA (setI M 311 0 0) 344 d).1 311 0 = 0 := by rw [sA_n _ d 0 (by omega), set_0]
/-- an asking of a play: what is no play has its answer at once -/
theorem ask_play {f g : Mem → Option (Int32 × Mem)} {x z : Int32} {fc : Mem → Option (Int32 × Mem)} {gc : Mem → Option (Int32 × Mem)} (hf : ∀ M, f M = cl (f_X10_isPlay x M) (fun r1 M1 => if r1 = 0 then some (z, M1) else fc M1)) (hg : ∀ M, g M = cl (f_X11_isPlay x (setI M 311 0 0)) (fun r1 M1 => if r1 = 0 then some (z, M1) else gc M1))
    (hp : ∀ M p, HB M → p < Cn M 4 → x = nI p → ∃ r M1 M2, fc M = some (r, M1) ∧ gc (setI M1 311 0 0) = some (r, M2) ∧ HB M1 ∧ Sm (tld M) M M1 ∧ Rf (setI M1 311 0 0) M2 ∧ M2.1 311 0 = 0) : Ask f g := by
  intro M h
  rw [hf]
  rcases play_c h x with ⟨c, e⟩ | ⟨c, e⟩
  · obtain ⟨p, hp1, hx⟩ := c
    obtain ⟨r, M1, M2, e1, e2, h1, s1, s2, t⟩ := hp M p h hp1 hx
    refine ⟨r, M1, M2, by rw [e, cl_s, if_neg (by decide)]; exact e1, ?_, h1.rf ((rf_0 _ _).tr s2), s1.tr (((rf_0 _ _).tr s2).sm _), t⟩
    rw [hg]
    have c' : IsP (setI M1 311 0 0) x := (IsP.cong (((rf_0 M1 0)).dat) x).mpr ((IsP.cong (s1.dat h.1.1) x).mpr ⟨p, hp1, hx⟩)
    rcases play_r (h1.1.2.1.dat (rf_0 M1 0).dat) x with ⟨-, e3⟩ | ⟨n, -⟩
    · rw [e3, cl_s, if_neg (by decide)]; exact e2
    · exact absurd c' n
  · refine ⟨z, M, setI M 311 0 0, by rw [e, cl_s, if_pos rfl], ?_, h.rf (rf_0 _ _), (rf_0 _ _).sm _, set_0 M⟩
    rw [hg]
    rcases play_r (h.1.2.1.dat (rf_0 M 0).dat) x with ⟨n, -⟩ | ⟨-, e3⟩
    · exact absurd ((IsP.cong (rf_0 M 0).dat x).mp n) c
    · rw [e3, cl_s, if_pos rfl]
