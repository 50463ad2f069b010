/-! THE WHOLE RELATION of the two halves, and undo -/
/-- a byte as both keep it -/
def sb (b : Nat) : Int32 := (nI b).toInt8.toInt32
/-- the tape, THE ROW, the two Tolds -/
def RT (M : Mem) : Prop := (∃ t, t ≤ 600 ∧ M.1 64 1 = nI t ∧ M.1 311 2 = nI t ∧ ∀ k, k < t → M.1 65 k = M.1 312 k ∧ ∃ b, b < 256 ∧ M.1 312 k = sb b) ∧ (∃ j, j ≤ 16 ∧ M.1 64 13 = nI j ∧ M.1 311 46 = nI j ∧ ∀ k, k < j → M.1 226 k = M.1 345 k) ∧ M.2.2.1 64 2 + M.2.2.1 64 3 = 203
theorem RT.cong {M M' : Mem} (h : RT M) (e : M'.2 = M.2) (r : M'.1 65 = M.1 65 ∧ M'.1 312 = M.1 312 ∧ M'.1 226 = M.1 226 ∧ M'.1 345 = M.1 345) (s : M'.1 64 1 = M.1 64 1 ∧ M'.1 64 13 = M.1 64 13 ∧ M'.1 311 2 = M.1 311 2 ∧ M'.1 311 46 = M.1 311 46) : RT M' := by
  obtain ⟨r1, r2, r3, r4⟩ := r
  obtain ⟨s1, s2, s3, s4⟩ := s
  unfold RT
  rw [e, r1, r2, r3, r4, s1, s2, s3, s4]
  exact h
def Inv (M : Mem) : Prop := HB M ∧ RDay M 217 (M.1 340) ∧ (∃ a u v, UC M a u v ∧ UR M u v) ∧ (∀ i, i < 2 → (M.1 225 i = 0 ∧ M.1 343 i = 0) ∨ (M.1 225 i = 1 ∧ M.1 343 i = 1 ∧ RDay M (299 + 6 * i) (fun k => M.1 342 (114 * i + k)))) ∧ RT M
theorem Inv.c4 {M : Mem} (h : Inv M) : Cn M 4 ≤ 8 := h.1.1.2.1.1.2.2.2.2.1.2
/-- an asking or a doing: both answer alike, the relation stays, nothing is thrown -/
def Do (f g : Mem → Option (Int32 × Mem)) : Prop := ∀ M, Inv M → ∃ r M1 M2, f M = some (r, M1) ∧ g M1 = some (r, M2) ∧ Inv M2 ∧ M2.1 311 0 = 0
theorem Inv.sm {M M' : Mem} (h : Inv M) (o : Sm (tld M) M M') (h' : HB M') : Inv M' := by
  have c4 := h.c4
  obtain ⟨h1, h2, ⟨a, u, v, h3, h4⟩, h5, hT⟩ := h
  have tc := (tt_c h1.1.1).2.1
  have tc2 := (tt_c h1.1.1).2.2
  have row : ∀ b, 217 ≤ b → b ≠ 344 → b ≠ 311 → M'.1 b = M.1 b := fun b q1 q2 q3 => o.row (by omega) q2 q3 (fun q _ => by omega)
  have cn : ∀ i, Cn M' i = Cn M i := fun i => by unfold Cn; rw [row 313 (by omega) (by omega) (by omega)]
  have day : ∀ n s s', DN n → RDay M n s → (∀ k, k < 114 → s' k = s k) → RDay M' n s' := fun n s s' hn hr hs => by
    have rg := dn_rng hn
    exact hr.rows c4 (cn 4) (cn 1) (fun b q1 q2 => row b (by omega) (by omega) (by omega)) hs
  have slot : ∀ k, M'.1 64 k = M.1 64 k := fun k => o.2 64 k (by omega) (by omega) (by omega) (fun q _ hq => by omega)
  have r40 : M'.1 311 40 = M.1 311 40 := o.2 311 40 (by omega) (by omega) (by omega) (fun q _ hq => by omega)
  refine ⟨h', day 217 _ _ (Or.inl rfl) h2 (fun k _ => by rw [row 340 (by omega) (by omega) (by omega)]), ⟨a, u, v, ?_, ?_⟩, fun i hi => ?_, hT.cong o.1 ⟨o.row (by omega) (by omega) (by omega) (fun q _ => by omega), row 312 (by omega) (by omega) (by omega), row 226 (by omega) (by omega) (by omega), row 345 (by omega) (by omega) (by omega)⟩ ⟨slot 1, slot 13, o.2 311 2 (by omega) (by omega) (by omega) (fun q _ hq => by omega), o.2 311 46 (by omega) (by omega) (by omega) (fun q _ hq => by omega)⟩⟩
  · obtain ⟨u8, u9, ha, hu, ud⟩ := h3
    exact ⟨by rw [slot, u8], by rw [slot, u9], ha, hu, fun j hj => day _ _ _ (Or.inr (Or.inl ⟨(a + 12 - u + j) % 12, Nat.mod_lt _ (by decide), rfl⟩)) (ud j hj) (fun _ _ => rfl)⟩
  · obtain ⟨u1, hu, ud⟩ := h4
    exact ⟨by rw [r40, u1], hu, fun j hj k hk => by rw [row 341 (by omega) (by omega) (by omega)]; exact ud j hj k hk⟩
  · rw [row 225 (by omega) (by omega) (by omega), row 343 (by omega) (by omega) (by omega), row 342 (by omega) (by omega) (by omega)]
    rcases h5 i hi with z | ⟨z1, z2, z3⟩
    · exact Or.inl z
    · refine Or.inr ⟨z1, z2, day _ _ _ ?_ z3 (fun _ _ => rfl)⟩
      rcases Nat.lt_or_ge i 1 with q | q
      · rw [show i = 0 by omega]; exact Or.inr (Or.inr (Or.inl rfl))
      · rw [show i = 1 by omega]; exact Or.inr (Or.inr (Or.inr rfl))
theorem ask_do {f g : Mem → Option (Int32 × Mem)} (h : Ask f g) : Do f g := by
  intro M hI
  obtain ⟨r, M1, M2, e1, e2, hb, s, t⟩ := h M hI.1
  exact ⟨r, M1, M2, e1, e2, hI.sm s hb, t⟩
theorem mod_11 : ∀ a, a < 12 → ((nI a + 12) - 1) - ((nI a + 12) - 1) / 12 * 12 = nI ((a + 11) % 12) := by decide +kernel
/-- nothing of what is told changes -/
def OffT (M M' : Mem) : Prop := M'.2 = M.2 ∧ (∀ a, a ≤ 211 → a ≠ 64 → M'.1 a = M.1 a) ∧ (∀ a, 312 ≤ a → a ≤ 339 → M'.1 a = M.1 a) ∧ (M'.1 226 = M.1 226 ∧ M'.1 345 = M.1 345) ∧ M'.1 64 1 = M.1 64 1 ∧ M'.1 64 13 = M.1 64 13 ∧ M'.1 311 2 = M.1 311 2 ∧ M'.1 311 46 = M.1 311 46
theorem RT.offT {M M' : Mem} (h : RT M) (o : OffT M M') : RT M' := by
  obtain ⟨o1, o2, o3, ⟨o4, o5⟩, o6⟩ := o
  exact h.cong o1 ⟨o2 65 (by omega) (by omega), o3 312 (by omega) (by omega), o4, o5⟩ o6
theorem RTold.two {M M' : Mem} {T : Nat} (hT : TT T) (O : MOk M) (R : RTold M T) (w : ∀ a, T ≤ a → a ≤ T + 70 → M'.1 a = M.1 a) (d : Dat M M') : RTold M' T := by
  have b0 := O.1.1.2
  have b1 := O.1.2.1.2
  have b2 := O.1.2.2.1.2
  have b3 := O.1.2.2.2.1.2
  have b4 := O.1.2.2.2.2.1.2
  have tc := (tt_c hT).2.1
  have e : ∀ a, (T ≤ a ∧ a ≤ T + 70) ∨ (313 ≤ a ∧ a ≤ 339 ∧ a ≠ 316) → (∀ q, q < 8 → a ≠ T + 31 + 5 * q) → M'.1 a = M.1 a := fun a ha _ => ha.elim (fun z => w a z.1 z.2) (fun z => d a z.1 z.2.1 z.2.2)
  have e5 : ∀ q k, q < 8 → k < 10 → M'.1 (T + 31 + 5 * q) k = M.1 (T + 31 + 5 * q) k := fun q k hq hk => by rw [w _ (by omega) (by omega)]
  have cn : ∀ i, Cn M' i = Cn M i := fun i => by unfold Cn; rw [e 313 (by omega) (fun q _ => by omega)]
  have fn : ∀ i, Fn M' i = Fn M i := fun i => by unfold Fn; rw [e 335 (by omega) (fun q _ => by omega)]
  have pn : ∀ i, Pn M' i = Pn M i := fun i => by unfold Pn; rw [e 324 (by omega) (fun q _ => by omega)]
  have bn : ∀ i, Bn M' i = Bn M i := fun i => by unfold Bn; rw [e 328 (by omega) (fun q _ => by omega)]
  obtain ⟨r1, r2, r3, r4, r5, r6, r7⟩ := R
  refine ⟨?_, fun c hc => ?_, fun k hk => ?_, fun k hk => ?_, fun b hb => ?_, fun p hp => ?_, fun k hk => ?_⟩
  · rw [e T (by omega) (fun q _ => by omega), e 313 (by omega) (fun q _ => by omega)]; exact r1
  · rw [cn] at hc
    rw [e (T + 1) (by omega) (fun q _ => by omega), e (T + 2) (by omega) (fun q _ => by omega), e 317 (by omega) (fun q _ => by omega), e 318 (by omega) (fun q _ => by omega)]; exact r2 c hc
  · rw [cn] at hk
    rw [e (T + 5) (by omega) (fun q _ => by omega), e 320 (by omega) (fun q _ => by omega)]; exact r3 k hk
  · rw [cn] at hk
    rw [pn, e (T + 10 + 3 * k) (by omega) (fun q _ => by omega), e (T + 11 + 3 * k) (by omega) (fun q _ => by omega), e (T + 12 + 3 * k) (by omega) (fun q _ => by omega), e 321 (by omega) (fun q _ => by omega), e 322 (by omega) (fun q _ => by omega), e 323 (by omega) (fun q _ => by omega), e 324 (by omega) (fun q _ => by omega), e 325 (by omega) (fun q _ => by omega), e 326 (by omega) (fun q _ => by omega)]; exact r4 k hk
  · rw [cn] at hb
    rw [bn, e (T + 25 + 2 * b) (by omega) (fun q _ => by omega), e (T + 26 + 2 * b) (by omega) (fun q _ => by omega), e 327 (by omega) (fun q _ => by omega), e 328 (by omega) (fun q _ => by omega), e 329 (by omega) (fun q _ => by omega)]; exact r5 b hb
  · rw [cn] at hp
    rw [fn, e5 p 0 (by omega) (by omega), e5 p 1 (by omega) (by omega), e5 p 2 (by omega) (by omega), e5 p 3 (by omega) (by omega), e5 p 4 (by omega) (by omega), e5 p 5 (by omega) (by omega), e (T + 32 + 5 * p) (by omega) (fun q _ => by omega), e (T + 33 + 5 * p) (by omega) (fun q _ => by omega), e (T + 34 + 5 * p) (by omega) (fun q _ => by omega), e (T + 35 + 5 * p) (by omega) (fun q _ => by omega), e 330 (by omega) (fun q _ => by omega), e 331 (by omega) (fun q _ => by omega), e 332 (by omega) (fun q _ => by omega), e 333 (by omega) (fun q _ => by omega), e 334 (by omega) (fun q _ => by omega), e 335 (by omega) (fun q _ => by omega), e 336 (by omega) (fun q _ => by omega), e 337 (by omega) (fun q _ => by omega), e 338 (by omega) (fun q _ => by omega), e 339 (by omega) (fun q _ => by omega)]; exact r6 p hp
  · rw [e (T + 9) (by omega) (fun q _ => by omega), e 314 (by omega) (fun q _ => by omega)]; exact r7 k hk
theorem HB.offT {M M' : Mem} (h : HB M) (o : OffT M M') : HB M' := by
  have tc := (tt_c h.1.1).2.1
  have tc2 := (tt_c h.1.1).2.2
  have et : tld M' = tld M := by unfold tld; rw [o.1]
  have O := h.1.2.1
  have dt : Dat M M' := fun a h1 h2 _ => o.2.2.1 a (by omega) h2
  obtain ⟨-, -, -, tr2, -⟩ := tt_r h.1.1
  have h4 := O.1.2.2.2.2.1.2
  unfold HB
  rw [et]
  refine ⟨⟨h.1.1, O.dat dt, RTold.two h.1.1 O h.1.2.2.1 (fun a h1 h2 => o.2.1 a (by omega) (by omega)) dt, ?_⟩, fun p hp => ?_⟩
  · rw [CC_dat dt]
    exact h.1.2.2.2.cong (fun _ _ _ => Iff.rfl) (by rw [o.2.1 (tld M + 3) (by omega) (by omega)]) (by rw [tr2, o.2.1 (tld M + 4) (by omega) (by omega)])
  · rw [Cn_dat dt] at hp
    rw [o.2.1 (tld M + 31 + 5 * p) (by omega) (by omega)]
    obtain ⟨a, b⟩ := h.2 p hp
    exact ⟨a.imp id (fun z => z.dat O dt hp), b.imp id (fun z => z.dat O dt hp)⟩
