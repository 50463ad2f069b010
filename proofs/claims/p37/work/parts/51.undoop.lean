/-! undo, done by both -/
theorem nI_p1 {u : Nat} (h : 1 ≤ u) : nI u - 1 = nI (u - 1) := nI_sub (k := 1) h
/-- the relation, after a change of days alone -/
theorem Inv.days {M M' : Mem} (h : Inv M) (hT : OffT M M') (hd : RDay M' 217 (M'.1 340)) (hu : ∃ a u v, UC M' a u v ∧ UR M' u v) (hk : ∀ i, i < 2 → (M'.1 225 i = 0 ∧ M'.1 343 i = 0) ∨ (M'.1 225 i = 1 ∧ M'.1 343 i = 1 ∧ RDay M' (299 + 6 * i) (fun k => M'.1 342 (114 * i + k)))) : Inv M' := ⟨h.1.offT hT, hd, hu, hk, h.2.2.2.2.offT hT⟩
theorem dn_k {i : Nat} (hi : i < 2) : DN (299 + 6 * i) := by
  rcases Nat.lt_or_ge i 1 with q | q
  · rw [show i = 0 by omega]; exact Or.inr (Or.inr (Or.inl rfl))
  · rw [show i = 1 by omega]; exact Or.inr (Or.inr (Or.inr rfl))
theorem do_undo : Do f_X10_undo f_X11_undo := by
  intro M hI
  have c4 := hI.c4
  have hI0 := hI
  obtain ⟨hb, hd, ⟨a, u, v, hc, hr⟩, hk, -⟩ := hI
  obtain ⟨u8, u9, ha, hu, ud⟩ := hc
  obtain ⟨w1, -, wd⟩ := hr
  by_cases hz : u = 0
  · refine ⟨-1, M, setI M 311 0 0, ?_, ?_, Inv.sm hI0 ((rf_0 M 0).sm _) (hb.rf (rf_0 M 0)), set_0 M⟩
    · unfold f_X10_undo
      rw [u9, hz, nI_0, if_pos rfl]
    · unfold f_X11_undo
      simp only [bnd_e]
      have z40 : (setI M 311 0 0).1 311 40 = 0 := by rw [setI_1, if_neg (by omega), w1, hz, nI_0]
      rw [z40, if_pos rfl]
  · have hne : nI u ≠ 0 := fun z => hz (inj_nI (by omega) (by omega) (show nI u = nI 0 from z))
    have ea : (a + 12 - u + (u - 1)) % 12 = (a + 11) % 12 := by omega
    have la : (a + 11) % 12 < 12 := Nat.mod_lt _ (by decide)
    have dna : DN (227 + 6 * ((a + 11) % 12)) := Or.inr (Or.inl ⟨_, la, rfl⟩)
    have rga := dn_rng dna
    -- the class
    obtain ⟨Ma, ea1⟩ : ∃ X, X = setI M 64 8 (nI ((a + 11) % 12)) := ⟨_, rfl⟩
    have ra : ∀ b, b ≠ 64 → Ma.1 b = M.1 b := fun b hb => funext (fun k => by rw [ea1, setI_1, if_neg (fun z => hb z.1)])
    have ra8 : Ma.1 64 8 = nI ((a + 11) % 12) := by rw [ea1, setI_1, if_pos ⟨rfl, rfl⟩]
    have ra9 : ∀ k, k ≠ 8 → Ma.1 64 k = M.1 64 k := fun k hk => by rw [ea1, setI_1, if_neg (fun z => hk z.2)]
    have cna : ∀ i, Cn Ma i = Cn M i := fun i => by unfold Cn; rw [ra 313 (by omega)]
    have Ra : RDay Ma (227 + 6 * ((a + 11) % 12)) (v (u - 1)) := by
      have := ud (u - 1) (by omega)
      rw [ea] at this
      exact this.rows c4 (cna 4) (cna 1) (fun b q1 q2 => ra b (by omega)) (fun _ _ => rfl)
    obtain ⟨M2, e2, R2, o2⟩ := copyDay_f (n := 217) (Or.inl rfl) dna (by omega) Ra (by rw [cna]; exact c4)
    obtain ⟨M3, e3⟩ : ∃ X, X = setI M2 64 9 (nI (u - 1)) := ⟨_, rfl⟩
    have r3 : ∀ b, b ≠ 64 → M3.1 b = M2.1 b := fun b hb => funext (fun k => by rw [e3, setI_1, if_neg (fun z => hb z.1)])
    have r39 : M3.1 64 9 = nI (u - 1) := by rw [e3, setI_1, if_pos ⟨rfl, rfl⟩]
    have r38 : M3.1 64 8 = nI ((a + 11) % 12) := by rw [e3, setI_1, if_neg (by omega), o2.2 64 (by omega), ra8]
    have q3 : ∀ b, b ≠ 64 → (b < 217 ∨ 222 < b) → M3.1 b = M.1 b := fun b h1 h2 => by rw [r3 b h1, o2.2 b (by omega), ra b h1]
    have m3 : M3.2 = M.2 := by
      rw [e3]
      show M2.2 = M.2
      rw [o2.1, ea1]
      rfl
    have f1 : f_X10_undo M = some (nI (u - 1), M3) := by
      unfold f_X10_undo
      rw [u9, if_neg hne]
      simp only [bnd_e]
      rw [u8, mod_11 a ha, ← ea1, ra8, gd_t (inb_nI (by omega) (by omega)), nI_clamp (by omega), cr_223 _ la, e2, clv_s, o2.2 64 (by omega), ra9 9 (by omega), u9, nI_p1 (by omega), ← e3, r39]
    -- the reference
    obtain ⟨M5, e5⟩ : ∃ X, X = setI (setI M3 311 0 0) 311 40 (nI (u - 1)) := ⟨_, rfl⟩
    have r5 : ∀ b, b ≠ 311 → M5.1 b = M3.1 b := fun b hb => funext (fun k => by rw [e5, setI_1, if_neg (fun z => hb z.1), setI_1, if_neg (fun z => hb z.1)])
    have r540 : M5.1 311 40 = nI (u - 1) := by rw [e5, setI_1, if_pos ⟨rfl, rfl⟩]
    have r50 : M5.1 311 0 = 0 := by rw [e5, setI_1, if_neg (by omega), setI_1, if_pos ⟨rfl, rfl⟩]
    have g1 := undo_26 M5 (u := u - 1) (by omega) r540
    obtain ⟨M6, e6⟩ : ∃ X, X = sA M5 340 (cpS (M5.1 340) 0 (M5.1 341) (114 * (u - 1)) 114) := ⟨_, rfl⟩
    rw [← e6] at g1
    have r6 : ∀ b, b ≠ 340 → M6.1 b = M5.1 b := fun b hb => funext (fun k => by rw [e6, sA_n M5 _ k hb])
    have r6s : ∀ k, k < 114 → M6.1 340 k = v (u - 1) k := fun k hk => by
      rw [e6, sA_s]
      unfold cpS
      rw [if_pos (by omega), r5 341 (by omega), q3 341 (by omega) (by omega), ← wd (u - 1) (by omega) k hk]
      exact congrArg (M.1 341) (by omega)
    have q6 : ∀ b, b ≠ 64 → b ≠ 311 → b ≠ 340 → (b < 217 ∨ 222 < b) → M6.1 b = M.1 b := fun b h1 h2 h3 h4 => by rw [r6 b h3, r5 b h2, q3 b h1 h4]
    have m6 : M6.2 = M.2 := by
      rw [e6]
      show M5.2 = M.2
      rw [e5]
      exact m3
    have f2 : f_X11_undo M3 = some (nI (u - 1), M6) := by
      unfold f_X11_undo
      simp only [bnd_e]
      have z : (setI M3 311 0 0).1 311 40 = nI u := by rw [setI_1, if_neg (by omega), q3 311 (by omega) (by omega), w1]
      rw [z, if_neg hne, nI_p1 (by omega), ← e5]
      exact g1
    have cn : ∀ i, Cn M6 i = Cn M i := fun i => by unfold Cn; rw [q6 313 (by omega) (by omega) (by omega) (by omega)]
    have c64 : ∀ k, k ≠ 8 → k ≠ 9 → M6.1 64 k = M.1 64 k := fun k h1 h2 => by rw [r6 64 (by omega), r5 64 (by omega), e3, setI_1, if_neg (fun z => h2 z.2), o2.2 64 (by omega), ra9 k h1]
    have c311 : ∀ k, k ≠ 0 → k ≠ 40 → M6.1 311 k = M.1 311 k := fun k h1 h2 => by rw [r6 311 (by omega), e5, setI_1, if_neg (fun z => h2 z.2), setI_1, if_neg (fun z => h1 z.2), q3 311 (by omega) (by omega)]
    have cn2 : ∀ i, Cn M2 i = Cn M i := fun i => by unfold Cn; rw [o2.2 313 (by omega), ra 313 (by omega)]
    have old : ∀ n s, DN n → n ≠ 217 → RDay M n s → RDay M6 n s := fun n s hn h217 hr => by
      have rg := dn_rng hn
      have far := dn_far hn (Or.inl rfl) h217
      exact hr.rows c4 (cn 4) (cn 1) (fun b q1 q2 => q6 b (by omega) (by omega) (by omega) (by omega)) (fun _ _ => rfl)
    refine ⟨nI (u - 1), M3, M6, f1, f2, Inv.days hI0 ⟨m6, fun b h1 h2 => q6 b h2 (by omega) (by omega) (by omega), fun b h1 h2 => q6 b (by omega) (by omega) (by omega) (by omega), ⟨q6 226 (by omega) (by omega) (by omega) (by omega), q6 345 (by omega) (by omega) (by omega) (by omega)⟩, c64 1 (by omega) (by omega), c64 13 (by omega) (by omega), c311 2 (by omega) (by omega), c311 46 (by omega) (by omega)⟩ ?_ ⟨(a + 11) % 12, u - 1, v, ⟨?_, ?_, la, by omega, fun j hj => ?_⟩, ⟨?_, by omega, fun j hj k hk => ?_⟩⟩ (fun i hi => ?_), ?_⟩
    · exact R2.rows (by rw [cn2]; exact c4) (by rw [cn, cn2]) (by rw [cn, cn2]) (fun b q1 q2 => by rw [r6 b (by omega), r5 b (by omega), r3 b (by omega)]) r6s
    · rw [r6 64 (by omega), r5 64 (by omega), r38]
    · rw [r6 64 (by omega), r5 64 (by omega), r39]
    · have lt := Nat.mod_lt (a + 12 - u + j) (show 0 < 12 by decide)
      rw [show ((a + 11) % 12 + 12 - (u - 1) + j) % 12 = (a + 12 - u + j) % 12 by omega]
      exact old _ _ (Or.inr (Or.inl ⟨_, lt, rfl⟩)) (by omega) (ud j (by omega))
    · rw [r6 311 (by omega), r540]
    · rw [q6 341 (by omega) (by omega) (by omega) (by omega)]
      exact wd j (by omega) k hk
    · rw [q6 225 (by omega) (by omega) (by omega) (by omega), q6 343 (by omega) (by omega) (by omega) (by omega), q6 342 (by omega) (by omega) (by omega) (by omega)]
      exact (hk i hi).imp id (fun z => ⟨z.1, z.2.1, old _ _ (dn_k hi) (by omega) z.2.2⟩)
    · rw [r6 311 (by omega), r50]
