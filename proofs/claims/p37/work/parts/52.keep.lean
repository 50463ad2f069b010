/-! keep, done by both -/
theorem cr_224 : ∀ i, i < 2 → cr 224 i = 299 + 6 * i := by decide +kernel
theorem keep_st (M : Mem) {i : Nat} (hi : i < 2) : f_X11_keep_b32 fuel (nI i) 0 0 M = some (1, setI (sA M 342 (cpS (M.1 342) (114 * i) (M.1 340) 0 114)) 343 i 1) := by
  have hl := lp_for (z := fun _ _ _ _ => none) (s := f_X11_keep_b32_s) (fun j (f : Int32 → Int32 → Int32 → Mem → Option (Int32 × Mem)) => f (nI i) 0 (nI j) (sA M 342 (cpS (M.1 342) (114 * i) (M.1 340) 0 j))) 114 (some (1, setI (sA M 342 (cpS (M.1 342) (114 * i) (M.1 340) 0 114)) 343 i 1)) (fun j hj f => by
    show f_X11_keep_b32_s f (nI i) 0 (nI j) (sA M 342 (cpS (M.1 342) (114 * i) (M.1 340) 0 j)) = f (nI i) 0 (nI (j + 1)) (sA M 342 (cpS (M.1 342) (114 * i) (M.1 340) 0 (j + 1)))
    unfold f_X11_keep_b32_s
    simp only [bnd_e]
    have e := cpS_s (M.1 342) (114 * i) (M.1 340) 0 j
    rw [if_neg (by rw [show (114 : Int32) = nI 114 from rfl]; exact nI_ge hj (by omega)), if_pos trivial, gd_t (inb_nI (by omega) (by omega)), n114, gd_t (inb_nI (by omega) (by omega)), nI_clamp (by omega), nI_clamp (by omega), sA_n M _ j (by omega), sA_set, nI_1]
    rw [show M.1 340 j = M.1 340 (j + 0) from rfl, e]) (fun f => by
    show f_X11_keep_b32_s f (nI i) 0 (nI 114) (sA M 342 (cpS (M.1 342) (114 * i) (M.1 340) 0 114)) = _
    unfold f_X11_keep_b32_s
    rw [if_pos (by decide), if_pos rfl, gd_t (inb_nI (by omega) (by omega)), nI_clamp (by omega), bnd_e, nar_b.2]) fuel (by decide)
  simp only [cpS_0, sA_self] at hl
  exact hl
theorem keep_ld (M : Mem) {i : Nat} (hi : i < 2) {y : Int32} (hy : y ≠ 0) : f_X11_keep_b32 fuel (nI i) y 0 M = some (1, setI (sA M 340 (cpS (M.1 340) 0 (M.1 342) (114 * i) 114)) 311 40 0) := by
  have hl := lp_for (z := fun _ _ _ _ => none) (s := f_X11_keep_b32_s) (fun j (f : Int32 → Int32 → Int32 → Mem → Option (Int32 × Mem)) => f (nI i) y (nI j) (sA M 340 (cpS (M.1 340) 0 (M.1 342) (114 * i) j))) 114 (some (1, setI (sA M 340 (cpS (M.1 340) 0 (M.1 342) (114 * i) 114)) 311 40 0)) (fun j hj f => by
    show f_X11_keep_b32_s f (nI i) y (nI j) (sA M 340 (cpS (M.1 340) 0 (M.1 342) (114 * i) j)) = f (nI i) y (nI (j + 1)) (sA M 340 (cpS (M.1 340) 0 (M.1 342) (114 * i) (j + 1)))
    unfold f_X11_keep_b32_s
    simp only [bnd_e]
    have e := cpS_s (M.1 340) 0 (M.1 342) (114 * i) j
    rw [Nat.zero_add] at e
    rw [if_neg (by rw [show (114 : Int32) = nI 114 from rfl]; exact nI_ge hj (by omega)), if_neg hy, n114, gd_t (inb_nI (by omega) (by omega)), gd_t (inb_nI (by omega) (by omega)), nI_clamp (by omega), nI_clamp (by omega), sA_n M _ _ (show (342 : Nat) ≠ 340 by decide), sA_set, Nat.add_comm (114 * i) j, e, nI_1]) (fun f => by
    show f_X11_keep_b32_s f (nI i) y (nI 114) (sA M 340 (cpS (M.1 340) 0 (M.1 342) (114 * i) 114)) = _
    unfold f_X11_keep_b32_s
    rw [if_pos (by decide), if_neg hy, bnd_e]) fuel (by decide)
  simp only [cpS_0, sA_self] at hl
  exact hl
theorem do_keep (x y : Int32) : Do (f_X10_keep x y) (f_X11_keep x y) := by
  intro M hI
  have c4 := hI.c4
  have hI0 := hI
  obtain ⟨hb, hd, ⟨a, u, v, hc, hr⟩, hk, -⟩ := hI
  obtain ⟨u8, u9, ha, hu, ud⟩ := hc
  obtain ⟨w1, -, wd⟩ := hr
  have two : (¬ x < 0 ∧ x < 2) ↔ ∃ i, i < 2 ∧ x = nI i := cnt_c (n := 2) (by omega)
  have wi : ∀ M', f_X11_within x.toInt64 0 1 M' = some (if 0 ≤ x ∧ x ≤ 1 then 1 else 0, M') := fun M' => within32 x 0 1 M'
  have one : (0 ≤ x ∧ x ≤ 1) ↔ ∃ i, i ≤ 1 ∧ x = nI i := rng_nI (m := 1) (by omega)
  have out : (¬ ∃ i, i < 2 ∧ x = nI i) → ∃ r M1 M2, f_X10_keep x y M = some (r, M1) ∧ f_X11_keep x y M1 = some (r, M2) ∧ Inv M2 ∧ M2.1 311 0 = 0 := by
    intro hn
    refine ⟨0, M, setI M 311 0 0, ?_, ?_, Inv.sm hI0 ((rf_0 M 0).sm _) (hb.rf (rf_0 M 0)), set_0 M⟩
    · unfold f_X10_keep
      by_cases c : x < 0
      · rw [if_pos c]
      · rw [if_neg c, if_neg (fun z => hn (two.mp ⟨c, z⟩))]
    · unfold f_X11_keep
      simp only [bnd_e]
      have no : ¬ (0 ≤ x ∧ x ≤ 1) := fun z => hn (by
        obtain ⟨i, h1, h2⟩ := one.mp z
        exact ⟨i, by omega, h2⟩)
      rw [wi, cl_s, if_neg no, if_pos rfl]
  refine Classical.byCases (fun (hx : ∃ i, i < 2 ∧ x = nI i) => ?_) out
  obtain ⟨i, hi, rfl⟩ := hx
  have dni := dn_k hi
  have rgi := dn_rng dni
  have yes : 0 ≤ nI i ∧ nI i ≤ 1 := one.mpr ⟨i, by omega, rfl⟩
  have g0 : ∀ M', f_X11_keep (nI i) y M' = if y = 0 then f_X11_keep_b32 fuel (nI i) y 0 (setI M' 311 0 0) else (if (M'.1 343 i) = 0 then some (0, setI M' 311 0 0) else f_X11_keep_b32 fuel (nI i) y 0 (setI M' 311 0 0)) := fun M' => by
    unfold f_X11_keep
    simp only [bnd_e]
    have z : (setI M' 311 0 0).1 343 i = M'.1 343 i := by rw [setI_1, if_neg (by omega)]
    rw [wi, cl_s, if_pos yes, if_neg (by decide), gd_t (inb_nI (by omega) (by omega)), nI_clamp (by omega), z]
  have f0 : f_X10_keep (nI i) y M = if y = 0 then clv (f_X3_copyFrom (299 + 6 * i) 217 M) (fun M1m => some (1, setI M1m 225 i 1)) else if (M.1 225 i) = 0 then some (0, M) else clv (f_X3_copyFrom 217 (299 + 6 * i) M) (fun M3m => some (1, setI M3m 64 9 0)) := by
    unfold f_X10_keep
    simp only [bnd_e]
    rw [if_neg (neg_nI (by omega)), if_pos (two.mpr ⟨i, hi, rfl⟩).2, gd_t (inb_nI (by omega) (by omega)), gd_t (inb_nI (by omega) (by omega)), nI_clamp (by omega), cr_224 i hi, nar_b.2]
  by_cases hy : y = 0
  · obtain ⟨M1, e1, R1, o1⟩ := copyDay_f dni (Or.inl rfl) (by omega) hd c4
    obtain ⟨M3, e3⟩ : ∃ X, X = setI M1 225 i 1 := ⟨_, rfl⟩
    obtain ⟨M5, e5⟩ : ∃ X, X = setI M3 311 0 0 := ⟨_, rfl⟩
    obtain ⟨M6, e6⟩ : ∃ X, X = setI (sA M5 342 (cpS (M5.1 342) (114 * i) (M5.1 340) 0 114)) 343 i 1 := ⟨_, rfl⟩
    have r3 : ∀ b, b ≠ 225 → M3.1 b = M1.1 b := fun b hb => funext (fun k => by rw [e3, setI_1, if_neg (fun z => hb z.1)])
    have r5 : ∀ b, b ≠ 311 → M5.1 b = M3.1 b := fun b hb => funext (fun k => by rw [e5, setI_1, if_neg (fun z => hb z.1)])
    have r6 : ∀ b, b ≠ 342 → b ≠ 343 → M6.1 b = M5.1 b := fun b h1 h2 => funext (fun k => by rw [e6, setI_1, if_neg (fun z => h2 z.1), sA_n M5 _ k h1])
    have q6 : ∀ b, b ≠ 225 → b ≠ 311 → b ≠ 342 → b ≠ 343 → (b < 299 + 6 * i ∨ 299 + 6 * i + 5 < b) → M6.1 b = M.1 b := fun b h1 h2 h3 h4 h5 => by rw [r6 b h3 h4, r5 b h2, r3 b h1, o1.2 b h5]
    have m6 : M6.2 = M.2 := by
      rw [e6]
      show M5.2 = M.2
      rw [e5]
      show M3.2 = M.2
      rw [e3]
      exact o1.1
    have cn : ∀ i, Cn M6 i = Cn M i := fun i => by unfold Cn; rw [q6 313 (by omega) (by omega) (by omega) (by omega) (by omega)]
    have c311 : ∀ k, k ≠ 0 → M6.1 311 k = M.1 311 k := fun k h1 => by rw [r6 311 (by omega) (by omega), e5, setI_1, if_neg (fun z => h1 z.2), r3 311 (by omega), o1.2 311 (by omega)]
    have cn1 : ∀ i, Cn M1 i = Cn M i := fun i => by unfold Cn; rw [o1.2 313 (by omega)]
    have old : ∀ n s, DN n → n ≠ 299 + 6 * i → RDay M n s → RDay M6 n s := fun n s hn hne hr => by
      have rg := dn_rng hn
      have far := dn_far hn dni hne
      have f224 : n + 5 < 225 ∨ 225 < n := by
        rcases hn with rfl | ⟨j, hj, rfl⟩ | rfl | rfl <;> omega
      exact hr.rows c4 (cn 4) (cn 1) (fun b q1 q2 => q6 b (by omega) (by omega) (by omega) (by omega) (by omega)) (fun _ _ => rfl)
    have s340 : M5.1 340 = M.1 340 := by rw [r5 340 (by omega), r3 340 (by omega), o1.2 340 (by omega)]
    have s342 : M5.1 342 = M.1 342 := by rw [r5 342 (by omega), r3 342 (by omega), o1.2 342 (by omega)]
    have n342 : ∀ k, M6.1 342 k = cpS (M.1 342) (114 * i) (M.1 340) 0 114 k := fun k => by rw [e6, setI_1, if_neg (by omega), sA_s, s340, s342]
    have n40 : M6.1 311 40 = nI u := by rw [r6 311 (by omega) (by omega), e5, setI_1, if_neg (by omega), r3 311 (by omega), o1.2 311 (by omega), w1]
    refine ⟨1, M3, M6, by rw [f0, if_pos hy, e1, clv_s, ← e3], ?_, Inv.days hI0 ⟨m6, fun b h1 h2 => q6 b (by omega) (by omega) (by omega) (by omega) (by omega), fun b h1 h2 => q6 b (by omega) (by omega) (by omega) (by omega) (by omega), ⟨q6 226 (by omega) (by omega) (by omega) (by omega) (by omega), q6 345 (by omega) (by omega) (by omega) (by omega) (by omega)⟩, by rw [q6 64 (by omega) (by omega) (by omega) (by omega) (by omega)], by rw [q6 64 (by omega) (by omega) (by omega) (by omega) (by omega)], c311 2 (by omega), c311 46 (by omega)⟩ ?_ ⟨a, u, v, ⟨?_, ?_, ha, hu, fun j hj => ?_⟩, ⟨n40, hu, fun j hj k hk => ?_⟩⟩ (fun j hj => ?_), ?_⟩
    · rw [g0, if_pos hy, hy, ← e5, keep_st M5 hi, ← e6]
    · rw [q6 340 (by omega) (by omega) (by omega) (by omega) (by omega)]
      exact old 217 _ (Or.inl rfl) (by omega) hd
    · rw [q6 64 (by omega) (by omega) (by omega) (by omega) (by omega), u8]
    · rw [q6 64 (by omega) (by omega) (by omega) (by omega) (by omega), u9]
    · have lt := Nat.mod_lt (a + 12 - u + j) (show 0 < 12 by decide)
      exact old _ _ (Or.inr (Or.inl ⟨_, lt, rfl⟩)) (by omega) (ud j hj)
    · rw [q6 341 (by omega) (by omega) (by omega) (by omega) (by omega)]
      exact wd j hj k hk
    · by_cases hji : j = i
      · subst hji
        refine Or.inr ⟨?_, ?_, ?_⟩
        · rw [r6 225 (by omega) (by omega), r5 225 (by omega), e3, setI_1, if_pos ⟨rfl, rfl⟩]
        · rw [e6, setI_1, if_pos ⟨rfl, rfl⟩]
        · exact R1.rows (by rw [cn1]; exact c4) (by rw [cn, cn1]) (by rw [cn, cn1]) (fun b q1 q2 => by rw [r6 b (by omega) (by omega), r5 b (by omega), r3 b (by omega)]) (fun k hk => by
            show M6.1 342 (114 * j + k) = M.1 340 k
            rw [n342]
            unfold cpS
            rw [if_pos (by omega)]
            exact congrArg (M.1 340) (by omega))
      · have k225 : M6.1 225 j = M.1 225 j := by rw [r6 225 (by omega) (by omega), r5 225 (by omega), e3, setI_1, if_neg (fun z => hji z.2), o1.2 225 (by omega)]
        have k343 : M6.1 343 j = M.1 343 j := by rw [e6, setI_1, if_neg (fun z => hji z.2), sA_n M5 _ j (by omega), r5 343 (by omega), r3 343 (by omega), o1.2 343 (by omega)]
        rw [k225, k343]
        refine (hk j hj).imp id (fun z => ⟨z.1, z.2.1, ?_⟩)
        have z2 := old _ _ (dn_k hj) (by omega) z.2.2
        refine z2.rows (by rw [cn]; exact c4) rfl rfl (fun _ _ _ => rfl) (fun k hk2 => ?_)
        rw [n342]
        unfold cpS
        rw [if_neg (by omega)]
    · rw [r6 311 (by omega) (by omega), e5, set_0]
  · rcases hk i hi with ⟨k1, k2⟩ | ⟨k1, k2, kd⟩
    · refine ⟨0, M, setI M 311 0 0, by rw [f0, if_neg hy, if_pos k1], ?_, Inv.sm hI0 ((rf_0 M 0).sm _) (hb.rf (rf_0 M 0)), set_0 M⟩
      rw [g0, if_neg hy, if_pos k2]
    · have e10 : (1 : Int32) ≠ 0 := by decide
      obtain ⟨M2, e2, R2, o2⟩ := copyDay_f (n := 217) (Or.inl rfl) dni (by omega) kd c4
      obtain ⟨M3, e3⟩ : ∃ X, X = setI M2 64 9 0 := ⟨_, rfl⟩
      obtain ⟨M5, e5⟩ : ∃ X, X = setI M3 311 0 0 := ⟨_, rfl⟩
      obtain ⟨M6, e6⟩ : ∃ X, X = setI (sA M5 340 (cpS (M5.1 340) 0 (M5.1 342) (114 * i) 114)) 311 40 0 := ⟨_, rfl⟩
      have r3 : ∀ b, b ≠ 64 → M3.1 b = M2.1 b := fun b hb => funext (fun k => by rw [e3, setI_1, if_neg (fun z => hb z.1)])
      have r5 : ∀ b, b ≠ 311 → M5.1 b = M3.1 b := fun b hb => funext (fun k => by rw [e5, setI_1, if_neg (fun z => hb z.1)])
      have r6 : ∀ b, b ≠ 340 → b ≠ 311 → M6.1 b = M5.1 b := fun b h1 h2 => funext (fun k => by rw [e6, setI_1, if_neg (fun z => h2 z.1), sA_n M5 _ k h1])
      have q6 : ∀ b, b ≠ 64 → b ≠ 311 → b ≠ 340 → (b < 217 ∨ 222 < b) → M6.1 b = M.1 b := fun b h1 h2 h3 h4 => by rw [r6 b h3 h2, r5 b h2, r3 b h1, o2.2 b (by omega)]
      have m6 : M6.2 = M.2 := by
        rw [e6]
        show M5.2 = M.2
        rw [e5]
        show M3.2 = M.2
        rw [e3]
        exact o2.1
      have cn : ∀ i, Cn M6 i = Cn M i := fun i => by unfold Cn; rw [q6 313 (by omega) (by omega) (by omega) (by omega)]
      have cn2 : ∀ i, Cn M2 i = Cn M i := fun i => by unfold Cn; rw [o2.2 313 (by omega)]
      have c64 : ∀ k, k ≠ 9 → M6.1 64 k = M.1 64 k := fun k h1 => by rw [r6 64 (by omega) (by omega), r5 64 (by omega), e3, setI_1, if_neg (fun z => h1 z.2), o2.2 64 (by omega)]
      have c311 : ∀ k, k ≠ 0 → k ≠ 40 → M6.1 311 k = M.1 311 k := fun k h1 h2 => by rw [e6, setI_1, if_neg (fun z => h2 z.2), sA_n M5 _ k (by omega), e5, setI_1, if_neg (fun z => h1 z.2), r3 311 (by omega), o2.2 311 (by omega)]
      have r6s : ∀ k, k < 114 → M6.1 340 k = M.1 342 (114 * i + k) := fun k hk => by
        rw [e6, setI_1, if_neg (by omega), sA_s]
        unfold cpS
        rw [if_pos (by omega), r5 342 (by omega), r3 342 (by omega), o2.2 342 (by omega)]
        exact congrArg (M.1 342) (by omega)
      have old : ∀ n s, DN n → n ≠ 217 → RDay M n s → RDay M6 n s := fun n s hn h217 hr => by
        have rg := dn_rng hn
        have far := dn_far hn (Or.inl rfl) h217
        exact hr.rows c4 (cn 4) (cn 1) (fun b q1 q2 => q6 b (by omega) (by omega) (by omega) (by omega)) (fun _ _ => rfl)
      refine ⟨1, M3, M6, by rw [f0, if_neg hy, if_neg (by rw [k1]; exact e10), e2, clv_s, ← e3], ?_, Inv.days hI0 ⟨m6, fun b h1 h2 => q6 b h2 (by omega) (by omega) (by omega), fun b h1 h2 => q6 b (by omega) (by omega) (by omega) (by omega), ⟨q6 226 (by omega) (by omega) (by omega) (by omega), q6 345 (by omega) (by omega) (by omega) (by omega)⟩, c64 1 (by omega), c64 13 (by omega), c311 2 (by omega) (by omega), c311 46 (by omega) (by omega)⟩ ?_ ⟨a, 0, v, ⟨?_, ?_, ha, by omega, fun j hj => absurd hj (by omega)⟩, ⟨?_, by omega, fun j hj => absurd hj (by omega)⟩⟩ (fun j hj => ?_), ?_⟩
      · have z3 : M3.1 343 i = 1 := by rw [r3 343 (by omega), o2.2 343 (by omega), k2]
        rw [g0, if_neg hy, z3, if_neg e10, ← e5, keep_ld M5 hi hy, ← e6]
      · exact R2.rows (by rw [cn2]; exact c4) (by rw [cn, cn2]) (by rw [cn, cn2]) (fun b q1 q2 => by rw [r6 b (by omega) (by omega), r5 b (by omega), r3 b (by omega)]) r6s
      · rw [c64 8 (by omega), u8]
      · rw [r6 64 (by omega) (by omega), r5 64 (by omega), e3, setI_1, if_pos ⟨rfl, rfl⟩]; rfl
      · rw [e6, setI_1, if_pos ⟨rfl, rfl⟩]; rfl
      · rw [q6 225 (by omega) (by omega) (by omega) (by omega), q6 343 (by omega) (by omega) (by omega) (by omega), q6 342 (by omega) (by omega) (by omega) (by omega)]
        exact (hk j hj).imp id (fun z => ⟨z.1, z.2.1, old _ _ (dn_k hj) (by omega) z.2.2⟩)
      · rw [e6, setI_1, if_neg (by omega), sA_n M5 _ 0 (by omega), e5, set_0]
