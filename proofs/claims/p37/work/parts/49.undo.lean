/-! WHAT UNDO KEEPS, in both -/
/-- the class's ring: u days v, the next goes to a -/
def UC (M : Mem) (a u : Nat) (v : Nat → Nat → Int32) : Prop := M.1 64 8 = nI a ∧ M.1 64 9 = nI u ∧ a < 12 ∧ u ≤ 12 ∧ ∀ j, j < u → RDay M (227 + 6 * ((a + 12 - u + j) % 12)) (v j)
/-- the reference's row: u days v -/
def UR (M : Mem) (u : Nat) (v : Nat → Nat → Int32) : Prop := M.1 311 40 = nI u ∧ u ≤ 12 ∧ ∀ j, j < u → ∀ k, k < 114 → M.1 341 (114 * j + k) = v j k
def pushV (u : Nat) (v : Nat → Nat → Int32) (s : Nat → Int32) : Nat → Nat → Int32 := fun j => if u < 12 then (if j < u then v j else s) else (if j < 11 then v (j + 1) else s)
def up1 (u : Nat) : Nat := if u < 12 then u + 1 else 12
theorem cr_223 : ∀ i, i < 12 → cr 223 i = 227 + 6 * i := by decide +kernel
theorem mod_12 : ∀ a, a < 12 → (nI a + 1) - (nI a + 1) / 12 * 12 = nI ((a + 1) % 12) := by decide +kernel
theorem min_12 : ∀ u, u ≤ 12 → min32 (nI u + 1) 12 = nI (up1 u) := by decide +kernel
/-- a change of the ring alone -/
def OffU (M M' : Mem) : Prop := M'.2 = M.2 ∧ (∀ a, a ≠ 64 → (a < 227 ∨ 298 < a) → M'.1 a = M.1 a) ∧ ∀ k, k ≠ 8 → k ≠ 9 → M'.1 64 k = M.1 64 k
theorem startAct_f {M : Mem} {a u : Nat} {v : Nat → Nat → Int32} {s : Nat → Int32} (R : RDay M 217 s) (U : UC M a u v) (c4 : Cn M 4 ≤ 8) : ∃ M', f_X10_startAct M = some M' ∧ RDay M' 217 s ∧ UC M' ((a + 1) % 12) (up1 u) (pushV u v s) ∧ OffU M M' := by
  obtain ⟨U8, U9, ha, hu, Ud⟩ := U
  have dna : DN (227 + 6 * a) := Or.inr (Or.inl ⟨a, ha, rfl⟩)
  have rga := dn_rng dna
  obtain ⟨M1, e1, R1, o1⟩ := copyDay_f dna (Or.inl rfl) (by omega) R c4
  have w8 : M1.1 64 8 = nI a := by rw [o1.2 64 (by omega), U8]
  have w9 : M1.1 64 9 = nI u := by rw [o1.2 64 (by omega), U9]
  obtain ⟨M3, e3⟩ : ∃ X, X = setI (setI M1 64 8 (nI ((a + 1) % 12))) 64 9 (nI (up1 u)) := ⟨_, rfl⟩
  have r3 : ∀ b k, b ≠ 64 → M3.1 b k = M1.1 b k := fun b k hb => by rw [e3, setI_1, if_neg (fun z => hb z.1), setI_1, if_neg (fun z => hb z.1)]
  have z8 : M3.1 64 8 = nI ((a + 1) % 12) := by rw [e3, setI_1, if_neg (by omega), setI_1, if_pos ⟨rfl, rfl⟩]
  have z9 : M3.1 64 9 = nI (up1 u) := by rw [e3, setI_1, if_pos ⟨rfl, rfl⟩]
  have zk : ∀ k, k ≠ 8 → k ≠ 9 → M3.1 64 k = M.1 64 k := fun k h1 h2 => by rw [e3, setI_1, if_neg (fun z => h2 z.2), setI_1, if_neg (fun z => h1 z.2), o1.2 64 (by omega)]
  have off : ∀ b, b ≠ 64 → (b < 227 + 6 * a ∨ 227 + 6 * a + 5 < b) → M3.1 b = M.1 b := fun b h1 h2 => funext (fun k => by rw [r3 b k h1, o1.2 b h2])
  have row1 : ∀ b, b ≠ 64 → M3.1 b = M1.1 b := fun b h1 => funext (fun k => r3 b k h1)
  have cn : ∀ i, Cn M3 i = Cn M i := fun i => by unfold Cn; rw [off 313 (by omega) (by omega)]
  have cn1 : ∀ i, Cn M1 i = Cn M i := fun i => by unfold Cn; rw [o1.2 313 (by omega)]
  have m3 : M3.2 = M.2 := by rw [e3]; exact o1.1
  refine ⟨M3, ?_, ?_, ⟨z8, z9, Nat.mod_lt _ (by decide), by unfold up1; split <;> omega, fun j hj => ?_⟩, m3, fun b h1 h2 => off b h1 (by omega), zk⟩
  · unfold f_X10_startAct
    rw [U8, gd_t (inb_nI (by omega) (by omega)), nI_clamp (by omega), cr_223 a ha, e1, clv_s]
    simp only [bnd_e]
    rw [w8, mod_12 a ha, setI_1, if_neg (by omega), w9, min_12 u hu, ← e3]
  · exact R.rows c4 (cn 4) (cn 1) (fun b h1 h2 => off b (by omega) (by omega)) (fun _ _ => rfl)
  · have new : RDay M3 (227 + 6 * a) s := R1.rows (by rw [cn1]; exact c4) (by rw [cn, cn1]) (by rw [cn, cn1]) (fun b h1 h2 => row1 b (by omega)) (fun _ _ => rfl)
    have old : ∀ i, i < u → (a + 12 - u + i) % 12 ≠ a → RDay M3 (227 + 6 * ((a + 12 - u + i) % 12)) (v i) := fun i hi hne => by
      have lt := Nat.mod_lt (a + 12 - u + i) (show 0 < 12 by decide)
      exact (Ud i hi).rows c4 (cn 4) (cn 1) (fun b h1 h2 => off b (by omega) (by omega)) (fun _ _ => rfl)
    unfold up1 at hj ⊢
    unfold pushV
    by_cases c : u < 12
    · rw [if_pos c] at hj ⊢
      rw [if_pos c]
      by_cases c2 : j < u
      · rw [if_pos c2, show ((a + 1) % 12 + 12 - (u + 1) + j) % 12 = (a + 12 - u + j) % 12 by omega]
        exact old j c2 (by omega)
      · rw [if_neg c2, show ((a + 1) % 12 + 12 - (u + 1) + j) % 12 = a by omega]
        exact new
    · rw [if_neg c] at hj ⊢
      rw [if_neg c]
      by_cases c2 : j < 11
      · rw [if_pos c2, show ((a + 1) % 12 + 12 - 12 + j) % 12 = (a + 12 - u + (j + 1)) % 12 by omega]
        exact old (j + 1) (by omega) (by omega)
      · rw [if_neg c2, show ((a + 1) % 12 + 12 - 12 + j) % 12 = a by omega]
        exact new
theorem keeps_f {M : Mem} {u : Nat} {v : Nat → Nat → Int32} (U : UR M u v) : ∃ x, f_X11_keeps M = some (setI (sA M 341 x) 311 40 (nI (up1 u))) ∧ UR (setI (sA M 341 x) 311 40 (nI (up1 u))) (up1 u) (pushV u v (M.1 340)) := by
  obtain ⟨U1, hu, Ud⟩ := U
  unfold f_X11_keeps
  rw [U1]
  have rd : ∀ x k, (setI (sA M 341 x) 311 40 (nI (up1 u))).1 341 k = x k := fun x k => by rw [setI_1, if_neg (by omega), sA_s]
  have rd40 : ∀ x, (setI (sA M 341 x) 311 40 (nI (up1 u))).1 311 40 = nI (up1 u) := fun x => by rw [setI_1, if_pos ⟨rfl, rfl⟩]
  by_cases c : u < 12
  · have ev : up1 u = u + 1 := if_pos c
    refine ⟨cpS (M.1 341) (114 * u) (M.1 340) 0 114, ?_, rd40 _, by rw [ev]; omega, fun j hj k hk => ?_⟩
    · rw [if_neg (fun z => by have := inj_nI (by omega) (by omega) (show nI u = nI 12 from z); omega), keeps_51 M c U1, ev]
    · rw [rd]
      rw [ev] at hj
      unfold pushV cpS
      rw [if_pos c]
      by_cases c2 : j < u
      · rw [if_pos c2, if_neg (by omega)]; exact Ud j c2 k hk
      · rw [if_neg c2, if_pos (by omega)]
        exact congrArg (M.1 340) (by omega)
  · have eu : u = 12 := by omega
    have ev : up1 u = 12 := if_neg c
    rw [if_pos (by rw [eu]; rfl), keeps_11]
    simp only []
    refine ⟨cpS (cpS (M.1 341) 0 (M.1 341) 114 1254) (114 * 11) (M.1 340) 0 114, ?_, rd40 _, by rw [ev]; omega, fun j hj k hk => ?_⟩
    · have h40 : (setI (sA M 341 (cpS (M.1 341) 0 (M.1 341) 114 1254)) 311 40 (M.1 311 40 - 1)).1 311 40 = nI 11 := by
        rw [setI_1, if_pos ⟨rfl, rfl⟩, U1, eu]; decide
      rw [keeps_51 _ (by omega) h40, ev]
      have r340 : (setI (sA M 341 (cpS (M.1 341) 0 (M.1 341) 114 1254)) 311 40 (M.1 311 40 - 1)).1 340 = M.1 340 := funext (fun k => by rw [setI_1, if_neg (by omega), sA_n M _ k (by omega)])
      have r341 : (setI (sA M 341 (cpS (M.1 341) 0 (M.1 341) 114 1254)) 311 40 (M.1 311 40 - 1)).1 341 = cpS (M.1 341) 0 (M.1 341) 114 1254 := funext (fun k => by rw [setI_1, if_neg (by omega), sA_s])
      rw [r340, r341]
      congr 1
      generalize cpS (cpS (M.1 341) 0 (M.1 341) 114 1254) (114 * 11) (M.1 340) 0 114 = x
      generalize cpS (M.1 341) 0 (M.1 341) 114 1254 = y
      unfold setI sA
      congr 1
      funext b k
      show (if b = 311 ∧ k = 40 then nI 12 else if b = 341 then x k else if b = 311 ∧ k = 40 then M.1 311 40 - 1 else if b = 341 then y k else M.1 b k) = if b = 311 ∧ k = 40 then nI 12 else if b = 341 then x k else M.1 b k
      by_cases h1 : b = 311 ∧ k = 40
      · rw [if_pos h1, if_pos h1]
      · by_cases h2 : b = 341
        · simp only [if_neg h1, if_pos h2]
        · simp only [if_neg h1, if_neg h2]
    · rw [rd]
      rw [ev] at hj
      unfold pushV
      rw [if_neg c]
      have cp : ∀ q, cpS (cpS (M.1 341) 0 (M.1 341) 114 1254) (114 * 11) (M.1 340) 0 114 q = if 114 * 11 ≤ q ∧ q < 114 * 11 + 114 then M.1 340 (q - 114 * 11 + 0) else if 0 ≤ q ∧ q < 0 + 1254 then M.1 341 (q - 0 + 114) else M.1 341 q := fun q => rfl
      rw [cp]
      by_cases c2 : j < 11
      · rw [if_pos c2, if_neg (by omega), if_pos (by omega), ← Ud (j + 1) (by omega) k hk]
        exact congrArg (M.1 341) (by omega)
      · rw [if_neg c2, if_pos (by omega)]
        exact congrArg (M.1 340) (by omega)
