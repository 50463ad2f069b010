/-! THE LAW'S SEARCH: the fewest, by cameras, what mends, what all hangs on -/
section SEARCH
variable {N : Nat} {xs : Nat → Int32} {M0 : Mem} {v p : Nat}
theorem bf_y {j : Nat} {P : Nat → Prop} {x : Int32} (hj : j < 1000) (h : BF j P x) (hP : P j) (z : x = -1 ∨ ∃ m, x = nI m ∧ Best j P m ∧ pc j < pc m) : BF (j + 1) P (nI j) := by
  refine Or.inr ⟨j, rfl, Nat.lt_succ_self j, hP, fun k hk hPk => ?_⟩
  rcases Nat.lt_or_ge k j with c | c
  · rcases z with z | ⟨m, z1, z2, z3⟩
    · rcases h with ⟨-, h⟩ | ⟨m, e, hb⟩
      · exact absurd hPk (h k c)
      · exact absurd (e.symm.trans z) (nI_m1 (by have := hb.1; omega))
    · have := z2.2.2 k c hPk
      omega
  · rw [show k = j by omega]
    exact Or.inr ⟨rfl, Nat.le_refl _⟩
theorem bf_n {j : Nat} {P : Nat → Prop} {x : Int32} (h : BF j P x) (z : P j → ∃ m, x = nI m ∧ Best j P m ∧ pc m ≤ pc j) : BF (j + 1) P x := by
  rcases h with ⟨e, h⟩ | ⟨m, e, hb⟩
  · refine Or.inl ⟨e, fun k hk hPk => ?_⟩
    rcases Nat.lt_or_ge k j with c | c
    · exact h k c hPk
    · rw [show k = j by omega] at hPk
      obtain ⟨m, -, hb, -⟩ := z hPk
      exact h m hb.1 hb.2.1
  · refine Or.inr ⟨m, e, by have := hb.1; omega, hb.2.1, fun k hk hPk => ?_⟩
    rcases Nat.lt_or_ge k j with c | c
    · exact hb.2.2 k c hPk
    · rw [show k = j by omega] at hPk ⊢
      obtain ⟨m', e', hb', hp'⟩ := z hPk
      have := hb.uniq hb'
      have := hb.1
      subst m'
      omega
/-- one set, kept if it has fewer members than the best till now -/
theorem bf_if {R : Type} {Q : Option R → Prop} {j : Nat} {P : Nat → Prop} {x : Int32} (hj : j < 1000) (h : BF j P x) (hP : P j) (M : Mem) {A B : Mem → Option R} (a : BF (j + 1) P (nI j) → Q (A M)) (b : BF (j + 1) P x → Q (B M)) : Q (if x < 0 then A M else cl (f_J6_bitCount_0f7a4 (nI j) M) fun r1 M1 => cl (f_J6_bitCount_0f7a4 x M1) fun r2 M2 => if r2 ≤ r1 then B M2 else A M2) := by
  rcases h with ⟨e, h⟩ | ⟨m, e, hb⟩
  · rw [if_pos (by rw [e]; decide)]
    exact a (bf_y hj (Or.inl ⟨e, h⟩) hP (Or.inl e))
  · have hm : m < j := hb.1
    have p1 := pc_lt j (by omega)
    have p2 := pc_lt m (by omega)
    rw [e, if_neg (nI_pos (by omega)), bitCount_f (by omega), cl_s, bitCount_f (by omega), cl_s]
    by_cases c : pc m ≤ pc j
    · rw [if_pos (le_nI (by omega) (by omega) c)]
      exact b (bf_n (Or.inr ⟨m, e, hb⟩) (fun _ => ⟨m, e, hb, c⟩))
    · rw [if_neg (nge (by omega) (by omega) (by omega))]
      exact a (bf_y hj (Or.inr ⟨m, e, hb⟩) hP (Or.inr ⟨m, e, hb, by omega⟩))
/-- by cameras -/
theorem cam_1 (hN : N < 2 ^ 30) (O0 : MOk M0) (T0 : TolS (smN N xs) M0) (hp : p < Cn M0 4) (hF : Fn M0 p ≤ 4) {j c s : Nat} (hj : j < 8) {a : Mem} (t : Tab M0 v p (2 ^ Fn M0 p) c s a) {x6 : Int32} (hb : BF j (fun s => vq M0 p (foA M0 p s) = vall M0 p) x6) (rec58 : Int32 → Mem → Option (Int32 × Mem)) (f : Int32 → Nat → Int32 → Int32 → Int32 → Mem → Option (Int32 × Mem)) :
    ∃ y : Int32 × Mem, (Tab M0 v p (2 ^ Fn M0 p) c s y.2 ∧ BF (j + 1) (fun s => vq M0 p (foA M0 p s) = vall M0 p) y.1) ∧ f_L_law_b160_s N xs rec58 f (nI p) v (nI (2 ^ Fn M0 p - 1)) x6 (nI j) a = f (nI p) v (nI (2 ^ Fn M0 p - 1)) y.1 (nI (j + 1)) y.2 := by
  have hs := smN_ok N xs
  have h16 := two_4 hF
  have hpa : p < Cn a 4 := by rw [Cn_dat t.2.1]; exact hp
  have ef := framesOf_law (N := N) (xs := xs) t.1 hpa hj
  rw [foA_dat t.2.1] at ef
  have fl : foA M0 p j < 2 ^ Fn M0 p := fo_lt M0 p j (Fn M0 p)
  have t7 := t.2.2.2.2.2.2
  obtain ⟨r, b, e, vr, h1, o⟩ := an_by t.1 hpa (nI j)
  have t' := t.off h1 o
  have er : r = vq M0 p (foA M0 p j) := by
    rcases vr with ⟨no, -⟩ | ⟨i, hi, ei, er⟩
    · exact absurd ⟨j, by rw [Cn_dat t.2.1, (d_cn hs T0).1]; omega, rfl⟩ no
    · have : j = i := inj_nI (by omega) (by rw [Cn_dat t.2.1, (d_cn hs T0).1] at hi; omega) ei
      subst this
      rw [er, foA_dat t.2.1]
      exact vq_dat O0 t.2.1 hp (by omega)
  have la := t.2.2.2.2.2.1
  have lb := t'.2.2.2.2.2.1
  have al := t'.2.2.2.2.2.2 (2 ^ Fn M0 p - 1) (by omega)
  unfold f_L_law_b160_s
  rw [if_neg (show ¬ (8 : Int32) ≤ nI j from nge (a := j) (b := 8) (by omega) (by omega) hj), ef, cl_s, gd_t (dq3 t.2.2.2.2.1), gd_t (inb_nI (by rw [la]; exact fl) (by rw [la]; omega)), nI_clamp (by omega), t7 _ fl, bnd_e, e, cl_s, if_pos er, gd_t (inb_nI (by rw [la]; omega) (by rw [la]; omega)), nI_clamp (by omega), al]
  by_cases c1 : vq M0 p (foA M0 p j) = vq M0 p (2 ^ Fn M0 p - 1)
  · rw [if_pos c1]
    refine bf_if (P := fun s => vq M0 p (foA M0 p s) = vall M0 p) (Q := fun r => ∃ y : Int32 × Mem, (Tab M0 v p (2 ^ Fn M0 p) c s y.2 ∧ BF (j + 1) (fun s => vq M0 p (foA M0 p s) = vall M0 p) y.1) ∧ r = f (nI p) v (nI (2 ^ Fn M0 p - 1)) y.1 (nI (j + 1)) y.2) (A := fun m => bnd (nI j + 1) fun a2 => f (nI p) v (nI (2 ^ Fn M0 p - 1)) (nI j) a2 m) (B := fun m => bnd (nI j + 1) fun a3 => f (nI p) v (nI (2 ^ Fn M0 p - 1)) x6 a3 m) (by omega) hb c1 b (fun z => ⟨(nI j, b), ⟨t', z⟩, ?_⟩) (fun z => ⟨(x6, b), ⟨t', z⟩, ?_⟩)
    · show bnd (nI j + 1) _ = _
      rw [bnd_e, nI_1]
    · show bnd (nI j + 1) _ = _
      rw [bnd_e, nI_1]
  · rw [if_neg c1, bnd_e, nI_1]
    exact ⟨(x6, b), ⟨t', bf_n hb (fun z => absurd z c1)⟩, rfl⟩
/-- what all hangs on, set after set -/
def kyS (M : Mem) (p : Nat) : Nat → Int32
  | 0 => 0
  | s + 1 => if pc s = 1 ∧ vq M p (mk M p s) = 2 then kyS M p s ||| nI s else kyS M p s
theorem kyS_n {M : Mem} {p s : Nat} (h : pc s ≠ 1) : kyS M p (s + 1) = kyS M p s := if_neg (fun z => h z.1)
theorem kyS_y {M : Mem} {p s : Nat} (h : pc s = 1) : kyS M p (s + 1) = if vq M p (mk M p s) = 2 then kyS M p s ||| nI s else kyS M p s := by
  show (if pc s = 1 ∧ vq M p (mk M p s) = 2 then kyS M p s ||| nI s else kyS M p s) = _
  by_cases c : vq M p (mk M p s) = 2
  · rw [if_pos ⟨h, c⟩, if_pos c]
  · rw [if_neg (fun z => c z.2), if_neg c]
theorem sk_mk {M : Mem} {p j : Nat} (hj : j ≤ 10) : sk M p j = mk M p (2 ^ j) := by
  unfold sk mk
  rw [one_nI j hj]
theorem ky_s {M : Mem} {p j : Nat} (hj : j ≤ 10) : ky M p (j + 1) = if vq M p (mk M p (2 ^ j)) = 2 then ky M p j ||| nI (2 ^ j) else ky M p j := by
  show (if vq M p (sk M p j) = 2 then ky M p j ||| ((1 : Int32) <<< (nI j &&& 31)) else ky M p j) = _
  rw [sk_mk hj, one_nI j hj]
theorem kyS_ky {M : Mem} {p : Nat} : kyS M p 1 = ky M p 0 ∧ kyS M p 2 = ky M p 1 ∧ kyS M p 4 = ky M p 2 ∧ kyS M p 8 = ky M p 3 ∧ kyS M p 16 = ky M p 4 := by
  have e1 : kyS M p 1 = ky M p 0 := by rw [kyS_n (s := 0) (by decide)]; rfl
  have e2 : kyS M p 2 = ky M p 1 := by rw [kyS_y (s := 1) (by decide), e1, ky_s (j := 0) (by omega)]
  have e4 : kyS M p 4 = ky M p 2 := by rw [kyS_n (s := 3) (by decide), kyS_y (s := 2) (by decide), e2, ky_s (j := 1) (by omega)]
  have e8 : kyS M p 8 = ky M p 3 := by rw [kyS_n (s := 7) (by decide), kyS_n (s := 6) (by decide), kyS_n (s := 5) (by decide), kyS_y (s := 4) (by decide), e4, ky_s (j := 2) (by omega)]
  have e16 : kyS M p 16 = ky M p 4 := by
    rw [kyS_n (s := 15) (by decide), kyS_n (s := 14) (by decide), kyS_n (s := 13) (by decide), kyS_n (s := 12) (by decide), kyS_n (s := 11) (by decide), kyS_n (s := 10) (by decide), kyS_n (s := 9) (by decide), kyS_y (s := 8) (by decide), e8, ky_s (j := 3) (by omega)]
  exact ⟨e1, e2, e4, e8, e16⟩
theorem kyS_F {M : Mem} {p F : Nat} (hF : F ≤ 4) : kyS M p (2 ^ F) = ky M p F := by
  obtain ⟨e1, e2, e4, e8, e16⟩ := kyS_ky (M := M) (p := p)
  rcases (show F = 0 ∨ F = 1 ∨ F = 2 ∨ F = 3 ∨ F = 4 by omega) with rfl | rfl | rfl | rfl | rfl
  · exact e1
  · exact e2
  · exact e4
  · exact e8
  · exact e16
/-- the three searched, after the sets below j -/
def Srch (M0 : Mem) (p j : Nat) (y : Int32 × Int32 × Int32) : Prop := BF j (fun s => vq M0 p s = vall M0 p) y.1 ∧ y.2.1 = kyS M0 p j ∧ BF j (fun s => vq M0 p (mk M0 p s) ≠ 3) y.2.2
theorem set_1 (hF : Fn M0 p ≤ 4) {j c s : Nat} (hj : j < 2 ^ Fn M0 p) {a : Mem} (t : Tab M0 v p (2 ^ Fn M0 p) c s a) {x6 : Int32} {y : Int32 × Int32 × Int32} (S : Srch M0 p j y) (rec58 : Int32 → Mem → Option (Int32 × Mem)) (f : Int32 → Nat → Int32 → Int32 → Int32 → Int32 → Int32 → Int32 → Mem → Option (Int32 × Mem)) :
    ∃ z, Srch M0 p (j + 1) z ∧ f_L_law_b243_s N xs rec58 f (nI p) v (nI (2 ^ Fn M0 p - 1)) x6 y.1 y.2.1 y.2.2 (nI j) a = f (nI p) v (nI (2 ^ Fn M0 p - 1)) x6 z.1 z.2.1 z.2.2 (nI (j + 1)) a := by
  have h16 := two_4 hF
  obtain ⟨-, -, -, -, t5, t6, t7⟩ := t
  obtain ⟨s1, s2, s3⟩ := S
  have ml : mk M0 p j < 2 ^ Fn M0 p := msk_lt (by omega) _
  have me : nI (2 ^ Fn M0 p - 1) &&& (nI j ^^^ (-1)) = nI (mk M0 p j) := msk_e _ _
  -- the third
  have third : ∀ (x7 x9 : Int32), BF (j + 1) (fun s => vq M0 p s = vall M0 p) x7 → BF (j + 1) (fun s => vq M0 p (mk M0 p s) ≠ 3) x9 → ∃ z, Srch M0 p (j + 1) z ∧ f_L_law_b321 N xs rec58 f (nI p) v (nI (2 ^ Fn M0 p - 1)) x6 x7 y.2.1 x9 (nI j) a = f (nI p) v (nI (2 ^ Fn M0 p - 1)) x6 z.1 z.2.1 z.2.2 (nI (j + 1)) a := fun x7 x9 b7 b9 => by
    have pl := pc_lt j (by omega)
    unfold f_L_law_b321
    rw [bitCount_f (by omega), cl_s]
    by_cases c1 : pc j = 1
    · rw [if_pos (by rw [c1]; rfl), gd_t (dq3 t5), me, gd_t (inb_nI (by rw [t6]; exact ml) (by rw [t6]; omega)), nI_clamp (by omega), t7 _ ml]
      by_cases c2 : vq M0 p (mk M0 p j) = 2
      · rw [if_pos c2, bnd_e, bnd_e, nI_1]
        exact ⟨(x7, y.2.1 ||| nI j, x9), ⟨b7, by show y.2.1 ||| nI j = _; rw [kyS_y c1, if_pos c2, s2], b9⟩, rfl⟩
      · rw [if_neg c2, bnd_e, nI_1]
        exact ⟨(x7, y.2.1, x9), ⟨b7, by show y.2.1 = _; rw [kyS_y c1, if_neg c2, s2], b9⟩, rfl⟩
    · rw [if_neg (fun q => c1 (inj_nI (by omega) (by omega) (q.trans (show (1 : Int32) = nI 1 from rfl)))), bnd_e, nI_1]
      exact ⟨(x7, y.2.1, x9), ⟨b7, by show y.2.1 = _; rw [kyS_n c1, s2], b9⟩, rfl⟩
  -- the second
  have second : ∀ (x7 : Int32), BF (j + 1) (fun s => vq M0 p s = vall M0 p) x7 → ∃ z, Srch M0 p (j + 1) z ∧ f_L_law_b285 N xs rec58 f (nI p) v (nI (2 ^ Fn M0 p - 1)) x6 x7 y.2.1 y.2.2 (nI j) a = f (nI p) v (nI (2 ^ Fn M0 p - 1)) x6 z.1 z.2.1 z.2.2 (nI (j + 1)) a := fun x7 b7 => by
    unfold f_L_law_b285
    rw [gd_t (dq3 t5), me, gd_t (inb_nI (by rw [t6]; exact ml) (by rw [t6]; omega)), nI_clamp (by omega), t7 _ ml]
    by_cases c1 : vq M0 p (mk M0 p j) = 3
    · rw [if_pos c1]
      exact third x7 y.2.2 b7 (bf_n s3 (fun z => absurd c1 z))
    · rw [if_neg c1]
      exact bf_if (P := fun s => vq M0 p (mk M0 p s) ≠ 3) (Q := fun r => ∃ z, Srch M0 p (j + 1) z ∧ r = f (nI p) v (nI (2 ^ Fn M0 p - 1)) x6 z.1 z.2.1 z.2.2 (nI (j + 1)) a) (A := fun m => f_L_law_b317 N xs rec58 f (nI p) v (nI (2 ^ Fn M0 p - 1)) x6 x7 y.2.1 (nI j) m) (B := fun m => f_L_law_b321 N xs rec58 f (nI p) v (nI (2 ^ Fn M0 p - 1)) x6 x7 y.2.1 y.2.2 (nI j) m) (by omega) s3 c1 a (fun z => third x7 (nI j) b7 z) (fun z => third x7 y.2.2 b7 z)
  unfold f_L_law_b243_s
  rw [if_neg (show ¬ nI (2 ^ Fn M0 p - 1) < nI j from fun z => by rw [lt_nI (by omega) (by omega)] at z; omega), gd_t (dq3 t5), gd_t (inb_nI (by rw [t6]; exact hj) (by rw [t6]; omega)), gd_t (inb_nI (by rw [t6]; omega) (by rw [t6]; omega)), nI_clamp (by omega), nI_clamp (by omega), t7 _ hj, t7 _ (by omega)]
  by_cases c1 : vq M0 p j = vq M0 p (2 ^ Fn M0 p - 1)
  · rw [if_pos c1]
    exact bf_if (P := fun s => vq M0 p s = vall M0 p) (Q := fun r => ∃ z, Srch M0 p (j + 1) z ∧ r = f (nI p) v (nI (2 ^ Fn M0 p - 1)) x6 z.1 z.2.1 z.2.2 (nI (j + 1)) a) (A := fun m => f_L_law_b281 N xs rec58 f (nI p) v (nI (2 ^ Fn M0 p - 1)) x6 y.2.1 y.2.2 (nI j) m) (B := fun m => f_L_law_b285 N xs rec58 f (nI p) v (nI (2 ^ Fn M0 p - 1)) x6 y.1 y.2.1 y.2.2 (nI j) m) (by omega) s1 c1 a (fun z => second (nI j) z) (fun z => second y.1 z)
  · rw [if_neg c1]
    exact second y.1 (bf_n s1 (fun z => absurd z c1))
end SEARCH
