/-! THE LAW'S SEARCH: a play's table -/
section TABLE
variable {N : Nat} {xs : Nat → Int32} {M0 : Mem} {v p : Nat}
theorem vq_rng {M : Mem} (O : MOk M) {p s : Nat} (hp : p < Cn M 4) (hs : s < 1024) : vq M p s = 0 ∨ vq M p s = 1 ∨ vq M p s = 2 ∨ vq M p s = 3 := by
  have d1 := Classical.propDecidable (SomeP M p s)
  have d2 := Classical.propDecidable (AllP M p s)
  have d3 := Classical.propDecidable (NoneP M p s)
  rw [vq_word O hp hs]
  unfold wordOf
  split
  · exact Or.inr (Or.inr (Or.inr rfl))
  · split
    · exact Or.inr (Or.inl rfl)
    · split
      · exact Or.inl rfl
      · exact Or.inr (Or.inr (Or.inl rfl))
theorem vq_3 {M : Mem} (O : MOk M) {p s : Nat} (hp : p < Cn M 4) (hs : s < 1024) (h0 : vq M p 0 = 3) : vq M p s = 3 := by
  have key : ∀ s, s < 1024 → (vq M p s = 3 ↔ ¬ SomeP M p s) := fun s hs => by
    have d1 := Classical.propDecidable (SomeP M p s)
    have d2 := Classical.propDecidable (AllP M p s)
    have d3 := Classical.propDecidable (NoneP M p s)
    rw [vq_word O hp hs]
    unfold wordOf
    by_cases c : SomeP M p s
    · rw [if_neg (show ¬ ¬ SomeP M p s from fun z => z c)]
      refine ⟨fun z => ?_, fun z => absurd c z⟩
      split at z
      · exact absurd z (by decide)
      · split at z
        · exact absurd z (by decide)
        · exact absurd z (by decide)
    · rw [if_pos c]
      exact ⟨fun _ => c, fun _ => rfl⟩
  refine (key s hs).mpr (fun ⟨l, t, h1, h2⟩ => (key 0 (by omega)).mp h0 ⟨l, t, h1, fun k _ hb => ?_⟩)
  rw [Nat.zero_testBit] at hb
  cases hb
/-- the play's words in the array v, n of them -/
def Tab (M0 : Mem) (v p n c s : Nat) (a : Mem) : Prop := HB a ∧ Dat M0 a ∧ GX M0 a ∧ Mk M0 a c s ∧ dyo a v 20 ∧ dln a v = 2 ^ Fn M0 p ∧ ∀ j, j < n → a.1 v j = vq M0 p j
theorem Tab.off {n c s : Nat} {a b : Mem} (t : Tab M0 v p n c s a) (h : HB b) (o : OffC (tld a) a b) : Tab M0 v p n c s b := by
  obtain ⟨t1, t2, t3, t4, t5, t6, t7⟩ := t
  have q : EQ a b := ⟨by rw [o.1], by rw [o.1]⟩
  exact ⟨h, t2.tr (fun x x1 _ _ => o.far t1 x1), t3.tr q.gx, (t4.tr q.mk).le (by omega) (by omega), q.dyo t5, by rw [q.dlq]; exact t6, fun j hj => by rw [o.far t1 (by have := t5.1; omega)]; exact t7 j hj⟩
theorem two_4 {n : Nat} (h : n ≤ 4) : 2 ^ n ≤ 16 ∧ 1 ≤ 2 ^ n := by
  rcases (show n = 0 ∨ n = 1 ∨ n = 2 ∨ n = 3 ∨ n = 4 by omega) with rfl | rfl | rfl | rfl | rfl <;> decide
theorem tab_1 (hN : N < 2 ^ 30) (T0 : TolS (smN N xs) M0) (O0 : MOk M0) (hc0 : 247 ≤ M0.2.2.2) (hp : p < Cn M0 4) (hF : Fn M0 p ≤ 4) {i c s : Nat} (hi : i < 2 ^ Fn M0 p) {a : Mem} (t : Tab M0 v p i c s a) (rec58 : Int32 → Mem → Option (Int32 × Mem)) (f : Int32 → Int32 → Nat → Int32 → Mem → Option (Int32 × Mem)) :
    ∃ a', Tab M0 v p (i + 1) (c + 201) (s + 803) a' ∧ f_L_law_b84_s N xs rec58 f (nI p) (nI (Fn M0 p)) v (nI i) a = f (nI p) (nI (Fn M0 p)) v (nI (i + 1)) a' := by
  obtain ⟨t1, t2, t3, t4, t5, t6, t7⟩ := t
  have h16 := two_4 hF
  have hpa : p < Cn a 4 := by rw [Cn_dat t2]; exact hp
  obtain ⟨b, e, K, mk⟩ := lverd_f (xs := xs) hN t1 (T0.dat t2) (Nat.le_trans hc0 t3.1) hpa (show i < 16 by omega)
  have ev : vq a p i = vq M0 p i := vq_dat O0 t2 hp (by omega)
  rw [ev] at e
  obtain ⟨k1, k2, k3, k4⟩ := K
  have v10 := t5.1
  have vv := t5.2.2
  have db := k3.dyo t5
  have lb : dln b v = 2 ^ Fn M0 p := k3.dl t5 t6
  refine ⟨setI b v i (vq M0 p i), ⟨k1.later v10, (t2.tr k2).tr (lt_I v10).dat, (t3.tr k3).tr (lt_I v10).1, ((t4.tr mk).tr (EQ_I _ _ _ _).mk).le (by omega) (by omega), (lt_I v10).1.dyo db, lb, fun j hj => ?_⟩, ?_⟩
  · rcases Nat.lt_or_ge j i with z | z
    · rw [setI_n (Or.inr (by omega)), k4 v v10 vv]
      exact t7 j z
    · rw [show j = i by omega, setI_s]
  · unfold f_L_law_b84_s
    rw [gd_t (dq3 t5), t6, ofN, if_neg (nge (by omega) (by omega) hi), e, cl_s]
    unfold f_L_law_b104
    rw [gd_t (dq3 db), gd_t (inb_nI (by rw [lb]; exact hi) (by rw [lb]; omega)), bnd_e, nI_clamp (by omega), bnd_e, nI_1]
/-- the words of the first frames -/
theorem pre_1 (O0 : MOk M0) (hp : p < Cn M0 4) (hF : Fn M0 p ≤ 4) {n c s : Nat} (hn : n < Fn M0 p + 1) {a : Mem} (t : Tab M0 v p (2 ^ Fn M0 p) c s a) {x5 : Int32} (rec58 : Int32 → Mem → Option (Int32 × Mem)) (f : Int32 → Int32 → Nat → Int32 → Int32 → Mem → Option (Int32 × Mem)) :
    ∃ a', Tab M0 v p (2 ^ Fn M0 p) c s a' ∧ f_L_law_b121_s N xs rec58 f (nI p) (nI (Fn M0 p)) v x5 (nI n) a = f (nI p) (nI (Fn M0 p)) v x5 (nI (n + 1)) a' := by
  have hpa : p < Cn a 4 := by rw [Cn_dat t.2.1]; exact hp
  obtain ⟨r, b, e, vr, h1, o⟩ := an_verdict t.1 hpa (nI n)
  have t' := t.off h1 o
  refine ⟨b, t', ?_⟩
  have hle : 2 ^ n ≤ 2 ^ Fn M0 p := Nat.pow_le_pow_right (by omega) (by omega)
  have h16 := two_4 hF
  have h1' : 1 ≤ 2 ^ n := Nat.one_le_two_pow
  have ei : ((1 : Int32) <<< (nI n &&& 31)) - 1 = nI (2 ^ n - 1) := by
    rw [one_nI n (by omega)]
    exact nI_sub (by omega)
  have er : r = vq M0 p (2 ^ n - 1) := by
    rcases vr with ⟨no, -⟩ | ⟨j, hj, ej, er⟩
    · exact absurd ⟨n, by rw [Fn_dat t.2.1]; omega, rfl⟩ no
    · have : n = j := inj_nI (by omega) (by rw [Fn_dat t.2.1] at hj; omega) ej
      subst this
      rw [er]
      exact vq_dat O0 t.2.1 hp (by omega)
  obtain ⟨-, -, -, -, t5, t6, t7⟩ := t'
  unfold f_L_law_b121_s
  rw [if_neg (show ¬ nI (Fn M0 p) < nI n from fun z => by rw [lt_nI (by omega) (by omega)] at z; omega), e, cl_s, gd_t (dq3 t5), ei, gd_t (inb_nI (by rw [t6]; omega) (by rw [t6]; omega)), nI_clamp (by omega), t7 _ (by omega), if_pos er, bnd_e, nI_1]
end TABLE
