/-! THE LAW'S SEARCH: a play, and all plays -/
section PLAYL
variable {N : Nat} {xs : Nat → Int32} {M0 : Mem} {v p : Nat}
theorem BF.eq {n : Nat} {P : Nat → Prop} {x : Int32} {m : Nat} (h : BF n P x) (b : Best n P m) : x = nI m := by
  obtain ⟨m', e, b'⟩ := h.best b.1 b.2.1
  rw [e, b'.uniq b]
/-- what a play's step leaves -/
def Lft (M0 a : Mem) (c s : Nat) : Prop := HB a ∧ Dat M0 a ∧ GX M0 a ∧ Mk M0 a c s
/-- the last questions of a play -/
theorem last_f (O0 : MOk M0) (hp : p < Cn M0 4) (hF : Fn M0 p ≤ 4) (h3 : Cn M0 0 = 3) {c s : Nat} {a : Mem} (t : Tab M0 v p (2 ^ Fn M0 p) c s a) {x6 : Int32} (b6 : BF 8 (fun s => vq M0 p (foA M0 p s) = vall M0 p) x6) {y : Int32 × Int32 × Int32} (S : Srch M0 p (2 ^ Fn M0 p) y) {x0 : Int32} (hx : (x0 = 1 ∧ Sure (vall M0 p)) ∨ (x0 = 0 ∧ ¬ Sure (vall M0 p))) (rec58 : Int32 → Mem → Option (Int32 × Mem)) :
    ∃ a', Lft M0 a' c s ∧ f_L_law_b371 N xs rec58 (nI p) x6 y.1 y.2.1 y.2.2 x0 a = rec58 (nI (p + 1)) a' := by
  have h16 := two_4 hF
  obtain ⟨s1, s2, s3⟩ := S
  have hp1 : p < Cn a 4 := by rw [Cn_dat t.2.1]; exact hp
  obtain ⟨r1, a1, e1, v1, k1, o1⟩ := an_fewest t.1 hp1
  have t1 := t.off k1 o1
  have hp2 : p < Cn a1 4 := by rw [Cn_dat t1.2.1]; exact hp
  obtain ⟨r2, a2, e2, v2, k2, o2⟩ := an_key t1.1 hp2
  have t2 := t1.off k2 o2
  have hp3 : p < Cn a2 4 := by rw [Cn_dat t2.2.1]; exact hp
  obtain ⟨r3, a3, e3, v3, k3, o3⟩ := an_enough t2.1 hp3
  have t3 := t2.off k3 o3
  have hp4 : p < Cn a3 4 := by rw [Cn_dat t3.2.1]; exact hp
  obtain ⟨r4, a4, e4, v4, k4, o4⟩ := an_mend t3.1 hp4
  have t4 := t3.off k4 o4
  refine ⟨a4, ⟨t4.1, t4.2.1, t4.2.2.1, t4.2.2.2.1⟩, ?_⟩
  -- what they answer
  have va : ∀ b, Dat M0 b → vall b p = vall M0 p := fun b d => vall_dat O0 d hp
  have q1 : r1 = if x0 = 0 then -2 else y.1 := by
    have dt := t.2.1
    rcases v1 with ⟨z, e⟩ | ⟨z, m, e, b⟩
    · rw [va a dt] at z
      rcases hx with ⟨-, w⟩ | ⟨rfl, -⟩
      · exact absurd w z
      · rw [if_pos rfl]; exact e
    · rw [va a dt] at z
      rcases hx with ⟨rfl, -⟩ | ⟨-, w⟩
      · rw [if_neg (by decide), e]
        have b' : Best (2 ^ Fn M0 p) (fun s => vq M0 p s = vall M0 p) m := by
          rw [Fn_dat dt] at b
          exact b.cong (fun k hk => by rw [vq_dat O0 dt hp (by omega), va a dt])
        exact (s1.eq b').symm
      · exact absurd z w
  have q2 : r2 = if x0 = 0 then -2 else y.2.1 := by
    have dt := t1.2.1
    rcases v2 with ⟨z, e⟩ | ⟨z, e⟩
    · rw [va a1 dt] at z
      rcases hx with ⟨-, w⟩ | ⟨rfl, -⟩
      · exact absurd w z
      · rw [if_pos rfl]; exact e
    · rw [va a1 dt] at z
      rcases hx with ⟨rfl, -⟩ | ⟨-, w⟩
      · rw [if_neg (by decide), e, Fn_dat dt, ky_dat O0 dt hp, s2, kyS_F hF]
      · exact absurd z w
  have q3 : r3 = if x0 = 0 then -2 else x6 := by
    have dt := t2.2.1
    rcases v3 with ⟨z, e⟩ | ⟨z, m, e, b⟩
    · rw [va a2 dt] at z
      rcases hx with ⟨-, w⟩ | ⟨rfl, -⟩
      · exact absurd w z
      · rw [if_pos rfl]; exact e
    · rw [va a2 dt] at z
      rcases hx with ⟨rfl, -⟩ | ⟨-, w⟩
      · rw [if_neg (by decide), e]
        have b' : Best 8 (fun s => vq M0 p (foA M0 p s) = vall M0 p) m := by
          rw [Cn_dat dt, h3] at b
          exact b.cong (fun k hk => by rw [foA_dat dt, vq_dat O0 dt hp (foA_lt O0 hp k), va a2 dt])
        exact (b6.eq b').symm
      · exact absurd z w
  have q4 : r4 = if 0 ≤ y.2.2 then y.2.2 else -2 := by
    have dt := t3.2.1
    rcases v4 with ⟨z, e⟩ | ⟨z, m, e, b⟩
    · rw [vq_dat O0 dt hp (by omega)] at z
      have n3 : y.2.2 = -1 := by
        rcases s3 with ⟨w, -⟩ | ⟨m, -, b⟩
        · exact w
        · exact absurd (vq_3 O0 hp (mk_lt O0 hp m) z) b.2.1
      rw [n3, if_neg (by decide)]
      exact e
    · have b' : Best (2 ^ Fn M0 p) (fun s => vq M0 p (mk M0 p s) ≠ 3) m := by
        rw [Fn_dat dt] at b
        exact b.cong (fun k hk => by rw [mk_dat dt, vq_dat O0 dt hp (mk_lt O0 hp k)])
      have e' := s3.eq b'
      rw [e', if_pos (nI_pos' (by have := b'.1; omega)), e]
  unfold f_L_law_b371
  rw [e1, cl_s]
  have n1 : nI p + 1 = nI (p + 1) := nI_1 p
  have fin : ∀ z, z = r4 → f_L_law_b450 N xs rec58 (nI p) r4 z a4 = rec58 (nI (p + 1)) a4 := fun z ez => by
    unfold f_L_law_b450
    rw [if_pos ez.symm, bnd_e, n1]
  have f430 : f_L_law_b430 N xs rec58 (nI p) y.2.2 r3 r3 a3 = rec58 (nI (p + 1)) a4 := by
    unfold f_L_law_b430
    rw [if_pos rfl, e4, cl_s]
    by_cases c : 0 ≤ y.2.2
    · rw [if_pos c]
      exact fin _ (by rw [q4, if_pos c])
    · rw [if_neg c]
      exact fin _ (by rw [q4, if_neg c])
  have f410 : f_L_law_b410 N xs rec58 (nI p) x6 y.2.2 x0 r2 r2 a2 = rec58 (nI (p + 1)) a4 := by
    unfold f_L_law_b410
    rw [if_pos rfl, e3, cl_s]
    by_cases c : x0 = 0
    · rw [if_pos c]
      have z : (-2 : Int32) = r3 := by rw [q3, if_pos c]
      rw [z]
      exact f430
    · rw [if_neg c]
      have z : x6 = r3 := by rw [q3, if_neg c]
      rw [← z] at f430
      rw [← z]
      exact f430
  have f390 : f_L_law_b390 N xs rec58 (nI p) x6 y.2.1 y.2.2 x0 r1 r1 a1 = rec58 (nI (p + 1)) a4 := by
    unfold f_L_law_b390
    rw [if_pos rfl, e2, cl_s]
    by_cases c : x0 = 0
    · rw [if_pos c]
      have z : (-2 : Int32) = r2 := by rw [q2, if_pos c]
      rw [z]
      exact f410
    · rw [if_neg c]
      have z : y.2.1 = r2 := by rw [q2, if_neg c]
      rw [z]
      exact f410
  by_cases c : x0 = 0
  · rw [if_pos c]
    have z : (-2 : Int32) = r1 := by rw [q1, if_pos c]
    rw [z]
    exact f390
  · rw [if_neg c]
    have z : y.1 = r1 := by rw [q1, if_neg c]
    rw [z]
    exact f390
theorem sure_iff {M : Mem} (O : MOk M) {p : Nat} (hp : p < Cn M 4) (hF : Fn M p ≤ 4) : Sure (vall M p) ↔ ¬ (2 : Int32) ≤ vall M p := by
  have h16 := two_4 hF
  unfold vall Sure
  rcases vq_rng O hp (s := 2 ^ Fn M p - 1) (by omega) with e | e | e | e <;> rw [e] <;> decide
/-- one play -/
theorem playl_f (hN : N < 2 ^ 30) (h0 : HB M0) (T0 : TolS (smN N xs) M0) (hc0 : 247 ≤ M0.2.2.2) (hp : p < Cn M0 4) (rec58 : Int32 → Mem → Option (Int32 × Mem)) : ∃ a', Lft M0 a' 3300 13000 ∧ f_L_law_b58_s N xs rec58 (nI p) M0 = rec58 (nI (p + 1)) a' := by
  have hs := smN_ok N xs
  have O0 := h0.1.2.1
  have hp' : p < snp (smN N xs) := by rw [← (d_cn hs T0).2.2.1]; exact hp
  obtain ⟨-, -, gF, -, g4⟩ := d_pl hs T0 hp'
  have hF : Fn M0 p ≤ 4 := by rw [gF]; exact g4
  have h16 := two_4 hF
  have h4 : Cn M0 4 ≤ 8 := O0.1.2.2.2.2.1.2
  obtain ⟨M1, e1⟩ : ∃ X, X = nwA 20 (2 ^ Fn M0 p) (2 ^ Fn M0 p) M0 := ⟨_, rfl⟩
  obtain ⟨v, ev⟩ : ∃ n, n = nn M0 := ⟨_, rfl⟩
  obtain ⟨d1, l1⟩ := dyo_nw (M := M0) 20 (2 ^ Fn M0 p) (2 ^ Fn M0 p) hc0
  have L1 : Lt M0 M1 := by rw [e1]; exact lt_nw hc0
  have K1 : Mk M0 M1 1 (2 ^ Fn M0 p) := by rw [e1]; exact mk_nw _ _ _ _
  rw [← e1, ← ev] at d1 l1
  have sh : (1 : Int32) <<< (nI (Fn M0 p) &&& 31) = nI (2 ^ Fn M0 p) := one_nI _ (by omega)
  unfold f_L_law_b58_s
  rw [an_count5 h0, cl_s, if_neg (nge (by omega) (by omega) hp), an_play5 h0 hp, cl_s, sh]
  have ecl : (nI (2 ^ Fn M0 p)).toNatClampNeg = 2 ^ Fn M0 p := nI_clamp (by omega)
  refine Exists.imp (fun a' h => ⟨h.1, ((gd_t ⟨nI_pos (by omega), by rw [ecl]; omega⟩).trans h.2)⟩) (?_ : ∃ a', Lft M0 a' 3300 13000 ∧ (bnd (nwA 20 (nI (2 ^ Fn M0 p)).toNatClampNeg (nI (2 ^ Fn M0 p)).toNatClampNeg M0) fun M6m => f_L_law_b79 N xs rec58 (nI p) (nI (Fn M0 p)) (nn M0) M6m) = rec58 (nI (p + 1)) a')
  rw [bnd_e, ecl, ← e1, ← ev]
  obtain ⟨Q, hQ⟩ : ∃ Q : Option (Int32 × Mem) → Prop, Q = fun r => ∃ a', Lft M0 a' 3300 13000 ∧ r = rec58 (nI (p + 1)) a' := ⟨_, rfl⟩
  have fin : Q (f_L_law_b84 N xs rec58 fuel (nI p) (nI (Fn M0 p)) v 0 M1) := by
    refine lp_inv (s := f_L_law_b84_s N xs rec58) (fun i a f => f (nI p) (nI (Fn M0 p)) v (nI i) a) (fun i a => Tab M0 v p i (1 + 201 * i) (2 ^ Fn M0 p + 803 * i) a) Q (2 ^ Fn M0 p) (fun i hi a t f => Or.inr ?_) (fun a t f => ?_) fuel (show 2 ^ Fn M0 p < 5000 by omega) M1 ⟨h0.lt L1, L1.dat, L1.1, K1, d1, l1, fun j hj => absurd hj (Nat.not_lt_zero j)⟩
    · obtain ⟨a', t', e⟩ := tab_1 hN T0 O0 hc0 hp hF hi t rec58 f
      exact ⟨a', ⟨t'.1, t'.2.1, t'.2.2.1, t'.2.2.2.1.le (by omega) (by omega), t'.2.2.2.2⟩, e⟩
    · show Q (f_L_law_b84_s N xs rec58 f (nI p) (nI (Fn M0 p)) v (nI (2 ^ Fn M0 p)) a)
      unfold f_L_law_b84_s
      rw [gd_t (dq3 t.2.2.2.2.1), t.2.2.2.2.2.1, ofN, if_pos (Int32.le_refl _), bnd_e, show nI (2 ^ Fn M0 p) - 1 = nI (2 ^ Fn M0 p - 1) from nI_sub (m := 2 ^ Fn M0 p) (k := 1) (by omega)]
      refine lp_inv (s := f_L_law_b121_s N xs rec58) (fun i a f => f (nI p) (nI (Fn M0 p)) v (nI (2 ^ Fn M0 p - 1)) (nI i) a) (fun _ a => Tab M0 v p (2 ^ Fn M0 p) (1 + 201 * 2 ^ Fn M0 p) (2 ^ Fn M0 p + 803 * 2 ^ Fn M0 p) a) Q (Fn M0 p + 1) (fun i hi a t f => Or.inr (pre_1 O0 hp hF hi t rec58 f)) (fun a t f => ?_) fuel (show Fn M0 p + 1 < 5000 by omega) a t
      show Q (f_L_law_b121_s N xs rec58 f (nI p) (nI (Fn M0 p)) v (nI (2 ^ Fn M0 p - 1)) (nI (Fn M0 p + 1)) a)
      unfold f_L_law_b121_s
      rw [if_pos ((lt_nI (by omega) (by omega)).mpr (by omega))]
      refine lp_inv (s := f_L_law_b160_s N xs rec58) (fun i (x : Int32 × Mem) f => f (nI p) v (nI (2 ^ Fn M0 p - 1)) x.1 (nI i) x.2) (fun i x => Tab M0 v p (2 ^ Fn M0 p) (1 + 201 * 2 ^ Fn M0 p) (2 ^ Fn M0 p + 803 * 2 ^ Fn M0 p) x.2 ∧ BF i (fun s => vq M0 p (foA M0 p s) = vall M0 p) x.1) Q 8 (fun i hi x t f => Or.inr (cam_1 hN O0 T0 hp hF hi t.1 t.2 rec58 f)) (fun x t f => ?_) fuel (by decide) (-1, a) ⟨t, bf_0 _⟩
      obtain ⟨x6, b⟩ := x
      obtain ⟨t, b6⟩ := t
      show Q (f_L_law_b160_s N xs rec58 f (nI p) v (nI (2 ^ Fn M0 p - 1)) x6 (nI 8) b)
      unfold f_L_law_b160_s
      rw [if_pos (show (8 : Int32) ≤ nI 8 from Int32.le_refl _)]
      refine lp_inv (s := f_L_law_b243_s N xs rec58) (fun i (y : Int32 × Int32 × Int32) f => f (nI p) v (nI (2 ^ Fn M0 p - 1)) x6 y.1 y.2.1 y.2.2 (nI i) b) (fun i y => Srch M0 p i y) Q (2 ^ Fn M0 p) (fun i hi y S f => Or.inr (set_1 hF hi t S rec58 f)) (fun y S f => ?_) fuel (show 2 ^ Fn M0 p < 5000 by omega) (-1, 0, -1) ⟨bf_0 _, rfl, bf_0 _⟩
      show Q (f_L_law_b243_s N xs rec58 f (nI p) v (nI (2 ^ Fn M0 p - 1)) x6 y.1 y.2.1 y.2.2 (nI (2 ^ Fn M0 p)) b)
      have tl := t.2.2.2.2.2.2 (2 ^ Fn M0 p - 1) (by omega)
      unfold f_L_law_b243_s
      rw [if_pos ((lt_nI (by omega) (by omega)).mpr (by omega)), gd_t (dq3 t.2.2.2.2.1), gd_t (inb_nI (by rw [t.2.2.2.2.2.1]; omega) (by rw [t.2.2.2.2.2.1]; omega)), nI_clamp (by omega), tl]
      have su := sure_iff O0 hp hF
      have go : ∀ x0, ((x0 = 1 ∧ Sure (vall M0 p)) ∨ (x0 = 0 ∧ ¬ Sure (vall M0 p))) → Q (f_L_law_b371 N xs rec58 (nI p) x6 y.1 y.2.1 y.2.2 x0 b) := fun x0 hx => by
        obtain ⟨a', l, e⟩ := last_f (N := N) (xs := xs) O0 hp hF (d_cn hs T0).1 t b6 S hx rec58
        rw [hQ]
        refine ⟨a', ⟨l.1, l.2.1, l.2.2.1, l.2.2.2.le (by omega) (by omega)⟩, e⟩
      by_cases c : (2 : Int32) ≤ vq M0 p (2 ^ Fn M0 p - 1)
      · rw [if_pos c]
        exact go 0 (Or.inr ⟨rfl, fun z => su.mp z c⟩)
      · rw [if_neg c]
        exact go 1 (Or.inl ⟨rfl, su.mpr c⟩)
  rw [hQ] at fin
  exact fin
end PLAYL
