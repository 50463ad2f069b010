/-! gap -/
def GapV (C : Ct) (a b : Nat) (w : Int32) (r : Int32) : Prop := (Neg C ∧ r = 2000000) ∨ (¬ Neg C ∧ ∃ G, Tig C G ∧ ((G a b = IN ∧ r = 1000000) ∨ (G a b ≠ IN ∧ r.toInt = if w = 0 then -G a b else G a b)))
theorem GapV.uniq {C : Ct} (h10 : In10 C) {a b : Nat} (ha : a < 10) (hb : b < 10) {w r r' : Int32} (h : GapV C a b w r) (h' : GapV C a b w r') : r = r' := by
  rcases h with ⟨n, e⟩ | ⟨n, G, t, g⟩ <;> rcases h' with ⟨n', e'⟩ | ⟨n', G', t', g'⟩
  · rw [e, e']
  · exact absurd n n'
  · exact absurd n' n
  · rw [t.uniq h10 t' ha hb] at g
    rcases g with ⟨g1, e⟩ | ⟨g1, e⟩ <;> rcases g' with ⟨g1', e'⟩ | ⟨g1', e'⟩
    · rw [e, e']
    · exact absurd g1 g1'
    · exact absurd g1' g1
    · exact Int32.toInt_inj.mp (e.trans e'.symm)
theorem four_nI {x : Int32} : (¬ x < 0 ∧ ¬ 4 ≤ x) ↔ ∃ i, i < 4 ∧ x = nI i := by
  constructor
  · rintro ⟨h1, h2⟩
    have h3 : x < nI 4 := Int32.not_le.mp h2
    exact idx_of (by omega) h1 h3
  · rintro ⟨i, hi, rfl⟩
    exact ⟨neg_nI (by omega), fun z => nI_ge (show i < 4 from hi) (by omega) z⟩
theorem three_nI {x : Int32} : (0 ≤ x ∧ x ≤ 3) ↔ ∃ i, i < 4 ∧ x = nI i := by
  have h := rng_nI (x := x) (m := 3) (by omega)
  constructor
  · intro z
    obtain ⟨c, hc, e⟩ := h.mp z
    exact ⟨c, by omega, e⟩
  · rintro ⟨c, hc, e⟩
    exact h.mpr ⟨c, by omega, e⟩
theorem within3 (x : Int32) (M : Mem) : f_X11_within x.toInt64 0 3 M = some (if 0 ≤ x ∧ x ≤ 3 then 1 else 0, M) := within32 x 0 3 M
theorem gap_c {M M' : Mem} {C : Ct} (S : SS 213 C M M') (b0 : M'.1 213 1 = 0) {i j : Nat} (hi : i < 4) (hj : j < 4) (w : Int32) :
    ∃ r, cl (f_X2_markLess 213 (nI i) (nI j) M') (fun r3 M4m => f_X10_gap_b96 w r3 M4m) = some (r, M') ∧ GapV C (6 + j) (6 + i) w r := by
  obtain ⟨bc1, -, bc2, -⟩ := b_cells
  have iN : IN = 100000000 := rfl
  rcases S.2.1 with ⟨-, ok, t⟩ | ⟨b1, -⟩
  · rw [bc2] at ok t
    have hn := t.noneg S.1.1
    have em := cm_in (M'.1 214) (a := 6 + j) (b := 6 + i) (by omega) (by omega)
    have em2 : f_X2_markLess 213 (nI i) (nI j) M' = some (M'.1 214 (10 * (6 + i) + (6 + j)), M') := by
      unfold f_X2_markLess
      rw [gd_t bc1, n6, show nI (6 + i) * 10 + 6 + nI j = nI (10 * (6 + i) + (6 + j)) by rw [show (6 : Int32) = nI 6 from rfl, i10r, nI_add]; congr 1; omega, gd_t (inb_nI (by omega) (by omega)), nI_clamp (by omega), bc2]
    rw [em2, cl_s]
    unfold f_X10_gap_b96
    by_cases c : M'.1 214 (10 * (6 + i) + (6 + j)) = (268435456 : Int32)
    · rw [if_pos c] at em ⊢
      exact ⟨1000000, rfl, Or.inr ⟨hn, _, t, Or.inl ⟨em, rfl⟩⟩⟩
    · rw [if_neg c] at em ⊢
      have b := (ok (10 * (6 + i) + (6 + j)) (by omega)).resolve_left c
      by_cases cw : w = 0
      · rw [if_pos cw]
        exact ⟨_, rfl, Or.inr ⟨hn, _, t, Or.inr ⟨by rw [em]; omega, by rw [if_pos cw, em, neg_toInt (by omega)]⟩⟩⟩
      · rw [if_neg cw]
        exact ⟨_, rfl, Or.inr ⟨hn, _, t, Or.inr ⟨by rw [em]; omega, by rw [if_neg cw, em]⟩⟩⟩
  · rw [b0] at b1
    exact absurd b1 (by decide)
theorem gap_r {C : Ct} {d : Nat → Int32} (hn : ¬ Neg C) (t : Tig C (mx d)) (t2 : Rng 1024000 1024000 (mx d)) {a b : Nat} (ha : a < 10) (hb : b < 10) (w : Int32) (M : Mem) : ∃ r, f_X11_gap_b104 w (d (10 * a + b)) M = some (r, M) ∧ GapV C a b w r := by
  have iN : IN = 100000000 := rfl
  have em := mx_in d ha hb
  unfold f_X11_gap_b104
  by_cases c : d (10 * a + b) = 100000000
  · rw [if_pos c]
    exact ⟨1000000, rfl, Or.inr ⟨hn, _, t, Or.inl ⟨by rw [em, c]; exact far_toInt, rfl⟩⟩⟩
  · rw [if_neg c]
    have ne : mx d a b ≠ IN := fun z => c (Int32.toInt_inj.mp (by rw [← em, z]; exact far_toInt.symm))
    have r2 := (t2 a b).resolve_left ne
    rw [em] at r2
    by_cases cw : w = 0
    · rw [if_pos cw]
      exact ⟨_, rfl, Or.inr ⟨hn, _, t, Or.inr ⟨ne, by rw [if_pos cw, em, neg_toInt (by omega)]⟩⟩⟩
    · rw [if_neg cw]
      exact ⟨_, rfl, Or.inr ⟨hn, _, t, Or.inr ⟨ne, by rw [if_neg cw, em]⟩⟩⟩
theorem ask_gap (x y z w : Int32) : Ask (f_X10_gap x y z w) (f_X11_gap x y z w) := by
  refine ask_play (x := x) (z := 3000000) (fun M => rfl) (fun M => rfl) (fun M p h hp hx => ?_)
  subst hx
  obtain ⟨a1, a2, a3⟩ := play_cell h hp
  obtain ⟨bc1, -, bc2, -⟩ := b_cells
  have O := h.1.2.1
  have h4 := O.1.2.2.2.2.1.2
  have hF := (O.2.2.2.2.2.2.1 p hp).2.2.2.2.2.1
  have pw := two_le hF.2
  have p1 : 1 ≤ 2 ^ Fn M p := Nat.one_le_two_pow
  have h10 : In10 (CK M p (2 ^ Fn M p - 1)) := (lay_ok O (fun _ => 0) hp (2 ^ Fn M p - 1)).1
  refine ask_J (fc := fun M => if y < 0 then some (3000000, M) else if 4 ≤ y then some (3000000, M) else if z < 0 then some (3000000, M) else if z < 4 then gd (shc (M.2.2.1 64 2) = 8) (gd (inb (nI p) 8) (cl (f_X6_allFrames (cr (cr (M.2.2.1 64 2) 12) (nI p).toNatClampNeg) M) (fun r2 M2m => cl (f_X4_sureOf (M.2.2.1 64 2) (cr (cr (M.2.2.1 64 2) 12) (nI p).toNatClampNeg) r2 M2m) (fun o1 M3m => gd (shc o1 = 2) (if (M3m.1 o1 1) = 0 then (if w = 0 then cl (f_X2_markLess o1 y z M3m) (fun r3 M4m => f_X10_gap_b96 w r3 M4m) else cl (f_X2_markLess o1 z y M3m) (fun r4 M5m => f_X10_gap_b96 w r4 M5m)) else some (2000000, M3m)))))) else some (3000000, M)) (gc := fun M => cl (f_X11_within (y.toInt64) 0 3 M) (fun r2 M3m => if r2 = 0 then some (3000000, M3m) else cl (f_X11_within (z.toInt64) 0 3 M3m) (fun r3 M4m => if r3 = 0 then some (3000000, M4m) else cl (f_X11_allFrames (nI p) M4m) (fun r4 M5m => clv (f_X11_laysFrames (nI p) r4 M5m) (fun M6m => cl (f_X11_closes M6m) (fun r5 M7m => if r5 = 0 then some (2000000, M7m) else if w = 0 then gd (inb (((10 * (6 + z)) + 6) + y) 100) (f_X11_gap_b104 w (M7m.1 344 (((10 * (6 + z)) + 6) + y).toNatClampNeg) M7m) else gd (inb (((10 * (6 + y)) + 6) + z) 100) (f_X11_gap_b104 w (M7m.1 344 (((10 * (6 + y)) + 6) + z).toNatClampNeg) M7m))))))) h
    (fun r => (¬ ((∃ i, i < 4 ∧ y = nI i) ∧ ∃ j, j < 4 ∧ z = nI j) ∧ r = 3000000) ∨ ∃ i j, i < 4 ∧ j < 4 ∧ y = nI i ∧ z = nI j ∧ GapV (CK M p (2 ^ Fn M p - 1)) (6 + if w = 0 then j else i) (6 + if w = 0 then i else j) w r) ?_ (fun M1 O1 dt => ?_) (fun r r' v v' => ?_)
  · show ∃ r M1, (if y < 0 then some (3000000, M) else if 4 ≤ y then some (3000000, M) else if z < 0 then some (3000000, M) else if z < 4 then gd (shc (M.2.2.1 64 2) = 8) (gd (inb (nI p) 8) (cl (f_X6_allFrames (cr (cr (M.2.2.1 64 2) 12) (nI p).toNatClampNeg) M) (fun r2 M2m => cl (f_X4_sureOf (M.2.2.1 64 2) (cr (cr (M.2.2.1 64 2) 12) (nI p).toNatClampNeg) r2 M2m) (fun o1 M3m => gd (shc o1 = 2) (if (M3m.1 o1 1) = 0 then (if w = 0 then cl (f_X2_markLess o1 y z M3m) (fun r3 M4m => f_X10_gap_b96 w r3 M4m) else cl (f_X2_markLess o1 z y M3m) (fun r4 M5m => f_X10_gap_b96 w r4 M5m)) else some (2000000, M3m)))))) else some (3000000, M)) = some (r, M1) ∧ _
    by_cases c1 : y < 0
    · exact ⟨_, M, by rw [if_pos c1], OffJ.refl M, Or.inl ⟨fun q => (four_nI.mpr q.1).1 c1, rfl⟩⟩
    by_cases c2 : 4 ≤ y
    · exact ⟨_, M, by rw [if_neg c1, if_pos c2], OffJ.refl M, Or.inl ⟨fun q => (four_nI.mpr q.1).2 c2, rfl⟩⟩
    by_cases c3 : z < 0
    · exact ⟨_, M, by rw [if_neg c1, if_neg c2, if_pos c3], OffJ.refl M, Or.inl ⟨fun q => (four_nI.mpr q.2).1 c3, rfl⟩⟩
    by_cases c4 : z < 4
    · obtain ⟨i, hi, rfl⟩ := four_nI.mp ⟨c1, c2⟩
      obtain ⟨j, hj, rfl⟩ := four_nI.mp ⟨c3, Int32.not_le.mpr c4⟩
      obtain ⟨M', e, S⟩ := sureOf_f O h.1.1 h.1.2.2.1 h.1.2.2.2 hp (s := 2 ^ Fn M p - 1) (by omega)
      have e' : f_X4_sureOf (M.2.2.1 64 2) (tld M + 31 + 5 * p) (nI (2 ^ Fn M p - 1)) M = some (213, M') := e
      have o1 : OffJ M M' := ⟨S.2.2.1, fun a ha => S.2.2.2 a (by omega) (by rw [bc2]; omega)⟩
      rw [if_neg c1, if_neg c2, if_neg c3, if_pos c4, gd_t a1, gd_t a2, a3, allc_f h.1 hp, cl_s, e', cl_s, gd_t bc1]
      rcases S.2.1 with ⟨b0, -, t⟩ | ⟨b0, n⟩
      · rw [if_pos b0]
        by_cases cw : w = 0
        · obtain ⟨r, e2, v⟩ := gap_c S b0 hi hj w
          exact ⟨r, M', by rw [if_pos cw]; exact e2, o1, Or.inr ⟨i, j, hi, hj, rfl, rfl, by rw [if_pos cw, if_pos cw]; exact v⟩⟩
        · obtain ⟨r, e2, v⟩ := gap_c S b0 hj hi w
          exact ⟨r, M', by rw [if_neg cw]; exact e2, o1, Or.inr ⟨i, j, hi, hj, rfl, rfl, by rw [if_neg cw, if_neg cw]; exact v⟩⟩
      · exact ⟨_, M', by rw [b0, if_neg (by decide)], o1, Or.inr ⟨i, j, hi, hj, rfl, rfl, Or.inl ⟨n, rfl⟩⟩⟩
    · exact ⟨_, M, by rw [if_neg c1, if_neg c2, if_neg c3, if_neg c4], OffJ.refl M, Or.inl ⟨fun q => (four_nI.mpr q.2).2 (Int32.not_lt.mp c4), rfl⟩⟩
  · have hp1 : p < Cn M1 4 := by rw [Cn_dat dt]; exact hp
    show ∃ r d', cl (f_X11_within (y.toInt64) 0 3 M1) (fun r2 M3m => if r2 = 0 then some (3000000, M3m) else cl (f_X11_within (z.toInt64) 0 3 M3m) (fun r3 M4m => if r3 = 0 then some (3000000, M4m) else cl (f_X11_allFrames (nI p) M4m) (fun r4 M5m => clv (f_X11_laysFrames (nI p) r4 M5m) (fun M6m => cl (f_X11_closes M6m) (fun r5 M7m => if r5 = 0 then some (2000000, M7m) else if w = 0 then gd (inb (((10 * (6 + z)) + 6) + y) 100) (f_X11_gap_b104 w (M7m.1 344 (((10 * (6 + z)) + 6) + y).toNatClampNeg) M7m) else gd (inb (((10 * (6 + y)) + 6) + z) 100) (f_X11_gap_b104 w (M7m.1 344 (((10 * (6 + y)) + 6) + z).toNatClampNeg) M7m)))))) = some (r, sA M1 344 d') ∧ _
    rw [within3, cl_s]
    by_cases c1 : 0 ≤ y ∧ y ≤ 3
    · rw [if_pos c1, if_neg (by decide), within3, cl_s]
      by_cases c2 : 0 ≤ z ∧ z ≤ 3
      · obtain ⟨i, hi, rfl⟩ := three_nI.mp c1
        obtain ⟨j, hj, rfl⟩ := three_nI.mp c2
        have f1 : Fn M1 p = Fn M p := Fn_dat dt p
        have lf := laysFrames_f O1 hp1 (s := 2 ^ Fn M p - 1) (by omega) (M1.1 344)
        rw [sA_self] at lf
        have L := lay_ok O1 (M1.1 344) hp1 (2 ^ Fn M p - 1)
        rw [if_pos c2, if_neg (by decide), all_f O1 hp1, cl_s, f1, lf, clv_s]
        rw [CK_dat dt] at L
        have ix : ∀ a b, a < 4 → b < 4 → ((10 * (6 + nI a)) + 6) + nI b = nI (10 * (6 + a) + (6 + b)) := fun a b _ _ => by
          have q : ((10 * (6 + nI a)) + 6) + nI b = nI (10 * (6 + a) + 6 + b) := by rw [n6, m10, show nI (10 * (6 + a)) + 6 = nI (10 * (6 + a) + 6) from nI_add _ _, nI_add]
          rw [q]
          exact congrArg nI (by omega)
        rcases closes_1 L M1 with ⟨hn, e⟩ | ⟨hn, e, c1', c2', c3', c4'⟩
        · exact ⟨_, _, by rw [e, cl_s, if_pos rfl], Or.inr ⟨i, j, hi, hj, rfl, rfl, Or.inl ⟨hn, rfl⟩⟩⟩
        · rw [e, cl_s, if_neg (by decide)]
          have tg : Tig (CK M p (2 ^ Fn M p - 1)) (mx (fw32 (dlay M1 p (2 ^ Fn M p - 1) (M1.1 344)))) := ⟨c1', c2', c3', fun a b => by
            rcases c4' a b with q | q
            · exact Or.inl q
            · exact Or.inr ⟨by omega, by omega⟩⟩
          generalize fw32 (dlay M1 p (2 ^ Fn M p - 1) (M1.1 344)) = g at c4' tg ⊢
          by_cases cw : w = 0
          · obtain ⟨r, e2, v⟩ := gap_r hn tg c4' (a := 6 + j) (b := 6 + i) (by omega) (by omega) w (sA M1 344 g)
            refine ⟨r, g, ?_, Or.inr ⟨i, j, hi, hj, rfl, rfl, by rw [if_pos cw, if_pos cw]; exact v⟩⟩
            rw [if_pos cw, ix j i hj hi, gd_t (inb_nI (by omega) (by omega)), nI_clamp (by omega), sA_s, e2]
          · obtain ⟨r, e2, v⟩ := gap_r hn tg c4' (a := 6 + i) (b := 6 + j) (by omega) (by omega) w (sA M1 344 g)
            refine ⟨r, g, ?_, Or.inr ⟨i, j, hi, hj, rfl, rfl, by rw [if_neg cw, if_neg cw]; exact v⟩⟩
            rw [if_neg cw, ix i j hi hj, gd_t (inb_nI (by omega) (by omega)), nI_clamp (by omega), sA_s, e2]
      · exact ⟨_, M1.1 344, by rw [if_neg c2, if_pos rfl, sA_self], Or.inl ⟨fun q => c2 (three_nI.mpr q.2), rfl⟩⟩
    · exact ⟨_, M1.1 344, by rw [if_neg c1, if_pos rfl, sA_self], Or.inl ⟨fun q => c1 (three_nI.mpr q.1), rfl⟩⟩
  · rcases v with ⟨a, e⟩ | ⟨i, j, hi, hj, e1, e2, g⟩ <;> rcases v' with ⟨a', e'⟩ | ⟨i', j', hi', hj', e1', e2', g'⟩
    · rw [e, e']
    · exact absurd ⟨⟨i', hi', e1'⟩, ⟨j', hj', e2'⟩⟩ a
    · exact absurd ⟨⟨i, hi, e1⟩, ⟨j, hj, e2⟩⟩ a'
    · have inj : ∀ {a b : Nat}, a < 4 → b < 4 → nI a = nI b → a = b := fun ha hb e => by
        have q := congrArg Int32.toInt e
        rw [nI_toInt (by omega), nI_toInt (by omega)] at q
        omega
      have i1 := inj hi hi' (e1.symm.trans e1')
      have j1 := inj hj hj' (e2.symm.trans e2')
      rw [← i1, ← j1] at g'
      exact g.uniq h10 (by split <;> omega) (by split <;> omega) g'
