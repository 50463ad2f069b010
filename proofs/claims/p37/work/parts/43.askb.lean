/-! mend, verdict, by -/
theorem mk_full {M : Mem} (O : MOk M) {p : Nat} (hp : p < Cn M 4) : mk M p (2 ^ Fn M p - 1) = 0 := mk_all _ (O.2.2.2.2.2.2.1 p hp).2.2.2.2.2.1.2
theorem lef_cls {M : Mem} {T p : Nat} (h : TB M T) (hp : p < Cn M 4) : ∃ r M', f_X4_searchLeftOut T (T + 31 + 5 * p) M = some (r, M') ∧ OffJ M M' ∧ LeftV M p r := by
  have O := h.2.1
  have h4 := O.1.2.2.2.2.1.2
  obtain ⟨t1, t2, t3, t4, t5, t6⟩ := tt_p h.1 p (by omega)
  obtain ⟨-, -, tr, -⟩ := tt_r h.1
  have ev := v3_iff O hp (s := 0) (by omega)
  rw [ck_0] at ev
  unfold f_X4_searchLeftOut
  rw [gd_t (tt_0 h.1), tr]
  rcases h.2.2.2 with ⟨b0, -, t⟩ | ⟨b0, n⟩
  · have v0 : vq M p 0 ≠ 3 := fun z => t.noneg (rep_cc O).1 (ev.mp z)
    rw [if_pos b0, gd_t t6, allc_f h hp, cl_s]
    obtain ⟨m, M', e, o, b⟩ := csl_21 h hp (OffJ.refl M) (by rw [mk_full O hp]; exact v0)
    exact ⟨nI m, M', e, o, Or.inr ⟨v0, m, rfl, b⟩⟩
  · rw [b0, if_neg (by decide)]
    exact ⟨-2, M, rfl, OffJ.refl M, Or.inl ⟨ev.mpr n, rfl⟩⟩
theorem left_f {M : Mem} {T p : Nat} (h : TB M T) (hp : p < Cn M 4) (hc : M.1 (T + 31 + 5 * p) 11 = -3 ∨ LeftV M p (M.1 (T + 31 + 5 * p) 11)) :
    ∃ r M', f_X4_fewestLeftOut T (T + 31 + 5 * p) M = some (r, M') ∧ OffC T M M' ∧ LeftV M p r ∧ ∀ q, q < 8 → M'.1 (T + 31 + 5 * q) 10 = M.1 (T + 31 + 5 * q) 10 ∧ (M'.1 (T + 31 + 5 * q) 11 = M.1 (T + 31 + 5 * q) 11 ∨ (q = p ∧ M'.1 (T + 31 + 5 * q) 11 = r)) := by
  have O := h.2.1
  have h4 := O.1.2.2.2.2.1.2
  have tc := (tt_c h.1).2.1
  obtain ⟨t1, t2, t3, t4, t5, t6⟩ := tt_p h.1 p (by omega)
  unfold f_X4_fewestLeftOut
  rw [gd_t t6]
  by_cases c : M.1 (T + 31 + 5 * p) 11 = -3
  · rw [if_pos c]
    obtain ⟨r, M1, e1, o1, f⟩ := lef_cls h hp
    rw [e1, cl_s]
    refine ⟨r, setI M1 (T + 31 + 5 * p) 11 r, ?_, ⟨o1.1, fun a k ha hq => ?_⟩, f, fun q hq => ⟨?_, ?_⟩⟩
    · simp only [bnd_e]
      rw [setI_1, if_pos ⟨rfl, rfl⟩]
    · rw [setI_1]
      rw [if_neg (fun z => (hq p (by omega) z.1).2 z.2), o1.2 a ha]
    · rw [setI_1, if_neg (fun z => by omega), o1.2 _ (by omega)]
    · rw [setI_1]
      by_cases z : q = p
      · exact Or.inr ⟨z, by rw [if_pos ⟨by omega, rfl⟩]⟩
      · exact Or.inl (by rw [if_neg (fun y => by omega), o1.2 _ (by omega)])
  · rw [if_neg c]
    exact ⟨_, M, rfl, OffC.refl _ _, hc.resolve_left c, fun q _ => ⟨rfl, Or.inl rfl⟩⟩
theorem ask_mend (x : Int32) : Ask (f_X10_mend x) (f_X11_mend x) := by
  refine ask_play (x := x) (z := -1) (fun M => rfl) (fun M => rfl) (fun M p h hp hx => ?_)
  subst hx
  obtain ⟨a1, a2, a3⟩ := play_cell h hp
  have O := h.1.2.1
  have hT := h.1.1
  have h4 := O.1.2.2.2.2.1.2
  obtain ⟨r, M1, e1, o1, f1, k1⟩ := left_f h.1 hp (h.2 p hp).2
  have h1 : HB M1 := by
    have et : tld M1 = tld M := by unfold tld; rw [o1.1]
    unfold HB
    rw [et]
    refine ⟨h.1.offC o1, fun q hq => ?_⟩
    rw [Cn_dat (o1.dat hT)] at hq
    obtain ⟨b1, b2⟩ := k1 q (by omega)
    refine ⟨?_, ?_⟩
    · rw [b1]; exact (h.2 q hq).1.imp id (fun z => z.dat O (o1.dat hT) hq)
    · rcases b2 with b2 | ⟨rfl, b2⟩
      · rw [b2]; exact (h.2 q hq).2.imp id (fun z => z.dat O (o1.dat hT) hq)
      · rw [b2]; exact Or.inr (f1.dat O (o1.dat hT) hq)
  have dt : Dat M (setI M1 311 0 0) := (o1.dat hT).tr (rf_0 M1 0).dat
  have O2 := O.dat dt
  have hp2 : p < Cn (setI M1 311 0 0) 4 := by rw [Cn_dat dt]; exact hp
  have c1 : 1 ≤ 2 ^ Fn M p := Nat.one_le_two_pow
  have gr : ∃ d', cl (f_X11_verdictOf (nI p) 0 (setI M1 311 0 0)) (fun r2 M3m => if r2 = 3 then some ((-2), M3m) else f_X11_mend_b32 fuel (nI p) (-1) 0 M3m) = some (r, sA (setI M1 311 0 0) 344 d') := by
    obtain ⟨d1, e2, -⟩ := vq_ref O2 hp2 (s := 0) (by omega)
    rw [nI_0] at e2
    rw [e2, cl_s, vq_dat O dt hp (by omega)]
    rcases f1 with ⟨z, er⟩ | ⟨z, m, er, b⟩
    · rw [if_pos z, er]; exact ⟨d1, rfl⟩
    · rw [if_neg z]
      obtain ⟨m', d', e3, b'⟩ := men_32 O2 hp2 d1 (k := 2 ^ Fn M p - 1) (by rw [Fn_dat dt]; omega) (by rw [mk_dat dt, mk_full O hp, vq_dat O dt hp (by omega)]; exact z)
      rw [Fn_dat dt] at b'
      have : m' = m := (b'.cong (fun k hk => by rw [mk_dat dt, vq_dat O dt hp (mk_lt O hp k)])).uniq b
      exact ⟨d', by rw [e3, this, er]⟩
  obtain ⟨d', gr⟩ := gr
  refine ⟨r, M1, sA (setI M1 311 0 0) 344 d', ?_, gr, h1, o1.sm, rf_sA _ _, sA_0 d'⟩
  show gd (shc (M.2.2.1 64 2) = 8) (gd (inb (nI p) 8) (cl (f_X4_fewestLeftOut (M.2.2.1 64 2) (cr (cr (M.2.2.1 64 2) 12) (nI p).toNatClampNeg) M) (fun r2 M2m => some (r2, M2m)))) = some (r, M1)
  rw [gd_t a1, gd_t a2, a3]
  have e1' : f_X4_fewestLeftOut (M.2.2.1 64 2) (tld M + 31 + 5 * p) M = some (r, M1) := e1
  rw [e1', cl_s]
/-! numbers in a range -/
theorem rng_nI {x : Int32} {m : Nat} (hm : m < 2 ^ 31) : (0 ≤ x ∧ x ≤ nI m) ↔ ∃ c, c ≤ m ∧ x = nI c := by
  constructor
  · rintro ⟨h1, h2⟩
    obtain ⟨j, hj, rfl⟩ := nI_of (Int32.not_lt.mpr h1)
    refine ⟨j, ?_, rfl⟩
    rcases Nat.lt_or_ge m j with c | c
    · exact absurd h2 (nI_ge c hj)
    · exact c
  · rintro ⟨c, hc, rfl⟩
    exact ⟨le_nI (a := 0) (by omega) (by omega) (by omega), le_nI (by omega) hm hc⟩
theorem neg_nI {j : Nat} (h : j < 2 ^ 31) : ¬ nI j < 0 := by
  rw [show (0 : Int32) = nI 0 from rfl, lt_nI h (by omega)]
  omega
theorem ask_verdict (x y : Int32) : Ask (f_X10_verdict x y) (f_X11_verdict x y) := by
  refine ask_play (x := x) (z := -1) (fun M => rfl) (fun M => rfl) (fun M p h hp hx => ?_)
  subst hx
  obtain ⟨a1, a2, a3⟩ := play_cell h hp
  have O := h.1.2.1
  have h4 := O.1.2.2.2.2.1.2
  have hF := (O.2.2.2.2.2.2.1 p hp).2.2.2.2.2.1
  have r5 : M.1 (tld M + 31 + 5 * p) 5 = nI (Fn M p) := by rw [(h.1.2.2.1.2.2.2.2.2.1 p hp).2.2.2.2.2.1, hF.1]
  have pw : ∀ j, j ≤ Fn M p → 2 ^ j - 1 < 1024 := fun j hj => by
    have := two_le (show j ≤ 10 by omega)
    have : 1 ≤ 2 ^ j := Nat.one_le_two_pow
    omega
  refine ask_J (fc := fun M => if y < 0 then some ((-1), M) else gd (shc (M.2.2.1 64 2) = 8) (gd (inb (nI p) 8) (if y ≤ (M.1 (cr (cr (M.2.2.1 64 2) 12) (nI p).toNatClampNeg) 5) then cl (f_X4_byFrames (M.2.2.1 64 2) (cr (cr (M.2.2.1 64 2) 12) (nI p).toNatClampNeg) (((1 : Int32) <<< (y &&& 31)) - 1) M) (fun r2 M2m => some (r2, M2m)) else some ((-1), M)))) (gc := fun M => gd (inb (nI p) 16) (cl (f_X11_within (y.toInt64) 0 ((M.1 335 (nI p).toNatClampNeg).toInt64) M) (fun r2 M3m => if r2 = 0 then some ((-1), M3m) else cl (f_X11_verdictOf (nI p) (((1 : Int32) <<< (y &&& 31)) - 1) M3m) (fun r3 M4m => some (r3, M4m))))) h (fun r => (¬ (∃ j, j ≤ Fn M p ∧ y = nI j) ∧ r = -1) ∨ ∃ j, j ≤ Fn M p ∧ y = nI j ∧ r = vq M p (2 ^ j - 1)) ?_ (fun M1 O1 dt => ?_) (fun r r' v v' => ?_)
  · show ∃ r M1, (if y < 0 then some ((-1), M) else gd (shc (M.2.2.1 64 2) = 8) (gd (inb (nI p) 8) (if y ≤ (M.1 (cr (cr (M.2.2.1 64 2) 12) (nI p).toNatClampNeg) 5) then cl (f_X4_byFrames (M.2.2.1 64 2) (cr (cr (M.2.2.1 64 2) 12) (nI p).toNatClampNeg) (((1 : Int32) <<< (y &&& 31)) - 1) M) (fun r2 M2m => some (r2, M2m)) else some ((-1), M)))) = some (r, M1) ∧ _
    by_cases c : y < 0
    · refine ⟨-1, M, by rw [if_pos c], OffJ.refl M, Or.inl ⟨?_, rfl⟩⟩
      rintro ⟨j, hj, rfl⟩
      exact neg_nI (by omega) c
    · rw [if_neg c, gd_t a1, gd_t a2, a3, r5]
      obtain ⟨j, hj, rfl⟩ := nI_of c
      by_cases c2 : nI j ≤ nI (Fn M p)
      · have hj2 : j ≤ Fn M p := by
          rcases Nat.lt_or_ge (Fn M p) j with z | z
          · exact absurd c2 (nI_ge z hj)
          · exact z
        obtain ⟨M', e, o⟩ := vq_J h.1 (OffJ.refl M) hp (pw j hj2)
        have e' : f_X4_byFrames (M.2.2.1 64 2) (tld M + 31 + 5 * p) (nI (2 ^ j - 1)) M = some (vq M p (2 ^ j - 1), M') := e
        exact ⟨_, M', by rw [if_pos c2, all_nI j (by omega), e', cl_s], o, Or.inr ⟨j, hj2, rfl, rfl⟩⟩
      · refine ⟨-1, M, by rw [if_neg c2], OffJ.refl M, Or.inl ⟨?_, rfl⟩⟩
        rintro ⟨i, hi, e⟩
        rw [e] at c2
        exact c2 (le_nI (by omega) (by omega) hi)
  · have hp1 : p < Cn M1 4 := by rw [Cn_dat dt]; exact hp
    have f1 : M1.1 335 p = nI (Fn M p) := by rw [dt 335 (by omega) (by omega) (by omega), hF.1]
    show ∃ r d', gd (inb (nI p) 16) (cl (f_X11_within (y.toInt64) 0 ((M1.1 335 (nI p).toNatClampNeg).toInt64) M1) (fun r2 M3m => if r2 = 0 then some ((-1), M3m) else cl (f_X11_verdictOf (nI p) (((1 : Int32) <<< (y &&& 31)) - 1) M3m) (fun r3 M4m => some (r3, M4m)))) = some (r, sA M1 344 d') ∧ _
    rw [gd_t (inb_nI (by omega) (by omega)), nI_clamp (by omega), f1, show (0 : Int64) = (0 : Int32).toInt64 from rfl, within32, cl_s]
    by_cases c : 0 ≤ y ∧ y ≤ nI (Fn M p)
    · rw [if_pos c, if_neg (by decide)]
      obtain ⟨j, hj, rfl⟩ := (rng_nI (by omega)).mp c
      obtain ⟨d', e, -⟩ := vq_ref O1 hp1 (pw j hj)
      exact ⟨_, d', by rw [all_nI j (by omega), e, cl_s], Or.inr ⟨j, hj, rfl, vq_dat O dt hp (pw j hj)⟩⟩
    · rw [if_neg c, if_pos rfl]
      exact ⟨-1, M1.1 344, by rw [sA_self], Or.inl ⟨fun z => c ((rng_nI (by omega)).mpr z), rfl⟩⟩
  · rcases v with ⟨a, e⟩ | ⟨j, hj, a, e⟩ <;> rcases v' with ⟨a', e'⟩ | ⟨j', hj', a', e'⟩
    · rw [e, e']
    · exact absurd ⟨j', hj', a'⟩ a
    · exact absurd ⟨j, hj, a⟩ a'
    · have : j = j' := by
        have z := congrArg Int32.toInt (a.symm.trans a')
        rw [nI_toInt (by omega), nI_toInt (by omega)] at z
        omega
      rw [e, e', this]
theorem by_iff {n : Nat} (hn : n ≤ 5) (x : Int32) : x &&& (nI (2 ^ n - 1) ^^^ (-1)) = 0 ↔ ∃ c, c ≤ 2 ^ n - 1 ∧ x = nI c := by
  have h2 := two_le (show n ≤ 10 by omega)
  have h1 : 1 ≤ 2 ^ n := Nat.one_le_two_pow
  constructor
  · intro h
    have e : x = x &&& nI (2 ^ n - 1) := by
      refine b_ext (fun i hi => ?_)
      have hb : bt (x &&& (nI (2 ^ n - 1) ^^^ (-1))) i = false := by rw [h]; exact b_0 i
      rw [b_and, b_xor, b_m1 i hi] at hb
      rw [b_and]
      generalize bt x i = a at hb ⊢
      generalize bt (nI (2 ^ n - 1)) i = b at hb ⊢
      revert hb
      cases a <;> cases b <;> decide
    refine ⟨un x % 2 ^ n, ?_, ?_⟩
    · have := Nat.mod_lt (un x) (show 0 < 2 ^ n by omega)
      omega
    · have z : x &&& nI (2 ^ n - 1) = nI (un x % 2 ^ n) := by
        have z2 := fa_mask (un x) n
        rw [un_e] at z2
        exact z2
      exact e.trans z
  · rintro ⟨c, hc, rfl⟩
    have key : ∀ n, n ≤ 5 → ∀ c, c ≤ 2 ^ n - 1 → nI c &&& (nI (2 ^ n - 1) ^^^ (-1)) = 0 := by decide +kernel
    exact key n hn c hc
theorem ask_by (x y : Int32) : Ask (f_X10_by x y) (f_X11_by x y) := by
  refine ask_play (x := x) (z := -1) (fun M => rfl) (fun M => rfl) (fun M p h hp hx => ?_)
  subst hx
  obtain ⟨a1, a2, a3⟩ := play_cell h hp
  have O := h.1.2.1
  have h0 := O.1.1
  have h4 := O.1.2.2.2.2.1.2
  have pw := two_le (show Cn M 0 ≤ 10 by omega)
  have p1 : 1 ≤ 2 ^ Cn M 0 := Nat.one_le_two_pow
  have r0 : M.1 (M.2.2.1 64 2) 0 = nI (Cn M 0) := by
    have : M.1 (tld M) 0 = nI (Cn M 0) := by rw [h.1.2.2.1.1.1, h0.1]
    exact this
  have bi := by_iff (n := Cn M 0) h0.2 y
  refine ask_J (fc := fun M => gd (shc (M.2.2.1 64 2) = 8) (cl (f_X9_allCameras (M.2.2.1 64 2) M) (fun r2 M2m => if (y &&& (r2 ^^^ (-1))) = 0 then gd (shc (M2m.2.2.1 64 2) = 8) (gd (inb (nI p) 8) (cl (f_X6_framesOf (cr (cr (M2m.2.2.1 64 2) 12) (nI p).toNatClampNeg) y M2m) (fun r3 M3m => cl (f_X4_byFrames (M2m.2.2.1 64 2) (cr (cr (M2m.2.2.1 64 2) 12) (nI p).toNatClampNeg) r3 M3m) (fun r4 M4m => some (r4, M4m))))) else some ((-1), M2m)))) (gc := fun M => cl (f_X11_within (y.toInt64) 0 ((((1 : Int32) <<< ((M.1 313 0) &&& 31)) - 1).toInt64) M) (fun r2 M3m => if r2 = 0 then some ((-1), M3m) else cl (f_X11_framesOf (nI p) y M3m) (fun r3 M4m => cl (f_X11_verdictOf (nI p) r3 M4m) (fun r4 M5m => some (r4, M5m))))) h (fun r => (¬ (∃ c, c ≤ 2 ^ Cn M 0 - 1 ∧ y = nI c) ∧ r = -1) ∨ ∃ c, c ≤ 2 ^ Cn M 0 - 1 ∧ y = nI c ∧ r = vq M p (foA M p c)) ?_ (fun M1 O1 dt => ?_) (fun r r' v v' => ?_)
  · show ∃ r M1, gd (shc (M.2.2.1 64 2) = 8) (cl (f_X9_allCameras (M.2.2.1 64 2) M) (fun r2 M2m => if (y &&& (r2 ^^^ (-1))) = 0 then gd (shc (M2m.2.2.1 64 2) = 8) (gd (inb (nI p) 8) (cl (f_X6_framesOf (cr (cr (M2m.2.2.1 64 2) 12) (nI p).toNatClampNeg) y M2m) (fun r3 M3m => cl (f_X4_byFrames (M2m.2.2.1 64 2) (cr (cr (M2m.2.2.1 64 2) 12) (nI p).toNatClampNeg) r3 M3m) (fun r4 M4m => some (r4, M4m))))) else some ((-1), M2m))) = some (r, M1) ∧ _
    have ec : f_X9_allCameras (M.2.2.1 64 2) M = some (nI (2 ^ Cn M 0 - 1), M) := by
      unfold f_X9_allCameras
      rw [gd_t a1, r0, all_nI _ (by omega)]
    rw [gd_t a1, ec, cl_s]
    by_cases c : y &&& (nI (2 ^ Cn M 0 - 1) ^^^ (-1)) = 0
    · obtain ⟨j, hj, rfl⟩ := bi.mp c
      obtain ⟨M', e, o⟩ := vq_J h.1 (OffJ.refl M) hp (foA_lt O hp j)
      have e' : f_X4_byFrames (M.2.2.1 64 2) (tld M + 31 + 5 * p) (nI (foA M p j)) M = some (vq M p (foA M p j), M') := e
      exact ⟨_, M', by rw [if_pos c, gd_t a1, gd_t a2, a3, framesOf_cls h.1 hp (by omega), cl_s, e', cl_s], o, Or.inr ⟨j, hj, rfl, rfl⟩⟩
    · exact ⟨-1, M, by rw [if_neg c], OffJ.refl M, Or.inl ⟨fun z => c (bi.mpr z), rfl⟩⟩
  · have hp1 : p < Cn M1 4 := by rw [Cn_dat dt]; exact hp
    have f1 : M1.1 313 0 = nI (Cn M 0) := by rw [dt 313 (by omega) (by omega) (by omega), h0.1]
    show ∃ r d', cl (f_X11_within (y.toInt64) 0 ((((1 : Int32) <<< ((M1.1 313 0) &&& 31)) - 1).toInt64) M1) (fun r2 M3m => if r2 = 0 then some ((-1), M3m) else cl (f_X11_framesOf (nI p) y M3m) (fun r3 M4m => cl (f_X11_verdictOf (nI p) r3 M4m) (fun r4 M5m => some (r4, M5m)))) = some (r, sA M1 344 d') ∧ _
    rw [f1, all_nI _ (by omega), show (0 : Int64) = (0 : Int32).toInt64 from rfl, within32, cl_s]
    by_cases c : 0 ≤ y ∧ y ≤ nI (2 ^ Cn M 0 - 1)
    · rw [if_pos c, if_neg (by decide)]
      obtain ⟨j, hj, rfl⟩ := (rng_nI (by omega)).mp c
      obtain ⟨d', e, -⟩ := vq_ref O1 hp1 (foA_lt O1 hp1 j)
      exact ⟨_, d', by rw [framesOf_ref O1 hp1 (by omega), cl_s, e, cl_s], Or.inr ⟨j, hj, rfl, by rw [foA_dat dt, vq_dat O dt hp (foA_lt O hp j)]⟩⟩
    · rw [if_neg c, if_pos rfl]
      exact ⟨-1, M1.1 344, by rw [sA_self], Or.inl ⟨fun z => c ((rng_nI (by omega)).mpr z), rfl⟩⟩
  · rcases v with ⟨a, e⟩ | ⟨j, hj, a, e⟩ <;> rcases v' with ⟨a', e'⟩ | ⟨j', hj', a', e'⟩
    · rw [e, e']
    · exact absurd ⟨j', hj', a'⟩ a
    · exact absurd ⟨j, hj, a⟩ a'
    · have : j = j' := by
        have z := congrArg Int32.toInt (a.symm.trans a')
        rw [nI_toInt (by omega), nI_toInt (by omega)] at z
        omega
      rw [e, e', this]
