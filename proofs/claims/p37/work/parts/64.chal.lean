/-! challenge -/
theorem do_minus {M : Mem} (hI : Inv M) {f g : Mem → Option (Int32 × Mem)} (v : Int32) (h1 : f M = some (v, M)) (h2 : g M = some (v, setI M 311 0 0)) : ∃ r M1 M2, f M = some (r, M1) ∧ g M1 = some (r, M2) ∧ Inv M2 ∧ M2.1 311 0 = 0 := ⟨v, M, _, h1, h2, hI.t0, set_0 M⟩
def canC (M : Mem) (k p : Nat) : Prop := ¬ M.1 340 (33 + k) = 0 ∧ ¬ M.1 340 0 ≤ nI p ∧ ¬ M.1 314 3 < (M.1 340 0 - 1) - nI p ∧ M.1 340 (9 + p) = 0 ∧ M.1 340 (17 + p) = 0
theorem can_c {M : Mem} (hI : Inv M) {k p : Nat} (hk : k < Cn M 1) (hp : p < Cn M 4) : (canC M k p ∧ f_X10_canChallenge (nI k) (nI p) M = some (1, M)) ∨ (¬ canC M k p ∧ f_X10_canChallenge (nI k) (nI p) M = some (0, M)) := by
  have c4 := hI.c4
  have hb := hI.1
  have c1 := hb.1.2.1.1.2.1.2
  have R := hI.2.1
  obtain ⟨l1, l2, l3⟩ := R.2.1 k (by omega)
  have l1' : M.1 219 k = M.1 340 (33 + k) := l1
  obtain ⟨-, -, -, -, -, -, -, -, tr13⟩ := tt_r hb.1.1
  have w3 := hb.1.2.2.1.2.2.2.2.2.2 3 (by omega)
  obtain ⟨r1, r2⟩ := rev_c c4 R (Near.refl M) (p := p) (by omega)
  obtain ⟨b1, b2'⟩ := brd_c c4 R (Near.refl M) (p := p) (by omega)
  have e : M.2.2.1 64 2 = tld M := rfl
  unfold f_X10_canChallenge canC
  rw [gd_t (inb_nI (by omega) (by omega)), nI_clamp (by omega), l1', hap_c R, e, gd_t (tt_0 hb.1.1), tr13, w3, r1, cl_s, b1, cl_s]
  have z0 : (0 : Int32).toInt = 0 := by decide
  by_cases c1 : M.1 340 (33 + k) = 0
  · exact Or.inr ⟨fun z => z.1 c1, by rw [if_pos (by rw [c1]; decide)]⟩
  have c1' : ¬ M.1 340 (33 + k) ≤ 0 := fun z => c1 (Int32.toInt_inj.mp (by
    have z2 := Int32.le_iff_toInt_le.mp z
    omega))
  rw [if_neg c1']
  by_cases c2 : M.1 340 0 ≤ nI p
  · exact Or.inr ⟨fun z => z.2.1 c2, by rw [if_pos c2]⟩
  rw [if_neg c2]
  by_cases c3 : M.1 314 3 < (M.1 340 0 - 1) - nI p
  · exact Or.inr ⟨fun z => z.2.2.1 c3, by rw [if_pos c3]⟩
  rw [if_neg c3]
  rcases r2 with z | z
  · rw [z, if_pos rfl]
    rcases b2' with y | y
    · rw [y, if_pos rfl]
      exact Or.inl ⟨⟨c1, c2, c3, rfl, rfl⟩, rfl⟩
    · rw [y, if_neg (by decide)]
      exact Or.inr ⟨fun q => absurd q.2.2.2.2 (by decide), rfl⟩
  · rw [z, if_neg (by decide)]
    exact Or.inr ⟨fun q => absurd q.2.2.2.1 (by decide), rfl⟩
/-- the reference's test, then its act -/
def chG (k p : Nat) : Mem → Option (Int32 × Mem) := fun M4m => cl (f_X11_reviewed (nI p) (nI k) M4m) (fun r3 M5m => if r3 = 2 then gd (inb (37 + nI k) 114) (bnd (setI M5m 340 ((37 + nI k).toNatClampNeg) ((M5m.1 340 (37 + nI k).toNatClampNeg) + 1)) (fun M6m => if (M6m.1 314 1) ≤ 0 then some (r3, M6m) else gd (¬ (M6m.1 314 1) = 0) (if ((M6m.1 340 (37 + nI k).toNatClampNeg) - (M6m.1 340 (37 + nI k).toNatClampNeg) / (M6m.1 314 1) * (M6m.1 314 1)) = 0 then clv (f_X11_gains (nI k) M6m) (fun M7m => some (r3, M7m)) else some (r3, M6m)))) else bnd (setI M5m 340 ((33 + nI k).toNatClampNeg) ((M5m.1 340 (33 + nI k).toNatClampNeg) - 1)) (fun M8m => gd (inb (25 + nI p) 114) (bnd (setI M8m 340 ((25 + nI p).toNatClampNeg) (nI k + 1)) (fun M9m => some (r3, M9m)))))
def chF (k p : Nat) : Mem → Option (Int32 × Mem) := fun M4m => cl (f_X10_reviewNow (nI p) (nI k) M4m) (fun r4 M5m => if r4 = 2 then gd (inb (nI k) 4) (bnd (setI M5m 220 ((nI k).toNatClampNeg) ((M5m.1 220 (nI k).toNatClampNeg) + 1)) (fun M6m => gd (shc (M6m.2.2.1 64 2) = 8) (cl (f_X9_leftWhenWon (M6m.2.2.1 64 2) (M6m.1 219 (nI k).toNatClampNeg) (M6m.1 220 (nI k).toNatClampNeg) M6m) (fun r5 M7m => bnd (setI M7m 219 ((nI k).toNatClampNeg) r5) (fun M8m => some (r4, M8m)))))) else gd (inb (nI k) 4) (bnd (setI M5m 219 ((nI k).toNatClampNeg) ((M5m.1 219 (nI k).toNatClampNeg) - 1)) (fun M9m => gd (inb (nI p) 8) (bnd (setI M9m 218 ((nI p).toNatClampNeg) (nI k)) (fun M10m => some (r4, M10m))))))
theorem chal_r' {M : Mem} (hI : Inv M) {M1 : Mem} (d : Dat M M1) (e340 : M1.1 340 = M.1 340) {k p : Nat} (hk : k < Cn M 1) (hp : p < Cn M 4) : f_X11_challenge (nI k) (nI p) M1 = cl (f_X11_isSide (nI k) (setI M1 311 0 0)) (fun _ M3m => if M.1 340 (33 + k) = 0 then some (-2, M3m) else if M.1 340 0 ≤ nI p then some (-2, M3m) else if M.1 314 3 < (M.1 340 0 - 1) - nI p then some (-2, M3m) else if M.1 340 (9 + p) = 1 then some (-2, M3m) else if M.1 340 (17 + p) = 1 then some (-2, M3m) else clv (f_X11_keeps M3m) (chG k p)) := by
  have O := hI.1.1.2.1
  have c1 := O.1.2.1.2
  have c4 := hI.c4
  have dz : Dat M (setI M1 311 0 0) := d.tr (near_0 M1 0).dat
  have Oz := O.dat dz
  have e340' : (setI M1 311 0 0).1 340 = M.1 340 := by rw [← e340]; exact funext (fun k => setI_n (Or.inl (by omega)))
  have i33 : 33 + nI k = nI (33 + k) := nI_add _ _
  have i9 : 9 + nI p = nI (9 + p) := nI_add _ _
  have i17 : 17 + nI p = nI (17 + p) := nI_add _ _
  unfold f_X11_challenge
  rw [bnd_e]
  rcases side_r Oz (nI k) with ⟨-, e1⟩ | ⟨n, -⟩
  · rcases play_r Oz (nI p) with ⟨-, e2⟩ | ⟨n, -⟩
    · rw [e1, cl_s, if_neg (by decide), e2, cl_s, if_neg (by decide), cl_s, gd_t (by rw [i33]; exact inb_nI (by omega) (by omega)), gd_t (by rw [i9]; exact inb_nI (by omega) (by omega)), gd_t (by rw [i17]; exact inb_nI (by omega) (by omega)), e340', dz 314 (by omega) (by omega) (by omega), i33, i9, i17, nI_clamp (show 33 + k < 2 ^ 31 by omega), nI_clamp (show 9 + p < 2 ^ 31 by omega), nI_clamp (show 17 + p < 2 ^ 31 by omega)]
      unfold chG
      rw [i33, nI_clamp (show 33 + k < 2 ^ 31 by omega)]
    · exact absurd ((IsP.cong dz _).mpr ⟨p, hp, rfl⟩) n
  · exact absurd ((IsS.cong dz _).mpr ⟨k, hk, rfl⟩) n
theorem left_nat {x : Int32} (h : 0 ≤ x.toInt ∧ x.toInt ≤ 9) : ∃ n, n ≤ 9 ∧ x = nI n := by
  refine ⟨x.toInt.toNat, by omega, Int32.toInt_inj.mp ?_⟩
  rw [nI_toInt (by omega)]
  omega
theorem nI_09 {n : Nat} (h : n ≤ 9) : 0 ≤ (nI n).toInt ∧ (nI n).toInt ≤ 9 := by
  rw [nI_toInt (by omega)]
  omega
/-- the day behind a challenge -/
def chV (M : Mem) (k p own : Nat) : Nat → Int32 := if rv M p (M.1 340 (1 + p)) = 2 then upd (upd (revV M p (nI k) (M.1 340)) (37 + k) (revV M p (nI k) (M.1 340) (37 + k) + 1)) (33 + k) (nI (won1 M own (revV M p (nI k) (M.1 340) (37 + k) + 1))) else upd (upd (revV M p (nI k) (M.1 340)) (33 + k) (nI (own - 1))) (25 + p) (nI (k + 1))
theorem won1_dat {M M' : Mem} (h : Dat M M') (own : Nat) (w : Int32) : won1 M' own w = won1 M own w := by
  unfold won1
  rw [h 314 (by omega) (by omega) (by omega)]
theorem do_challenge (x y : Int32) : Do (f_X10_challenge x y) (f_X11_challenge x y) := by
  intro M hI
  have c4 := hI.c4
  have hb := hI.1
  have O := hb.1.2.1
  have c1 := O.1.2.1.2
  have Oz := O.dat (near_0 M 0).dat
  rcases side_c hb x with ⟨⟨k, hk, rfl⟩, es⟩ | ⟨ns, es⟩
  · rcases play_c hb y with ⟨⟨p, hp, rfl⟩, ep⟩ | ⟨np, ep⟩
    · have gc : f_X10_challenge (nI k) (nI p) M = cl (f_X10_canChallenge (nI k) (nI p) M) (fun r3 M3m => if r3 = 0 then some ((-2), M3m) else clv (f_X10_startAct M3m) (chF k p)) := by
        unfold f_X10_challenge chF
        rw [es, cl_s, if_neg (by decide), ep, cl_s, if_neg (by decide)]
      have gr : ∀ M1, Dat M M1 → M1.1 340 = M.1 340 → f_X11_challenge (nI k) (nI p) M1 = (if M.1 340 (33 + k) = 0 then some (-2, setI M1 311 0 0) else if M.1 340 0 ≤ nI p then some (-2, setI M1 311 0 0) else if M.1 314 3 < (M.1 340 0 - 1) - nI p then some (-2, setI M1 311 0 0) else if M.1 340 (9 + p) = 1 then some (-2, setI M1 311 0 0) else if M.1 340 (17 + p) = 1 then some (-2, setI M1 311 0 0) else clv (f_X11_keeps (setI M1 311 0 0)) (chG k p)) := fun M1 d e => by
        have dz : Dat M (setI M1 311 0 0) := d.tr (near_0 M1 0).dat
        rcases side_r (O.dat dz) (nI k) with ⟨-, e1⟩ | ⟨n, -⟩
        · have z := chal_r' hI d e hk hp
          rw [e1, cl_s] at z
          exact z
        · exact absurd ((IsS.cong dz _).mpr ⟨k, hk, rfl⟩) n
      obtain ⟨-, r2⟩ := rev_c c4 hI.2.1 (Near.refl M) (p := p) (by omega)
      obtain ⟨-, b2'⟩ := brd_c c4 hI.2.1 (Near.refl M) (p := p) (by omega)
      rcases can_c hI hk hp with ⟨⟨q1, q2, q3, q4, q5⟩, ec⟩ | ⟨nc, ec⟩
      · obtain ⟨k1, k2⟩ := hap_ok hI.2.1 c4
        have lt : p < hap M := by
          rcases Nat.lt_or_ge p (hap M) with z | z
          · exact z
          · rw [k1] at q2
            exact absurd (le_nI (by omega) (by omega) z) q2
        obtain ⟨own, ho, eo⟩ := left_nat (hI.2.1.2.1 k (by omega)).2
        have ho1 : 1 ≤ own := by
          rcases Nat.eq_zero_or_pos own with z | z
          · rw [z] at eo; exact absurd eo q1
          · exact z
        have lim : 0 ≤ (M.1 314 1).toInt := O.2.2.2.2.2.2.2.2.2.1.1
        have v33 : revV M p (nI k) (M.1 340) (33 + k) = nI own := by rw [revV_mid (by omega) (by omega), eo]
        obtain ⟨M1, M2, a1, a2, a3, a4, a5, a6⟩ := act hI (f' := chF k p) (g' := chG k p) (r := rv M p (M.1 340 (1 + p))) (s' := chV M k p own) (fun Ma hba da ma Ra ea => by
          have c4a : Cn Ma 4 ≤ 8 := by rw [Cn_dat da]; exact c4
          obtain ⟨M5, e5, o5, R5⟩ := revNow_c hba Ra (h := hap M) (p := p) k1 (by rw [Cn_dat da]; exact k2) lt (nI k)
          rw [rv_dat O da hp] at e5
          rw [revV_dat O da hp] at R5
          have c45 : Cn M5 4 ≤ 8 := by rw [Cn_dat o5.dat]; exact c4a
          have ib : inb (nI k) 4 := inb_nI (by omega) (by omega)
          have l5 : M5.1 219 k = nI own := by rw [← v33]; exact (R5.2.1 k (by omega)).1
          have w5 : M5.1 220 k = revV M p (nI k) (M.1 340) (37 + k) := R5.2.2.1 k (by omega)
          unfold chF chV
          try dsimp only
          rw [e5, cl_s]
          by_cases c : rv M p (M.1 340 (1 + p)) = 2
          · rw [if_pos c, if_pos c, gd_t ib, nI_clamp (show k < 2 ^ 31 by omega), w5]
            simp only [bnd_e]
            have R6 := day_won R5 c45 (i := k) (by omega) (revV M p (nI k) (M.1 340) (37 + k) + 1)
            obtain ⟨M6, d6⟩ : ∃ X, X = setI M5 220 k (revV M p (nI k) (M.1 340) (37 + k) + 1) := ⟨_, rfl⟩
            rw [← d6] at R6 ⊢
            have o6 : OffA Ma M6 := o5.tr (by rw [d6]; exact offA_set M5 (by omega))
            have hb6 := OffA.hb hba o6
            have c46 : Cn M6 4 ≤ 8 := by rw [Cn_dat o6.dat]; exact c4a
            obtain ⟨g1, g2, g3⟩ := plc hb6 (Near.refl M6)
            have l6 : M6.1 219 k = nI own := by rw [d6, setI_n (by omega), l5]
            have w6 : M6.1 220 k = revV M p (nI k) (M.1 340) (37 + k) + 1 := by rw [d6, setI_s]
            have ew := won_c hb6 (Near.refl M6) ho (revV M p (nI k) (M.1 340) (37 + k) + 1)
            rw [won1_dat (da.tr o6.dat)] at ew
            rw [gd_t g1, g3, l6, w6, ew, cl_s]
            have R7 := day_left R6 c46 (i := k) (by omega) (nI_09 (won1_le (M := M) ho (revV M p (nI k) (M.1 340) (37 + k) + 1)))
            exact ⟨_, rfl, o6.tr (offA_set M6 (by omega)), R7⟩
          · rw [if_neg c, if_neg c, gd_t ib, nI_clamp (show k < 2 ^ 31 by omega), l5, nI_p1 ho1]
            simp only [bnd_e]
            have R6 := day_left R5 c45 (i := k) (by omega) (nI_09 (n := own - 1) (by omega))
            obtain ⟨M6, d6⟩ : ∃ X, X = setI M5 219 k (nI (own - 1)) := ⟨_, rfl⟩
            rw [← d6] at R6 ⊢
            have o6 : OffA Ma M6 := o5.tr (by rw [d6]; exact offA_set M5 (by omega))
            have c46 : Cn M6 4 ≤ 8 := by rw [Cn_dat o6.dat]; exact c4a
            obtain ⟨h', z1, z2, z3⟩ := revV_0 (M := M) (p := p) (who := nI k) k1 lt
            have h60 : M6.1 217 0 = nI h' := by rw [R6.h0, upd_n _ _ (by omega), z1]
            have R7 := day_gone R6 c46 (h := h') (p := p) (i := k) h60 (by omega) z2 (by rw [Cn_dat (da.tr o6.dat)]; exact hk)
            rw [gd_t (inb_nI (by omega) (by omega)), nI_clamp (show p < 2 ^ 31 by omega)]
            exact ⟨_, rfl, o6.tr (offA_set M6 (by omega)), R7⟩) (fun Mb db eb => by
          obtain ⟨M5, e5, o5, s5⟩ := reviewed_r O db hp (nI k)
          rw [eb] at e5 s5
          have d5 : Dat M M5 := db.tr o5.dat
          have i37 : 37 + nI k = nI (37 + k) := nI_add _ _
          have i33 : 33 + nI k = nI (33 + k) := nI_add _ _
          have i25 : 25 + nI p = nI (25 + p) := nI_add _ _
          have oA : ∀ x, RfD Mb (sA M5 340 x) := fun x => o5.tr (rfd_A M5 x)
          unfold chG chV
          try dsimp only
          rw [e5, cl_s]
          by_cases c : rv M p (M.1 340 (1 + p)) = 2
          · rw [if_pos c, if_pos c, i37, gd_t (inb_nI (by omega) (by omega)), nI_clamp (show 37 + k < 2 ^ 31 by omega), setI_sA M5, s5]
            simp only [bnd_e]
            have e314 : (sA M5 340 (upd (revV M p (nI k) (M.1 340)) (37 + k) (revV M p (nI k) (M.1 340) (37 + k) + 1))).1 314 1 = M.1 314 1 := by rw [sA_n _ _ _ (by omega), d5 314 (by omega) (by omega) (by omega)]
            have same : ∀ j, j < 114 → upd (revV M p (nI k) (M.1 340)) (37 + k) (revV M p (nI k) (M.1 340) (37 + k) + 1) j = upd (upd (revV M p (nI k) (M.1 340)) (37 + k) (revV M p (nI k) (M.1 340) (37 + k) + 1)) (33 + k) (nI own) j := fun j _ => by
              by_cases z : j = 33 + k
              · rw [z, upd_s, upd_n _ _ (by omega), v33]
              · rw [upd_n (k := 33 + k) _ _ z]
            rw [e314, sA_s, upd_s]
            unfold won1
            by_cases c1 : M.1 314 1 = 0
            · rw [if_pos (by rw [c1]; decide), if_pos c1]
              exact ⟨_, rfl, oA _, fun j hj => by rw [sA_s]; exact same j hj⟩
            · have c1' : ¬ M.1 314 1 ≤ 0 := fun z => c1 (Int32.toInt_inj.mp (by
                have z2 := Int32.le_iff_toInt_le.mp z
                have z3 : (0 : Int32).toInt = 0 := by decide
                omega))
              rw [if_neg c1', gd_t c1, if_neg c1]
              by_cases c2 : revV M p (nI k) (M.1 340) (37 + k) + 1 - (revV M p (nI k) (M.1 340) (37 + k) + 1) / M.1 314 1 * M.1 314 1 = 0
              · rw [if_pos c2, if_pos c2]
                unfold f_X11_gains
                rw [i33, gd_t (inb_nI (by omega) (by omega)), nI_clamp (show 33 + k < 2 ^ 31 by omega), sA_s, upd_n _ _ (by omega), v33]
                simp only [bnd_e]
                by_cases c3 : 9 ≤ own
                · rw [if_pos (by rw [show (9 : Int32) = nI 9 from rfl]; exact le_nI (by omega) (by omega) c3), clv_s, if_pos c3]
                  exact ⟨_, rfl, oA _, fun j hj => by rw [sA_s]; exact same j hj⟩
                · rw [if_neg (by rw [show (9 : Int32) = nI 9 from rfl]; exact nI_ge (by omega) (by omega)), clv_s, if_neg c3, sA_set, nI_1]
                  exact ⟨_, rfl, oA _, fun j hj => by rw [sA_s]⟩
              · rw [if_neg c2, if_neg c2]
                exact ⟨_, rfl, oA _, fun j hj => by rw [sA_s]; exact same j hj⟩
          · rw [if_neg c, if_neg c, i33, i25, nI_clamp (show 33 + k < 2 ^ 31 by omega), setI_sA M5, s5, v33, nI_p1 ho1]
            simp only [bnd_e]
            rw [gd_t (inb_nI (by omega) (by omega)), nI_clamp (show 25 + p < 2 ^ 31 by omega), sA_set, nI_1]
            exact ⟨_, rfl, oA _, fun j hj => by rw [sA_s]⟩)
        refine ⟨_, M1, M2, by rw [gc, ec, cl_s, if_neg (by decide)]; exact a1, ?_, a3, a4⟩
        rw [gr M1 a5.dat a6, if_neg q1, if_neg q2, if_neg q3, if_neg (by rw [q4]; decide), if_neg (by rw [q5]; decide)]
        exact a2
      · refine do_minus hI (-2) (by rw [gc, ec, cl_s, if_pos rfl]) ?_
        rw [gr M (Dat.refl M) rfl]
        by_cases q1 : M.1 340 (33 + k) = 0
        · rw [if_pos q1]
        rw [if_neg q1]
        by_cases q2 : M.1 340 0 ≤ nI p
        · rw [if_pos q2]
        rw [if_neg q2]
        by_cases q3 : M.1 314 3 < (M.1 340 0 - 1) - nI p
        · rw [if_pos q3]
        rw [if_neg q3]
        by_cases q4 : M.1 340 (9 + p) = 1
        · rw [if_pos q4]
        rw [if_neg q4]
        by_cases q5 : M.1 340 (17 + p) = 1
        · rw [if_pos q5]
        exact absurd ⟨q1, q2, q3, r2.resolve_right q4, b2'.resolve_right q5⟩ nc
    · refine do_minus hI (-1) ?_ ?_
      · unfold f_X10_challenge
        rw [es, cl_s, if_neg (by decide), ep, cl_s, if_pos rfl]
      · unfold f_X11_challenge
        rw [bnd_e]
        rcases side_r Oz (nI k) with ⟨-, e1⟩ | ⟨n, -⟩
        · rcases play_r Oz y with ⟨n, -⟩ | ⟨-, e2⟩
          · exact absurd ((IsP.cong (near_0 M 0).dat _).mp n) np
          · rw [e1, cl_s, if_neg (by decide), e2, cl_s, if_pos rfl]
        · exact absurd ((IsS.cong (near_0 M 0).dat _).mpr ⟨k, hk, rfl⟩) n
  · refine do_minus hI (-1) ?_ ?_
    · unfold f_X10_challenge
      rw [es, cl_s, if_pos rfl]
    · unfold f_X11_challenge
      rw [bnd_e]
      rcases side_r Oz x with ⟨n, -⟩ | ⟨-, e1⟩
      · exact absurd ((IsS.cong (near_0 M 0).dat _).mp n) ns
      · rw [e1, cl_s, if_pos rfl]
