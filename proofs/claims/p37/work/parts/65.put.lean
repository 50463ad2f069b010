/-! put -/
theorem memb_dat {M M' : Mem} (h : Dat M M') (b j : Nat) : memb M' b j = memb M b j := by
  unfold memb
  rw [h 329 (by omega) (by omega) (by omega)]
theorem ag_dat {M M' : Mem} (O : MOk M) (h : Dat M M') {b p : Nat} (hp : p < Cn M 4) (c : Int32) : ∀ j, ag M' b p c j = ag M b p c j
  | 0 => rfl
  | j + 1 => by
    show (if (vq M' p (foA M' p (memb M' b j)) = 0 ∨ vq M' p (foA M' p (memb M' b j)) = 1) ∧ vq M' p (foA M' p (memb M' b j)) ≠ c then ag M' b p c j ||| 2 ^ j else ag M' b p c j) = if (vq M p (foA M p (memb M b j)) = 0 ∨ vq M p (foA M p (memb M b j)) = 1) ∧ vq M p (foA M p (memb M b j)) ≠ c then ag M b p c j ||| 2 ^ j else ag M b p c j
    rw [memb_dat h, foA_dat h, vq_dat O h hp (foA_lt O hp _), ag_dat O h hp c j]
theorem Bn_dat {M M' : Mem} (h : Dat M M') (i : Nat) : Bn M' i = Bn M i := by
  unfold Bn
  rw [h 328 (by omega) (by omega) (by omega)]
theorem calN_dat {M M' : Mem} (h : Dat M M') (e : M'.1 340 = M.1 340) (p : Nat) : calN M' p = calN M p := by
  unfold calN
  rw [e, h 334 (by omega) (by omega) (by omega)]
theorem agA_dat {M M' : Mem} (O : MOk M) (h : Dat M M') (e : M'.1 340 = M.1 340) {b p : Nat} (hp : p < Cn M 4) : agA M' b p = agA M b p := by
  unfold agA
  rw [calN_dat h e, Bn_dat h, ag_dat O h hp]
theorem ovr_dat {M M' : Mem} (O : MOk M) (h : Dat M M') (e : M'.1 340 = M.1 340) {b p : Nat} (hp : p < Cn M 4) : ovr M' b p = ovr M b p := by
  unfold ovr
  rw [agA_dat O h e hp, h 327 (by omega) (by omega) (by omega)]
theorem against_d {M M1 : Mem} (O : MOk M) (d : Dat M M1) (e : M1.1 340 = M.1 340) {b p : Nat} (hb : b < Cn M 3) (hp : p < Cn M 4) : ∃ d', f_X11_against (nI b) (nI p) M1 = some (nI (agA M b p), sA M1 344 d') := by
  have h4 := O.1.2.2.2.2.1.2
  obtain ⟨d', e2⟩ := ag_r O d hb hp (calN M p)
  refine ⟨d', ?_⟩
  unfold f_X11_against
  rw [cal_r (p := p) (by omega) d e, cl_s]
  exact e2
def ptF (b p : Nat) : Mem → Option (Int32 × Mem) := fun M4m => cl (f_X10_wouldOverturn (nI b) (nI p) M4m) (fun r4 M5m => bnd (setI M5m 217 3 ((M5m.1 217 3) ||| ((1 : Int32) <<< (nI p &&& 31)))) (fun M6m => if r4 = 0 then f_X10_put_b87 (nI p) r4 (nI p) (10 + nI b) 0 M6m else f_X10_put_b87 (nI p) r4 (nI p) (10 + nI b) 2 M6m))
def ptG (b p : Nat) : Mem → Option (Int32 × Mem) := fun M4m => cl (f_X11_against (nI b) (nI p) M4m) (fun r3 M5m => cl (f_X11_bits r3 M5m) (fun r4 M6m => gd (inb (nI b) 6) (if r4 < (M6m.1 327 (nI b).toNatClampNeg) then f_X11_put_b76 (nI b) (nI p) 0 M6m else f_X11_put_b76 (nI b) (nI p) 1 M6m)))
/-- the log's row, the other call -/
def ptL (M : Mem) (b p : Nat) : Nat → Int32 := logV (nI p) (10 + nI b) (if ovr M b p then 2 else 0) 0 (upd (M.1 340) (17 + p) 1)
def ptT (M : Mem) (b p : Nat) : Nat → Int32 := upd (ptL M b p) (1 + p) (1 - ptL M b p (1 + p))
theorem ptL_low {M : Mem} {b p k : Nat} (h : k < 49) (h2 : k ≠ 17 + p) : ptL M b p k = M.1 340 k := by
  unfold ptL
  rw [logV_at, if_neg (by omega), if_neg (by omega), if_neg (by omega), if_neg (by omega), if_neg (by omega), if_neg (by omega), upd_n _ _ h2]
theorem ptL_17 {M : Mem} {b p : Nat} (hp : p < 8) : ptL M b p (17 + p) = 1 := by
  unfold ptL
  rw [logV_at, if_neg (by omega), if_neg (by omega), if_neg (by omega), if_neg (by omega), if_neg (by omega), if_neg (by omega), upd_s]
theorem ptT_low {M : Mem} {b p k : Nat} (h : k < 49) (h2 : k ≠ 17 + p) (h3 : k ≠ 1 + p) : ptT M b p k = M.1 340 k := by
  unfold ptT
  rw [upd_n _ _ h3, ptL_low h h2]
theorem ptT_17 {M : Mem} {b p : Nat} (hp : p < 8) : ptT M b p (17 + p) = 1 := by
  unfold ptT
  rw [upd_n _ _ (by omega), ptL_17 hp]
/-- whose challenge was gone -/
def lst (M : Mem) (p : Nat) : Nat := (M.1 340 (25 + p)).toNatClampNeg
def up9 (x : Nat) : Nat := if 9 ≤ x then x else x + 1
def lfN (M : Mem) (k : Nat) : Nat := (M.1 340 (33 + k)).toNatClampNeg
def ptV (M : Mem) (b p : Nat) : Nat → Int32 := if ovr M b p then (if lst M p = 0 then upd (ptT M b p) (25 + p) 0 else upd (upd (ptT M b p) (33 + (lst M p - 1)) (nI (up9 (lfN M (lst M p - 1))))) (25 + p) 0) else ptL M b p
theorem do_put (x y : Int32) : Do (f_X10_put x y) (f_X11_put x y) := by
  intro M hI
  have c4 := hI.c4
  have hb := hI.1
  have O := hb.1.2.1
  have c1 := O.1.2.1.2
  have c3 := O.1.2.2.2.1.2
  have Oz := O.dat (near_0 M 0).dat
  rcases board_c hb x with ⟨⟨b, hbb, rfl⟩, es⟩ | ⟨ns, es⟩
  · rcases play_c hb y with ⟨⟨p, hp, rfl⟩, ep⟩ | ⟨np, ep⟩
    · obtain ⟨b1, b2'⟩ := brd_c c4 hI.2.1 (Near.refl M) (p := p) (by omega)
      have gc : f_X10_put (nI b) (nI p) M = if M.1 340 0 ≤ nI p then some (-2, M) else if M.1 340 (17 + p) = 0 then clv (f_X10_startAct M) (ptF b p) else some (-2, M) := by
        unfold f_X10_put ptF
        rw [es, cl_s, if_neg (by decide), ep, cl_s, if_neg (by decide), hap_c hI.2.1, b1, cl_s]
      have gr : ∀ M1, Dat M M1 → M1.1 340 = M.1 340 → f_X11_put (nI b) (nI p) M1 = if M.1 340 0 ≤ nI p then some (-2, setI M1 311 0 0) else if M.1 340 (17 + p) = 1 then some (-2, setI M1 311 0 0) else clv (f_X11_keeps (setI M1 311 0 0)) (ptG b p) := fun M1 d e => by
        have dz : Dat M (setI M1 311 0 0) := d.tr (near_0 M1 0).dat
        have e340' : (setI M1 311 0 0).1 340 = M.1 340 := by rw [← e]; exact funext (fun k => setI_n (Or.inl (by omega)))
        have i17 : 17 + nI p = nI (17 + p) := nI_add _ _
        unfold f_X11_put ptG
        rw [bnd_e]
        rcases board_r (O.dat dz) (nI b) with ⟨-, e1⟩ | ⟨n, -⟩
        · rcases play_r (O.dat dz) (nI p) with ⟨-, e2⟩ | ⟨n, -⟩
          · rw [e1, cl_s, if_neg (by decide), e2, cl_s, if_neg (by decide), e340', i17, gd_t (inb_nI (by omega) (by omega)), nI_clamp (show 17 + p < 2 ^ 31 by omega)]
          · exact absurd ((IsP.cong dz _).mpr ⟨p, hp, rfl⟩) n
        · exact absurd ((IsB.cong dz _).mpr ⟨b, hbb, rfl⟩) n
      by_cases q1 : M.1 340 0 ≤ nI p
      · exact do_minus hI (-2) (by rw [gc, if_pos q1]) (by rw [gr M (Dat.refl M) rfl, if_pos q1])
      rcases b2' with q2 | q2
      · obtain ⟨k1, k2⟩ := hap_ok hI.2.1 c4
        have lt : p < hap M := by
          rcases Nat.lt_or_ge p (hap M) with z | z
          · exact z
          · rw [k1] at q1
            exact absurd (le_nI (by omega) (by omega) z) q1
        -- whose challenge was gone, by both
        have gone : (lst M p = 0 ∧ M.1 340 (25 + p) = 0 ∧ M.1 218 p = -1) ∨ (1 ≤ lst M p ∧ lst M p - 1 < Cn M 1 ∧ M.1 340 (25 + p) = nI (lst M p) ∧ M.1 218 p = nI (lst M p - 1)) := by
          obtain ⟨⟨hh, h1, h2, h3, c, r, bb, h5, h6, h7, -⟩, -⟩ := hI.2.1
          have eh : hh = hap M := inj_nI (by omega) (by omega) (h3.symm.trans k1)
          obtain ⟨-, -, w3, w4⟩ := h7 p (by omega)
          have tb : bb.testBit p = false := by
            rw [q2] at w3
            cases z : bb.testBit p with
            | false => rfl
            | true =>
              unfold b2 at w3
              rw [z] at w3
              exact absurd w3 (by decide)
          unfold lst
          rcases w4 tb with ⟨v1, v2⟩ | ⟨x, v1, v2, v3⟩
          · exact Or.inl ⟨by rw [v1]; decide, v1, v2⟩
          · rw [v2, nI_clamp (by omega)]
            exact Or.inr ⟨by omega, by omega, rfl, by rw [Nat.add_sub_cancel]; exact v3⟩
        have lf : ∀ k, k < 4 → M.1 340 (33 + k) = nI (lfN M k) ∧ lfN M k ≤ 9 := fun k hk => by
          obtain ⟨n, hn, en⟩ := left_nat (hI.2.1.2.1 k hk).2
          unfold lfN
          rw [en, nI_clamp (by omega)]
          exact ⟨rfl, hn⟩
        obtain ⟨M1, M2, a1, a2, a3, a4, a5, a6⟩ := act hI (f' := ptF b p) (g' := ptG b p) (r := if ovr M b p then 1 else 0) (s' := ptV M b p) (fun Ma hba da ma Ra ea => by
          have c4a : Cn Ma 4 ≤ 8 := by rw [Cn_dat da]; exact c4
          have hpa : p < Cn Ma 4 := by rw [Cn_dat da]; exact hp
          obtain ⟨M5, e5, o5⟩ := would_c hba (by rw [ea]; exact Ra) (Near.refl Ma) (b := b) (p := p) (by rw [Cn_dat da]; exact hbb) hpa
          rw [ovr_dat O da ea hp] at e5
          have R5 := Ra.near c4a o5.near
          have c45 : Cn M5 4 ≤ 8 := by rw [Cn_dat o5.dat]; exact c4a
          have h50 : M5.1 217 0 = nI (hap M) := R5.h0.trans k1
          have R6 := day_brd R5 c45 (h := hap M) (p := p) h50 (by omega) lt
          obtain ⟨M6, d6⟩ : ∃ X, X = setI M5 217 3 (M5.1 217 3 ||| ((1 : Int32) <<< (nI p &&& 31))) := ⟨_, rfl⟩
          rw [← d6] at R6
          have o6 : OffA Ma M6 := (OffJ.offA o5).tr (by rw [d6]; exact offA_set M5 (by omega))
          have c46 : Cn M6 4 ≤ 8 := by rw [Cn_dat o6.dat]; exact c4a
          have g6 : M6.1 218 p = Ma.1 218 p := by rw [d6, setI_n (by omega), o5.2 218 (by omega)]
          obtain ⟨M7, e7, R7, o7, o7k⟩ := addLog_f (Or.inl rfl) R6 c46 (nI p) (10 + nI b) (if ovr M b p then 2 else 0) 0
          have o7' : OffA Ma M7 := o6.tr (OffD.offA o7)
          have c47 : Cn M7 4 ≤ 8 := by rw [Cn_dat o7'.dat]; exact c4a
          have RL : RDay M7 217 (ptL M b p) := R7
          have g7 : M7.1 218 p = Ma.1 218 p := by rw [o7k 218 p (by omega) (by omega), g6]
          -- the class's row 218 at the start is as before
          have ga : Ma.1 218 p = M.1 218 p ∨ True := Or.inr trivial
          unfold ptF ptV
          try dsimp only
          rw [e5, cl_s]
          simp only [bnd_e]
          rw [← d6]
          by_cases c : ovr M b p = true
          · rw [c] at e7
            rw [if_pos c, if_pos c, if_neg (by decide)]
            unfold f_X10_put_b87 f_X10_put_b111
            have e7' : f_X3_addLog 217 (nI p) (10 + nI b) 2 0 M6 = some M7 := e7
            have h70 : M7.1 217 0 = nI (hap M) := by rw [RL.h0, ptL_low (by omega) (by omega), k1]
            have R8 := day_turn RL c47 (h := hap M) (p := p) h70 (by omega) lt
            obtain ⟨M8, d8⟩ : ∃ X, X = setI M7 217 1 (M7.1 217 1 ^^^ ((1 : Int32) <<< (nI p &&& 31))) := ⟨_, rfl⟩
            rw [← d8] at R8
            have R8' : RDay M8 217 (ptT M b p) := R8
            have o8 : OffA Ma M8 := o7'.tr (by rw [d8]; exact offA_set M7 (by omega))
            have c48 : Cn M8 4 ≤ 8 := by rw [Cn_dat o8.dat]; exact c4a
            have et : f_X3_turn 217 (nI p) M7 = some M8 := by
              unfold f_X3_turn
              rw [gd_t day_c, bnd_e, ← d8]
            have g8 : M8.1 218 p = Ma.1 218 p := by rw [d8, setI_n (by omega), g7]
            have t4 : cr 217 4 = 218 := by decide +kernel
            have t5 : cr 217 5 = 219 := by decide +kernel
            rw [e7', clv_s, if_neg (show ¬ (1 : Int32) = 0 by decide), et, clv_s]
            unfold f_X3_giveBack
            rw [gd_t day_c, gd_t (inb_nI (by omega) (by omega)), bnd_e, nI_clamp (show p < 2 ^ 31 by omega), t4, t5, g8]
            -- the start's row 218 by the day itself
            have gone' : (lst M p = 0 ∧ Ma.1 218 p = -1) ∨ (1 ≤ lst M p ∧ lst M p - 1 < Cn M 1 ∧ Ma.1 218 p = nI (lst M p - 1)) := by
              obtain ⟨⟨hh, h1, h2, h3, cc, rr, bb, h5, h6, h7, -⟩, -⟩ := Ra
              have eh : hh = hap M := inj_nI (by omega) (by omega) (h3.symm.trans k1)
              obtain ⟨-, -, w3, w4⟩ := h7 p (by omega)
              have tb : bb.testBit p = false := by
                rw [q2] at w3
                cases z : bb.testBit p with
                | false => rfl
                | true =>
                  unfold b2 at w3
                  rw [z] at w3
                  exact absurd w3 (by decide)
              rcases w4 tb with ⟨v1, v2⟩ | ⟨x, v1, v2, v3⟩
              · exact Or.inl ⟨by unfold lst; rw [v1]; decide, v2⟩
              · have e : lst M p = x + 1 := by
                  unfold lst
                  rw [v2, nI_clamp (by rw [Cn_dat da] at v1; omega)]
                rw [e, Nat.add_sub_cancel]
                rw [Cn_dat da] at v1
                exact Or.inr ⟨by omega, v1, v3⟩
            rcases gone' with ⟨z1, z2⟩ | ⟨z1, z2, z3⟩
            · rw [z2, if_pos (by decide), clv_s, if_pos z1]
              exact ⟨M8, rfl, o8, day_lost R8' c48 (by omega) (ptT_17 (by omega))⟩
            · have ib : inb (nI (lst M p - 1)) 4 := inb_nI (by omega) (by omega)
              have l8 : M8.1 219 (lst M p - 1) = nI (lfN M (lst M p - 1)) := by
                rw [show M8.1 219 (lst M p - 1) = ptT M b p (33 + (lst M p - 1)) from (R8'.2.1 (lst M p - 1) (by omega)).1, ptT_low (by omega) (by omega) (by omega)]
                exact (lf _ (by omega)).1
              have u9 := (lf (lst M p - 1) (by omega)).2
              have m9 : min32 (nI (lfN M (lst M p - 1)) + 1) 9 = nI (up9 (lfN M (lst M p - 1))) := min_9 _ u9
              have R9 := day_left R8' c48 (i := lst M p - 1) (by omega) (nI_09 (n := up9 (lfN M (lst M p - 1))) (by unfold up9; split <;> omega))
              rw [z3, if_neg (neg_nI (by omega)), if_neg (by rw [show (4 : Int32) = nI 4 from rfl]; exact nI_ge (by omega) (by omega)), gd_t ib, nI_clamp (show lst M p - 1 < 2 ^ 31 by omega), l8, m9, bnd_e, clv_s, if_neg (show ¬ lst M p = 0 by omega)]
              refine ⟨_, rfl, o8.tr (offA_set M8 (by omega)), day_lost R9 (by rw [cn_set (by omega)]; exact c48) (p := p) (by omega) ?_⟩
              rw [upd_n _ _ (by omega), ptT_17 (by omega)]
          · rw [Bool.eq_false_iff.mpr c] at e7
            rw [if_neg c, if_neg c, if_pos rfl]
            unfold f_X10_put_b87 f_X10_put_b111
            have e7' : f_X3_addLog 217 (nI p) (10 + nI b) 0 0 M6 = some M7 := e7
            rw [e7', clv_s, if_pos rfl, if_pos rfl]
            exact ⟨M7, rfl, o7', RL⟩) (fun Mb db eb => by
          obtain ⟨d5, e5⟩ := against_d O db eb hbb hp
          have lta := agA_lt O (b := b) (p := p) hbb
          have i17 : 17 + nI p = nI (17 + p) := nI_add _ _
          have i25 : 25 + nI p = nI (25 + p) := nI_add _ _
          have i1 : 1 + nI p = nI (1 + p) := nI_add _ _
          obtain ⟨M5, d5'⟩ : ∃ X, X = sA Mb 344 d5 := ⟨_, rfl⟩
          have o5 : RfD Mb M5 := by rw [d5']; exact (rl_A Mb d5).rfd
          have s5 : M5.1 340 = M.1 340 := by rw [d5', ← eb]; exact funext (fun k => sA_n _ _ _ (by omega))
          have oA : ∀ x, RfD Mb (sA M5 340 x) := fun x => o5.tr (rfd_A M5 x)
          have w327 : M5.1 327 b = M.1 327 b := by rw [(db.tr o5.dat) 327 (by omega) (by omega) (by omega)]
          have p25 : ptT M b p (25 + p) = M.1 340 (25 + p) := ptT_low (by omega) (by omega) (by omega)
          have t157 : ∀ x, f_X11_put_b157 (nI p) (sA M5 340 x) = some (1, sA M5 340 (upd x (25 + p) 0)) := fun x => by
            unfold f_X11_put_b157
            rw [i25, gd_t (inb_nI (by omega) (by omega)), nI_clamp (show 25 + p < 2 ^ 31 by omega), bnd_e, sA_set]
          have b76t : ovr M b p = true → f_X11_put_b76 (nI b) (nI p) 1 M5 = if M.1 340 (25 + p) ≤ 0 then f_X11_put_b157 (nI p) (sA M5 340 (ptT M b p)) else clv (f_X11_gains (M.1 340 (25 + p) - 1) (sA M5 340 (ptT M b p))) (fun M3m => f_X11_put_b157 (nI p) M3m) := fun c => by
            have hL : logV (nI p) (10 + nI b) 2 0 (upd (M.1 340) (17 + p) 1) = ptL M b p := by
              unfold ptL
              rw [if_pos c]
            have hT : upd (ptL M b p) (1 + p) (1 - ptL M b p (1 + p)) = ptT M b p := rfl
            unfold f_X11_put_b76
            rw [i17, gd_t (inb_nI (by omega) (by omega)), nI_clamp (show 17 + p < 2 ^ 31 by omega), bnd_e, if_neg (show ¬ (1 : Int32) = 0 by decide), setI_sA M5, s5]
            unfold f_X11_put_b102
            rw [logs_f, clv_s, sA_row, sA_sA, hL, if_neg (show ¬ (1 : Int32) = 0 by decide), i1, gd_t (inb_nI (by omega) (by omega)), nI_clamp (show 1 + p < 2 ^ 31 by omega), bnd_e, sA_set, sA_s, sA_s, hT, i25, gd_t (inb_nI (by omega) (by omega)), nI_clamp (show 25 + p < 2 ^ 31 by omega), p25]
          have b76f : ¬ ovr M b p = true → f_X11_put_b76 (nI b) (nI p) 0 M5 = some (0, sA M5 340 (ptL M b p)) := fun c => by
            have hL : logV (nI p) (10 + nI b) 0 0 (upd (M.1 340) (17 + p) 1) = ptL M b p := by
              unfold ptL
              rw [if_neg c]
            unfold f_X11_put_b76
            rw [i17, gd_t (inb_nI (by omega) (by omega)), nI_clamp (show 17 + p < 2 ^ 31 by omega), bnd_e, if_pos rfl, setI_sA M5, s5]
            unfold f_X11_put_b102
            rw [logs_f, clv_s, sA_row, sA_sA, hL, if_pos rfl]
          rw [← d5'] at e5
          unfold ptG
          try dsimp only
          rw [e5, cl_s, bits_f lta, cl_s, gd_t (inb_nI (by omega) (by omega)), nI_clamp (show b < 2 ^ 31 by omega), w327]
          unfold ptV
          by_cases cz : nI (pc (agA M b p)) < M.1 327 b
          · have c : ¬ ovr M b p = true := by
              unfold ovr
              rw [decide_eq_true cz]
              decide
            rw [if_pos cz, b76f c, if_neg c, if_neg c]
            exact ⟨_, rfl, oA _, fun k _ => by rw [sA_s]⟩
          · have c : ovr M b p = true := by
              unfold ovr
              rw [decide_eq_false cz]
              rfl
            rw [if_neg cz, b76t c, if_pos c, if_pos c]
            rcases gone with ⟨z1, z2, -⟩ | ⟨z1, z2, z3, -⟩
            · rw [z2, if_pos (by decide), t157, if_pos z1]
              exact ⟨_, rfl, oA _, fun k _ => by rw [sA_s]⟩
            · have ls := lf (lst M p - 1) (by omega)
              have i33 : 33 + nI (lst M p - 1) = nI (33 + (lst M p - 1)) := nI_add _ _
              have pos : ¬ nI (lst M p) ≤ 0 := by rw [show (0 : Int32) = nI 0 from rfl]; exact nI_ge (by omega) (by omega)
              have p33 : ptT M b p (33 + (lst M p - 1)) = nI (lfN M (lst M p - 1)) := by rw [ptT_low (by omega) (by omega) (by omega)]; exact ls.1
              rw [z3, if_neg pos, nI_p1 z1, if_neg (show ¬ lst M p = 0 by omega)]
              unfold f_X11_gains
              rw [i33, gd_t (inb_nI (by omega) (by omega)), nI_clamp (show 33 + (lst M p - 1) < 2 ^ 31 by omega), sA_s, p33]
              unfold up9
              by_cases c9 : 9 ≤ lfN M (lst M p - 1)
              · rw [if_pos (by rw [show (9 : Int32) = nI 9 from rfl]; exact le_nI (by omega) (by omega) c9), clv_s, t157, if_pos c9]
                refine ⟨_, rfl, oA _, fun k _ => ?_⟩
                rw [sA_s]
                by_cases z : k = 25 + p
                · rw [z, upd_s, upd_s]
                · rw [upd_n _ _ z, upd_n _ _ z]
                  by_cases z' : k = 33 + (lst M p - 1)
                  · rw [z', upd_s, p33]
                  · rw [upd_n _ _ z']
              · rw [if_neg (by rw [show (9 : Int32) = nI 9 from rfl]; exact nI_ge (by omega) (by omega)), bnd_e, clv_s, sA_set, t157, if_neg c9, nI_1]
                exact ⟨_, rfl, oA _, fun k _ => by rw [sA_s]⟩)
        refine ⟨if ovr M b p then 1 else 0, M1, M2, by rw [gc, if_neg q1, if_pos q2]; exact a1, ?_, a3, a4⟩
        rw [gr M1 a5.dat a6, if_neg q1, if_neg (by rw [q2]; decide)]
        exact a2
      · exact do_minus hI (-2) (by rw [gc, if_neg q1, if_neg (by rw [q2]; decide)]) (by rw [gr M (Dat.refl M) rfl, if_neg q1, if_pos q2])
    · refine do_minus hI (-1) ?_ ?_
      · unfold f_X10_put
        rw [es, cl_s, if_neg (by decide), ep, cl_s, if_pos rfl]
      · unfold f_X11_put
        rw [bnd_e]
        rcases board_r Oz (nI b) with ⟨-, e1⟩ | ⟨n, -⟩
        · rcases play_r Oz y with ⟨n, -⟩ | ⟨-, e2⟩
          · exact absurd ((IsP.cong (near_0 M 0).dat _).mp n) np
          · rw [e1, cl_s, if_neg (by decide), e2, cl_s, if_pos rfl]
        · exact absurd ((IsB.cong (near_0 M 0).dat _).mpr ⟨b, hbb, rfl⟩) n
  · refine do_minus hI (-1) ?_ ?_
    · unfold f_X10_put
      rw [es, cl_s, if_pos rfl]
    · unfold f_X11_put
      rw [bnd_e]
      rcases board_r Oz x with ⟨n, -⟩ | ⟨-, e1⟩
      · exact absurd ((IsB.cong (near_0 M 0).dat _).mp n) ns
      · rw [e1, cl_s, if_pos rfl]
