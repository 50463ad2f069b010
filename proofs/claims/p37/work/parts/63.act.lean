/-! AN ACT: both keep the day, then do it -/
theorem act {M : Mem} (hI : Inv M) {f' g' : Mem → Option (Int32 × Mem)} {r : Int32} {s' : Nat → Int32}
    (hc : ∀ Ma, HB Ma → Dat M Ma → Ma.2 = M.2 → RDay Ma 217 (M.1 340) → Ma.1 340 = M.1 340 → ∃ M1, f' Ma = some (r, M1) ∧ OffA Ma M1 ∧ RDay M1 217 s')
    (hr : ∀ Mb, Dat M Mb → Mb.1 340 = M.1 340 → ∃ M2, g' Mb = some (r, M2) ∧ RfD Mb M2 ∧ ∀ k, k < 114 → M2.1 340 k = s' k) :
    ∃ M1 M2, clv (f_X10_startAct M) f' = some (r, M1) ∧ clv (f_X11_keeps (setI M1 311 0 0)) g' = some (r, M2) ∧ Inv M2 ∧ M2.1 311 0 = 0 ∧ OffT M M1 ∧ M1.1 340 = M.1 340 := by
  have c4 := hI.c4
  have hI0 := hI
  obtain ⟨hb, hd, ⟨a, u, v, hu, hur⟩, hk, hT⟩ := hI
  obtain ⟨Ma, ea, Ra, Ua, oa⟩ := startAct_f hd hu c4
  obtain ⟨a1, a2, a3⟩ := oa
  have da : Dat M Ma := fun b h1 h2 _ => a2 b (by omega) (by omega)
  have hba : HB Ma := hb.offH ⟨a1, fun b h1 h2 => a2 b (by omega) (by omega), fun b h1 h2 => a2 b (by omega) (by omega)⟩
  obtain ⟨M1, e1, o1, R1⟩ := hc Ma hba da a1 Ra (a2 340 (by omega) (by omega))
  have q1 : ∀ b, b ≠ 64 → b < 212 ∨ 298 < b → M1.1 b = M.1 b := fun b h1 h2 => by rw [o1.2 b (by omega), a2 b h1 (by omega)]
  have q64 : M1.1 64 = Ma.1 64 := o1.2 64 (by omega)
  obtain ⟨M3, d3⟩ : ∃ X, X = setI M1 311 0 0 := ⟨_, rfl⟩
  have r3 : ∀ b, b ≠ 311 → M3.1 b = M1.1 b := fun b h => by rw [d3]; exact funext (fun k => setI_n (Or.inl h))
  have r3k : ∀ k, k ≠ 0 → M3.1 311 k = M.1 311 k := fun k h => by rw [d3, setI_n (Or.inr h), q1 311 (by omega) (by omega)]
  have r30 : M3.1 311 0 = 0 := by rw [d3, setI_s]
  have ur3 : UR M3 u v := by
    obtain ⟨u1, u2, u3⟩ := hur
    exact ⟨by rw [r3k 40 (by omega), u1], u2, fun j hj k hk => by rw [r3 341 (by omega), q1 341 (by omega) (by omega)]; exact u3 j hj k hk⟩
  obtain ⟨x, e4, ur4⟩ := keeps_f ur3
  obtain ⟨M4, d4⟩ : ∃ X, X = setI (sA M3 341 x) 311 40 (nI (up1 u)) := ⟨_, rfl⟩
  rw [← d4] at e4 ur4
  have r4 : ∀ b, b ≠ 311 → b ≠ 341 → M4.1 b = M3.1 b := fun b h1 h2 => funext (fun k => by rw [d4, setI_n (Or.inl h1), sA_n _ _ _ h2])
  have r4k : ∀ k, k ≠ 40 → M4.1 311 k = M3.1 311 k := fun k h => by rw [d4, setI_n (Or.inr h), sA_n _ _ _ (by omega)]
  have m4 : M4.2 = M1.2 := by rw [d4, d3]; rfl
  have e340 : M3.1 340 = M.1 340 := by rw [r3 340 (by omega), q1 340 (by omega) (by omega)]
  have dt4 : Dat M M4 := fun b h1 h2 _ => by rw [r4 b (by omega) (by omega), r3 b (by omega), q1 b (by omega) (by omega)]
  obtain ⟨M2, e2, o2, s2⟩ := hr M4 dt4 (by rw [r4 340 (by omega) (by omega), e340])
  have r2 : ∀ b, b ≠ 344 → b ≠ 340 → b ≠ 311 → M2.1 b = M4.1 b := fun b h1 h2 h3 => funext (fun k => o2.2 b k h1 h2 (by omega))
  have r2k : ∀ k, k ≠ 44 → M2.1 311 k = M4.1 311 k := fun k h => o2.2 311 k (by omega) (by omega) (by omega)
  have q2 : ∀ b, b ≠ 64 → b ≠ 344 → b ≠ 340 → b ≠ 341 → b ≠ 311 → b < 212 ∨ 298 < b → M2.1 b = M.1 b := fun b h1 h2 h3 h4 h5 h6 => by rw [r2 b h2 h3 h5, r4 b h5 h4, r3 b h5, q1 b h1 h6]
  have p2 : ∀ b, b ≠ 344 → b ≠ 340 → b ≠ 341 → b ≠ 311 → M2.1 b = M1.1 b := fun b h2 h3 h4 h5 => by rw [r2 b h2 h3 h5, r4 b h5 h4, r3 b h5]
  have k2 : ∀ k, k ≠ 0 → k ≠ 40 → k ≠ 44 → M2.1 311 k = M.1 311 k := fun k h1 h2 h3 => by rw [r2k k h3, r4k k h2, r3k k h1]
  have mm1 : M1.2 = M.2 := o1.1.trans a1
  have m2 : M2.2 = M.2 := by rw [o2.1, m4, mm1]
  have cn : ∀ i, Cn M2 i = Cn M i := fun i => by unfold Cn; rw [q2 313 (by omega) (by omega) (by omega) (by omega) (by omega) (by omega)]
  have cn1 : ∀ i, Cn M1 i = Cn M i := fun i => by unfold Cn; rw [q1 313 (by omega) (by omega)]
  have cna : ∀ i, Cn Ma i = Cn M i := fun i => by unfold Cn; rw [a2 313 (by omega) (by omega)]
  obtain ⟨ua8, ua9, hal, hul, uad⟩ := Ua
  refine ⟨M1, M2, by rw [ea, clv_s, e1], by rw [← d3, e4, clv_s, e2], ⟨hb.offH ⟨m2, fun b h1 h2 => q2 b (by omega) (by omega) (by omega) (by omega) (by omega) (by omega), fun b h1 h2 => q2 b (by omega) (by omega) (by omega) (by omega) (by omega) (by omega)⟩, ?_, ⟨(a + 1) % 12, up1 u, pushV u v (M.1 340), ⟨?_, ?_, hal, hul, fun j hj => ?_⟩, ?_⟩, fun i hi => ?_, ?_⟩, ?_, ?_, ?_⟩
  · exact R1.rows (by rw [cn1]; exact c4) (by rw [cn, cn1]) (by rw [cn, cn1]) (fun b h1 h2 => p2 b (by omega) (by omega) (by omega) (by omega)) s2
  · rw [p2 64 (by omega) (by omega) (by omega) (by omega), q64, ua8]
  · rw [p2 64 (by omega) (by omega) (by omega) (by omega), q64, ua9]
  · have lt := Nat.mod_lt ((a + 1) % 12 + 12 - up1 u + j) (show 0 < 12 by decide)
    exact (uad j hj).rows (by rw [cna]; exact c4) (by rw [cn, cna]) (by rw [cn, cna]) (fun b h1 h2 => by rw [p2 b (by omega) (by omega) (by omega) (by omega), o1.2 b (by omega)]) (fun _ _ => rfl)
  · rw [e340] at ur4
    obtain ⟨w1, w2, w3⟩ := ur4
    exact ⟨by rw [r2k 40 (by omega), w1], w2, fun j hj k hk => by rw [r2 341 (by omega) (by omega) (by omega)]; exact w3 j hj k hk⟩
  · have e225 : M2.1 225 = M.1 225 := by rw [p2 225 (by omega) (by omega) (by omega) (by omega), o1.2 225 (by omega), a2 225 (by omega) (by omega)]
    rw [e225, q2 343 (by omega) (by omega) (by omega) (by omega) (by omega) (by omega), q2 342 (by omega) (by omega) (by omega) (by omega) (by omega) (by omega)]
    rcases hk i hi with z | ⟨z1, z2, z3⟩
    · exact Or.inl z
    · have dk := dn_rng (dn_k hi)
      exact Or.inr ⟨z1, z2, z3.rows c4 (cn 4) (cn 1) (fun b h1 h2 => q2 b (by omega) (by omega) (by omega) (by omega) (by omega) (by omega)) (fun _ _ => rfl)⟩
  · have e226 : M2.1 226 = M.1 226 := by rw [p2 226 (by omega) (by omega) (by omega) (by omega), o1.2 226 (by omega), a2 226 (by omega) (by omega)]
    have s64 : ∀ k, k ≠ 8 → k ≠ 9 → M2.1 64 k = M.1 64 k := fun k h1 h2 => by rw [p2 64 (by omega) (by omega) (by omega) (by omega), q64, a3 k h1 h2]
    exact hT.cong m2 ⟨q2 65 (by omega) (by omega) (by omega) (by omega) (by omega) (by omega), q2 312 (by omega) (by omega) (by omega) (by omega) (by omega) (by omega), e226, q2 345 (by omega) (by omega) (by omega) (by omega) (by omega) (by omega)⟩ ⟨s64 1 (by omega) (by omega), s64 13 (by omega) (by omega), k2 2 (by omega) (by omega) (by omega), k2 46 (by omega) (by omega) (by omega)⟩
  · rw [r2k 0 (by omega), r4k 0 (by omega), r30]
  · refine ⟨mm1, fun b h1 h2 => q1 b h2 (by omega), fun b h1 h2 => q1 b (by omega) (by omega), ⟨?_, q1 345 (by omega) (by omega)⟩, ?_, ?_, ?_, ?_⟩
    · rw [o1.2 226 (by omega), a2 226 (by omega) (by omega)]
    · rw [q64, a3 1 (by omega) (by omega)]
    · rw [q64, a3 13 (by omega) (by omega)]
    · rw [q1 311 (by omega) (by omega)]
    · rw [q1 311 (by omega) (by omega)]
  · exact q1 340 (by omega) (by omega)
theorem OffT.dat {M M' : Mem} (o : OffT M M') : Dat M M' := fun a h1 h2 _ => o.2.2.1 a (by omega) h2
theorem OffT.hb {M M' : Mem} (h : HB M) (o : OffT M M') : HB M' := h.offT o
/-! next -/
def nxS (M : Mem) (h : Nat) : Nat → Int32 := upd (upd (M.1 340) 0 (nI (h + 1))) (1 + h) (M.1 334 h)
theorem do_next : Do f_X10_next f_X11_next := by
  intro M hI
  have c4 := hI.c4
  have hb := hI.1
  have O := hb.1.2.1
  have h4 := O.1.2.2.2.2.1
  obtain ⟨k1, k2⟩ := hap_ok hI.2.1 c4
  have k3 : M.1 217 0 = nI (hap M) := (hap_c hI.2.1).trans k1
  have gc : f_X10_next M = cl (f_X10_isPlay (nI (hap M)) M) (fun r1 M1m => if r1 = 0 then some ((-1), M1m) else clv (f_X10_startAct M1m) (fun M2m => gd (shc (M2m.2.2.1 64 2) = 8) (gd (inb (nI (hap M)) 8) (clv (f_X3_happen 217 (nI (hap M)) (M2m.1 (cr (cr (M2m.2.2.1 64 2) 12) (nI (hap M)).toNatClampNeg) 4) M2m) (fun M3m => gd (shc (M3m.2.2.1 64 2) = 8) (cl (f_X9_isReviewedAtOnce (M3m.2.2.1 64 2) (nI (hap M)) M3m) (fun r2 M4m => if r2 = 0 then some (3, M4m) else cl (f_X10_reviewNow (nI (hap M)) (-1) M4m) (fun r3 M5m => some (r3, M5m))))))))) := by
    unfold f_X10_next
    rw [k3, bnd_e]
  rcases Nat.lt_or_ge (hap M) (Cn M 4) with lt | ge
  · have c01 : M.1 334 (hap M) = 0 ∨ M.1 334 (hap M) = 1 := (O.2.2.2.2.2.2.1 _ lt).2.2.2.2.1
    obtain ⟨e, he, ee⟩ : ∃ e, e < 2 ∧ M.1 334 (hap M) = nI e := by
      rcases c01 with z | z
      · exact ⟨0, by omega, z⟩
      · exact ⟨1, by omega, z⟩
    have ns0 : nxS M (hap M) 0 = nI (hap M + 1) := by unfold nxS; rw [upd_n _ _ (by omega), upd_s]
    have ns1 : nxS M (hap M) (1 + hap M) = M.1 334 (hap M) := by unfold nxS; rw [upd_s]
    obtain ⟨M1, M2, q1, q2, q3, q4, q5, q6⟩ := act hI (f' := fun M2m => gd (shc (M2m.2.2.1 64 2) = 8) (gd (inb (nI (hap M)) 8) (clv (f_X3_happen 217 (nI (hap M)) (M2m.1 (cr (cr (M2m.2.2.1 64 2) 12) (nI (hap M)).toNatClampNeg) 4) M2m) (fun M3m => gd (shc (M3m.2.2.1 64 2) = 8) (cl (f_X9_isReviewedAtOnce (M3m.2.2.1 64 2) (nI (hap M)) M3m) (fun r2 M4m => if r2 = 0 then some (3, M4m) else cl (f_X10_reviewNow (nI (hap M)) (-1) M4m) (fun r3 M5m => some (r3, M5m)))))))) (g' := fun M2m => bnd (M2m.1 340 0) (fun a1 => bnd (setI M2m 340 0 ((M2m.1 340 0) + 1)) (fun M3m => gd (inb a1 16) (gd (inb (1 + a1) 114) (bnd (setI M3m 340 ((1 + a1).toNatClampNeg) (M3m.1 334 a1.toNatClampNeg)) (fun M4m => cl (f_X11_isAtOnce a1 M4m) (fun r1 M5m => if r1 = 0 then some (3, M5m) else cl (f_X11_reviewed a1 (-1) M5m) (fun r2 M6m => some (r2, M6m))))))))) (r := if atO M (hap M) then rv M (hap M) (M.1 334 (hap M)) else 3) (s' := if atO M (hap M) then revV M (hap M) (-1) (nxS M (hap M)) else nxS M (hap M)) (fun Ma hba da ma Ra ea => by
      have lta : hap M < Cn Ma 4 := by rw [Cn_dat da]; exact lt
      obtain ⟨g1, g2, g3⟩ := plc hba (Near.refl Ma)
      obtain ⟨p1, p2, p3, p4, p5, p6, p7, p8, p9⟩ := plj hba (Near.refl Ma) lta
      have c4a : Cn Ma 4 ≤ 8 := by rw [Cn_dat da]; exact c4
      have h0a : Ma.1 217 0 = nI (hap M) := Ra.h0.trans k1
      obtain ⟨M3, e3, R3, o3⟩ := day_hap Ra c4a h0a lta he
      have hb3 := OffA.hb hba (OffD.offA o3)
      obtain ⟨w1, w2, w3⟩ := plc hb3 (Near.refl M3)
      have d3 : Dat M M3 := da.tr (OffD.offA o3).dat
      have lt3 : hap M < Cn M3 4 := by rw [Cn_dat d3]; exact lt
      have R3' : RDay M3 217 (nxS M (hap M)) := by unfold nxS; rw [ee]; exact R3
      have e334 : Ma.1 334 (hap M) = nI e := by rw [da 334 (by omega) (by omega) (by omega), ee]
      have at3 : atO M3 (hap M) = atO M (hap M) := by
        unfold atO
        rw [kp_dat d3, d3 322 (by omega) (by omega) (by omega), d3 330 (by omega) (by omega) (by omega), d3 314 (by omega) (by omega) (by omega)]
      have ea3 := atO_c hb3 (Near.refl M3) lt3
      rw [at3] at ea3
      try dsimp only
      rw [gd_t g1, gd_t p1, p2, p8, e334, e3, clv_s, gd_t w1, w3, ea3, cl_s]
      by_cases c : atO M (hap M) = true
      · rw [if_pos c, if_neg (by decide), if_pos c, if_pos c]
        obtain ⟨M5, e5, o5, R5⟩ := revNow_c hb3 R3' (h := hap M + 1) (p := hap M) ns0 (by omega) (by omega) (-1)
        rw [ns1, rv_dat O d3 lt] at e5
        have ev : revV M3 (hap M) (-1) (nxS M (hap M)) = revV M (hap M) (-1) (nxS M (hap M)) := revV_dat O d3 lt _ _
        rw [ev] at R5
        exact ⟨M5, by rw [e5, cl_s], (OffD.offA o3).tr o5, R5⟩
      · rw [if_neg c, if_pos rfl, if_neg c, if_neg c]
        exact ⟨M3, rfl, OffD.offA o3, R3'⟩) (fun Mb db eb => by
      have i1 : 1 + nI (hap M) = nI (1 + hap M) := nI_add _ _
      have e0 : Mb.1 340 0 = nI (hap M) := by rw [eb, k1]
      have eA : setI (setI Mb 340 0 (nI (hap M + 1))) 340 (1 + hap M) (Mb.1 334 (hap M)) = sA Mb 340 (nxS M (hap M)) := by
        rw [setI_sA Mb, sA_set, eb, db 334 (by omega) (by omega) (by omega)]
        rfl
      have n334 : (setI Mb 340 0 (nI (hap M + 1))).1 334 (hap M) = Mb.1 334 (hap M) := setI_n (Or.inl (by omega))
      have dA : Dat M (sA Mb 340 (nxS M (hap M))) := db.tr (rfd_A Mb _).dat
      try dsimp only
      simp only [bnd_e]
      rw [e0, i1, nI_1, gd_t (inb_nI (by omega) (by omega)), gd_t (inb_nI (by omega) (by omega)), nI_clamp (show 1 + hap M < 2 ^ 31 by omega), nI_clamp (show hap M < 2 ^ 31 by omega), n334, eA, atO_r O dA lt, cl_s]
      by_cases c : atO M (hap M) = true
      · rw [if_pos c, if_neg (by decide), if_pos c, if_pos c]
        obtain ⟨M5, e5, o5, s5⟩ := reviewed_r O dA lt (-1)
        rw [sA_row] at s5
        rw [sA_s, ns1] at e5
        exact ⟨M5, by rw [e5, cl_s], (rfd_A Mb _).tr o5, fun k _ => by rw [s5]⟩
      · rw [if_neg c, if_pos rfl, if_neg c, if_neg c]
        exact ⟨_, rfl, rfd_A Mb _, fun k _ => by rw [sA_row]⟩)
    refine ⟨if atO M (hap M) then rv M (hap M) (M.1 334 (hap M)) else 3, M1, M2, ?_, ?_, q3, q4⟩
    · rw [gc]
      rcases play_c hb (nI (hap M)) with ⟨-, e2⟩ | ⟨n, -⟩
      · rw [e2, cl_s, if_neg (by decide)]
        exact q1
      · exact absurd ⟨hap M, lt, rfl⟩ n
    · have e340 : (setI M1 311 0 0).1 340 0 = nI (hap M) := by rw [setI_n (Or.inl (by omega)), q6, k1]
      have e313 : (setI M1 311 0 0).1 313 4 = nI (Cn M 4) := by rw [setI_n (Or.inl (by omega)), q5.dat 313 (by omega) (by omega) (by omega), h4.1]
      have gr : f_X11_next M1 = clv (f_X11_keeps (setI M1 311 0 0)) (fun M2m => bnd (M2m.1 340 0) (fun a1 => bnd (setI M2m 340 0 ((M2m.1 340 0) + 1)) (fun M3m => gd (inb a1 16) (gd (inb (1 + a1) 114) (bnd (setI M3m 340 ((1 + a1).toNatClampNeg) (M3m.1 334 a1.toNatClampNeg)) (fun M4m => cl (f_X11_isAtOnce a1 M4m) (fun r1 M5m => if r1 = 0 then some (3, M5m) else cl (f_X11_reviewed a1 (-1) M5m) (fun r2 M6m => some (r2, M6m))))))))) := by
        unfold f_X11_next
        rw [bnd_e, e340, e313, if_pos ((lt_nI (by omega) (by omega)).mpr lt)]
      rw [gr]
      exact q2
  · refine ⟨-1, M, setI M 311 0 0, ?_, ?_, hI.t0, set_0 M⟩
    · rw [gc]
      rcases play_c hb (nI (hap M)) with ⟨⟨p, hp, ep⟩, -⟩ | ⟨-, e2⟩
      · have := inj_nI (by omega) (by omega) ep
        omega
      · rw [e2, cl_s, if_pos rfl]
    · unfold f_X11_next
      have e340 : (setI M 311 0 0).1 340 0 = nI (hap M) := by rw [setI_n (Or.inl (by omega)), k1]
      have e313 : (setI M 311 0 0).1 313 4 = nI (Cn M 4) := by rw [setI_n (Or.inl (by omega)), h4.1]
      rw [bnd_e, e340, e313, if_neg (fun z => by have := (lt_nI (by omega) (by omega)).mp z; omega)]
