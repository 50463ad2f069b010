/-! camera, kind -/
theorem ask_any {f g gc : Mem → Option (Int32 × Mem)} (hg : ∀ M, g M = gc (setI M 311 0 0)) (hh : ∀ M, HB M → ∃ V : Int32 → Prop, (∃ r M1, f M = some (r, M1) ∧ OffJ M M1 ∧ V r) ∧ (∀ M1, MOk M1 → Dat M M1 → ∃ r d', gc M1 = some (r, sA M1 344 d') ∧ V r) ∧ ∀ r r', V r → V r' → r = r') : Ask f g := by
  intro M h
  obtain ⟨V, v1, v2, v3⟩ := hh M h
  obtain ⟨r, M1, M2, e1, e2, h1, s1, s2, t⟩ := ask_J (gc := gc) h V v1 v2 v3
  exact ⟨r, M1, M2, e1, by rw [hg]; exact e2, h1.rf ((rf_0 _ _).tr s2), s1.tr (((rf_0 _ _).tr s2).sm _), t⟩
theorem inj_nI {a b : Nat} (ha : a < 2 ^ 31) (hb : b < 2 ^ 31) (h : nI a = nI b) : a = b := by
  have q := congrArg Int32.toInt h
  rw [nI_toInt ha, nI_toInt hb] at q
  omega
/-- an index below a count, as the class asks it -/
theorem cnt_c {x : Int32} {n : Nat} (hn : n < 2 ^ 31) : (¬ x < 0 ∧ x < nI n) ↔ ∃ i, i < n ∧ x = nI i := by
  constructor
  · rintro ⟨h1, h2⟩; exact idx_of hn h1 h2
  · rintro ⟨i, hi, rfl⟩
    exact ⟨neg_nI (by omega), (lt_nI (by omega) hn).mpr hi⟩
def CamV (C : Ct) (a b : Nat) (neg : Prop) (r : Int32) : Prop := (Neg C ∧ r = -2) ∨ (¬ Neg C ∧ ∃ G, Tig C G ∧ ((neg ∧ r.toInt = -G a b) ∨ (¬ neg ∧ r.toInt = G a b)))
theorem CamV.uniq {C : Ct} (h10 : In10 C) {a b : Nat} (ha : a < 10) (hb : b < 10) {w : Prop} {r r' : Int32} (h : CamV C a b w r) (h' : CamV C a b w r') : r = r' := by
  rcases h with ⟨n, e⟩ | ⟨n, G, t, g⟩ <;> rcases h' with ⟨n', e'⟩ | ⟨n', G', t', g'⟩
  · rw [e, e']
  · exact absurd n n'
  · exact absurd n' n
  · rw [t.uniq h10 t' ha hb] at g
    rcases g with ⟨g1, e⟩ | ⟨g1, e⟩ <;> rcases g' with ⟨g1', e'⟩ | ⟨g1', e'⟩
    · exact Int32.toInt_inj.mp (e.trans e'.symm)
    · exact absurd g1 g1'
    · exact absurd g1' g1
    · exact Int32.toInt_inj.mp (e.trans e'.symm)
theorem cam_in {M : Mem} (O : MOk M) {c : Nat} (hc : c < Cn M 0) {G : Mx} (b : Bel (CC M) G) : G 0 (1 + c) < IN ∧ G (1 + c) 0 < IN := by
  obtain ⟨r1, r2, r3⟩ := O.2.1 c hc
  have iN : IN = 100000000 := rfl
  have b1 := b 0 (1 + c) (-(M.1 317 c).toInt) (Or.inl ⟨c, hc, Or.inl ⟨rfl, rfl, rfl⟩⟩)
  have b2 := b (1 + c) 0 (M.1 318 c).toInt (Or.inl ⟨c, hc, Or.inr ⟨rfl, rfl, rfl⟩⟩)
  omega
def CamA (M : Mem) (x y r : Int32) : Prop := (¬ ((∃ c, c < Cn M 0 ∧ x = nI c) ∧ (y = 0 ∨ y = 1 ∨ y = 2 ∨ y = 3)) ∧ r = -1) ∨ ∃ c, c < Cn M 0 ∧ x = nI c ∧ ((y = 0 ∧ r = M.1 317 c) ∨ (y = 1 ∧ r = M.1 318 c) ∨ (y = 2 ∧ CamV (CC M) 0 (1 + c) True r) ∨ (y = 3 ∧ CamV (CC M) (1 + c) 0 False r))
theorem CamA.uniq {M : Mem} (O : MOk M) {x y r r' : Int32} (h : CamA M x y r) (h' : CamA M x y r') : r = r' := by
  have h0 := O.1.1.2
  have h10 : In10 (CC M) := (clk_ok O (fun _ => 0)).1
  rcases h with ⟨a, e⟩ | ⟨c, hc, e, g⟩ <;> rcases h' with ⟨a', e'⟩ | ⟨c', hc', e', g'⟩
  · rw [e, e']
  · exact absurd ⟨⟨c', hc', e'⟩, g'.imp And.left (fun z => z.imp And.left (fun z => z.imp And.left And.left))⟩ a
  · exact absurd ⟨⟨c, hc, e⟩, g.imp And.left (fun z => z.imp And.left (fun z => z.imp And.left And.left))⟩ a'
  · have := inj_nI (by omega) (by omega) (e.symm.trans e')
    subst this
    rcases g with ⟨g1, g⟩ | ⟨g1, g⟩ | ⟨g1, g⟩ | ⟨g1, g⟩ <;> rcases g' with ⟨g1', g'⟩ | ⟨g1', g'⟩ | ⟨g1', g'⟩ | ⟨g1', g'⟩ <;> first | (rw [g, g']; done) | (exact g.uniq h10 (by omega) (by omega) g') | (rw [g1] at g1'; exact absurd g1' (by decide))
theorem four_or {y : Int32} : (0 ≤ y ∧ y ≤ 3) ↔ (y = 0 ∨ y = 1 ∨ y = 2 ∨ y = 3) := by
  rw [three_nI]
  constructor
  · rintro ⟨i, hi, rfl⟩
    have key : ∀ i, i < 4 → (nI i = 0 ∨ nI i = 1 ∨ nI i = 2 ∨ nI i = 3) := by decide
    exact key i hi
  · rintro (rfl | rfl | rfl | rfl)
    · exact ⟨0, by omega, rfl⟩
    · exact ⟨1, by omega, rfl⟩
    · exact ⟨2, by omega, rfl⟩
    · exact ⟨3, by omega, rfl⟩
theorem cam_c {M : Mem} (h : HB M) {c : Nat} (hc : c < Cn M 0) (hb : M.1 (tld M + 3) 1 = 0) : ∃ r, f_X2_lateLeast (tld M + 3) (nI c) M = some (r, M) ∧ CamV (CC M) 0 (1 + c) True r := by
  have h0 := h.1.2.1.1.1.2
  obtain ⟨-, -, tr, tr2, -⟩ := tt_r h.1.1
  obtain ⟨tc, -⟩ := tt_c h.1.1
  have iN : IN = 100000000 := rfl
  rcases h.1.2.2.2 with ⟨-, ok, t⟩ | ⟨b1, -⟩
  · rw [tr2] at ok t
    have em := cm_in (M.1 (tld M + 4)) (a := 0) (b := 1 + c) (by omega) (by omega)
    have lt := (cam_in h.1.2.1 hc t.2.1).1
    rw [em] at lt
    by_cases z : M.1 (tld M + 4) (10 * (1 + c) + 0) = (268435456 : Int32)
    · rw [if_pos z] at lt; omega
    · rw [if_neg z] at em
      have bo := (ok (10 * (1 + c) + 0) (by omega)).resolve_left z
      refine ⟨-(M.1 (tld M + 4) (10 * (1 + c) + 0)), ?_, Or.inr ⟨t.noneg (rep_cc h.1.2.1).1, _, t, Or.inl ⟨trivial, by rw [em, neg_toInt (by omega)]⟩⟩⟩
      unfold f_X2_lateLeast
      have q : ((1 + nI c) * 10) + 0 = nI (10 * (1 + c) + 0) := by rw [n1, show (0 : Int32) = nI 0 from rfl, i10r]
      rw [gd_t tc, q, gd_t (inb_nI (by omega) (by omega)), nI_clamp (by omega), tr2]
  · rw [hb] at b1
    exact absurd b1 (by decide)
theorem cam_c2 {M : Mem} (h : HB M) {c : Nat} (hc : c < Cn M 0) (hb : M.1 (tld M + 3) 1 = 0) : ∃ r, f_X2_lateMost (tld M + 3) (nI c) M = some (r, M) ∧ CamV (CC M) (1 + c) 0 False r := by
  have h0 := h.1.2.1.1.1.2
  obtain ⟨-, -, tr, tr2, -⟩ := tt_r h.1.1
  obtain ⟨tc, -⟩ := tt_c h.1.1
  have iN : IN = 100000000 := rfl
  rcases h.1.2.2.2 with ⟨-, ok, t⟩ | ⟨b1, -⟩
  · rw [tr2] at ok t
    have em := cm_in (M.1 (tld M + 4)) (a := 1 + c) (b := 0) (by omega) (by omega)
    have lt := (cam_in h.1.2.1 hc t.2.1).2
    rw [em] at lt
    rw [show 10 * 0 + (1 + c) = 1 + c by omega] at em lt
    by_cases z : M.1 (tld M + 4) (1 + c) = (268435456 : Int32)
    · rw [if_pos z] at lt; omega
    · rw [if_neg z] at em
      refine ⟨M.1 (tld M + 4) (1 + c), ?_, Or.inr ⟨t.noneg (rep_cc h.1.2.1).1, _, t, Or.inr ⟨id, by rw [em]⟩⟩⟩
      unfold f_X2_lateMost
      rw [gd_t tc, n1, gd_t (inb_nI (by omega) (by omega)), nI_clamp (by omega), tr2]
  · rw [hb] at b1
    exact absurd b1 (by decide)
theorem ask_camera (x y : Int32) : Ask (f_X10_camera x y) (f_X11_camera x y) := by
  refine ask_any (gc := fun M1m => cl (f_X11_within (x.toInt64) 0 (((M1m.1 313 0) - 1).toInt64) M1m) (fun r1 M2m => if r1 = 0 then some ((-1), M2m) else cl (f_X11_within (y.toInt64) 0 3 M2m) (fun r2 M3m => if r2 = 0 then some ((-1), M3m) else if 2 ≤ y then clv (f_X11_laysClocks M3m) (fun M4m => cl (f_X11_closes M4m) (fun r3 M5m => if r3 = 0 then some ((-2), M5m) else if y = 2 then gd (inb (1 + x) 100) (some (-(M5m.1 344 (1 + x).toNatClampNeg), M5m)) else gd (inb (10 * (1 + x)) 100) (some (M5m.1 344 (10 * (1 + x)).toNatClampNeg, M5m)))) else if y = 0 then gd (inb x 10) (some (M3m.1 317 x.toNatClampNeg, M3m)) else gd (inb x 10) (some (M3m.1 318 x.toNatClampNeg, M3m))))) (fun M => rfl) (fun M h => ⟨CamA M x y, ?_, fun M1 O1 dt => ?_, fun _ _ => CamA.uniq h.1.2.1⟩)
  · have h0 := h.1.2.1.1.1
    have r0 : M.1 (M.2.2.1 64 2) 0 = nI (Cn M 0) := by
      have : M.1 (tld M) 0 = nI (Cn M 0) := by rw [h.1.2.2.1.1.1, h0.1]
      exact this
    have t0 : shc (M.2.2.1 64 2) = 8 := tt_0 h.1.1
    obtain ⟨tr1, tr1', tr, tr2, -⟩ := tt_r h.1.1
    have tr1a : cr (M.2.2.1 64 2) 1 = tld M + 1 := tr1
    have tr1b : cr (M.2.2.1 64 2) 2 = tld M + 2 := tr1'
    have tra : cr (M.2.2.1 64 2) 4 = tld M + 3 := tr
    have iff0 := cnt_c (x := x) (n := Cn M 0) (by omega)
    unfold f_X10_camera
    by_cases c1 : x < 0
    · exact ⟨_, M, by rw [if_pos c1], OffJ.refl M, Or.inl ⟨fun z => (iff0.mpr z.1).1 c1, rfl⟩⟩
    · rw [if_neg c1, gd_t t0, r0]
      by_cases c2 : x < nI (Cn M 0)
      · rw [if_pos c2]
        obtain ⟨c, hc, rfl⟩ := iff0.mp ⟨c1, c2⟩
        have ib : inb (nI c) 5 := inb_nI (by omega) (by omega)
        have nc : (nI c).toNatClampNeg = c := nI_clamp (by omega)
        obtain ⟨w1, w2⟩ := h.1.2.2.1.2.1 c hc
        by_cases y0 : y = 0
        · exact ⟨_, M, by rw [if_pos y0, gd_t ib, nc, tr1a, w1], OffJ.refl M, Or.inr ⟨c, hc, rfl, Or.inl ⟨y0, rfl⟩⟩⟩
        rw [if_neg y0]
        by_cases y1 : y = 1
        · exact ⟨_, M, by rw [if_pos y1, gd_t ib, nc, tr1b, w2], OffJ.refl M, Or.inr ⟨c, hc, rfl, Or.inr (Or.inl ⟨y1, rfl⟩)⟩⟩
        rw [if_neg y1, tra]
        have bb := h.1.2.2.2
        by_cases y2 : y = 2
        · rw [if_pos y2]
          by_cases z : M.1 (tld M + 3) 1 = 0
          · obtain ⟨r, e, v⟩ := cam_c h hc z
            exact ⟨r, M, by rw [if_pos z, e, cl_s], OffJ.refl M, Or.inr ⟨c, hc, rfl, Or.inr (Or.inr (Or.inl ⟨y2, v⟩))⟩⟩
          · have n : Neg (CC M) := (Or.resolve_left bb (fun q => z q.1)).2
            exact ⟨-2, M, by rw [if_neg z], OffJ.refl M, Or.inr ⟨c, hc, rfl, Or.inr (Or.inr (Or.inl ⟨y2, Or.inl ⟨n, rfl⟩⟩))⟩⟩
        rw [if_neg y2]
        by_cases y3 : y = 3
        · rw [if_pos y3]
          by_cases z : M.1 (tld M + 3) 1 = 0
          · obtain ⟨r, e, v⟩ := cam_c2 h hc z
            exact ⟨r, M, by rw [if_pos z, e, cl_s], OffJ.refl M, Or.inr ⟨c, hc, rfl, Or.inr (Or.inr (Or.inr ⟨y3, v⟩))⟩⟩
          · have n : Neg (CC M) := (Or.resolve_left bb (fun q => z q.1)).2
            exact ⟨-2, M, by rw [if_neg z], OffJ.refl M, Or.inr ⟨c, hc, rfl, Or.inr (Or.inr (Or.inr ⟨y3, Or.inl ⟨n, rfl⟩⟩))⟩⟩
        rw [if_neg y3]
        exact ⟨-1, M, rfl, OffJ.refl M, Or.inl ⟨fun q => by rcases q.2 with q | q | q | q <;> contradiction, rfl⟩⟩
      · exact ⟨_, M, by rw [if_neg c2], OffJ.refl M, Or.inl ⟨fun z => c2 (iff0.mpr z.1).2, rfl⟩⟩
  · have O := h.1.2.1
    have h0 := O.1.1
    have f1 : M1.1 313 0 = nI (Cn M 0) := by rw [dt 313 (by omega) (by omega) (by omega), h0.1]
    have iff0 := cnt_c (x := x) (n := Cn M 0) (by omega)
    show ∃ r d', cl (f_X11_within (x.toInt64) 0 (((M1.1 313 0) - 1).toInt64) M1) (fun r1 M2m => if r1 = 0 then some ((-1), M2m) else cl (f_X11_within (y.toInt64) 0 3 M2m) (fun r2 M3m => if r2 = 0 then some ((-1), M3m) else if 2 ≤ y then clv (f_X11_laysClocks M3m) (fun M4m => cl (f_X11_closes M4m) (fun r3 M5m => if r3 = 0 then some ((-2), M5m) else if y = 2 then gd (inb (1 + x) 100) (some (-(M5m.1 344 (1 + x).toNatClampNeg), M5m)) else gd (inb (10 * (1 + x)) 100) (some (M5m.1 344 (10 * (1 + x)).toNatClampNeg, M5m)))) else if y = 0 then gd (inb x 10) (some (M3m.1 317 x.toNatClampNeg, M3m)) else gd (inb x 10) (some (M3m.1 318 x.toNatClampNeg, M3m)))) = some (r, sA M1 344 d') ∧ _
    rw [f1, within_n (by omega), cl_s]
    by_cases c1 : ¬ x < 0 ∧ x < nI (Cn M 0)
    · rw [if_pos c1, if_neg (by decide), within3, cl_s]
      obtain ⟨c, hc, rfl⟩ := iff0.mp c1
      have ib : inb (nI c) 10 := inb_nI (by omega) (by omega)
      have nc : (nI c).toNatClampNeg = c := nI_clamp (by omega)
      by_cases c2 : 0 ≤ y ∧ y ≤ 3
      · rw [if_pos c2, if_neg (by decide)]
        have lc := laysClocks_f O1 (M1.1 344)
        rw [sA_self] at lc
        have L := clk_ok O1 (M1.1 344)
        rw [CC_dat dt] at L
        rcases four_or.mp c2 with y0 | y1 | y2 | y3
        · exact ⟨M1.1 317 c, M1.1 344, by rw [y0, if_neg (by decide), if_pos rfl, gd_t ib, nc, sA_self], Or.inr ⟨c, hc, rfl, Or.inl ⟨y0, by rw [dt 317 (by omega) (by omega) (by omega)]⟩⟩⟩
        · exact ⟨M1.1 318 c, M1.1 344, by rw [y1, if_neg (by decide), if_neg (by decide), gd_t ib, nc, sA_self], Or.inr ⟨c, hc, rfl, Or.inr (Or.inl ⟨y1, by rw [dt 318 (by omega) (by omega) (by omega)]⟩)⟩⟩
        · rcases closes_1 L M1 with ⟨hn, e⟩ | ⟨hn, e, d1, d2, d3, d4⟩
          · exact ⟨-2, _, by rw [y2, if_pos (by decide), lc, clv_s, e, cl_s, if_pos rfl], Or.inr ⟨c, hc, rfl, Or.inr (Or.inr (Or.inl ⟨y2, Or.inl ⟨hn, rfl⟩⟩))⟩⟩
          · have ev : ∀ g, mx g 0 (1 + c) = (g (1 + c)).toInt := fun g => by
              have := mx_in g (a := 0) (b := 1 + c) (by omega) (by omega)
              rw [show 10 * 0 + (1 + c) = 1 + c by omega] at this
              exact this
            have tg : Tig (CC M) (mx (fw32 (dclk M1 (M1.1 344)))) := ⟨d1, d2, d3, fun a b => by
              rcases d4 a b with q | q
              · exact Or.inl q
              · exact Or.inr ⟨by omega, by omega⟩⟩
            refine ⟨-(fw32 (dclk M1 (M1.1 344)) (1 + c)), fw32 (dclk M1 (M1.1 344)), ?_, Or.inr ⟨c, hc, rfl, Or.inr (Or.inr (Or.inl ⟨y2, Or.inr ⟨hn, _, tg, Or.inl ⟨trivial, ?_⟩⟩⟩))⟩⟩
            · rw [y2, if_pos (by decide), lc, clv_s, e, cl_s, if_neg (by decide), if_pos rfl, n1, gd_t (inb_nI (by omega) (by omega)), nI_clamp (by omega), sA_s]
            · have lt := (cam_in O hc d2).1
              rw [ev] at lt ⊢
              have := (d4 0 (1 + c)).resolve_left (by rw [ev]; omega)
              rw [ev] at this
              rw [neg_toInt (by omega)]
        · rcases closes_1 L M1 with ⟨hn, e⟩ | ⟨hn, e, d1, d2, d3, d4⟩
          · exact ⟨-2, _, by rw [y3, if_pos (by decide), lc, clv_s, e, cl_s, if_pos rfl], Or.inr ⟨c, hc, rfl, Or.inr (Or.inr (Or.inr ⟨y3, Or.inl ⟨hn, rfl⟩⟩))⟩⟩
          · have ev : ∀ g, mx g (1 + c) 0 = (g (10 * (1 + c))).toInt := fun g => mx_in g (a := 1 + c) (b := 0) (by omega) (by omega)
            have tg : Tig (CC M) (mx (fw32 (dclk M1 (M1.1 344)))) := ⟨d1, d2, d3, fun a b => by
              rcases d4 a b with q | q
              · exact Or.inl q
              · exact Or.inr ⟨by omega, by omega⟩⟩
            refine ⟨fw32 (dclk M1 (M1.1 344)) (10 * (1 + c)), fw32 (dclk M1 (M1.1 344)), ?_, Or.inr ⟨c, hc, rfl, Or.inr (Or.inr (Or.inr ⟨y3, Or.inr ⟨hn, _, tg, Or.inr ⟨id, ?_⟩⟩⟩))⟩⟩
            · rw [y3, if_pos (by decide), lc, clv_s, e, cl_s, if_neg (by decide), if_neg (by decide), n1, m10, gd_t (inb_nI (by omega) (by omega)), nI_clamp (by omega), sA_s]
            · rw [ev]
      · exact ⟨_, M1.1 344, by rw [if_neg c2, if_pos rfl, sA_self], Or.inl ⟨fun q => c2 (four_or.mpr q.2), rfl⟩⟩
    · exact ⟨_, M1.1 344, by rw [if_neg c1, if_pos rfl, sA_self], Or.inl ⟨fun q => c1 (iff0.mpr q.1), rfl⟩⟩
