/-! a flash -/
theorem fl_b74 {Mr : Mem} (h9 : Mr.1 311 9 ≠ 0) (x y : Int32) : f_X11_flashLine_b74 x y Mr = some Mr := by
  unfold f_X11_flashLine_b74
  rw [must_d h9, cl_s, if_pos rfl]
/-- behind the first tick, dead -/
theorem fl_t2 {Mr : Mem} {f : Nat} (hf : f < 6) (h9 : Mr.1 311 9 ≠ 0) (x : Int32) : gd (inb (nI (24 + 4 * f + 1)) 48) (bnd (setI Mr 319 ((nI (24 + 4 * f + 1)).toNatClampNeg) x) (fun M5m => cl (f_X11_looksUp 0 M5m) (fun r4 M6m => gd (inb (nI (24 + 4 * f + 2)) 48) (bnd (setI M6m 319 ((nI (24 + 4 * f + 2)).toNatClampNeg) r4) (fun M7m => if (M7m.1 319 (nI (24 + 4 * f + 2)).toNatClampNeg) = (M7m.1 319 (24 + 4 * f)) then f_X11_flashLine_b74 (nI (24 + 4 * f)) 0 M7m else f_X11_flashLine_b74 (nI (24 + 4 * f)) 1 M7m))))) = some (setI (setI Mr 319 (24 + 4 * f + 1) x) 319 (24 + 4 * f + 2) 0) := by
  have d9 : (setI Mr 319 (24 + 4 * f + 1) x).1 311 9 ≠ 0 := by rw [setI_n (by omega)]; exact h9
  have d9' : (setI (setI Mr 319 (24 + 4 * f + 1) x) 319 (24 + 4 * f + 2) 0).1 311 9 ≠ 0 := by rw [setI_n (by omega)]; exact d9
  rw [gd_t (inb_nI (by omega) (by omega)), nI_clamp (show 24 + 4 * f + 1 < 2 ^ 31 by omega), bnd_e, looksUp_d d9, cl_s, gd_t (inb_nI (by omega) (by omega)), nI_clamp (show 24 + 4 * f + 2 < 2 ^ 31 by omega), bnd_e, fl_b74 d9', fl_b74 d9']
  split <;> rfl
theorem FLt {Mc Mr Mr' : Mem} (h : FL Mc Mr) (e : Mr'.1 311 9 = Mr.1 311 9 ∧ Mr'.1 311 10 = Mr.1 311 10) : FL Mc Mr' := by
  unfold FL
  rw [e.1, e.2]
  exact h
/-- the count of flashes bears no name -/
theorem NmR.c5 {pd : Nat} {Mc Mr Mc' Mr' : Mem} (h : NmR pd Mc Mr) (hp : pd ≠ 5) {g : Nat} (hg : g ≤ 6) (e1 : Mc'.1 208 9 = Mc.1 208 9) (e2 : Mc'.1 209 = Mc.1 209) (e3 : Mc'.1 211 = Mc.1 211) (e4 : Mc'.2.2.1 210 = Mc.2.2.1 210) (e5 : Mr'.2.1 316 = Mr.2.1 316) (e6 : ∀ s, s < 5 → Mr'.1 313 (6 + s) = Mr.1 313 (6 + s)) (e7 : Mr'.1 313 11 = nI g) : NmR pd Mc' Mr' := by
  have er : ∀ s, s < 5 → rdN Mr' s = rdN Mr s := fun s hs => by unfold rdN; rw [e6 s hs]
  have eq : ∀ s, s < 5 → rq pd Mr' s = rq pd Mr s := fun s hs => by unfold rq; rw [er s hs]
  have ee : ∀ i s k w, Ent Mc' Mr' i s k w ↔ Ent Mc Mr i s k w := fun i s k w => by unfold Ent; rw [e2, e3, e4, e5]
  have r5 : rdN Mr' 5 = g := by
    have z : rdN Mr' 5 = (Mr'.1 313 11).toNatClampNeg := rfl
    rw [z, e7, nI_clamp (by omega)]
  have mx : mxS 5 = 6 := by decide
  obtain ⟨h1, m, h2, h3, h4, h5, h6⟩ := h
  refine ⟨fun s hs => ?_, m, by rw [e1, h2], by rw [eq 0 (by omega), eq 1 (by omega), eq 2 (by omega), eq 3 (by omega), eq 4 (by omega)]; exact h3, fun i hi => ?_, fun s k hs hk => ?_, fun i j hi hj e => ?_⟩
  · by_cases z : s = 5
    · rw [z]
      unfold rq
      rw [r5, mx, if_neg (fun q => hp q.symm)]
      exact ⟨e7, by omega⟩
    · rw [e6 s (by omega), er s (by omega), eq s (by omega)]; exact h1 s hs
  · obtain ⟨s, k, w, a, b, c⟩ := h4 i hi
    exact ⟨s, k, w, a, by rw [eq s a]; exact b, (ee i s k w).mpr c⟩
  · rw [eq s hs] at hk
    obtain ⟨i, w, a, b⟩ := h5 s k hs hk
    exact ⟨i, w, a, (ee i s k w).mpr b⟩
  · rw [e2] at e
    exact h6 i j hi hj e
set_option maxHeartbeats 16000000 in
theorem flash_ls {n : Nat} {B : Nat → Nat} {T st : Nat} {Mc Mr : Mem} (h : PP n B T st Mc Mr) (lt : rdN Mr 5 < 6) : LR n B T (f_X7_tellFlash Mc) (f_X11_flashLine Mr) Mc Mr st := by
  have hT := h.tt
  have tc := tt_208 hT
  have t8 := tt_0 hT
  obtain ⟨tr1, tr2, tr4, trc, -⟩ := tt_r hT
  obtain ⟨ts2, -⟩ := tt_c hT
  obtain ⟨n1, -, n3, -⟩ := h.cnt (s := 5) (by omega)
  have n3' : Mc.1 T 3 = nI (rdN Mr 5) := n3
  have c05 := (h.cnt (s := 0) (by omega)).2.1
  have mx0 : mxS 0 = 5 := by decide
  obtain ⟨hl, eT, N, I, U⟩ := h
  have hst := hl.1
  obtain ⟨f, hk⟩ : ∃ f, f = rdN Mr 5 := ⟨_, rfl⟩
  rw [← hk] at n1 n3' lt
  have n1' : Mr.1 313 11 = nI f := n1
  have rd : f_X11_read 5 Mr = some (nI f, Mr) := read_f (s := 5) n1' (by omega)
  have i24 : 24 + (4 * nI f) = nI (24 + 4 * f) := by rw [show (4 : Int32) = nI 4 from rfl, nI_mul', show (24 : Int32) = nI 24 from rfl, nI_add]
  have i25 : nI (24 + 4 * f) + 1 = nI (24 + 4 * f + 1) := nI_add _ _
  have i26 : nI (24 + 4 * f) + 2 = nI (24 + 4 * f + 2) := nI_add _ _
  have i27 : nI (24 + 4 * f) + 3 = nI (24 + 4 * f + 3) := nI_add _ _
  have h319 : hf 319 = 24 := rfl
  have fpr9 : ∀ (M : Mem) (j : Nat) (x : Int32), FPR M (setI M 319 (24 + 4 * f + j) x) := fun M j x => fpr_I M (by rw [h319]; omega)
  have fpr90 : ∀ (M : Mem) (x : Int32), FPR M (setI M 319 (24 + 4 * f) x) := fun M x => fpr_I M (by rw [h319]; omega)
  have ib : inb (nI (24 + 4 * f)) 48 := inb_nI (by omega) (by omega)
  have cl0 : (nI (24 + 4 * f)).toNatClampNeg = 24 + 4 * f := nI_clamp (by omega)
  unfold f_X7_tellFlash f_X11_flashLine
  rw [rd, cl_s, i24, bnd_e, i25, i26]
  rcases known_ls hl N (s := 0) (by omega) (by omega) with ⟨k1, Mc1, Mr1, hk1, l1, e1, e2, h1, oc1, or1⟩ | ⟨Mc1, Mr1, e1, e2, f1, oc1, or1⟩
  · have e1' : f_X7_takeName 10 (-1) Mc = some (nI k1, Mc1) := e1
    have e2' : f_X11_known 0 Mr = some (nI k1, Mr1) := e2
    have b1 := (nx_le (B := B) hst).2 l1
    obtain ⟨Mr2, g2⟩ : ∃ X, X = setI Mr1 319 (24 + 4 * f) (nI k1) := ⟨_, rfl⟩
    have h2 : LPt n B (nx n B st) Mc1 Mr2 := h1.sets (fun _ _ _ => rfl) rfl (fun a j q => by rw [g2, setI_n (by omega)]) (by rw [g2]; rfl)
    rw [e1', cl_s, if_neg (show ¬ nI k1 = -1 from nI_m1 (by omega)), e2', cl_s, gd_t ib, cl0, bnd_e, ← g2]
    rcases num_ls h2 (lo := 0) (hi := 999) (by omega) (by omega) with ⟨t1, Mc3, Mr3, v1, v2, l2, e3, q7, e4, h3, oc3, or3⟩ | ⟨Mc3, Mr3, e3, e4, f3, oc3, or3⟩
    · have e3' : f_X7_takeNumber 0 999 Mc1 = some (1, Mc3) := e3
      have e4' : f_X11_number 0 999 Mr2 = some (nI t1, Mr3) := e4
      have b2 := (nx_le (B := B) h2.1).2 l2
      obtain ⟨Mr4, g4⟩ : ∃ X, X = setI Mr3 319 (24 + 4 * f + 1) (nI t1) := ⟨_, rfl⟩
      have h4 : LPt n B (nx n B (nx n B st)) Mc3 Mr4 := h3.sets (fun _ _ _ => rfl) rfl (fun a j q => by rw [g4, setI_n (by omega)]) (by rw [g4]; rfl)
      have oc := oc1.g.tr oc3
      have rr4 : ∀ a j, ¬ (a = 319 ∧ (j = 24 + 4 * f ∨ j = 24 + 4 * f + 1)) → ¬ (a = 311 ∧ (4 ≤ j ∧ j ≤ 10)) → Mr4.1 a j = Mr.1 a j := fun a j p1 p2 => by
        rw [g4, setI_n (by omega), or3.2.2 _ _ p2, g2, setI_n (by omega), or1.2.2 _ _ (by omega)]
      have rl4 : Mr4.2.1 316 = Mr.2.1 316 := by
        rw [g4]
        show Mr3.2.1 316 = _
        rw [or3.lrow (by omega), g2]
        show Mr1.2.1 316 = _
        rw [or1.g.lrow (by omega)]
      have N4 : NmR 6 Mc3 Mr4 := N.cong (oc.2.2.2 _ _ (by omega)) (oc.row (by omega)) (oc.row (by omega)) (oc.rrow (by omega)) rl4 (fun s hs => rr4 _ _ (by omega) (by omega))
      have r04 : rdN Mr4 0 = rdN Mr 0 := by unfold rdN; rw [rr4 _ _ (by omega) (by omega)]
      have fr4 : FPR Mr Mr4 := by
        rw [g4]
        refine or1.g.p.tr (FPR.tr (M' := Mr2) (by rw [g2]; exact fpr90 _ _) (or3.p.tr (fpr9 _ _ _)))
      rw [e3', cl_s, if_neg (show ¬ (1 : Int32) = 0 by decide), q7, bnd_e, e4', cl_s, gd_t (inb_nI (by omega) (by omega)), nI_clamp (show 24 + 4 * f + 1 < 2 ^ 31 by omega), bnd_e, ← g4]
      unfold f_X7_takeName
      rcases find_ls h4 N4 (s := 0) (by omega) (by omega) (nI k1) with ⟨k2, hk2, q, l4, e5, e6⟩ | ⟨Mc5, Mr5, e5, e6, f5, oc5, or5⟩ | ⟨k2, Mc5, hk2, q, e5, e5f, e6⟩
      · have e5' : f_X7_findName 10 (nI k1) Mc3 = some (nI k2, Mc3) := e5
        have e6' : f_X11_looksUp 0 Mr4 = some (nI k2, Mr4) := e6
        rw [r04] at hk2
        obtain ⟨Mr5, g5⟩ : ∃ X, X = setI Mr4 319 (24 + 4 * f + 2) (nI k2) := ⟨_, rfl⟩
        have h5 : LPt n B (nx n B (nx n B st)) Mc3 Mr5 := h4.sets (fun _ _ _ => rfl) rfl (fun a j q => by rw [g5, setI_n (by omega)]) (by rw [g5]; rfl)
        obtain ⟨Mc6, Mr6, a1, a2, h6, a4, a5⟩ := h5.adv
        have b4 := (nx_le (B := B) h4.1).2 l4
        have w2 : Mr5.1 319 (24 + 4 * f + 2) = nI k2 := by rw [g5, setI_s]
        have w0 : Mr5.1 319 (24 + 4 * f) = nI k1 := by rw [g5, setI_n (by omega), g4, setI_n (by omega), or3.2.2 _ _ (by omega), g2, setI_s]
        have ne : ¬ nI k2 = nI k1 := q
        rw [e5', cl_s, if_neg (show ¬ nI k2 = -1 from nI_m1 (by omega)), a1, clv_s, cl_s, if_neg (show ¬ nI k2 = -1 from nI_m1 (by omega)), e6', cl_s, gd_t (inb_nI (by omega) (by omega)), nI_clamp (show 24 + 4 * f + 2 < 2 ^ 31 by omega), bnd_e, ← g5, w2, w0, if_neg ne]
        unfold f_X11_flashLine_b74
        rw [must_t h5.2.2.2 (by decide), cl_s, if_neg (show ¬ (1 : Int32) = 0 by decide), a2, clv_s, i27]
        rcases num_ls h6 (lo := 0) (hi := 999) (by omega) (by omega) with ⟨t2, Mc7, Mr7, v3, v4, l6, e7, q77, e8, h7, oc7, or7⟩ | ⟨Mc7, Mr7, e7, e8, f7, oc7, or7⟩
        · have e7' : f_X7_takeNumber 0 999 Mc6 = some (1, Mc7) := e7
          have e8' : f_X11_number 0 999 Mr6 = some (nI t2, Mr7) := e8
          have b6 := (nx_le (B := B) h6.1).2 l6
          have oc7' : GC Mc Mc7 := oc.tr (a4.g.tr oc7)
          have T7 : Mc7.2.2.1 208 1 = T := by rw [oc7'.2.2.1 _ _ (by omega), eT]
          have T73 : Mc7.1 T 3 = nI f := by rw [oc7'.2.2.2 _ _ (by omega), n3']
          obtain ⟨MM, dM⟩ : ∃ X, X = mixM Mc Mr := ⟨_, rfl⟩
          rw [← dM] at I
          have bb : BB (CC MM) Mc7 (T + 3) := I.2.2.2.2.2.2.2.2.2.2.cong (fun _ _ _ => Iff.rfl) (by rw [oc7'.2.2.2 _ _ (by omega), dM, mix_c _ _ (by omega)]) (by rw [trc]; exact funext (fun j => by rw [oc7'.2.2.2 _ _ (by omega), dM, mix_c _ _ (by omega)]))
          have vI : (nI t1).toInt = (t1 : Int) := nI_toInt (by omega)
          have wI : (nI t2).toInt = (t2 : Int) := nI_toInt (by omega)
          have d21 : (nI t2 - nI t1).toInt = (t2 : Int) - t1 := by rw [sub_toInt (by omega) (by omega), vI, wI]
          have d12 : (nI t1 - nI t2).toInt = (t1 : Int) - t2 := by rw [sub_toInt (by omega) (by omega), vI, wI]
          have kne : k1 ≠ k2 := fun z => ne (by rw [z])
          have hne : T + 3 ≠ cr (T + 3) 0 := by rw [trc]; omega
          obtain ⟨Mc8, x1, x2, x3, x4⟩ := tell_bb ts2 hne (M := Mc7) (x1 := 1 + k1) (x2 := 1 + k2) (v := nI t2 - nI t1) (by omega) (by omega) (by omega) (by omega) (rep_cc I.ok) bb
          obtain ⟨Mc9, y1, y2, y3, y4⟩ := tell_bb ts2 hne (M := Mc8) (x1 := 1 + k2) (x2 := 1 + k1) (v := nI t1 - nI t2) (by omega) (by omega) (by omega) (by omega) x2 x3
          have z4 := x4.tr y4
          rw [trc] at z4
          have T9 : Mc9.2.2.1 208 1 = T := by rw [z4.1, T7]
          have T93 : Mc9.1 T 3 = nI f := by rw [z4.2 _ (by omega) (by omega), T73]
          have et : f_X2_tellFlash (T + 3) (nI k1) (nI t1) (nI k2) (nI t2) Mc7 = some Mc9 := by
            unfold f_X2_tellFlash
            rw [gd_t ts2, show 1 + nI k1 = nI (1 + k1) from nI_add _ _, show 1 + nI k2 = nI (1 + k2) from nI_add _ _, x1, clv_s, y1, clv_s]
          obtain ⟨McA, dA⟩ : ∃ X, X = setI Mc9 T 3 (nI (f + 1)) := ⟨_, rfl⟩
          obtain ⟨MrA, gA⟩ : ∃ X, X = setI (setI Mr7 319 (24 + 4 * f + 3) (nI t2)) 313 11 (nI (f + 1)) := ⟨_, rfl⟩
          have rr7 : ∀ a j, ¬ (a = 319 ∧ (24 + 4 * f ≤ j ∧ j ≤ 24 + 4 * f + 2)) → ¬ (a = 311 ∧ (4 ≤ j ∧ j ≤ 10)) → Mr7.1 a j = Mr.1 a j := fun a j p1 p2 => by
            rw [or7.2.2 _ _ p2, a5.g.2.2 _ _ p2, g5, setI_n (by omega), rr4 _ _ (by omega) p2]
          have c7 : (setI Mr7 319 (24 + 4 * f + 3) (nI t2)).1 313 11 = nI f := by rw [setI_n (by omega), rr7 _ _ (by omega) (by omega), n1']
          have z9 : (setI Mr7 319 (24 + 4 * f + 3) (nI t2)).1 311 9 = 0 := by rw [setI_n (by omega)]; exact h7.2.2.2
          have rcA : ∀ a j, ¬ (a = T ∧ j = 3) → a ≠ T + 3 → a ≠ T + 4 → McA.1 a j = Mc7.1 a j := fun a j p1 p2 p3 => by rw [dA, setI_n (by omega), z4.2 _ p2 p3]
          have rc : ∀ a j, ¬ (a = T ∧ j = 3) → a ≠ T + 3 → a ≠ T + 4 → ¬ (a = 208 ∧ (j = 3 ∨ j = 5 ∨ j = 6 ∨ j = 7 ∨ j = 8)) → McA.1 a j = Mc.1 a j := fun a j p1 p2 p3 p4 => by rw [rcA a j p1 p2 p3, oc7'.2.2.2 _ _ p4]
          have rrA : ∀ a j, ¬ (a = 313 ∧ j = 11) → ¬ (a = 319 ∧ j = 24 + 4 * f + 3) → MrA.1 a j = Mr7.1 a j := fun a j p1 p2 => by rw [gA, setI_n (by omega), setI_n (by omega)]
          have rr : ∀ a j, ¬ (a = 313 ∧ j = 11) → ¬ (a = 319 ∧ (24 + 4 * f ≤ j ∧ j ≤ 24 + 4 * f + 3)) → ¬ (a = 311 ∧ (4 ≤ j ∧ j ≤ 10)) → MrA.1 a j = Mr.1 a j := fun a j p1 p2 p3 => by rw [rrA _ _ p1 (by omega), rr7 _ _ (by omega) p3]
          have hcA : McA.2 = Mc7.2 := by
            rw [dA]
            exact z4.1
          have hrA : MrA.2 = Mr7.2 := by rw [gA]; rfl
          have y0 : MrA.1 319 (24 + 4 * f) = nI k1 := by rw [rrA _ _ (by omega) (by omega), or7.2.2 _ _ (by omega), a5.g.2.2 _ _ (by omega), w0]
          have y01 : MrA.1 319 (24 + 4 * f + 1) = nI t1 := by rw [rrA _ _ (by omega) (by omega), or7.2.2 _ _ (by omega), a5.g.2.2 _ _ (by omega), g5, setI_n (by omega), g4, setI_s]
          have y02 : MrA.1 319 (24 + 4 * f + 2) = nI k2 := by rw [rrA _ _ (by omega) (by omega), or7.2.2 _ _ (by omega), a5.g.2.2 _ _ (by omega), w2]
          have y03 : MrA.1 319 (24 + 4 * f + 3) = nI t2 := by rw [gA, setI_n (by omega), setI_s]
          obtain ⟨MN, dN⟩ : ∃ X, X = mixM McA MrA := ⟨_, rfl⟩
          have cM : ∀ s, Cn MM s = rdN Mr s := fun s => by rw [dM, cn_mix]
          have mR : ∀ a j, 313 ≤ a → a ≤ 339 → MN.1 a j = MrA.1 a (hf a + j) ∧ MM.1 a j = Mr.1 a (hf a + j) := fun a j p1 p2 => by
            rw [dM, dN, mix_r _ _ p1 p2, mix_r _ _ p1 p2]
            exact ⟨rfl, rfl⟩
          have mT : ∀ a j, a < 208 → MN.1 a j = McA.1 a j ∧ MM.1 a j = Mc.1 a j := fun a j ha => by
            rw [dM, dN, mix_c _ _ (by omega), mix_c _ _ (by omega)]
            exact ⟨rfl, rfl⟩
          have rw1 : ∀ a, ¬ (Jk a ∨ a = 313 ∨ a = 319 ∨ a = T ∨ a = T + 3 ∨ a = T + 4) → MN.1 a = MM.1 a := fun a ha => by
            rw [dM, dN]
            unfold Jk at ha
            exact mix_row (fun z => funext (fun j => rc a j (by omega) (by omega) (by omega) (by omega))) (fun z1 z2 j => rr a _ (by omega) (by omega) (by omega)) (by omega)
          have k5 : Cn MM 5 = f := by rw [cM, ← hk]
          have h6f : hf 313 = 6 := rfl
          have ad := I.2.1.add (M' := MN) (s0 := 5) (by omega) (by rw [k5]; exact lt) (by rw [(mR 313 5 (by omega) (by omega)).1, k5, gA, h6f]; exact setI_s) (fun s p1 p2 => by rw [(mR 313 s (by omega) (by omega)).1, (mR 313 s (by omega) (by omega)).2, h6f, rr _ _ (by omega) (by omega) (by omega)]) (by rw [(mT T _ (by omega)).1, k5, dA]; exact setI_s) (fun s p1 p2 => by
            have ns : sl s ≠ 3 := fun q => p2 (sl_inj s p1 5 (by omega) q)
            rw [(mT T _ (by omega)).1, (mT T _ (by omega)).2, rc _ _ (by omega) (by omega) (by omega) (by omega)])
          obtain ⟨iN', c5', cs'⟩ := ad
          obtain ⟨R0, -, R1, R2, R3, R4, R6, -⟩ := I.rest 5 cs' (by rw [c5']; omega) _ rw1
          have o319 : ∀ g, g < f → ∀ j, j < 4 → MN.1 319 (4 * g + j) = MM.1 319 (4 * g + j) := fun g hg j hj => by
            rw [(mR 319 _ (by omega) (by omega)).1, (mR 319 _ (by omega) (by omega)).2, h319, rr _ _ (by omega) (by omega) (by omega)]
          have n319 : MN.1 319 (4 * f) = nI k1 ∧ MN.1 319 (4 * f + 1) = nI t1 ∧ MN.1 319 (4 * f + 2) = nI k2 ∧ MN.1 319 (4 * f + 3) = nI t2 := by
            rw [(mR 319 _ (by omega) (by omega)).1, (mR 319 _ (by omega) (by omega)).1, (mR 319 _ (by omega) (by omega)).1, (mR 319 _ (by omega) (by omega)).1, h319]
            exact ⟨y0, y01, y02, y03⟩
          have e0' : Cn MN 0 = Cn MM 0 := cs' 0 (by omega) (by omega)
          have nf : ∀ a b x, NF MN f a b x ↔ (a = 1 + k2 ∧ b = 1 + k1 ∧ x = (t2 : Int) - t1) ∨ (a = 1 + k1 ∧ b = 1 + k2 ∧ x = (t1 : Int) - t2) := fun a b x => by
            unfold NF fi fj fby
            rw [n319.1, n319.2.1, n319.2.2.1, n319.2.2.2, nI_clamp (show k1 < 2 ^ 31 by omega), nI_clamp (show k2 < 2 ^ 31 by omega), vI, wI, show -((t2 : Int) - t1) = (t1 : Int) - t2 by omega]
          have of : ∀ g, g < f → ∀ a b x, NF MN g a b x ↔ NF MM g a b x := fun g hg a b x => by
            have e0 := o319 g hg 0 (by omega)
            rw [Nat.add_zero] at e0
            unfold NF fi fj fby
            rw [e0, o319 g hg 1 (by omega), o319 g hg 2 (by omega), o319 g hg 3 (by omega)]
          have ccE : ∀ a b x, cadd (cadd (CC MM) (1 + k2) (1 + k1) (nI t2 - nI t1).toInt) (1 + k1) (1 + k2) (nI t1 - nI t2).toInt a b x ↔ CC MN a b x := fun a b x => by
            have e317 : MN.1 317 = MM.1 317 := rw1 317 (by unfold Jk; omega)
            have e318 : MN.1 318 = MM.1 318 := rw1 318 (by unfold Jk; omega)
            have eC : ∀ c, NC MN c = NC MM c := fun c => by unfold NC; rw [e317, e318]
            rw [d21, d12]
            constructor
            · rintro (((⟨c, hc, q⟩ | ⟨g, hg, q⟩) | q) | q)
              · exact Or.inl ⟨c, by rw [e0']; exact hc, by rw [eC]; exact q⟩
              · exact Or.inr ⟨g, by rw [c5']; omega, (of g (by omega) a b x).mpr q⟩
              · exact Or.inr ⟨f, by rw [c5']; omega, (nf a b x).mpr (Or.inl q)⟩
              · exact Or.inr ⟨f, by rw [c5']; omega, (nf a b x).mpr (Or.inr q)⟩
            · rintro (⟨c, hc, q⟩ | ⟨g, hg, q⟩)
              · rw [e0'] at hc
                rw [eC] at q
                exact Or.inl (Or.inl (Or.inl ⟨c, hc, q⟩))
              · rw [c5', k5] at hg
                by_cases z : g = f
                · rw [z] at q
                  rcases (nf a b x).mp q with y | y
                  · exact Or.inl (Or.inr y)
                  · exact Or.inr y
                · exact Or.inl (Or.inl (Or.inr ⟨g, by omega, (of g (by omega) a b x).mp q⟩))
          have rA9 : ∀ a j, a ≠ T → McA.1 a j = Mc9.1 a j := fun a j p => by rw [dA, setI_n (Or.inl p)]
          have bbN : BB (CC MN) MN (T + 3) := y3.cong ccE (by rw [(mT (T + 3) 1 (by omega)).1, rA9 _ _ (by omega)]) (by rw [trc]; exact funext (fun j => by rw [(mT (T + 4) j (by omega)).1, rA9 _ _ (by omega)]))
          have I' : ITS MN T := by
            refine ⟨hT, iN', R0 (by omega) (fun a q => by unfold Jk at q; omega), fun g hg => ?_, R1 (by omega) (fun a q => by unfold Jk at q; omega), R2 (by omega) (fun a q => by unfold Jk at q; omega), R3 (by omega) (fun a q => by unfold Jk at q; omega), (R4 (by omega) (fun a q => by unfold Jk at q; omega)).1, (R4 (by omega) (fun a q => by unfold Jk at q; omega)).2, R6 (fun a q => by unfold Jk at q; omega), bbN⟩
            rw [c5', k5] at hg
            by_cases z : g = f
            · rw [z]
              unfold iF
              rw [n319.1, n319.2.1, n319.2.2.1, n319.2.2.2, e0', cM 0, vI, wI]
              exact ⟨⟨k1, k2, hk1, hk2, kne, rfl, rfl⟩, by omega, by omega, by omega, by omega⟩
            · exact (I.2.2.2.1 g (by omega)).cong (by omega) (fun j hj => o319 g (by omega) j hj)
          rw [dN] at I'
          have lA : Mr7.2.1 316 = Mr.2.1 316 := by
            rw [or7.lrow (by omega), a5.g.lrow (by omega), g5]
            exact rl4
          refine Or.inl ⟨_, McA, MrA, by omega, ?_, ?_, ⟨h7.sets (fun a j q => rcA _ _ (by omega) (by omega) (by omega)) hcA (fun a j q => rrA _ _ (by omega) (by omega)) hrA, by rw [hcA]; exact T7, N.c5 (by omega) (show f + 1 ≤ 6 by omega) (rc _ _ (by omega) (by omega) (by omega) (by omega)) (funext (fun j => rc _ _ (by omega) (by omega) (by omega) (by omega))) (funext (fun j => rc _ _ (by omega) (by omega) (by omega) (by omega))) (by rw [hcA]; exact oc7'.rrow (by omega)) (by rw [hrA]; exact lA) (fun s hs => rr _ _ (by omega) (by omega) (by omega)) (by rw [gA]; exact setI_s), I', ?_⟩, ?_, ?_⟩
          · rw [e7', cl_s, if_neg (show ¬ (1 : Int32) = 0 by decide), T7, gd_t t8, tr4, q77, et, clv_s, T9, gd_t t8, T93, nI_1, bnd_e, ← dA]
          · rw [e8', cl_s, gd_t (inb_nI (by omega) (by omega)), nI_clamp (show 24 + 4 * f + 3 < 2 ^ 31 by omega), bnd_e, z9, if_pos rfl, c7, nI_1, bnd_e, ← gA]
          · obtain ⟨m, u1, u2, u3⟩ := U
            exact ⟨m, u1, by rw [rc _ _ (by omega) (by omega) (by omega) (by omega)]; exact u2, fun j hj => by rw [rr _ _ (by omega) (by omega) (by omega)]; exact u3 j hj⟩
          · exact (oc7'.p T).tr ⟨by rw [hcA], by rw [hcA], fun a j _ _ => by rw [hcA], fun a j p1 p2 p3 p4 => rcA _ _ (by omega) (by omega) (by omega)⟩
          · rw [gA]
            exact fr4.tr (FPR.tr (M' := Mr5) (by rw [g5]; exact fpr9 _ _ _) (a5.g.p.tr (or7.p.tr ((fpr9 _ _ _).tr (fpr_I _ (by rw [h6f]; omega))))))
        · have e7' : f_X7_takeNumber 0 999 Mc6 = some (0, Mc7) := e7
          have e8' : f_X11_number 0 999 Mr6 = some (0, Mr7) := e8
          refine Or.inr ⟨Mc7, setI Mr7 319 (24 + 4 * f + 3) 0, by rw [e7', cl_s, if_pos rfl], ?_, FLt f7 ⟨setI_n (by omega), setI_n (by omega)⟩, (oc.tr (a4.g.tr oc7)).p T, fr4.tr (FPR.tr (M' := Mr5) (by rw [g5]; exact fpr9 _ _ _) (a5.g.p.tr (or7.p.tr (fpr9 _ _ _))))⟩
          rw [e8', cl_s, gd_t (inb_nI (by omega) (by omega)), nI_clamp (show 24 + 4 * f + 3 < 2 ^ 31 by omega), bnd_e, setI_n (by omega), if_neg f7.1]
      · have e5' : f_X7_findName 10 (nI k1) Mc3 = some (-1, Mc5) := e5
        have e6' : f_X11_looksUp 0 Mr4 = some (0, Mr5) := e6
        have d9 : (setI Mr5 319 (24 + 4 * f + 2) 0).1 311 9 ≠ 0 := by rw [setI_n (by omega)]; exact f5.1
        refine Or.inr ⟨Mc5, setI Mr5 319 (24 + 4 * f + 2) 0, by rw [e5', cl_s, if_pos rfl, cl_s, if_pos rfl], ?_, FLt f5 ⟨setI_n (by omega), setI_n (by omega)⟩, (oc.tr oc5).p T, fr4.tr (or5.p.tr (fpr9 _ _ _))⟩
        rw [e6', cl_s, gd_t (inb_nI (by omega) (by omega)), nI_clamp (show 24 + 4 * f + 2 < 2 ^ 31 by omega), bnd_e, fl_b74 d9, fl_b74 d9]
        split <;> rfl
      · have e5' : f_X7_findName 10 (nI k1) Mc3 = some (-1, Mc5) := e5
        have e6' : f_X11_looksUp 0 Mr4 = some (nI k2, Mr4) := e6
        obtain ⟨Mr5, g5⟩ : ∃ X, X = setI Mr4 319 (24 + 4 * f + 2) (nI k2) := ⟨_, rfl⟩
        have h5 : LPt n B (nx n B (nx n B st)) Mc3 Mr5 := h4.sets (fun _ _ _ => rfl) rfl (fun a j q => by rw [g5, setI_n (by omega)]) (by rw [g5]; rfl)
        obtain ⟨Mc6, Mr6, z1, z2, z3, z4, z5⟩ := fault h5 (k := 4) (by decide)
        have em : Mc6 = Mc5 := by
          rw [e5f] at z1
          cases z1
          rfl
        have w2 : Mr5.1 319 (24 + 4 * f + 2) = nI k2 := by rw [g5, setI_s]
        have w0 : Mr5.1 319 (24 + 4 * f) = nI k1 := by rw [g5, setI_n (by omega), g4, setI_n (by omega), or3.2.2 _ _ (by omega), g2, setI_s]
        rw [em] at z3 z4
        refine Or.inr ⟨Mc5, Mr6, by rw [e5', cl_s, if_pos rfl, cl_s, if_pos rfl], ?_, z3, (oc.tr z4).p T, fr4.tr (FPR.tr (M' := Mr5) (by rw [g5]; exact fpr9 _ _ _) z5.p)⟩
        rw [e6', cl_s, gd_t (inb_nI (by omega) (by omega)), nI_clamp (show 24 + 4 * f + 2 < 2 ^ 31 by omega), bnd_e, ← g5, w2, w0, if_pos q]
        unfold f_X11_flashLine_b74
        rw [z2, cl_s, if_pos rfl]
    · have e3' : f_X7_takeNumber 0 999 Mc1 = some (0, Mc3) := e3
      have e4' : f_X11_number 0 999 Mr2 = some (0, Mr3) := e4
      refine Or.inr ⟨Mc3, _, by rw [e3', cl_s, if_pos rfl], by rw [e4', cl_s]; exact fl_t2 lt f3.1 0, FLt f3 ⟨by rw [setI_n (by omega), setI_n (by omega)], by rw [setI_n (by omega), setI_n (by omega)]⟩, (oc1.g.tr oc3).p T, or1.g.p.tr (FPR.tr (M' := Mr2) (by rw [g2]; exact fpr90 _ _) (or3.p.tr ((fpr9 _ _ _).tr (fpr9 _ _ _))))⟩
  · have e1' : f_X7_takeName 10 (-1) Mc = some (-1, Mc1) := e1
    have e2' : f_X11_known 0 Mr = some (0, Mr1) := e2
    have d9 : (setI Mr1 319 (24 + 4 * f) 0).1 311 9 ≠ 0 := by rw [setI_n (by omega)]; exact f1.1
    refine Or.inr ⟨Mc1, _, by rw [e1', cl_s, if_pos rfl], by rw [e2', cl_s, gd_t ib, cl0, bnd_e, number_d d9, cl_s]; exact fl_t2 lt d9 0, FLt f1 ⟨by rw [setI_n (by omega), setI_n (by omega), setI_n (by omega)], by rw [setI_n (by omega), setI_n (by omega), setI_n (by omega)]⟩, oc1.p T, or1.p.tr ((fpr90 _ _).tr ((fpr9 _ _ _).tr (fpr9 _ _ _)))⟩
