/-! a camera -/
theorem cam_t2 {Mr : Mem} {c : Nat} (hc : c < 5) (h9 : Mr.1 311 9 ≠ 0) (x : Int32) : gd (inb (nI (5 + c)) 10) (bnd (setI Mr 317 ((nI (5 + c)).toNatClampNeg) x) (fun M4m => cl (f_X11_number (M4m.1 317 (nI (5 + c)).toNatClampNeg) 999 M4m) (fun r3 M5m => bnd (setI M5m 318 ((nI (5 + c)).toNatClampNeg) r3) (fun M6m => if (M6m.1 311 9) = 0 then bnd (setI M6m 313 6 ((M6m.1 313 6) + 1)) (fun M7m => some M7m) else some M6m)))) = some (setI (setI Mr 317 (5 + c) x) 318 (5 + c) x) := by
  rw [gd_t (inb_nI (by omega) (by omega)), nI_clamp (by omega), bnd_e, setI_s, number_d (by rw [setI_n (by omega)]; exact h9), cl_s, bnd_e, setI_n (by omega), setI_n (by omega), if_neg h9]
set_option maxHeartbeats 16000000 in
theorem cam_ls {n : Nat} {B : Nat → Nat} {T st : Nat} {Mc Mr : Mem} (h : PP n B T st Mc Mr) (lt : rdN Mr 0 < 5) : LR n B T (f_X7_tellCamera Mc) (f_X11_cameraLine Mr) Mc Mr st := by
  have hT := h.tt
  have tc := tt_208 hT
  have t8 := tt_0 hT
  obtain ⟨tr1, tr2, tr4, trc, -⟩ := tt_r hT
  obtain ⟨ts2, -⟩ := tt_c hT
  obtain ⟨n1, n2, n3, -⟩ := h.cnt (s := 0) (by omega)
  have n3' : Mc.1 T 0 = nI (rdN Mr 0) := n3
  obtain ⟨hl, eT, N, I, U⟩ := h
  have hst := hl.1
  obtain ⟨c, hk⟩ : ∃ c, c = rdN Mr 0 := ⟨_, rfl⟩
  rw [← hk] at n1 n3' lt
  have n1' : Mr.1 313 6 = nI c := n1
  unfold f_X7_tellCamera f_X11_cameraLine
  rw [eT, gd_t t8, n3', bnd_e]
  have i5 : 5 + nI c = nI (5 + c) := nI_add _ _
  rcases name_ls hl N (s := 0) (by omega) (by rw [← hk]; exact lt) with ⟨Mc1, Mr1, l1, e1, e2, h1, N1, oc1, or1⟩ | ⟨Mc1, Mr1, e1, e2, f1, oc1, or1⟩
  · have e1' : f_X7_giveName 10 (nI c) Mc = some (1, Mc1) := by rw [hk]; exact e1
    have e2' : f_X11_newName 0 Mr = some Mr1 := e2
    have c6 : Mr1.1 313 6 = nI c := by rw [or1.2.2 _ _ (by omega), n1']
    have rd : f_X11_read 0 Mr1 = some (nI c, Mr1) := read_f (s := 0) c6 (by omega)
    have b1 := (nx_le (B := B) hst).2 l1
    rw [e1', cl_s, if_neg (show ¬ (1 : Int32) = 0 by decide), e2', clv_s, rd, cl_s, i5, bnd_e]
    rcases num_ls h1 (lo := 0) (hi := 999) (by omega) (by omega) with ⟨v, Mc2, Mr2, v1, v2, l2, e3, q7, e4, h2, oc2, or2⟩ | ⟨Mc2, Mr2, e3, e4, f2, oc2, or2⟩
    · have e3' : f_X7_takeNumber 0 999 Mc1 = some (1, Mc2) := e3
      have e4' : f_X11_number 0 999 Mr1 = some (nI v, Mr2) := e4
      have b2 := (nx_le (B := B) h1.1).2 l2
      have oc := oc1.tr oc2.n
      have or := or1.tr or2.n
      have T2 : Mc2.2.2.1 208 1 = T := by rw [oc.2.2.1 _ _ (by omega) (by omega), eT]
      obtain ⟨Mc3, d3⟩ : ∃ X, X = setI Mc2 (T + 1) c (nI v) := ⟨_, rfl⟩
      obtain ⟨Mr3, g3⟩ : ∃ X, X = setI Mr2 317 (5 + c) (nI v) := ⟨_, rfl⟩
      have rc3 : ∀ a j, ¬ (a = T + 1 ∧ j = c) → Mc3.1 a j = Mc2.1 a j := fun a j y => by rw [d3, setI_n (by omega)]
      have rr3 : ∀ a j, ¬ (a = 317 ∧ j = 5 + c) → Mr3.1 a j = Mr2.1 a j := fun a j y => by rw [g3, setI_n (by omega)]
      have hc3 : Mc3.2 = Mc2.2 := by rw [d3]; rfl
      have hr3 : Mr3.2 = Mr2.2 := by rw [g3]; rfl
      have h3 : LPt n B (nx n B (nx n B st)) Mc3 Mr3 := h2.sets (fun a j q => rc3 _ _ (by omega)) hc3 (fun a j q => rr3 _ _ (by omega)) hr3
      have q73 : Mc3.1 208 7 = nI v := by rw [rc3 _ _ (by omega), q7]
      have w317 : Mr3.1 317 (5 + c) = nI v := by rw [g3, setI_s]
      have fc3 : FPC T Mc Mc3 := by rw [d3]; exact (oc.p T).tr (fpc_T T _ (by omega))
      have fr3 : FPR Mr Mr3 := by rw [g3]; exact or.p.tr (fpr_I _ (by show 313 ≤ 317 ∧ 317 ≤ 339 ∧ 5 ≤ 5 + c; omega))
      rw [e3', cl_s, if_neg (show ¬ (1 : Int32) = 0 by decide), T2, gd_t t8, gd_t (inb_nI (by omega) (by omega)), tr1, q7, e4', cl_s, gd_t (inb_nI (by omega) (by omega)), nI_clamp (show c < 2 ^ 31 by omega), nI_clamp (show 5 + c < 2 ^ 31 by omega), bnd_e, bnd_e, ← d3, ← g3, q73, w317]
      rcases num_ls h3 (lo := v) (hi := 999) (by omega) (by omega) with ⟨w, Mc4, Mr4, w1, w2, l4, e5, q74, e6, h4, oc4, or4⟩ | ⟨Mc4, Mr4, e5, e6, f4, oc4, or4⟩
      · have e5' : f_X7_takeNumber (nI v) 999 Mc3 = some (1, Mc4) := e5
        have e6' : f_X11_number (nI v) 999 Mr3 = some (nI w, Mr4) := e6
        have b4 := (nx_le (B := B) h3.1).2 l4
        have T4 : Mc4.2.2.1 208 1 = T := by rw [oc4.2.2.1 _ _ (by omega), hc3, T2]
        obtain ⟨Mc5, d5⟩ : ∃ X, X = setI Mc4 (T + 2) c (nI w) := ⟨_, rfl⟩
        have rc5 : ∀ a j, ¬ (a = T + 2 ∧ j = c) → Mc5.1 a j = Mc4.1 a j := fun a j y => by rw [d5, setI_n (by omega)]
        have T5 : Mc5.2.2.1 208 1 = T := by rw [d5]; exact T4
        have q75 : Mc5.1 208 7 = nI w := by rw [rc5 _ _ (by omega), q74]
        have v5 : Mc5.1 (T + 1) c = nI v := by rw [rc5 _ _ (by omega), oc4.2.2.2 _ _ (by omega), d3, setI_s]
        have T50 : Mc5.1 T 0 = nI c := by rw [rc5 _ _ (by omega), oc4.2.2.2 _ _ (by omega), rc3 _ _ (by omega), oc.2.2.2 _ _ (by omega) (by omega) (by omega), n3']
        -- the clocks
        obtain ⟨MM, dM⟩ : ∃ X, X = mixM Mc Mr := ⟨_, rfl⟩
        rw [← dM] at I
        have back : ∀ a j, a ≠ T + 1 → a ≠ T + 2 → a < 208 → Mc5.1 a j = Mc.1 a j := fun a j z1 z2 z3 => by rw [rc5 _ _ (by omega), oc4.2.2.2 _ _ (by omega), rc3 _ _ (by omega), oc.2.2.2 _ _ (by omega) (by omega) (by omega)]
        have bb : BB (CC MM) Mc5 (T + 3) := I.2.2.2.2.2.2.2.2.2.2.cong (fun _ _ _ => Iff.rfl) (by rw [back _ _ (by omega) (by omega) (by omega), dM, mix_c _ _ (by omega)]) (by rw [trc]; exact funext (fun j => by rw [back _ _ (by omega) (by omega) (by omega), dM, mix_c _ _ (by omega)]))
        have vI : (nI v).toInt = (v : Int) := nI_toInt (by omega)
        have wI : (nI w).toInt = (w : Int) := nI_toInt (by omega)
        have nv' : (-(nI v)).toInt = -(v : Int) := by rw [neg_toInt (by omega), vI]
        have hne : T + 3 ≠ cr (T + 3) 0 := by rw [trc]; omega
        obtain ⟨Mc6, x1, x2, x3, x4⟩ := tell_bb ts2 hne (M := Mc5) (x1 := 1 + c) (x2 := 0) (v := -(nI v)) (by omega) (by omega) (by omega) (by omega) (rep_cc I.ok) bb
        obtain ⟨Mc7, y1, y2, y3, y4⟩ := tell_bb ts2 hne (M := Mc6) (x1 := 0) (x2 := 1 + c) (v := nI w) (by omega) (by omega) (by omega) (by omega) x2 x3
        have z4 := x4.tr y4
        rw [trc] at z4
        have T7 : Mc7.2.2.1 208 1 = T := by rw [z4.1, T5]
        have T70 : Mc7.1 T 0 = nI c := by rw [z4.2 _ (by omega) (by omega), T50]
        have et : f_X2_tellLate (T + 3) (nI c) (nI v) (nI w) Mc5 = some Mc7 := by
          unfold f_X2_tellLate
          have y1' : f_X2_tell (T + 3) 0 (nI (1 + c)) (nI w) Mc6 = some Mc7 := y1
          have x1' : f_X2_tell (T + 3) (nI (1 + c)) 0 (-(nI v)) Mc5 = some Mc6 := x1
          rw [gd_t ts2, show 1 + nI c = nI (1 + c) from nI_add _ _, x1', clv_s, y1', clv_s]
        obtain ⟨Mc8, d8⟩ : ∃ X, X = setI Mc7 T 0 (nI (c + 1)) := ⟨_, rfl⟩
        obtain ⟨Mr8, g8⟩ : ∃ X, X = setI (setI Mr4 318 (5 + c) (nI w)) 313 6 (nI (c + 1)) := ⟨_, rfl⟩
        have c64 : (setI Mr4 318 (5 + c) (nI w)).1 313 6 = nI c := by rw [setI_n (by omega), or4.2.2 _ _ (by omega), rr3 _ _ (by omega), or2.2.2 _ _ (by omega), c6]
        have z9 : (setI Mr4 318 (5 + c) (nI w)).1 311 9 = 0 := by rw [setI_n (by omega)]; exact h4.2.2.2
        have rc : ∀ a j, ¬ (a = T ∧ j = 0) → ¬ (a = T + 1 ∧ j = c) → ¬ (a = T + 2 ∧ j = c) → a ≠ T + 3 → a ≠ T + 4 → ¬ (a = 208 ∧ (3 ≤ j ∧ j ≤ 9)) → a ≠ 209 → a ≠ 211 → Mc8.1 a j = Mc.1 a j := fun a j p1 p2 p3 p4 p5 p6 p7 p8 => by
          rw [d8, setI_n (by omega), z4.2 _ p4 p5, rc5 _ _ p3, oc4.2.2.2 _ _ (by omega), rc3 _ _ p2, oc.2.2.2 _ _ p6 p7 p8]
        have rc84 : ∀ a j, a < T ∨ T + 4 < a → Mc8.1 a j = Mc4.1 a j := fun a j p => by rw [d8, setI_n (by omega), z4.2 _ (by omega) (by omega), rc5 _ _ (by omega)]
        have rr84 : ∀ a j, ¬ (a = 313 ∧ j = 6) → ¬ (a = 318 ∧ j = 5 + c) → Mr8.1 a j = Mr4.1 a j := fun a j p1 p2 => by rw [g8, setI_n (by omega), setI_n (by omega)]
        have rr : ∀ a j, ¬ (a = 313 ∧ j = 6) → ¬ (a = 317 ∧ j = 5 + c) → ¬ (a = 318 ∧ j = 5 + c) → ¬ (a = 311 ∧ (4 ≤ j ∧ j ≤ 10)) → Mr8.1 a j = Mr.1 a j := fun a j p1 p2 p3 p4 => by
          rw [rr84 _ _ p1 p3, or4.2.2 _ _ (by omega), rr3 _ _ p2, or.2.2 _ _ (by omega)]
        have hc8 : Mc8.2 = Mc4.2 := by
          rw [d8]
          show Mc7.2 = Mc4.2
          rw [z4.1, d5]; rfl
        have hr8 : Mr8.2 = Mr4.2 := by rw [g8]; rfl
        have h318 : Mr8.1 318 (5 + c) = nI w := by rw [g8, setI_n (by omega), setI_s]
        have h317 : Mr8.1 317 (5 + c) = nI v := by rw [rr84 _ _ (by omega) (by omega), or4.2.2 _ _ (by omega), w317]
        have hT1 : Mc8.1 (T + 1) c = nI v := by rw [d8, setI_n (by omega), z4.2 _ (by omega) (by omega), v5]
        have hT2 : Mc8.1 (T + 2) c = nI w := by rw [d8, setI_n (by omega), z4.2 _ (by omega) (by omega), d5, setI_s]
        obtain ⟨MN, dN⟩ : ∃ X, X = mixM Mc8 Mr8 := ⟨_, rfl⟩
        have cM : ∀ s, Cn MM s = rdN Mr s := fun s => by rw [dM, cn_mix]
        have mR : ∀ a j, 313 ≤ a → a ≤ 339 → MN.1 a j = Mr8.1 a (hf a + j) ∧ MM.1 a j = Mr.1 a (hf a + j) := fun a j p1 p2 => by
          rw [dM, dN, mix_r _ _ p1 p2, mix_r _ _ p1 p2]
          exact ⟨rfl, rfl⟩
        have mT : ∀ a j, a < 208 → MN.1 a j = Mc8.1 a j ∧ MM.1 a j = Mc.1 a j := fun a j ha => by
          rw [dM, dN, mix_c _ _ (by omega), mix_c _ _ (by omega)]
          exact ⟨rfl, rfl⟩
        have rw1 : ∀ a, ¬ (Jk a ∨ a = 313 ∨ a = 317 ∨ a = 318 ∨ (T ≤ a ∧ a ≤ T + 4)) → MN.1 a = MM.1 a := fun a ha => by
          rw [dM, dN]
          unfold Jk at ha
          exact mix_row (fun z => funext (fun j => rc a j (by omega) (by omega) (by omega) (by omega) (by omega) (by omega) (by omega) (by omega))) (fun z1 z2 j => rr a _ (by omega) (by omega) (by omega) (by omega)) (by omega)
        have k0 : Cn MM 0 = c := by rw [cM, ← hk]
        have h6 : hf 313 = 6 ∧ hf 317 = 5 ∧ hf 318 = 5 := ⟨rfl, rfl, rfl⟩
        have ad := I.2.1.add (M' := MN) (s0 := 0) (by omega) (by rw [k0]; exact lt) (by rw [(mR 313 0 (by omega) (by omega)).1, k0, g8, h6.1]; exact setI_s) (fun s p1 p2 => by rw [(mR 313 s (by omega) (by omega)).1, (mR 313 s (by omega) (by omega)).2, h6.1, rr _ _ (by omega) (by omega) (by omega) (by omega)]) (by rw [(mT T _ (by omega)).1, k0, d8]; exact setI_s) (fun s p1 p2 => by
          have ns : sl s ≠ 0 := fun q => p2 (sl_inj s p1 0 (by omega) q)
          rw [(mT T _ (by omega)).1, (mT T _ (by omega)).2, rc _ _ (by omega) (by omega) (by omega) (by omega) (by omega) (by omega) (by omega) (by omega)])
        obtain ⟨iN', c0', cs'⟩ := ad
        obtain ⟨R0, R5, R1, R2, R3, R4, R6, -⟩ := I.rest 0 cs' (by rw [c0']; omega) _ rw1
        have o317 : ∀ j, j ≠ c → MN.1 317 j = MM.1 317 j ∧ MN.1 318 j = MM.1 318 j := fun j hj => by
          rw [(mR 317 j (by omega) (by omega)).1, (mR 317 j (by omega) (by omega)).2, (mR 318 j (by omega) (by omega)).1, (mR 318 j (by omega) (by omega)).2, h6.2.1, h6.2.2, rr _ _ (by omega) (by omega) (by omega) (by omega), rr _ _ (by omega) (by omega) (by omega) (by omega)]
          exact ⟨rfl, rfl⟩
        have n317 : MN.1 317 c = nI v ∧ MN.1 318 c = nI w := by
          rw [(mR 317 c (by omega) (by omega)).1, (mR 318 c (by omega) (by omega)).1, h6.2.1, h6.2.2]
          exact ⟨h317, h318⟩
        have ccE : ∀ a b x, cadd (cadd (CC MM) 0 (1 + c) (-(nI v)).toInt) (1 + c) 0 (nI w).toInt a b x ↔ CC MN a b x := fun a b x => by
          have e319 : MN.1 319 = MM.1 319 := rw1 319 (by unfold Jk; omega)
          have eF : ∀ f, NF MN f = NF MM f := fun f => by unfold NF fi fj fby; rw [e319]
          rw [nv', wI]
          constructor
          · rintro (((⟨c', hc', q⟩ | ⟨f, hf, q⟩) | ⟨q1, q2, q3⟩) | ⟨q1, q2, q3⟩)
            · refine Or.inl ⟨c', by omega, ?_⟩
              unfold NC at q ⊢
              rw [(o317 c' (by omega)).1, (o317 c' (by omega)).2]
              exact q
            · exact Or.inr ⟨f, by rw [cs' 5 (by omega) (by omega)]; exact hf, by rw [eF]; exact q⟩
            · refine Or.inl ⟨c, by omega, Or.inl ⟨q1, q2, ?_⟩⟩
              rw [n317.1, vI, q3]
            · refine Or.inl ⟨c, by omega, Or.inr ⟨q1, q2, ?_⟩⟩
              rw [n317.2, wI, q3]
          · rintro (⟨c', hc', q⟩ | ⟨f, hf, q⟩)
            · by_cases z : c' = c
              · subst z
                unfold NC at q
                rw [n317.1, n317.2, vI, wI] at q
                rcases q with ⟨q1, q2, q3⟩ | ⟨q1, q2, q3⟩
                · exact Or.inl (Or.inr ⟨q1, q2, q3⟩)
                · exact Or.inr ⟨q1, q2, q3⟩
              · refine Or.inl (Or.inl (Or.inl ⟨c', by omega, ?_⟩))
                unfold NC at q ⊢
                rw [(o317 c' z).1, (o317 c' z).2] at q
                exact q
            · rw [cs' 5 (by omega) (by omega)] at hf
              rw [eF] at q
              exact Or.inl (Or.inl (Or.inr ⟨f, hf, q⟩))
        have r87 : ∀ a j, a ≠ T → Mc8.1 a j = Mc7.1 a j := fun a j p => by rw [d8, setI_n (Or.inl p)]
        have bbN : BB (CC MN) MN (T + 3) := y3.cong ccE (by rw [(mT (T + 3) 1 (by omega)).1, r87 _ _ (by omega)]) (by rw [trc]; exact funext (fun j => by rw [(mT (T + 4) j (by omega)).1, r87 _ _ (by omega)]))
        have I' : ITS MN T := by
          refine ⟨hT, iN', fun j hj => ?_, R5 (by omega) (fun a q => by unfold Jk at q; omega), R1 (by omega) (fun a q => by unfold Jk at q; omega), R2 (by omega) (fun a q => by unfold Jk at q; omega), R3 (by omega) (fun a q => by unfold Jk at q; omega), (R4 (by omega) (fun a q => by unfold Jk at q; omega)).1, (R4 (by omega) (fun a q => by unfold Jk at q; omega)).2, R6 (fun a q => by unfold Jk at q; omega), bbN⟩
          rw [c0', k0] at hj
          by_cases z : j = c
          · rw [z]
            unfold iC
            rw [n317.1, n317.2, (mT (T + 1) c (by omega)).1, (mT (T + 2) c (by omega)).1, hT1, hT2, vI, wI]
            exact ⟨⟨by omega, by omega, by omega⟩, rfl, rfl⟩
          · exact (I.2.2.1 j (by omega)).cong ⟨(o317 j z).1, (o317 j z).2, by rw [(mT (T + 1) j (by omega)).1, (mT (T + 1) j (by omega)).2, rc _ _ (by omega) (by omega) (by omega) (by omega) (by omega) (by omega) (by omega) (by omega)], by rw [(mT (T + 2) j (by omega)).1, (mT (T + 2) j (by omega)).2, rc _ _ (by omega) (by omega) (by omega) (by omega) (by omega) (by omega) (by omega) (by omega)]⟩
        rw [dN] at I'
        have N4 : NmR 0 Mc4 Mr4 := NmR.g (NmR.cong (N1.g oc2 or2) (rc3 _ _ (by omega)) (funext (fun j => rc3 _ _ (by omega))) (funext (fun j => rc3 _ _ (by omega))) (by rw [hc3]) (by rw [hr3]) (fun s hs => rr3 _ _ (by omega))) oc4 or4
        have er4 : rdN Mr4 0 = c := by
          have z : rdN Mr4 0 = (Mr4.1 313 6).toNatClampNeg := rfl
          rw [z, or4.2.2 _ _ (by omega), rr3 _ _ (by omega), or2.2.2 _ _ (by omega), c6, nI_clamp (by omega)]
        refine Or.inl ⟨_, Mc8, Mr8, by omega, ?_, ?_, ⟨h4.sets (fun a j q => rc84 _ _ (by omega)) hc8 (fun a j q => rr84 _ _ (by omega) (by omega)) hr8, by rw [hc8]; exact T4, N4.done (by omega) (rc84 _ _ (by omega)) (funext (fun j => rc84 _ _ (by omega))) (funext (fun j => rc84 _ _ (by omega))) (by rw [hc8]) (by rw [hr8]) (fun t p1 p2 => rr84 _ _ (by omega) (by omega)) (by rw [er4, g8]; exact setI_s), I', ?_⟩, ?_, ?_⟩
        · rw [e5', cl_s, if_neg (show ¬ (1 : Int32) = 0 by decide), T4, gd_t t8, tr2, q74, bnd_e, ← d5, T5, gd_t t8, tr4, tr1, v5, q75, et, clv_s, T7, gd_t t8, T70, nI_1, bnd_e, ← d8]
        · rw [e6', cl_s, bnd_e, z9, if_pos rfl, c64, nI_1, bnd_e, ← g8]
        · obtain ⟨m, u1, u2, u3⟩ := U
          exact ⟨m, u1, by rw [rc _ _ (by omega) (by omega) (by omega) (by omega) (by omega) (by omega) (by omega) (by omega)]; exact u2, fun j hj => by rw [rr _ _ (by omega) (by omega) (by omega) (by omega)]; exact u3 j hj⟩
        · refine fc3.tr ((oc4.p T).tr ⟨by rw [hc8], by rw [hc8], fun a j _ _ => by rw [hc8], fun a j p1 p2 p3 p4 => rc84 _ _ (by omega)⟩)
        · rw [g8]
          exact fr3.tr (or4.p.tr ((fpr_I _ (by show 313 ≤ 318 ∧ 318 ≤ 339 ∧ 5 ≤ 5 + c; omega)).tr (fpr_I _ (by show 313 ≤ 313 ∧ 313 ≤ 339 ∧ 6 ≤ 6; omega))))
      · have e5' : f_X7_takeNumber (nI v) 999 Mc3 = some (0, Mc4) := e5
        have e6' : f_X11_number (nI v) 999 Mr3 = some (nI v, Mr4) := e6
        refine Or.inr ⟨Mc4, setI Mr4 318 (5 + c) (nI v), by rw [e5', cl_s, if_pos rfl], by rw [e6', cl_s, bnd_e, setI_n (by omega), if_neg f4.1], ?_, fc3.tr (oc4.p T), fr3.tr (or4.p.tr (fpr_I _ (by show 313 ≤ 318 ∧ 318 ≤ 339 ∧ 5 ≤ 5 + c; omega)))⟩
        unfold FL
        rw [setI_n (by omega), setI_n (by omega)]
        exact f4
    · have e3' : f_X7_takeNumber 0 999 Mc1 = some (0, Mc2) := e3
      have e4' : f_X11_number 0 999 Mr1 = some (0, Mr2) := e4
      refine Or.inr ⟨Mc2, setI (setI Mr2 317 (5 + c) 0) 318 (5 + c) 0, by rw [e3', cl_s, if_pos rfl], by rw [e4', cl_s]; exact cam_t2 lt f2.1 0, ?_, (oc1.tr oc2.n).p T, (or1.tr or2.n).p.tr ((fpr_I _ (by show 313 ≤ 317 ∧ 317 ≤ 339 ∧ 5 ≤ 5 + c; omega)).tr (fpr_I _ (by show 313 ≤ 318 ∧ 318 ≤ 339 ∧ 5 ≤ 5 + c; omega)))⟩
      unfold FL
      rw [setI_n (by omega), setI_n (by omega), setI_n (by omega), setI_n (by omega)]
      exact f2
  · have e1' : f_X7_giveName 10 (nI c) Mc = some (0, Mc1) := by rw [hk]; exact e1
    have e2' : f_X11_newName 0 Mr = some Mr1 := e2
    have c6 : Mr1.1 313 6 = nI c := by rw [or1.2.2 _ _ (by omega), n1']
    have rd : f_X11_read 0 Mr1 = some (nI c, Mr1) := read_f (s := 0) c6 (by omega)
    refine Or.inr ⟨Mc1, setI (setI Mr1 317 (5 + c) 0) 318 (5 + c) 0, by rw [e1', cl_s, if_pos rfl], by rw [e2', clv_s, rd, cl_s, i5, bnd_e, number_d f1.1, cl_s]; exact cam_t2 lt f1.1 0, ?_, oc1.p T, or1.p.tr ((fpr_I _ (by show 313 ≤ 317 ∧ 317 ≤ 339 ∧ 5 ≤ 5 + c; omega)).tr (fpr_I _ (by show 313 ≤ 318 ∧ 318 ≤ 339 ∧ 5 ≤ 5 + c; omega)))⟩
    unfold FL
    rw [setI_n (by omega), setI_n (by omega), setI_n (by omega), setI_n (by omega)]
    exact f1
