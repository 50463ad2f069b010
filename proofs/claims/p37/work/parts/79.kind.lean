/-! a kind -/
theorem kind_tail {Mr : Mem} {k : Nat} (hk : k < 5) (h9 : Mr.1 311 9 ≠ 0) (x : Int32) : gd (inb (nI (5 + k)) 10) (bnd (setI Mr 321 ((nI (5 + k)).toNatClampNeg) x) (fun M4m => cl (f_X11_maybe 38 M4m) (fun r3 M5m => bnd (setI M5m 322 ((nI (5 + k)).toNatClampNeg) (vp_nar .boolean r3)) (fun M6m => cl (f_X11_maybe 39 M6m) (fun r4 M7m => bnd (setI M7m 323 ((nI (5 + k)).toNatClampNeg) (vp_nar .boolean r4)) (fun M8m => bnd (setI M8m 324 ((nI (5 + k)).toNatClampNeg) 0) (fun M9m => if (M9m.1 311 9) = 0 then clv (f_X11_pair (nI (5 + k)) M9m) (fun M10m => f_X11_kindLine_b69 fuel (nI (5 + k)) M10m) else f_X11_kindLine_b69 fuel (nI (5 + k)) M9m))))))) = some (setI (setI (setI (setI Mr 321 (5 + k) x) 322 (5 + k) 0) 323 (5 + k) 0) 324 (5 + k) 0) := by
  have d1 : (setI Mr 321 (5 + k) x).1 311 9 ≠ 0 := by rw [setI_n (by omega)]; exact h9
  have d2 : (setI (setI Mr 321 (5 + k) x) 322 (5 + k) 0).1 311 9 ≠ 0 := by rw [setI_n (by omega)]; exact d1
  have d3 : (setI (setI (setI Mr 321 (5 + k) x) 322 (5 + k) 0) 323 (5 + k) 0).1 311 9 ≠ 0 := by rw [setI_n (by omega)]; exact d2
  have d4 : (setI (setI (setI (setI Mr 321 (5 + k) x) 322 (5 + k) 0) 323 (5 + k) 0) 324 (5 + k) 0).1 311 9 ≠ 0 := by rw [setI_n (by omega)]; exact d3
  have ef : fuel = 4999 + 1 := rfl
  rw [gd_t (inb_nI (by omega) (by omega)), nI_clamp (show 5 + k < 2 ^ 31 by omega), bnd_e, maybe_d d1, cl_s, nar_b.1, bnd_e, maybe_d d2, cl_s, nar_b.1, bnd_e, bnd_e, if_neg d4, ef, kl_d d4]
def ktX (T k : Nat) (a _i : Nat) : Prop := T + 10 + 3 * k ≤ a ∧ a ≤ T + 12 + 3 * k
def krY (k : Nat) (a i : Nat) : Prop := (321 ≤ a ∧ a ≤ 324 ∧ i = 5 + k) ∨ ((a = 325 ∨ a = 326) ∧ 15 + 3 * k ≤ i ∧ i < 18 + 3 * k)
theorem hf_k : hf 321 = 5 ∧ hf 322 = 5 ∧ hf 323 = 5 ∧ hf 324 = 5 ∧ hf 325 = 15 ∧ hf 326 = 15 := by decide
theorem krY_p {k a i : Nat} (h : krY k a i) : 313 ≤ a ∧ a ≤ 339 ∧ hf a ≤ i := by
  obtain ⟨h1, h2, h3, h4, h5, h6⟩ := hf_k
  rcases h with ⟨x1, x2, x3⟩ | ⟨rfl | rfl, x2, x3⟩
  · have e : a = 321 ∨ a = 322 ∨ a = 323 ∨ a = 324 := by omega
    rcases e with rfl | rfl | rfl | rfl <;> omega
  · omega
  · omega
set_option maxHeartbeats 16000000 in
theorem kind_ls {n : Nat} {B : Nat → Nat} {T st : Nat} {Mc Mr : Mem} (h : PP n B T st Mc Mr) (lt : rdN Mr 2 < 5) : LR n B T (f_X7_tellKind Mc) (f_X11_kindLine Mr) Mc Mr st := by
  have hT := h.tt
  have tc := tt_208 hT
  have t8 := tt_0 hT
  obtain ⟨-, -, -, -, -, tr8, -⟩ := tt_r hT
  obtain ⟨n1, -, n3, -⟩ := h.cnt (s := 2) (by omega)
  have n3' : Mc.1 T 7 = nI (rdN Mr 2) := n3
  obtain ⟨hl, eT, N, I, U⟩ := h
  have hst := hl.1
  obtain ⟨k, hk⟩ : ∃ k, k = rdN Mr 2 := ⟨_, rfl⟩
  rw [← hk] at n1 n3' lt
  have n1' : Mr.1 313 8 = nI k := n1
  obtain ⟨tk1, tk4, tk5, tks⟩ := tt_k hT k lt
  have i5 : 5 + nI k = nI (5 + k) := nI_add _ _
  have yp : ∀ a i, krY k a i → 313 ≤ a ∧ a ≤ 339 ∧ hf a ≤ i := fun a i q => krY_p q
  have xp : ∀ a i, ktX T k a i → T ≤ a ∧ a ≤ T + 70 := fun a i q => by unfold ktX at q; omega
  unfold f_X7_tellKind f_X11_kindLine
  rw [eT, gd_t t8, n3', gd_t (inb_nI (by omega) (by omega)), nI_clamp (show k < 2 ^ 31 by omega), tr8, tk1, bnd_e]
  rcases name_ls hl N (s := 2) (by omega) (by rw [← hk]; exact lt) with ⟨Mc1, Mr1, l1, e1, e2, h1, N1, oc1, or1⟩ | ⟨Mc1, Mr1, e1, e2, f1, oc1, or1⟩
  · have e1' : f_X7_giveName 13 (nI k) Mc = some (1, Mc1) := by rw [hk]; exact e1
    have e2' : f_X11_newName 2 Mr = some Mr1 := e2
    have c8 : Mr1.1 313 8 = nI k := by rw [or1.2.2 _ _ (by omega), n1']
    have rd : f_X11_read 2 Mr1 = some (nI k, Mr1) := read_f (s := 2) c8 (by omega)
    have b1 := (nx_le (B := B) hst).2 l1
    rw [e1', cl_s, if_neg (show ¬ (1 : Int32) = 0 by decide), e2', clv_s, rd, cl_s, i5, bnd_e]
    rcases num_ls h1 (lo := 1) (hi := 60) (by omega) (by omega) with ⟨v, Mc2, Mr2, v1, v2, l2, e3, q7, e4, h2, oc2, or2⟩ | ⟨Mc2, Mr2, e3, e4, f2, oc2, or2⟩
    · have e3' : f_X7_takeNumber 1 60 Mc1 = some (1, Mc2) := e3
      have e4' : f_X11_number 1 60 Mr1 = some (nI v, Mr2) := e4
      have b2 := (nx_le (B := B) h1.1).2 l2
      obtain ⟨Mc3, d3⟩ : ∃ X, X = setI Mc2 (T + 10 + 3 * k) 0 (nI v) := ⟨_, rfl⟩
      obtain ⟨Mr3, g3⟩ : ∃ X, X = setI Mr2 321 (5 + k) (nI v) := ⟨_, rfl⟩
      have h3 : LPt n B (nx n B (nx n B st)) Mc3 Mr3 := h2.sets (fun c i q => by rw [d3, setI_n (by omega)]) (by rw [d3]; rfl) (fun c i q => by rw [g3, setI_n (by omega)]) (by rw [g3]; rfl)
      have oc3 : GCx (ktX T k) Mc1 Mc3 := by rw [d3]; exact (oc2.x _).tr (gcx_I _ (by unfold ktX; omega))
      have or3 : GRx (krY k) Mr1 Mr3 := by rw [g3]; exact (or2.x _).tr (grx_I _ (by unfold krY; omega))
      have p3 : Mc3.1 (T + 10 + 3 * k) 0 = nI v ∧ Mr3.1 321 (5 + k) = nI v := ⟨by rw [d3, setI_s], by rw [g3, setI_s]⟩
      rw [e3', cl_s, if_neg (show ¬ (1 : Int32) = 0 by decide), q7, bnd_e, ← d3, e4', cl_s, gd_t (inb_nI (by omega) (by omega)), nI_clamp (show 5 + k < 2 ^ 31 by omega), bnd_e, ← g3]
      obtain ⟨b1', st4, Mc4, Mr4, l4, e5, e6, h4, oc4, or4⟩ := maybe_ls h3 (s := 38) (by omega) (by omega)
      have e5' : f_X7_skip 20 Mc3 = some (b10 b1', Mc4) := e5
      obtain ⟨Mc5, d5⟩ : ∃ X, X = setI Mc4 (T + 10 + 3 * k) 1 (b10 b1') := ⟨_, rfl⟩
      obtain ⟨Mr5, g5⟩ : ∃ X, X = setI Mr4 322 (5 + k) (b10 b1') := ⟨_, rfl⟩
      have nb : ∀ b, vp_nar .boolean (b10 b) = b10 b := fun b => by cases b <;> rfl
      have h5 : LPt n B st4 Mc5 Mr5 := h4.sets (fun c i q => by rw [d5, setI_n (by omega)]) (by rw [d5]; rfl) (fun c i q => by rw [g5, setI_n (by omega)]) (by rw [g5]; rfl)
      have oc5 : GCx (ktX T k) Mc1 Mc5 := by rw [d5]; exact oc3.tr ((oc4.g.x _).tr (gcx_I _ (by unfold ktX; omega)))
      have or5 : GRx (krY k) Mr1 Mr5 := by rw [g5]; exact or3.tr ((or4.g.x _).tr (grx_I _ (by unfold krY; omega)))
      have p5 : Mc5.1 (T + 10 + 3 * k) 0 = nI v ∧ Mr5.1 321 (5 + k) = nI v ∧ Mc5.1 (T + 10 + 3 * k) 1 = b10 b1' ∧ Mr5.1 322 (5 + k) = b10 b1' := ⟨by rw [d5, setI_n (by omega), oc4.2.2.2 _ _ (by omega), p3.1], by rw [g5, setI_n (by omega), or4.2.2 _ _ (by omega), p3.2], by rw [d5, setI_s], by rw [g5, setI_s]⟩
      rw [e5', cl_s, gd_t (nb b1'), bnd_e, ← d5, e6, cl_s, nb b1', bnd_e, ← g5]
      obtain ⟨b2', st6, Mc6, Mr6, l6, e7, e8, h6, oc6, or6⟩ := maybe_ls h5 (s := 39) (by omega) (by omega)
      have e7' : f_X7_skip 21 Mc5 = some (b10 b2', Mc6) := e7
      obtain ⟨Mc7, d7⟩ : ∃ X, X = setI (setI Mc6 (T + 10 + 3 * k) 2 (b10 b2')) (T + 10 + 3 * k) 3 0 := ⟨_, rfl⟩
      obtain ⟨Mr7, g7⟩ : ∃ X, X = setI (setI Mr6 323 (5 + k) (b10 b2')) 324 (5 + k) 0 := ⟨_, rfl⟩
      have h7 : LPt n B st6 Mc7 Mr7 := h6.sets (fun c i q => by rw [d7, setI_n (by omega), setI_n (by omega)]) (by rw [d7]; rfl) (fun c i q => by rw [g7, setI_n (by omega), setI_n (by omega)]) (by rw [g7]; rfl)
      have oc7 : GCx (ktX T k) Mc1 Mc7 := by rw [d7]; exact oc5.tr ((oc6.g.x _).tr ((gcx_I _ (by unfold ktX; omega)).tr (gcx_I _ (by unfold ktX; omega))))
      have or7 : GRx (krY k) Mr1 Mr7 := by rw [g7]; exact or5.tr ((or6.g.x _).tr ((grx_I _ (by unfold krY; omega)).tr (grx_I _ (by unfold krY; omega))))
      have p7 : Mc7.1 (T + 10 + 3 * k) 0 = nI v ∧ Mr7.1 321 (5 + k) = nI v ∧ Mc7.1 (T + 10 + 3 * k) 1 = b10 b1' ∧ Mr7.1 322 (5 + k) = b10 b1' ∧ Mc7.1 (T + 10 + 3 * k) 2 = b10 b2' ∧ Mr7.1 323 (5 + k) = b10 b2' := by
        obtain ⟨w1, w2, w3, w4⟩ := p5
        refine ⟨?_, ?_, ?_, ?_, ?_, ?_⟩
        · rw [d7, setI_n (by omega), setI_n (by omega), oc6.2.2.2 _ _ (by omega), w1]
        · rw [g7, setI_n (by omega), setI_n (by omega), or6.2.2 _ _ (by omega), w2]
        · rw [d7, setI_n (by omega), setI_n (by omega), oc6.2.2.2 _ _ (by omega), w3]
        · rw [g7, setI_n (by omega), setI_n (by omega), or6.2.2 _ _ (by omega), w4]
        · rw [d7, setI_n (by omega), setI_s]
        · rw [g7, setI_n (by omega), setI_s]
      have z7 : Mc7.1 (T + 10 + 3 * k) 3 = nI 0 := by rw [d7, setI_s]; rfl
      have y7 : Mr7.1 324 (5 + k) = nI 0 := by rw [g7, setI_s]; rfl
      rw [e7', cl_s, gd_t (nb b2'), bnd_e, bnd_e, ← d7, e8, cl_s, nb b2', bnd_e, bnd_e, ← g7, if_pos h7.2.2.2]
      have mcx : ∀ j a i, kcX T k j a i → ktX T k a i := fun j a i q => by unfold kcX at q; unfold ktX; omega
      have mrx : ∀ j a i, krX k j a i → krY k a i := fun j a i q => by unfold krX at q; unfold krY; omega
      have ef : fuel = 4997 + 2 + 1 := rfl
      rcases pair_ls h7 hT lt (j := 0) (by omega) z7 y7 with ⟨st8, Mc8, Mr8, l8, e9, e10, h8, z8, y8, P8, oc8, or8⟩ | ⟨Mc8, Mr8, e9, e10, f8, oc8, or8⟩
      · have P8' : ∀ i, i < 1 → Prr T k Mc8 Mr8 i := fun i hi => by rw [show i = 0 by omega]; exact P8
        rw [e9, cl_s, if_neg (show ¬ (1 : Int32) = 0 by decide), e10, clv_s, ef]
        rcases kloop_ls hT lt 4997 4997 2 1 0 st8 Mc8 Mr8 (by omega) (by omega) h8 z8 y8 P8' with ⟨j, st9, Mc9, Mr9, l9, j1, j3, e11, e12, h9, z9, y9, P9, oc9, or9⟩ | ⟨Mc9, Mr9, e11, e12, f9, oc9, or9⟩
        · have e11' : f_X7_tellKind_b92 (4997 + 2 + 1) (T + 10 + 3 * k) 0 Mc8 = f_X7_tellKind_b141 Mc9 := e11
          have oc79 : GCx (kcX T k 0) Mc7 Mc9 := oc8.tr (oc9.mono (fun a i q => by unfold kcX at q ⊢; omega))
          have or79 : GRx (krX k 0) Mr7 Mr9 := or8.tr (or9.mono (fun a i q => by unfold krX at q ⊢; omega))
          have oc19 : GCx (ktX T k) Mc1 Mc9 := oc7.tr (oc79.mono (mcx 0))
          have or19 : GRx (krY k) Mr1 Mr9 := or7.tr (or79.mono (mrx 0))
          have T9 : Mc9.2.2.1 208 1 = T := by rw [oc19.2.2.1 _ _ (by omega), oc1.2.2.1 _ _ (by omega) (by omega), eT]
          have T97 : Mc9.1 T 7 = nI k := by rw [oc19.2.2.2 _ _ (by unfold ktX; omega) (by omega), oc1.2.2.2 _ _ (by omega) (by omega) (by omega), n3']
          have c89 : Mr9.1 313 8 = nI k := by rw [or19.2.2 _ _ (by unfold krY; omega) (by omega), c8]
          obtain ⟨McA, dA⟩ : ∃ X, X = setI Mc9 T 7 (nI (k + 1)) := ⟨_, rfl⟩
          obtain ⟨MrA, gA⟩ : ∃ X, X = setI Mr9 313 8 (nI (k + 1)) := ⟨_, rfl⟩
          have rcA : ∀ a j, ¬ (a = T ∧ j = 7) → McA.1 a j = Mc9.1 a j := fun a j q => by rw [dA, setI_n (by omega)]
          have rrA : ∀ a j, ¬ (a = 313 ∧ j = 8) → MrA.1 a j = Mr9.1 a j := fun a j q => by rw [gA, setI_n (by omega)]
          have rc : ∀ a j, ¬ (a = T ∧ j = 7) → ¬ (T + 10 + 3 * k ≤ a ∧ a ≤ T + 12 + 3 * k) → ¬ (a = 208 ∧ (3 ≤ j ∧ j ≤ 9)) → a ≠ 209 → a ≠ 211 → McA.1 a j = Mc.1 a j := fun a j q1 q2 q3 q4 q5 => by
            rw [rcA _ _ q1, oc19.2.2.2 _ _ (by unfold ktX; omega) (by omega), oc1.2.2.2 _ _ q3 q4 q5]
          have rr : ∀ a j, ¬ (a = 313 ∧ j = 8) → ¬ krY k a j → ¬ (a = 311 ∧ (4 ≤ j ∧ j ≤ 10)) → MrA.1 a j = Mr.1 a j := fun a j q1 q2 q3 => by
            rw [rrA _ _ q1, or19.2.2 _ _ q2 q3, or1.2.2 _ _ q3]
          have hcA : McA.2 = Mc9.2 := by rw [dA]; rfl
          have hrA : MrA.2 = Mr9.2 := by rw [gA]; rfl
          obtain ⟨MM, dM⟩ : ∃ X, X = mixM Mc Mr := ⟨_, rfl⟩
          obtain ⟨MN, dN⟩ : ∃ X, X = mixM McA MrA := ⟨_, rfl⟩
          rw [← dM] at I
          have cM : ∀ s, Cn MM s = rdN Mr s := fun s => by rw [dM, cn_mix]
          have mR : ∀ a j, 313 ≤ a → a ≤ 339 → MN.1 a j = MrA.1 a (hf a + j) ∧ MM.1 a j = Mr.1 a (hf a + j) := fun a j p1 p2 => by
            rw [dM, dN, mix_r _ _ p1 p2, mix_r _ _ p1 p2]
            exact ⟨rfl, rfl⟩
          have mT : ∀ a j, a < 208 → MN.1 a j = McA.1 a j ∧ MM.1 a j = Mc.1 a j := fun a j ha => by
            rw [dM, dN, mix_c _ _ (by omega), mix_c _ _ (by omega)]
            exact ⟨rfl, rfl⟩
          have rw1 : ∀ a, ¬ (Jk a ∨ a = 313 ∨ (321 ≤ a ∧ a ≤ 326) ∨ a = T ∨ (T + 10 ≤ a ∧ a ≤ T + 24)) → MN.1 a = MM.1 a := fun a ha => by
            rw [dM, dN]
            unfold Jk at ha
            exact mix_row (fun z => funext (fun j => rc a j (by omega) (by omega) (by omega) (by omega) (by omega))) (fun z1 z2 j => rr a _ (by omega) (by unfold krY; omega) (by omega)) (by omega)
          have k2 : Cn MM 2 = k := by rw [cM, ← hk]
          have h6 : hf 313 = 6 := rfl
          obtain ⟨hf1, hf2, hf3, hf4, hf5, hf6⟩ := hf_k
          have ad := I.2.1.add (M' := MN) (s0 := 2) (by omega) (by rw [k2]; exact lt) (by rw [(mR 313 2 (by omega) (by omega)).1, k2, gA, h6]; exact setI_s) (fun s p1 p2 => by rw [(mR 313 s (by omega) (by omega)).1, (mR 313 s (by omega) (by omega)).2, h6, rr _ _ (by omega) (by unfold krY; omega) (by omega)]) (by rw [(mT T _ (by omega)).1, k2, dA]; exact setI_s) (fun s p1 p2 => by
            have ns : sl s ≠ 7 := fun q => p2 (sl_inj s p1 2 (by omega) q)
            rw [(mT T _ (by omega)).1, (mT T _ (by omega)).2, rc _ _ (by omega) (by omega) (by omega) (by omega) (by omega)])
          obtain ⟨iN', c2', cs'⟩ := ad
          obtain ⟨R0, R5, R1, -, R3, R4, R6, R7⟩ := I.rest 2 cs' (by rw [c2']; omega) _ rw1
          obtain ⟨w1, w2, w3, w4, w5, w6⟩ := p7
          have cA : ∀ i, i < 3 → McA.1 (T + 10 + 3 * k) i = Mc7.1 (T + 10 + 3 * k) i := fun i hi => by rw [rcA _ _ (by omega), oc79.2.2.2 _ _ (by unfold kcX; omega) (by omega)]
          have rA : ∀ a, 321 ≤ a → a ≤ 323 → MrA.1 a (5 + k) = Mr7.1 a (5 + k) := fun a p1 p2 => by rw [rrA _ _ (by omega), or79.2.2 _ _ (by unfold krX; omega) (by omega)]
          have v1c : MN.1 (T + 10 + 3 * k) 0 = nI v := by rw [(mT _ _ (by omega)).1, cA 0 (by omega), w1]
          have v2c : MN.1 (T + 10 + 3 * k) 1 = b10 b1' := by rw [(mT _ _ (by omega)).1, cA 1 (by omega), w3]
          have v3c : MN.1 (T + 10 + 3 * k) 2 = b10 b2' := by rw [(mT _ _ (by omega)).1, cA 2 (by omega), w5]
          have v4c : MN.1 (T + 10 + 3 * k) 3 = nI j := by rw [(mT _ _ (by omega)).1, rcA _ _ (by omega), z9]
          have v1r : MN.1 321 k = nI v := by rw [(mR 321 k (by omega) (by omega)).1, hf1, rA 321 (by omega) (by omega), w2]
          have v2r : MN.1 322 k = b10 b1' := by rw [(mR 322 k (by omega) (by omega)).1, hf2, rA 322 (by omega) (by omega), w4]
          have v3r : MN.1 323 k = b10 b2' := by rw [(mR 323 k (by omega) (by omega)).1, hf3, rA 323 (by omega) (by omega), w6]
          have v4r : MN.1 324 k = nI j := by rw [(mR 324 k (by omega) (by omega)).1, hf4, rrA _ _ (by omega), y9]
          have pn : Pn MN k = j := by
            have z : Pn MN k = (MN.1 324 k).toNatClampNeg := rfl
            rw [z, v4r, nI_clamp (by omega)]
          have iK' : iK MN T k := by
            unfold iK
            rw [pn, v1c, v2c, v3c, v4c, v1r, v2r, v3r, v4r]
            refine ⟨⟨i32_09 (lo := 1) (hi := 60) ⟨v1, v2⟩ (by omega), by cases b1'; exact Or.inl rfl; exact Or.inr rfl, by cases b2'; exact Or.inl rfl; exact Or.inr rfl, ⟨rfl, j1, j3⟩, fun i hi => ?_⟩, rfl, rfl, rfl, rfl, fun i hi => ?_⟩
            · obtain ⟨a, b, q1, q2, q3, q4, q5, q6, q7⟩ := P9 i hi
              refine ⟨a, b, q1, q2, q3, ?_, ?_⟩
              · rw [(mR 325 _ (by omega) (by omega)).1, hf5, rrA _ _ (by omega), ← q6, show 15 + (3 * k + i) = 3 * (5 + k) + i by omega]
              · rw [(mR 326 _ (by omega) (by omega)).1, hf6, rrA _ _ (by omega), ← q7, show 15 + (3 * k + i) = 3 * (5 + k) + i by omega]
            · obtain ⟨a, b, q1, q2, q3, q4, q5, q6, q7⟩ := P9 i hi
              rw [(mR 325 _ (by omega) (by omega)).1, hf5, (mR 326 _ (by omega) (by omega)).1, hf6, (mT _ _ (by omega)).1, (mT _ _ (by omega)).1, rcA _ _ (by omega), rcA _ _ (by omega), rrA _ _ (by omega), rrA _ _ (by omega), show 15 + (3 * k + i) = 3 * (5 + k) + i by omega, q4, q5, q6, q7]
              exact ⟨rfl, rfl⟩
          have I' : ITS MN T := by
            refine ⟨hT, iN', R0 (by omega) (fun a q => by unfold Jk at q; omega), R5 (by omega) (fun a q => by unfold Jk at q; omega), R1 (by omega) (fun a q => by unfold Jk at q; omega), fun j hj => ?_, R3 (by omega) (fun a q => by unfold Jk at q; omega), (R4 (by omega) (fun a q => by unfold Jk at q; omega)).1, (R4 (by omega) (fun a q => by unfold Jk at q; omega)).2, R6 (fun a q => by unfold Jk at q; omega), R7 (by omega) (by omega) (fun a q => by unfold Jk at q; omega)⟩
            rw [c2', k2] at hj
            by_cases z : j = k
            · rw [z]; exact iK'
            · refine (I.2.2.2.2.2.1 j (by omega)).cong (fun a p1 p2 => ?_) (fun i hi => ⟨?_, ?_, ?_, ?_⟩) (fun i hi => ?_)
              · have ha : hf a = 5 := by
                  have e : a = 321 ∨ a = 322 ∨ a = 323 ∨ a = 324 := by omega
                  rcases e with rfl | rfl | rfl | rfl <;> assumption
                rw [(mR a j (by omega) (by omega)).1, (mR a j (by omega) (by omega)).2, ha, rr _ _ (by omega) (by unfold krY; omega) (by omega)]
              · rw [(mR 325 _ (by omega) (by omega)).1, (mR 325 _ (by omega) (by omega)).2, hf5, rr _ _ (by omega) (by unfold krY; omega) (by omega)]
              · rw [(mR 326 _ (by omega) (by omega)).1, (mR 326 _ (by omega) (by omega)).2, hf6, rr _ _ (by omega) (by unfold krY; omega) (by omega)]
              · rw [(mT _ _ (by omega)).1, (mT _ _ (by omega)).2, rc _ _ (by omega) (by omega) (by omega) (by omega) (by omega)]
              · rw [(mT _ _ (by omega)).1, (mT _ _ (by omega)).2, rc _ _ (by omega) (by omega) (by omega) (by omega) (by omega)]
              · rw [(mT _ _ (by omega)).1, (mT _ _ (by omega)).2, rc _ _ (by omega) (by omega) (by omega) (by omega) (by omega)]
          rw [dN] at I'
          have N9 : NmR 2 Mc9 Mr9 := N1.gx oc19 or19 (fun a i q => by unfold ktX at q; omega) (fun a i q => by unfold krY at q; omega)
          have er9 : rdN Mr9 2 = k := by
            have z : rdN Mr9 2 = (Mr9.1 313 8).toNatClampNeg := rfl
            rw [z, c89, nI_clamp (by omega)]
          refine Or.inl ⟨st9, McA, MrA, by omega, ?_, ?_, ⟨h9.sets (fun a j q => rcA _ _ (by omega)) hcA (fun a j q => rrA _ _ (by omega)) hrA, by rw [hcA]; exact T9, N9.done (by omega) (rcA _ _ (by omega)) (funext (fun j => rcA _ _ (by omega))) (funext (fun j => rcA _ _ (by omega))) (by rw [hcA]) (by rw [hrA]) (fun t p1 p2 => rrA _ _ (by omega)) (by rw [er9, gA]; exact setI_s), I', ?_⟩, ?_, ?_⟩
          · rw [e11']
            unfold f_X7_tellKind_b141
            rw [T9, gd_t t8, T97, nI_1, bnd_e, ← dA]
          · rw [e12, c89, nI_1, ← gA]
          · obtain ⟨m, u1, u2, u3⟩ := U
            exact ⟨m, u1, by rw [rc _ _ (by omega) (by omega) (by omega) (by omega) (by omega)]; exact u2, fun j hj => by rw [rr _ _ (by omega) (by unfold krY; omega) (by omega)]; exact u3 j hj⟩
          · rw [dA]
            exact (oc1.p T).tr ((oc19.p xp).tr (fpc_T T _ (by omega)))
          · rw [gA]
            exact or1.p.tr ((or19.p yp).tr (fpr_I _ (by show 313 ≤ 313 ∧ 313 ≤ 339 ∧ 6 ≤ 8; omega)))
        · have e11' : f_X7_tellKind_b92 (4997 + 2 + 1) (T + 10 + 3 * k) 0 Mc8 = some (0, Mc9) := e11
          rw [e11', e12]
          exact Or.inr ⟨Mc9, Mr9, rfl, rfl, f9, (oc1.p T).tr ((oc7.tr ((oc8.mono (mcx 0)).tr (oc9.mono (mcx 1)))).p xp), or1.p.tr ((or7.tr ((or8.mono (mrx 0)).tr (or9.mono (mrx 1)))).p yp)⟩
      · have ef' : fuel = 4999 + 1 := rfl
        rw [e9, cl_s, if_pos rfl, e10, clv_s, ef', kl_d f8.1]
        exact Or.inr ⟨Mc8, Mr8, rfl, rfl, f8, (oc1.p T).tr ((oc7.tr (oc8.mono (mcx 0))).p xp), or1.p.tr ((or7.tr (or8.mono (mrx 0))).p yp)⟩
    · have e3' : f_X7_takeNumber 1 60 Mc1 = some (0, Mc2) := e3
      have e4' : f_X11_number 1 60 Mr1 = some (1, Mr2) := e4
      refine Or.inr ⟨Mc2, _, by rw [e3', cl_s, if_pos rfl], by rw [e4', cl_s]; exact kind_tail lt f2.1 1, (((f2.set (by omega)).set (by omega)).set (by omega)).set (by omega), (oc1.tr oc2.n).p T, (or1.tr or2.n).p.tr (GRx.p (X := krY k) ?_ yp)⟩
      exact (grx_I _ (by unfold krY; omega)).tr ((grx_I _ (by unfold krY; omega)).tr ((grx_I _ (by unfold krY; omega)).tr (grx_I _ (by unfold krY; omega))))
  · have e1' : f_X7_giveName 13 (nI k) Mc = some (0, Mc1) := by rw [hk]; exact e1
    have e2' : f_X11_newName 2 Mr = some Mr1 := e2
    have c8 : Mr1.1 313 8 = nI k := by rw [or1.2.2 _ _ (by omega), n1']
    have rd : f_X11_read 2 Mr1 = some (nI k, Mr1) := read_f (s := 2) c8 (by omega)
    refine Or.inr ⟨Mc1, _, by rw [e1', cl_s, if_pos rfl], by rw [e2', clv_s, rd, cl_s, i5, bnd_e, number_d f1.1, cl_s]; exact kind_tail lt f1.1 1, (((f1.set (by omega)).set (by omega)).set (by omega)).set (by omega), oc1.p T, or1.p.tr (GRx.p (X := krY k) ?_ yp)⟩
    exact (grx_I _ (by unfold krY; omega)).tr ((grx_I _ (by unfold krY; omega)).tr ((grx_I _ (by unfold krY; omega)).tr (grx_I _ (by unfold krY; omega))))
