/-! a board -/
def btX (T b : Nat) (a _i : Nat) : Prop := T + 25 + 2 * b ≤ a ∧ a ≤ T + 26 + 2 * b
def brY (b : Nat) (a i : Nat) : Prop := ((a = 327 ∨ a = 328) ∧ i = 3 + b) ∨ (a = 329 ∧ 21 + 7 * b ≤ i ∧ i < 28 + 7 * b)
theorem hf_b : hf 327 = 3 ∧ hf 328 = 3 ∧ hf 329 = 21 := by decide
theorem brY_p {b a i : Nat} (h : brY b a i) : 313 ≤ a ∧ a ≤ 339 ∧ hf a ≤ i := by
  obtain ⟨h1, h2, h3⟩ := hf_b
  rcases h with ⟨rfl | rfl, x3⟩ | ⟨rfl, x2, x3⟩
  · omega
  · omega
  · omega
theorem b48_d {Mr : Mem} (h9 : Mr.1 311 9 ≠ 0) (x y : Int32) : (if (Mr.1 311 6) = 40 then f_X11_boardLine_b48 x 1 Mr else f_X11_boardLine_b48 x y Mr) = some Mr := by
  unfold f_X11_boardLine_b48
  rw [must_d h9, cl_s, must_d h9, cl_s, if_pos rfl]
  split <;> rfl
set_option maxHeartbeats 16000000 in
theorem board_ls {n : Nat} {B : Nat → Nat} {T st : Nat} {Mc Mr : Mem} (h : PP n B T st Mc Mr) (lt : rdN Mr 3 < 3) : LR n B T (f_X7_tellBoard Mc) (f_X11_boardLine Mr) Mc Mr st := by
  have hT := h.tt
  have tc := tt_208 hT
  have t8 := tt_0 hT
  obtain ⟨-, -, -, -, -, -, tr10, -⟩ := tt_r hT
  obtain ⟨n1, -, n3, -⟩ := h.cnt (s := 3) (by omega)
  have n3' : Mc.1 T 9 = nI (rdN Mr 3) := n3
  obtain ⟨hl, eT, N, I, U⟩ := h
  have hst := hl.1
  obtain ⟨b, hk⟩ : ∃ b, b = rdN Mr 3 := ⟨_, rfl⟩
  rw [← hk] at n1 n3' lt
  have n1' : Mr.1 313 9 = nI b := n1
  obtain ⟨tb1, tb2, tbs⟩ := tt_b hT b lt
  have i3 : 3 + nI b = nI (3 + b) := nI_add _ _
  have yp : ∀ a i, brY b a i → 313 ≤ a ∧ a ≤ 339 ∧ hf a ≤ i := fun a i q => brY_p q
  have xp : ∀ a i, btX T b a i → T ≤ a ∧ a ≤ T + 70 := fun a i q => by unfold btX at q; omega
  unfold f_X7_tellBoard f_X11_boardLine
  rw [eT, gd_t t8, n3', gd_t (inb_nI (by omega) (by omega)), nI_clamp (show b < 2 ^ 31 by omega), tr10, tb1, bnd_e]
  rcases name_ls hl N (s := 3) (by omega) (by rw [← hk]; exact lt) with ⟨Mc1, Mr1, l1, e1, e2, h1, N1, oc1, or1⟩ | ⟨Mc1, Mr1, e1, e2, f1, oc1, or1⟩
  · have e1' : f_X7_giveName 14 (nI b) Mc = some (1, Mc1) := by rw [hk]; exact e1
    have e2' : f_X11_newName 3 Mr = some Mr1 := e2
    have c9 : Mr1.1 313 9 = nI b := by rw [or1.2.2 _ _ (by omega), n1']
    have rd : f_X11_read 3 Mr1 = some (nI b, Mr1) := read_f (s := 3) c9 (by omega)
    have b1 := (nx_le (B := B) hst).2 l1
    rw [e1', cl_s, if_neg (show ¬ (1 : Int32) = 0 by decide), e2', clv_s, rd, cl_s, i3, bnd_e]
    rcases num_ls h1 (lo := 1) (hi := 9) (by omega) (by omega) with ⟨v, Mc2, Mr2, v1, v2, l2, e3, q7, e4, h2, oc2, or2⟩ | ⟨Mc2, Mr2, e3, e4, f2, oc2, or2⟩
    · have e3' : f_X7_takeNumber 1 9 Mc1 = some (1, Mc2) := e3
      have e4' : f_X11_number 1 9 Mr1 = some (nI v, Mr2) := e4
      have b2 := (nx_le (B := B) h1.1).2 l2
      obtain ⟨Mc3, d3⟩ : ∃ X, X = setI (setI Mc2 (T + 25 + 2 * b) 0 (nI v)) (T + 25 + 2 * b) 1 0 := ⟨_, rfl⟩
      obtain ⟨Mr3, g3⟩ : ∃ X, X = setI (setI Mr2 327 (3 + b) (nI v)) 328 (3 + b) 0 := ⟨_, rfl⟩
      have h3 : LPt n B (nx n B (nx n B st)) Mc3 Mr3 := h2.sets (fun c i q => by rw [d3, setI_n (by omega), setI_n (by omega)]) (by rw [d3]; rfl) (fun c i q => by rw [g3, setI_n (by omega), setI_n (by omega)]) (by rw [g3]; rfl)
      have oc3 : GCx (btX T b) Mc1 Mc3 := by rw [d3]; exact (oc2.x _).tr ((gcx_I _ (by unfold btX; omega)).tr (gcx_I _ (by unfold btX; omega)))
      have or3 : GRx (brY b) Mr1 Mr3 := by rw [g3]; exact (or2.x _).tr ((grx_I _ (by unfold brY; omega)).tr (grx_I _ (by unfold brY; omega)))
      have w1 : Mc3.1 (T + 25 + 2 * b) 0 = nI v := by rw [d3, setI_n (by omega), setI_s]
      have w2 : Mr3.1 327 (3 + b) = nI v := by rw [g3, setI_n (by omega), setI_s]
      have z3 : Mc3.1 (T + 25 + 2 * b) 1 = nI 0 := by rw [d3, setI_s]; rfl
      have y3 : Mr3.1 328 (3 + b) = nI 0 := by rw [g3, setI_s]; rfl
      have kw3 := (k_word (LPt.k h3)).2.2.2
      have r6 : (Mr3.1 311 6) = 40 ↔ ctN n B (nx n B (nx n B st)) = 6 := by
        rw [h3.2.2.1.2.2.1]
        exact k_sgn (LPt.k h3) (by unfold SgP; decide)
      rw [e3', cl_s, if_neg (show ¬ (1 : Int32) = 0 by decide), q7, bnd_e, bnd_e, ← d3, h3.2.1.2.2.2.1, gd_t kw3, e4', cl_s, gd_t (inb_nI (by omega) (by omega)), nI_clamp (show 3 + b < 2 ^ 31 by omega), bnd_e, bnd_e, ← g3]
      have mcx : ∀ j a i, bcX T b j a i → btX T b a i := fun j a i q => by unfold bcX at q; unfold btX; omega
      have mrx : ∀ j a i, brX b j a i → brY b a i := fun j a i q => by unfold brX at q; unfold brY; omega
      have ef1 : fuel = 4992 + 7 + 1 := rfl
      have ef2 : fuel = 4991 + 7 + 2 := rfl
      by_cases c6 : ctN n B (nx n B (nx n B st)) = 6
      · have N3 : NmR 3 Mc3 Mr3 := N1.gx oc3 or3 (fun a i q => by unfold btX at q; omega) (fun a i q => by unfold brY at q; omega)
        have hr3 : rdN Mr3 0 = rdN Mr 0 := by unfold rdN; rw [or3.2.2 _ _ (by unfold brY; omega) (by omega), or1.2.2 _ _ (by omega)]
        rw [if_pos c6, if_pos (r6.mpr c6)]
        unfold f_X11_boardLine_b48
        rw [must_t h3.2.2.2 (by decide), cl_s, if_neg (show ¬ (1 : Int32) = 0 by decide)]
        rcases bloop_ls (by decide) hT lt 4992 4991 7 0 (nx n B (nx n B st)) Mc3 Mr3 (by omega) h3 N3 hr3 z3 y3 (fun i hi => absurd hi (by omega)) with ⟨j, st9, Mc9, Mr9, l9, j7, e11, e12, h9, z9, y9, P9, oc9, or9⟩ | ⟨Mc9, Mr9, e11, e12, f9, oc9, or9⟩
        · have e11' : f_X7_tellBoard_b76 fuel (T + 25 + 2 * b) 0 Mc3 = f_X7_tellBoard_b124 Mc9 := e11
          have e12' : f_X11_boardLine_b56 fuel (nI (3 + b)) Mr3 = some (setI Mr9 313 9 (Mr9.1 313 9 + 1)) := e12
          have oc19 : GCx (btX T b) Mc1 Mc9 := oc3.tr (oc9.mono (mcx 0))
          have or19 : GRx (brY b) Mr1 Mr9 := or3.tr (or9.mono (mrx 0))
          have T9 : Mc9.2.2.1 208 1 = T := by rw [oc19.2.2.1 _ _ (by omega), oc1.2.2.1 _ _ (by omega) (by omega), eT]
          have T99 : Mc9.1 T 9 = nI b := by rw [oc19.2.2.2 _ _ (by unfold btX; omega) (by omega), oc1.2.2.2 _ _ (by omega) (by omega) (by omega), n3']
          have c99 : Mr9.1 313 9 = nI b := by rw [or19.2.2 _ _ (by unfold brY; omega) (by omega), c9]
          obtain ⟨McA, dA⟩ : ∃ X, X = setI Mc9 T 9 (nI (b + 1)) := ⟨_, rfl⟩
          obtain ⟨MrA, gA⟩ : ∃ X, X = setI Mr9 313 9 (nI (b + 1)) := ⟨_, rfl⟩
          have rcA : ∀ a j, ¬ (a = T ∧ j = 9) → McA.1 a j = Mc9.1 a j := fun a j q => by rw [dA, setI_n (by omega)]
          have rrA : ∀ a j, ¬ (a = 313 ∧ j = 9) → MrA.1 a j = Mr9.1 a j := fun a j q => by rw [gA, setI_n (by omega)]
          have rc : ∀ a j, ¬ (a = T ∧ j = 9) → ¬ (T + 25 + 2 * b ≤ a ∧ a ≤ T + 26 + 2 * b) → ¬ (a = 208 ∧ (3 ≤ j ∧ j ≤ 9)) → a ≠ 209 → a ≠ 211 → McA.1 a j = Mc.1 a j := fun a j q1 q2 q3 q4 q5 => by
            rw [rcA _ _ q1, oc19.2.2.2 _ _ (by unfold btX; omega) (by omega), oc1.2.2.2 _ _ q3 q4 q5]
          have rr : ∀ a j, ¬ (a = 313 ∧ j = 9) → ¬ brY b a j → ¬ (a = 311 ∧ (4 ≤ j ∧ j ≤ 10)) → MrA.1 a j = Mr.1 a j := fun a j q1 q2 q3 => by
            rw [rrA _ _ q1, or19.2.2 _ _ q2 q3, or1.2.2 _ _ q3]
          have hcA : McA.2 = Mc9.2 := by rw [dA]; rfl
          have hrA : MrA.2 = Mr9.2 := by rw [gA]; rfl
          obtain ⟨MM, dM⟩ : ∃ X, X = mixM Mc Mr := ⟨_, rfl⟩
          obtain ⟨MN, dN⟩ : ∃ X, X = mixM McA MrA := ⟨_, rfl⟩
          rw [← dM] at I
          have cM : ∀ s, Cn MM s = rdN Mr s := fun s => by rw [dM, cn_mix]
          have mR : ∀ a j, 313 ≤ a → a ≤ 339 → MN.1 a j = MrA.1 a (hf a + j) ∧ MM.1 a j = Mr.1 a (hf a + j) := fun a j p1 p2 => by
            rw [dM, dN, mix_r _ _ p1 p2, mix_r _ _ p1 p2]
            exact ⟨rfl, rfl⟩
          have mT : ∀ a j, a < 208 → MN.1 a j = McA.1 a j ∧ MM.1 a j = Mc.1 a j := fun a j ha => by
            rw [dM, dN, mix_c _ _ (by omega), mix_c _ _ (by omega)]
            exact ⟨rfl, rfl⟩
          have rw1 : ∀ a, ¬ (Jk a ∨ a = 313 ∨ (327 ≤ a ∧ a ≤ 329) ∨ a = T ∨ (T + 25 ≤ a ∧ a ≤ T + 30)) → MN.1 a = MM.1 a := fun a ha => by
            rw [dM, dN]
            unfold Jk at ha
            exact mix_row (fun z => funext (fun j => rc a j (by omega) (by omega) (by omega) (by omega) (by omega))) (fun z1 z2 j => rr a _ (by omega) (by unfold brY; omega) (by omega)) (by omega)
          have k3 : Cn MM 3 = b := by rw [cM, ← hk]
          have h6 : hf 313 = 6 := rfl
          obtain ⟨hf1, hf2, hf3⟩ := hf_b
          have ad := I.2.1.add (M' := MN) (s0 := 3) (by omega) (by rw [k3]; exact lt) (by rw [(mR 313 3 (by omega) (by omega)).1, k3, gA, h6]; exact setI_s) (fun s p1 p2 => by rw [(mR 313 s (by omega) (by omega)).1, (mR 313 s (by omega) (by omega)).2, h6, rr _ _ (by omega) (by unfold brY; omega) (by omega)]) (by rw [(mT T _ (by omega)).1, k3, dA]; exact setI_s) (fun s p1 p2 => by
            have ns : sl s ≠ 9 := fun q => p2 (sl_inj s p1 3 (by omega) q)
            rw [(mT T _ (by omega)).1, (mT T _ (by omega)).2, rc _ _ (by omega) (by omega) (by omega) (by omega) (by omega)])
          obtain ⟨iN', c3', cs'⟩ := ad
          obtain ⟨R0, R5, R1, R2, -, R4, R6, R7⟩ := I.rest 3 cs' (by rw [c3']; omega) _ rw1
          have c0' : Cn MN 0 = rdN Mr 0 := by rw [cs' 0 (by omega) (by omega), cM]
          have v1c : MN.1 (T + 25 + 2 * b) 0 = nI v := by rw [(mT _ _ (by omega)).1, rcA _ _ (by omega), oc9.2.2.2 _ _ (by unfold bcX; omega) (by omega), w1]
          have v2c : MN.1 (T + 25 + 2 * b) 1 = nI j := by rw [(mT _ _ (by omega)).1, rcA _ _ (by omega), z9]
          have v1r : MN.1 327 b = nI v := by rw [(mR 327 b (by omega) (by omega)).1, hf1, rrA _ _ (by omega), or9.2.2 _ _ (by unfold brX; omega) (by omega), w2]
          have v2r : MN.1 328 b = nI j := by rw [(mR 328 b (by omega) (by omega)).1, hf2, rrA _ _ (by omega), y9]
          have bn : Bn MN b = j := by
            have z : Bn MN b = (MN.1 328 b).toNatClampNeg := rfl
            rw [z, v2r, nI_clamp (by omega)]
          have iB' : iB MN T (Cn MN 0) b := by
            unfold iB
            rw [bn, v1c, v2c, v1r, v2r, c0']
            refine ⟨⟨i32_09 (lo := 1) (hi := 9) ⟨v1, v2⟩ (by omega), ⟨rfl, j7⟩, fun i hi => ?_⟩, rfl, rfl, fun i hi => ?_⟩
            · obtain ⟨s, q1, q2, q3⟩ := P9 i hi
              refine ⟨s, q1, ?_⟩
              rw [(mR 329 _ (by omega) (by omega)).1, hf3, rrA _ _ (by omega), ← q3, show 21 + (7 * b + i) = 7 * (3 + b) + i by omega]
            · obtain ⟨s, q1, q2, q3⟩ := P9 i hi
              rw [(mR 329 _ (by omega) (by omega)).1, hf3, (mT _ _ (by omega)).1, rcA _ _ (by omega), rrA _ _ (by omega), show 21 + (7 * b + i) = 7 * (3 + b) + i by omega, q2, q3]
          have I' : ITS MN T := by
            refine ⟨hT, iN', R0 (by omega) (fun a q => by unfold Jk at q; omega), R5 (by omega) (fun a q => by unfold Jk at q; omega), R1 (by omega) (fun a q => by unfold Jk at q; omega), R2 (by omega) (fun a q => by unfold Jk at q; omega), fun j hj => ?_, (R4 (by omega) (fun a q => by unfold Jk at q; omega)).1, (R4 (by omega) (fun a q => by unfold Jk at q; omega)).2, R6 (fun a q => by unfold Jk at q; omega), R7 (by omega) (by omega) (fun a q => by unfold Jk at q; omega)⟩
            rw [c3', k3] at hj
            by_cases z : j = b
            · rw [z]; exact iB'
            · refine (I.2.2.2.2.2.2.1 j (by omega)).cong (by rw [cs' 0 (by omega) (by omega)]; exact Nat.le_refl _) ⟨?_, ?_⟩ (fun i hi => ⟨?_, ?_⟩) (fun i hi => ?_)
              · rw [(mR 327 _ (by omega) (by omega)).1, (mR 327 _ (by omega) (by omega)).2, hf1, rr _ _ (by omega) (by unfold brY; omega) (by omega)]
              · rw [(mR 328 _ (by omega) (by omega)).1, (mR 328 _ (by omega) (by omega)).2, hf2, rr _ _ (by omega) (by unfold brY; omega) (by omega)]
              · rw [(mR 329 _ (by omega) (by omega)).1, (mR 329 _ (by omega) (by omega)).2, hf3, rr _ _ (by omega) (by unfold brY; omega) (by omega)]
              · rw [(mT _ _ (by omega)).1, (mT _ _ (by omega)).2, rc _ _ (by omega) (by omega) (by omega) (by omega) (by omega)]
              · rw [(mT _ _ (by omega)).1, (mT _ _ (by omega)).2, rc _ _ (by omega) (by omega) (by omega) (by omega) (by omega)]
          rw [dN] at I'
          have N9 : NmR 3 Mc9 Mr9 := N1.gx oc19 or19 (fun a i q => by unfold btX at q; omega) (fun a i q => by unfold brY at q; omega)
          have er9 : rdN Mr9 3 = b := by
            have z : rdN Mr9 3 = (Mr9.1 313 9).toNatClampNeg := rfl
            rw [z, c99, nI_clamp (by omega)]
          refine Or.inl ⟨st9, McA, MrA, by omega, ?_, ?_, ⟨h9.sets (fun a j q => rcA _ _ (by omega)) hcA (fun a j q => rrA _ _ (by omega)) hrA, by rw [hcA]; exact T9, N9.done (by omega) (rcA _ _ (by omega)) (funext (fun j => rcA _ _ (by omega))) (funext (fun j => rcA _ _ (by omega))) (by rw [hcA]) (by rw [hrA]) (fun t p1 p2 => rrA _ _ (by omega)) (by rw [er9, gA]; exact setI_s), I', ?_⟩, ?_, ?_⟩
          · rw [e11']
            unfold f_X7_tellBoard_b124
            rw [T9, gd_t t8, T99, nI_1, bnd_e, ← dA]
          · rw [e12', c99, nI_1, ← gA]
          · obtain ⟨m, u1, u2, u3⟩ := U
            exact ⟨m, u1, by rw [rc _ _ (by omega) (by omega) (by omega) (by omega) (by omega)]; exact u2, fun j hj => by rw [rr _ _ (by omega) (by unfold brY; omega) (by omega)]; exact u3 j hj⟩
          · rw [dA]
            exact (oc1.p T).tr ((oc19.p xp).tr (fpc_T T _ (by omega)))
          · rw [gA]
            exact or1.p.tr ((or19.p yp).tr (fpr_I _ (by show 313 ≤ 313 ∧ 313 ≤ 339 ∧ 6 ≤ 9; omega)))
        · have e11' : f_X7_tellBoard_b76 fuel (T + 25 + 2 * b) 0 Mc3 = some (0, Mc9) := e11
          have e12' : f_X11_boardLine_b56 fuel (nI (3 + b)) Mr3 = some Mr9 := e12
          rw [e11', e12']
          exact Or.inr ⟨Mc9, Mr9, rfl, rfl, f9, (oc1.p T).tr ((oc3.tr (oc9.mono (mcx 0))).p xp), or1.p.tr ((or3.tr (or9.mono (mrx 0))).p yp)⟩
      · obtain ⟨Mc', Mr', f1, f2, f3, f4, f5⟩ := fault h3 (k := 1) (by decide)
        rw [if_neg c6, if_neg (fun z => c6 (r6.mp z)), f1, cl_s, gd_t nar_b.1]
        unfold f_X11_boardLine_b48
        rw [f2, cl_s, if_pos rfl]
        exact Or.inr ⟨Mc', Mr', rfl, rfl, f3, (oc1.p T).tr ((oc3.tr (f4.x _)).p xp), or1.p.tr ((or3.tr (f5.x _)).p yp)⟩
    · have e3' : f_X7_takeNumber 1 9 Mc1 = some (0, Mc2) := e3
      have e4' : f_X11_number 1 9 Mr1 = some (1, Mr2) := e4
      have d9 : (setI (setI Mr2 327 (3 + b) 1) 328 (3 + b) 0).1 311 9 ≠ 0 := by rw [setI_n (by omega), setI_n (by omega)]; exact f2.1
      refine Or.inr ⟨Mc2, setI (setI Mr2 327 (3 + b) 1) 328 (3 + b) 0, by rw [e3', cl_s, if_pos rfl], by rw [e4', cl_s, gd_t (inb_nI (by omega) (by omega)), nI_clamp (show 3 + b < 2 ^ 31 by omega), bnd_e, bnd_e]; exact b48_d d9 _ _, (f2.set (by omega)).set (by omega), (oc1.tr oc2.n).p T, (or1.tr or2.n).p.tr (GRx.p (X := brY b) ?_ yp)⟩
      exact (grx_I _ (by unfold brY; omega)).tr (grx_I _ (by unfold brY; omega))
  · have e1' : f_X7_giveName 14 (nI b) Mc = some (0, Mc1) := by rw [hk]; exact e1
    have e2' : f_X11_newName 3 Mr = some Mr1 := e2
    have c9 : Mr1.1 313 9 = nI b := by rw [or1.2.2 _ _ (by omega), n1']
    have rd : f_X11_read 3 Mr1 = some (nI b, Mr1) := read_f (s := 3) c9 (by omega)
    have d9 : (setI (setI Mr1 327 (3 + b) 1) 328 (3 + b) 0).1 311 9 ≠ 0 := by rw [setI_n (by omega), setI_n (by omega)]; exact f1.1
    refine Or.inr ⟨Mc1, setI (setI Mr1 327 (3 + b) 1) 328 (3 + b) 0, by rw [e1', cl_s, if_pos rfl], by rw [e2', clv_s, rd, cl_s, i3, bnd_e, number_d f1.1, cl_s, gd_t (inb_nI (by omega) (by omega)), nI_clamp (show 3 + b < 2 ^ 31 by omega), bnd_e, bnd_e]; exact b48_d d9 _ _, (f1.set (by omega)).set (by omega), oc1.p T, or1.p.tr (GRx.p (X := brY b) ?_ yp)⟩
    exact (grx_I _ (by unfold brY; omega)).tr (grx_I _ (by unfold brY; omega))
