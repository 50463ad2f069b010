/-! a play's line -/
theorem i32_nat {x : Int32} {m : Nat} (h0 : 0 ≤ x.toInt) (h1 : x.toInt ≤ m) (hm : m < 2 ^ 31) : ∃ l, l ≤ m ∧ x = nI l := by
  refine ⟨x.toInt.toNat, by omega, Int32.toInt_inj.mp ?_⟩
  rw [nI_toInt (by omega)]
  omega
def LRP (n : Nat) (B : Nat → Nat) (T : Nat) (rc : Option (Int32 × Mem)) (rr : Option Mem) (Mc Mr : Mem) (st : Nat) : Prop :=
  LR n B T rc rr Mc Mr st ∨ ∃ st' Mc0 Mc' Mr', ctN n B st' ≠ 5 ∧ rc = some (0, Mc') ∧ f_X7_fail 1 Mc0 = some (0, Mc') ∧ rr = some Mr' ∧ LPt n B st' Mc0 Mr' ∧ FPC T Mc Mc0 ∧ FPR Mr Mr'
set_option maxHeartbeats 16000000 in
theorem play_ls {n : Nat} {B : Nat → Nat} {T st : Nat} {Mc Mr : Mem} (h : PP n B T st Mc Mr) (lt : rdN Mr 4 < 8) : LRP n B T (f_X7_tellPlay Mc) (f_X11_playLine Mr) Mc Mr st := by
  have hT := h.tt
  have tc := tt_208 hT
  have t8 := tt_0 hT
  obtain ⟨-, -, -, -, -, -, -, tr12, -⟩ := tt_r hT
  obtain ⟨n1, -, n3, -⟩ := h.cnt (s := 4) (by omega)
  have n3' : Mc.1 T 11 = nI (rdN Mr 4) := n3
  obtain ⟨hl, eT, N, I, U⟩ := h
  have hst := hl.1
  obtain ⟨p, hk⟩ : ∃ p, p = rdN Mr 4 := ⟨_, rfl⟩
  rw [← hk] at n1 n3' lt
  have n1' : Mr.1 313 10 = nI p := n1
  obtain ⟨tp1, -, -, -, -, tps⟩ := tt_p hT p lt
  have i8 : 8 + nI p = nI (8 + p) := nI_add _ _
  have yp : ∀ a i, prY p a i → 313 ≤ a ∧ a ≤ 339 ∧ hf a ≤ i := fun a i q => prY_p q
  have xp : ∀ a i, ptX T p a i → T ≤ a ∧ a ≤ T + 70 := fun a i q => by unfold ptX at q; omega
  -- the tick before
  have lst : ∃ l, l ≤ 999 ∧ (p = 0 → l = 0) ∧ (p ≠ 0 → Mc.1 (T + 31 + 5 * (p - 1)) 0 = nI l ∧ Mr.1 330 (8 + p - 1) = nI l ∧ (mixM Mc Mr).1 330 (p - 1) = nI l) := by
    by_cases z : p = 0
    · exact ⟨0, by omega, fun _ => rfl, fun q => absurd z q⟩
    · have ip := I.2.2.2.2.2.2.2.1 (p - 1) (by rw [cn_mix, ← hk]; omega)
      obtain ⟨⟨⟨x0, x1⟩, -⟩, ⟨x2, -⟩, -⟩ := ip
      obtain ⟨l, hl1, hl2⟩ := i32_nat (m := 999) x0 x1 (by omega)
      refine ⟨l, hl1, fun q => absurd q z, fun _ => ⟨?_, ?_, hl2⟩⟩
      · rw [← hl2, ← x2, mix_c _ _ (by omega)]
      · rw [← hl2, mix_r _ _ (by omega) (by omega), hf_p 330 (by omega) (by omega), if_pos (by omega), show 8 + p - 1 = 8 + (p - 1) by omega]
  obtain ⟨l, l9, l0, lv⟩ := lst
  obtain ⟨Mc0, d0⟩ : ∃ X, X = setI (setI (setI Mc (T + 31 + 5 * p) 5 0) (T + 31 + 5 * p) 10 (-3)) (T + 31 + 5 * p) 11 (-3) := ⟨_, rfl⟩
  have rc0 : ∀ a j, a ≠ T + 31 + 5 * p → Mc0.1 a j = Mc.1 a j := fun a j q => by rw [d0, setI_n (by omega), setI_n (by omega), setI_n (by omega)]
  have ec0 : f_X6_clear (T + 31 + 5 * p) Mc = some Mc0 := by
    unfold f_X6_clear
    rw [gd_t tps, bnd_e, bnd_e, bnd_e, ← d0]
  have h0 : LPt n B st Mc0 Mr := hl.sets (fun a i q => rc0 _ _ (by omega)) (by rw [d0]; rfl) (fun _ _ _ => rfl) rfl
  have oc0 : GCx (ptX T p) Mc Mc0 := by rw [d0]; exact (gcx_I _ (by unfold ptX; omega)).tr ((gcx_I _ (by unfold ptX; omega)).tr (gcx_I _ (by unfold ptX; omega)))
  have N0 : NmR 6 Mc0 Mr := N.gx oc0 (GRx.refl (fun _ _ => False) Mr) (fun a i q => by unfold ptX at q; omega) (fun a i q => absurd q id)
  have T0 : Mc0.2.2.1 208 1 = T := by rw [oc0.2.2.1 _ _ (by omega), eT]
  have T011 : Mc0.1 T 11 = nI p := by rw [rc0 _ _ (by omega), n3']
  have ec : f_X7_tellPlay Mc = f_X7_tellPlay_b54 (T + 31 + 5 * p) (nI l) Mc0 := by
    unfold f_X7_tellPlay
    rw [eT, gd_t t8, n3', gd_t (inb_nI (by omega) (by omega)), nI_clamp (show p < 2 ^ 31 by omega), tr12, tp1, bnd_e, ec0, clv_s, T0, gd_t t8, T011]
    by_cases z : p = 0
    · rw [if_pos (show nI p = 0 by rw [z]; rfl), l0 z]; rfl
    · obtain ⟨tpp, -⟩ := tt_p hT (p - 1) (by omega)
      rw [if_neg (show ¬ nI p = 0 from fun q => z ((nI_eq (a := p) (b := 0) (by omega) (by omega)).mp q)), nI_p1 (by omega), gd_t (inb_nI (by omega) (by omega)), nI_clamp (show p - 1 < 2 ^ 31 by omega), tr12, tpp, rc0 _ _ (by omega), (lv z).1]
  rw [ec, b54_k, T0, gd_t t8, T011]
  have er : ∀ Mr1, f_X11_newName 4 Mr = some Mr1 → (∀ a j, ¬ (a = 311 ∧ (4 ≤ j ∧ j ≤ 10)) → Mr1.1 a j = Mr.1 a j) → f_X11_playLine Mr = cl (f_X11_number (nI l) 999 Mr1) (pk1 (nI (8 + p))) := fun Mr1 e1 or => by
    have c10 : Mr1.1 313 10 = nI p := by rw [or _ _ (by omega), n1']
    have rd : f_X11_read 4 Mr1 = some (nI p, Mr1) := read_f (s := 4) c10 (by omega)
    unfold f_X11_playLine
    rw [e1, clv_s, rd, cl_s, i8, bnd_e, rd, cl_s]
    by_cases z : p = 0
    · rw [if_pos (show nI p = 0 by rw [z]; rfl), b40_k, l0 z]; rfl
    · rw [if_neg (show ¬ nI p = 0 from fun q => z ((nI_eq (a := p) (b := 0) (by omega) (by omega)).mp q)), nI_p1 (by omega), gd_t (inb_nI (by omega) (by omega)), nI_clamp (show 8 + p - 1 < 2 ^ 31 by omega), or _ _ (by omega), (lv z).2.1, b40_k]
  rcases name_ls h0 N0 (s := 4) (by omega) (by rw [← hk]; exact lt) with ⟨Mc1, Mr1, l1, e1, e2, h1, N1, oc1, or1⟩ | ⟨Mc1, Mr1, e1, e2, f1, oc1, or1⟩
  · have e1' : f_X7_giveName 15 (nI p) Mc0 = some (1, Mc1) := by rw [hk]; exact e1
    rw [er Mr1 e2 or1.2.2, e1', cl_s, if_neg (show ¬ (1 : Int32) = 0 by decide)]
    have b1 := (nx_le (B := B) hst).2 l1
    have cc : ∀ i, Mc1.1 (T + 31 + 5 * p) i = Mc0.1 (T + 31 + 5 * p) i := fun i => oc1.2.2.2 _ _ (by omega) (by omega) (by omega)
    have rdE : ∀ s, rdN Mr1 s = rdN Mr s := fun s => by unfold rdN; rw [or1.2.2 _ _ (by omega)]
    have F1 : FPC T Mc Mc1 := (oc0.p xp).tr (oc1.p T)
    rcases pmid_ls (l := l) hT lt ⟨by decide, by decide, by decide⟩ l9 h1 N1 (by rw [cc, d0, setI_n (by omega), setI_n (by omega), setI_s]; rfl) (by rw [cc, d0, setI_n (by omega), setI_s]) (by rw [cc, d0, setI_s]) with ⟨f, st', v, k, s, w, b, Mc9, Mr9, l9', f10, v1, v2, hk2, hs1, w99, ec9, er9, h9, ⟨c0, c1, c2, c3, c4, c5, c10, c11⟩, ⟨r0, r1, r2, r3, r4, r5⟩, P, oc, or⟩ | ⟨st', Mc2, Mc', Mr', z0, z1, z2, z3, z4, z5, z6⟩ | ⟨Mc', Mr', z1, z2, z3, z4, z5⟩
    · rw [rdE] at hk2 hs1 P
      have T9 : Mc9.2.2.1 208 1 = T := by rw [oc.2.2.1 _ _ (by omega), oc1.2.2.1 _ _ (by omega) (by omega), T0]
      have T911 : Mc9.1 T 11 = nI p := by rw [oc.2.2.2 _ _ (by unfold ptX; omega) (by omega), oc1.2.2.2 _ _ (by omega) (by omega) (by omega), T011]
      have c910 : Mr9.1 313 10 = nI p := by rw [or.2.2 _ _ (by unfold prY; omega) (by omega), or1.2.2 _ _ (by omega), n1']
      obtain ⟨McA, dA⟩ : ∃ X, X = setI Mc9 T 11 (nI (p + 1)) := ⟨_, rfl⟩
      obtain ⟨MrA, gA⟩ : ∃ X, X = setI Mr9 313 10 (nI (p + 1)) := ⟨_, rfl⟩
      have rcA : ∀ a j, ¬ (a = T ∧ j = 11) → McA.1 a j = Mc9.1 a j := fun a j q => by rw [dA, setI_n (by omega)]
      have rrA : ∀ a j, ¬ (a = 313 ∧ j = 10) → MrA.1 a j = Mr9.1 a j := fun a j q => by rw [gA, setI_n (by omega)]
      have rc : ∀ a j, ¬ (a = T ∧ j = 11) → ¬ (T + 31 + 5 * p ≤ a ∧ a ≤ T + 35 + 5 * p) → ¬ (a = 208 ∧ (3 ≤ j ∧ j ≤ 9)) → a ≠ 209 → a ≠ 211 → McA.1 a j = Mc.1 a j := fun a j q1 q2 q3 q4 q5 => by
        rw [rcA _ _ q1, oc.2.2.2 _ _ (by unfold ptX; omega) (by omega), oc1.2.2.2 _ _ q3 q4 q5, rc0 _ _ (by omega)]
      have rr : ∀ a j, ¬ (a = 313 ∧ j = 10) → ¬ prY p a j → ¬ (a = 311 ∧ (4 ≤ j ∧ j ≤ 10)) → MrA.1 a j = Mr.1 a j := fun a j q1 q2 q3 => by
        rw [rrA _ _ q1, or.2.2 _ _ q2 q3, or1.2.2 _ _ q3]
      have hcA : McA.2 = Mc9.2 := by rw [dA]; rfl
      have hrA : MrA.2 = Mr9.2 := by rw [gA]; rfl
      obtain ⟨MM, dM⟩ : ∃ X, X = mixM Mc Mr := ⟨_, rfl⟩
      obtain ⟨MN, dN⟩ : ∃ X, X = mixM McA MrA := ⟨_, rfl⟩
      rw [← dM] at I lv
      have cM : ∀ s, Cn MM s = rdN Mr s := fun s => by rw [dM, cn_mix]
      have mR : ∀ a j, 313 ≤ a → a ≤ 339 → MN.1 a j = MrA.1 a (hf a + j) ∧ MM.1 a j = Mr.1 a (hf a + j) := fun a j p1 p2 => by
        rw [dM, dN, mix_r _ _ p1 p2, mix_r _ _ p1 p2]
        exact ⟨rfl, rfl⟩
      have mT : ∀ a j, a < 208 → MN.1 a j = McA.1 a j ∧ MM.1 a j = Mc.1 a j := fun a j ha => by
        rw [dM, dN, mix_c _ _ (by omega), mix_c _ _ (by omega)]
        exact ⟨rfl, rfl⟩
      have rw1 : ∀ a, ¬ (Jk a ∨ a = 313 ∨ (330 ≤ a ∧ a ≤ 339) ∨ a = T ∨ (T + 31 ≤ a ∧ a ≤ T + 70)) → MN.1 a = MM.1 a := fun a ha => by
        rw [dM, dN]
        unfold Jk at ha
        exact mix_row (fun z => funext (fun j => rc a j (by omega) (by omega) (by omega) (by omega) (by omega))) (fun z1 z2 j => rr a _ (by omega) (by unfold prY; omega) (by omega)) (by omega)
      have k4 : Cn MM 4 = p := by rw [cM, ← hk]
      have h6 : hf 313 = 6 := rfl
      have h8 : ∀ a, 330 ≤ a → a ≤ 335 → hf a = 8 := fun a q1 q2 => by rw [hf_p a (by omega) (by omega), if_pos q2]
      have h80 : ∀ a, 336 ≤ a → a ≤ 339 → hf a = 80 := fun a q1 q2 => by rw [hf_p a (by omega) (by omega), if_neg (by omega)]
      have ad := I.2.1.add (M' := MN) (s0 := 4) (by omega) (by rw [k4]; exact lt) (by rw [(mR 313 4 (by omega) (by omega)).1, k4, gA, h6]; exact setI_s) (fun s p1 p2 => by rw [(mR 313 s (by omega) (by omega)).1, (mR 313 s (by omega) (by omega)).2, h6, rr _ _ (by omega) (by unfold prY; omega) (by omega)]) (by rw [(mT T _ (by omega)).1, k4, dA]; exact setI_s) (fun s p1 p2 => by
        have ns : sl s ≠ 11 := fun q => p2 (sl_inj s p1 4 (by omega) q)
        rw [(mT T _ (by omega)).1, (mT T _ (by omega)).2, rc _ _ (by omega) (by omega) (by omega) (by omega) (by omega)])
      obtain ⟨iN', c4', cs'⟩ := ad
      obtain ⟨R0, R5, R1, R2, R3, -, R6, R7⟩ := I.rest 4 cs' (by rw [c4']; omega) _ rw1
      have e0 : Cn MN 0 = rdN Mr 0 := by rw [cs' 0 (by omega) (by omega), cM]
      have e1n : Cn MN 1 = rdN Mr 1 := by rw [cs' 1 (by omega) (by omega), cM]
      have e2n : Cn MN 2 = rdN Mr 2 := by rw [cs' 2 (by omega) (by omega), cM]
      have vc : ∀ i, MN.1 (T + 31 + 5 * p) i = Mc9.1 (T + 31 + 5 * p) i := fun i => by rw [(mT _ _ (by omega)).1, rcA _ _ (by omega)]
      have vr : ∀ a, 330 ≤ a → a ≤ 335 → MN.1 a p = Mr9.1 a (8 + p) := fun a q1 q2 => by rw [(mR a p (by omega) (by omega)).1, h8 a q1 q2, rrA _ _ (by omega)]
      have fn : Fn MN p = f := by
        have z : Fn MN p = (MN.1 335 p).toNatClampNeg := rfl
        rw [z, vr 335 (by omega) (by omega), r5, nI_clamp (by omega)]
      have vf : ∀ a, 336 ≤ a → a ≤ 339 → ∀ i, MN.1 a (10 * p + i) = Mr9.1 a (10 * (8 + p) + i) := fun a q1 q2 i => by rw [(mR a _ (by omega) (by omega)).1, h80 a q1 q2, rrA _ _ (by omega), show 80 + (10 * p + i) = 10 * (8 + p) + i by omega]
      have vt : ∀ a, T + 32 + 5 * p ≤ a → a ≤ T + 35 + 5 * p → ∀ i, MN.1 a i = Mc9.1 a i := fun a q1 q2 i => by rw [(mT a i (by omega)).1, rcA _ _ (by omega)]
      have iP' : iP MN T (Cn MN 0) (Cn MN 1) (Cn MN 2) p := by
        unfold iP
        rw [fn, e0, e1n, e2n, vc 0, vc 1, vc 2, vc 3, vc 4, vc 5, vc 10, vc 11, vr 330 (by omega) (by omega), vr 331 (by omega) (by omega), vr 332 (by omega) (by omega), vr 333 (by omega) (by omega), vr 334 (by omega) (by omega), vr 335 (by omega) (by omega), c0, c1, c2, c3, c4, c5, c10, c11, r0, r1, r2, r3, r4, r5]
        refine ⟨⟨i32_09 (lo := 0) (hi := 999) ⟨by omega, v2⟩ (by omega), ⟨k, hk2, rfl⟩, ⟨s, hs1, rfl⟩, i32_09 (lo := 0) (hi := 99) ⟨by omega, w99⟩ (by omega), by cases b; exact Or.inl rfl; exact Or.inr rfl, ⟨rfl, f10⟩, fun i hi => ?_⟩, ⟨rfl, rfl, rfl, rfl, rfl, rfl, fun i hi => ?_⟩, rfl, rfl⟩
        · obtain ⟨c, t, y, z, q1, q2, q3, q4, q5, q6, q7, q8, q9, q10, q11, q12⟩ := P i hi
          rw [vf 336 (by omega) (by omega), vf 337 (by omega) (by omega), vf 338 (by omega) (by omega), vf 339 (by omega) (by omega), q9, q10, q11, q12]
          exact ⟨⟨c, q1, rfl⟩, i32_09 (lo := 0) (hi := 999) ⟨by omega, q2⟩ (by omega), ⟨y, q3, rfl⟩, ⟨z, q4, rfl⟩⟩
        · obtain ⟨c, t, y, z, q1, q2, q3, q4, q5, q6, q7, q8, q9, q10, q11, q12⟩ := P i hi
          rw [vf 336 (by omega) (by omega), vf 337 (by omega) (by omega), vf 338 (by omega) (by omega), vf 339 (by omega) (by omega), q9, q10, q11, q12, vt _ (by omega) (by omega), vt _ (by omega) (by omega), vt _ (by omega) (by omega), vt _ (by omega) (by omega), q5, q6, q7, q8]
          exact ⟨rfl, rfl, rfl, rfl⟩
      have old : ∀ j, j < p → iP MN T (Cn MN 0) (Cn MN 1) (Cn MN 2) j := fun j hj => by
        refine (I.2.2.2.2.2.2.2.1 j (by omega)).cong (by rw [cs' 0 (by omega) (by omega)]; exact Nat.le_refl _) (by rw [cs' 1 (by omega) (by omega)]; exact Nat.le_refl _) (by rw [cs' 2 (by omega) (by omega)]; exact Nat.le_refl _) (fun a q1 q2 => ?_) (fun i hi => ⟨fun a q1 q2 => ?_, fun a q1 q2 => ?_⟩) (fun i hi => ?_)
        · rw [(mR a j (by omega) (by omega)).1, (mR a j (by omega) (by omega)).2, h8 a q1 q2, rr _ _ (by omega) (by unfold prY; omega) (by omega)]
        · rw [(mR a _ (by omega) (by omega)).1, (mR a _ (by omega) (by omega)).2, h80 a q1 q2, rr _ _ (by omega) (by unfold prY; omega) (by omega)]
        · rw [(mT _ _ (by omega)).1, (mT _ _ (by omega)).2, rc _ _ (by omega) (by omega) (by omega) (by omega) (by omega)]
        · rw [(mT _ _ (by omega)).1, (mT _ _ (by omega)).2, rc _ _ (by omega) (by omega) (by omega) (by omega) (by omega)]
      have o330 : ∀ j, j < p → MN.1 330 j = MM.1 330 j := fun j hj => by
        rw [(mR 330 j (by omega) (by omega)).1, (mR 330 j (by omega) (by omega)).2, h8 330 (by omega) (by omega), rr _ _ (by omega) (by unfold prY; omega) (by omega)]
      have I' : ITS MN T := by
        refine ⟨hT, iN', R0 (by omega) (fun a q => by unfold Jk at q; omega), R5 (by omega) (fun a q => by unfold Jk at q; omega), R1 (by omega) (fun a q => by unfold Jk at q; omega), R2 (by omega) (fun a q => by unfold Jk at q; omega), R3 (by omega) (fun a q => by unfold Jk at q; omega), fun j hj => ?_, fun j hj => ?_, R6 (fun a q => by unfold Jk at q; omega), R7 (by omega) (by omega) (fun a q => by unfold Jk at q; omega)⟩
        · rw [c4', k4] at hj
          by_cases z : j = p
          · rw [z]; exact iP'
          · exact old j (by omega)
        · rw [c4', k4] at hj
          by_cases z : j + 1 = p
          · rw [o330 j (by omega), z, vr 330 (by omega) (by omega), r0]
            have e := (lv (by omega)).2.2
            rw [show p - 1 = j by omega] at e
            rw [e, nI_toInt (by omega), nI_toInt (by omega)]
            omega
          · rw [o330 j (by omega), o330 (j + 1) (by omega)]
            exact I.2.2.2.2.2.2.2.2.1 j (by omega)
      rw [dN] at I'
      have N9 : NmR 4 Mc9 Mr9 := N1.gx oc or (fun a i q => by unfold ptX at q; omega) (fun a i q => by unfold prY at q; omega)
      have er9' : rdN Mr9 4 = p := by
        have z : rdN Mr9 4 = (Mr9.1 313 10).toNatClampNeg := rfl
        rw [z, c910, nI_clamp (by omega)]
      refine Or.inl (Or.inl ⟨st', McA, MrA, by omega, ?_, ?_, ⟨h9.sets (fun a j q => rcA _ _ (by omega)) hcA (fun a j q => rrA _ _ (by omega)) hrA, by rw [hcA]; exact T9, N9.done (by omega) (rcA _ _ (by omega)) (funext (fun j => rcA _ _ (by omega))) (funext (fun j => rcA _ _ (by omega))) (by rw [hcA]) (by rw [hrA]) (fun t p1 p2 => rrA _ _ (by omega)) (by rw [er9', gA]; exact setI_s), I', ?_⟩, ?_, ?_⟩)
      · rw [ec9]
        unfold f_X7_tellPlay_b234
        rw [T9, gd_t t8, T911, nI_1, bnd_e, ← dA]
      · rw [er9, c910, nI_1, ← gA]
      · obtain ⟨m, u1, u2, u3⟩ := U
        exact ⟨m, u1, by rw [rc _ _ (by omega) (by omega) (by omega) (by omega) (by omega)]; exact u2, fun j hj => by rw [rr _ _ (by omega) (by unfold prY; omega) (by omega)]; exact u3 j hj⟩
      · rw [dA]
        exact F1.tr ((oc.p xp).tr (fpc_T T _ (by omega)))
      · rw [gA]
        exact or1.p.tr ((or.p yp).tr (fpr_I _ (by show 313 ≤ 313 ∧ 313 ≤ 339 ∧ 6 ≤ 10; omega)))
    · refine Or.inr ⟨st', Mc2, Mc', _, z0, z1, z2, z3, z4.sets (fun _ _ _ => rfl) rfl (fun a j q => setI_n (by omega)) rfl, F1.tr (z5.p xp), or1.p.tr ((z6.p yp).tr (fpr_I _ (by show 313 ≤ 313 ∧ 313 ≤ 339 ∧ 6 ≤ 10; omega)))⟩
    · exact Or.inl (Or.inr ⟨Mc', Mr', z1, z2, z3, F1.tr (z4.p xp), or1.p.tr (z5.p yp)⟩)
  · have e1' : f_X7_giveName 15 (nI p) Mc0 = some (0, Mc1) := by rw [hk]; exact e1
    rw [er Mr1 e2 or1.2.2, e1', cl_s, if_pos rfl, number_d f1.1, cl_s, pk1_d f1.1 (by omega)]
    refine Or.inl (Or.inr ⟨Mc1, _, rfl, rfl, (((f1.set (by omega)).set (by omega)).set (by omega)).set (by omega), (oc0.p xp).tr (oc1.p T), or1.p.tr (GRx.p (X := prY p) ?_ yp)⟩)
    exact (grx_I _ (by unfold prY; omega)).tr ((grx_I _ (by unfold prY; omega)).tr ((grx_I _ (by unfold prY; omega)).tr (grx_I _ (by unfold prY; omega))))
