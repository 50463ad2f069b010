/-! THE LAW'S BEGINNING -/
section BEGUN
variable {N : Nat} {xs : Nat → Int32}
theorem list_z {P : Nat → List Pcb} (lp : List Nat) : lp = lp ++ byP (gpP P 0 0) := (List.append_nil lp).symm
/-- a play's line -/
theorem ply_l (hN : N < 2 ^ 30) {Q : Option (Int32 × Mem) → Prop} {M0 M : Mem} {j n p : Nat} {l lp : List Nat} (hp : p < snp (smN N xs)) {x3 : Int32} (C0 : Bc M0 j n l M) (hl : l = lp ++ byP (gpP (plyP (smN N xs)) 0 p)) (hL : l.length ≤ 480) {rec1 : Nat → Int32 → Int32 → Int32 → Int32 → Mem → Option (Int32 × Mem)}
    (k : ∀ M' l', Bc M0 (j + 44) n l' M' → l' = lp ++ byP (gpP (plyP (smN N xs)) 0 (p + 1)) → Q (rec1 n x3 (nI (snp (smN N xs))) (nI (smi (smN N xs) (p + 1))) (nI (p + 1)) M')) : Q (f_L_begins_b483_s N xs rec1 n x3 (nI (snp (smN N xs))) (nI (smi (smN N xs) p)) (nI p) M) := by
  have hs := smN_ok N xs
  have h4 : snp (smN N xs) ≤ 4 := (s_c7 hs).2.2
  have h5 : sfn (smN N xs) p < 5 := hs (64 + p) 5 (by omega)
  refine ply_h hN hp C0 hL (fun M1 l1 C1 e1 n1 => ?_)
  have fl : ∀ c, c ≤ sfn (smN N xs) p → (l1 ++ byP (gpP (frmP (smN N xs) p) 0 c)).length ≤ 545 := fun c hc => by
    have := gpP_len (P := frmP (smN N xs) p) (L := 10) c 0 (fun j _ _ => frmP_ln hs p j)
    rw [List.length_append]
    omega
  refine lp_inv (s := f_L_begins_b622_s N xs rec1) (fun c a f => f n x3 (nI (snp (smN N xs))) (nI (spm (smN N xs) p)) (nI p) (nI c) a) (fun c a => Bc M0 (j + 11 + 8 * c) n (l1 ++ byP (gpP (frmP (smN N xs) p) 0 c)) a) Q (sfn (smN N xs) p) (fun c hc a P f => Or.inr ?_) (fun a P f => ?_) fuel (show sfn (smN N xs) p < 5000 by omega) M1 (C1.le (by omega) |> fun z => (list_z (P := frmP (smN N xs) p) l1) ▸ z)
  · refine frm_l (Q := fun r => ∃ a', Bc M0 (j + 11 + 8 * (c + 1)) n (l1 ++ byP (gpP (frmP (smN N xs) p) 0 (c + 1))) a' ∧ r = f n x3 (nI (snp (smN N xs))) (nI (spm (smN N xs) p)) (nI p) (nI (c + 1)) a') hN (by omega) hc P rfl (Nat.le_trans (fl c (by omega)) (by omega)) (fun M' l' C' e' => ⟨M', by rw [← e']; exact C'.le (by omega), rfl⟩)
  · show Q (f_L_begins_b622_s N xs rec1 f n x3 (nI (snp (smN N xs))) (nI (spm (smN N xs) p)) (nI p) (nI (sfn (smN N xs) p)) a)
    have fe := fl _ (Nat.le_refl _)
    unfold f_L_begins_b622_s
    refine st_m hN (k := 64 + p) (m := 5) (nI_add 64 p) rfl (by omega) (by omega) (by omega) ?_
    rw [show smN N xs (64 + p) 5 = sfn (smN N xs) p from rfl, if_pos (Int32.le_refl _)]
    refine st_s P (i := 2) (w := 1) rfl (by decide) (by omega) (fun M2 l2 C2 e2 n2 => ?_)
    unfold f_L_begins_b789
    rw [bnd_e, nI_1]
    refine k _ _ (C2.le (by omega)) (line_e hl ?_)
    rw [e2, e1]
    show _ = l ++ byP ((plyH (smN N xs) p ++ gpP (frmP (smN N xs) p) 0 (sfn (smN N xs) p)) ++ [scP])
    rw [byP_app, byP_app]
    simp only [List.append_assoc]
    rfl
theorem begins_f (hN : N < 2 ^ 30) {M : Mem} (hI : Inv M) (hc : 247 ≤ M.2.2.2) (t1 : M.1 64 1 = nI 0) (t2 : M.1 311 2 = nI 0) : ∃ M', f_L_begins N xs M = some (1, M') ∧ Inv M' ∧ TolS (smN N xs) M' ∧ GX M M' ∧ Mk M M' 400 600000 := by
  have hs := smN_ok N xs
  have hf : snf (smN N xs) < 3 := hs 6 3 (by omega)
  have h4 : snp (smN N xs) ≤ 4 := (s_c7 hs).2.2
  obtain ⟨n, en⟩ : ∃ n, n = nn M := ⟨_, rfl⟩
  obtain ⟨M1, i1, C1⟩ := init_f hc
  obtain ⟨d1, -⟩ := dyo_nw (M := M) 11 0 4 hc
  have u : f_L_begins N xs M = f_L_begins_b10 N xs fuel n 0 M1 := by
    unfold f_L_begins f_L_begins_b3
    rw [bnd_e, gd_t (dq3 d1), i1, clv_s, en]
    rfl
  rw [u]
  rw [← en] at C1
  obtain ⟨Q, hQ⟩ : ∃ Q : Option (Int32 × Mem) → Prop, Q = fun r => ∃ M', r = some (1, M') ∧ Inv M' ∧ TolS (smN N xs) M' ∧ GX M M' ∧ Mk M M' 400 600000 := ⟨_, rfl⟩
  have fin : Q (f_L_begins_b10 N xs fuel n 0 M1) := by
    -- cameras
    refine lp_inv (s := f_L_begins_b10_s N xs) (fun i a f => f n (nI i) a) (fun i a => Bc M (7 * i) n ([] ++ byP (gpP (camP (smN N xs)) 0 i)) a) Q 3 (fun i hi a P f => Or.inr ?_) (fun a P f => ?_) fuel (by decide) M1 C1
    · have ll := gpP_len (P := camP (smN N xs)) (L := 14) i 0 (fun j _ _ => camP_ln hs j)
      exact cam_l (Q := fun r => ∃ a', Bc M (7 * (i + 1)) n ([] ++ byP (gpP (camP (smN N xs)) 0 (i + 1))) a' ∧ r = f n (nI (i + 1)) a') hN hi P rfl (by rw [List.nil_append]; omega) (fun M' l' C' e' => ⟨M', by rw [← e']; exact C'.le (by omega), rfl⟩)
    have l1 := gpP_len (P := camP (smN N xs)) (L := 14) 3 0 (fun j _ _ => camP_ln hs j)
    obtain ⟨lc, ec⟩ : ∃ l, l = [] ++ byP (gpP (camP (smN N xs)) 0 3) := ⟨_, rfl⟩
    have lcl : lc.length ≤ 42 := by rw [ec, List.nil_append]; omega
    rw [← ec] at P
    show Q (f_L_begins_b10_s N xs f n (nI 3) a)
    unfold f_L_begins_b10_s
    rw [if_pos (show (3 : Int32) ≤ nI 3 from Int32.le_refl _)]
    refine st_m hN (k := 6) (m := 3) rfl rfl (by omega) (by omega) (by omega) ?_
    rw [show smN N xs 6 3 = snf (smN N xs) from rfl]
    -- flashes
    refine lp_inv (s := f_L_begins_b89_s N xs) (fun i a f => f n (nI (snf (smN N xs))) (nI i) a) (fun i a => Bc M (21 + 9 * i) n (lc ++ byP (gpP (flaP (smN N xs)) 0 i)) a) Q (snf (smN N xs)) (fun i hi a P f => Or.inr ?_) (fun a P f => ?_) fuel (show snf (smN N xs) < 5000 by omega) a ((list_z (P := flaP (smN N xs)) lc) ▸ P)
    · have ll := gpP_len (P := flaP (smN N xs)) (L := 18) i 0 (fun j _ _ => flaP_ln hs j)
      exact fla_l (Q := fun r => ∃ a', Bc M (21 + 9 * (i + 1)) n (lc ++ byP (gpP (flaP (smN N xs)) 0 (i + 1))) a' ∧ r = f n (nI (snf (smN N xs))) (nI (i + 1)) a') hN hi P rfl (by rw [List.length_append]; omega) (fun M' l' C' e' => ⟨M', by rw [← e']; exact C'.le (by omega), rfl⟩)
    have l2 := gpP_len (P := flaP (smN N xs)) (L := 18) (snf (smN N xs)) 0 (fun j _ _ => flaP_ln hs j)
    obtain ⟨lf, ef⟩ : ∃ l, l = lc ++ byP (gpP (flaP (smN N xs)) 0 (snf (smN N xs))) := ⟨_, rfl⟩
    have lfl : lf.length ≤ 78 := by rw [ef, List.length_append]; omega
    rw [← ef] at P
    show Q (f_L_begins_b89_s N xs f n (nI (snf (smN N xs))) (nI (snf (smN N xs))) a)
    unfold f_L_begins_b89_s
    rw [if_pos (Int32.le_refl _)]
    refine sid_l hN P (by omega) (fun M2 l2 C2 e2 => ?_)
    have l3 := gpP_len (P := sidP (smN N xs)) (L := 10) 2 0 (fun j _ _ => sidP_ln hs j)
    have l2l : l2.length ≤ 98 := by rw [e2, List.length_append]; omega
    show Q (f_L_begins_b245 N xs fuel n (nI (snf (smN N xs))) 0 M2)
    -- kinds
    refine lp_inv (s := f_L_begins_b245_s N xs) (fun i a f => f n (nI (snf (smN N xs))) (nI i) a) (fun i a => Bc M (50 + 13 * i) n (l2 ++ byP (gpP (kinP (smN N xs)) 0 i)) a) Q 2 (fun i hi a P f => Or.inr ?_) (fun a P f => ?_) fuel (by decide) M2 ((list_z (P := kinP (smN N xs)) l2) ▸ C2.le (by omega))
    · have ll := gpP_len (P := kinP (smN N xs)) (L := 50) i 0 (fun j _ _ => kinP_ln hs j)
      exact kin_l (Q := fun r => ∃ a', Bc M (50 + 13 * (i + 1)) n (l2 ++ byP (gpP (kinP (smN N xs)) 0 (i + 1))) a' ∧ r = f n (nI (snf (smN N xs))) (nI (i + 1)) a') hN hi P rfl (by rw [List.length_append]; omega) (fun M' l' C' e' => ⟨M', by rw [← e']; exact C'.le (by omega), rfl⟩)
    have l4 := gpP_len (P := kinP (smN N xs)) (L := 50) 2 0 (fun j _ _ => kinP_ln hs j)
    obtain ⟨lk, ek⟩ : ∃ l, l = l2 ++ byP (gpP (kinP (smN N xs)) 0 2) := ⟨_, rfl⟩
    have lkl : lk.length ≤ 198 := by rw [ek, List.length_append]; omega
    rw [← ek] at P
    show Q (f_L_begins_b245_s N xs f n (nI (snf (smN N xs))) (nI 2) a)
    unfold f_L_begins_b245_s
    rw [if_pos (show (2 : Int32) ≤ nI 2 from Int32.le_refl _)]
    refine boa_l hN P (by omega) (fun M3 l3 C3 e3 => ?_)
    have l5 := gpP_len (P := boaP (smN N xs)) (L := 35) 2 0 (fun j _ h => boaP_ln hs (by omega))
    have l3l : l3.length ≤ 268 := by rw [e3, List.length_append]; omega
    unfold f_L_begins_b465
    refine st_m hN (k := 33) (m := 2) rfl rfl (by omega) (by omega) (by omega) ?_
    rw [bnd_e, show (3 : Int32) + nI (smN N xs 33 2) = nI (snp (smN N xs)) from nI_add 3 _]
    -- plays
    refine lp_inv (s := f_L_begins_b483_s N xs) (fun i a f => f n (nI (snf (smN N xs))) (nI (snp (smN N xs))) (nI (smi (smN N xs) i)) (nI i) a) (fun i a => Bc M (81 + 44 * i) n (l3 ++ byP (gpP (plyP (smN N xs)) 0 i)) a) Q (snp (smN N xs)) (fun i hi a P f => Or.inr ?_) (fun a P f => ?_) fuel (show snp (smN N xs) < 5000 by omega) M3 ((list_z (P := plyP (smN N xs)) l3) ▸ C3.le (by omega))
    · have ll := gpP_len (P := plyP (smN N xs)) (L := 62) i 0 (fun j _ h => plyP_ln hs (by omega))
      exact ply_l (Q := fun r => ∃ a', Bc M (81 + 44 * (i + 1)) n (l3 ++ byP (gpP (plyP (smN N xs)) 0 (i + 1))) a' ∧ r = f n (nI (snf (smN N xs))) (nI (snp (smN N xs))) (nI (smi (smN N xs) (i + 1))) (nI (i + 1)) a') hN hi P rfl (by rw [List.length_append]; omega) (fun M' l' C' e' => ⟨M', by rw [← e']; exact C'.le (by omega), rfl⟩)
    have l6 := gpP_len (P := plyP (smN N xs)) (L := 62) (snp (smN N xs)) 0 (fun j _ h => plyP_ln hs (by omega))
    obtain ⟨lq, eq⟩ : ∃ l, l = l3 ++ byP (gpP (plyP (smN N xs)) 0 (snp (smN N xs))) := ⟨_, rfl⟩
    have lql : lq.length ≤ 516 := by rw [eq, List.length_append]; omega
    rw [← eq] at P
    show Q (f_L_begins_b483_s N xs f n (nI (snf (smN N xs))) (nI (snp (smN N xs))) (nI (smi (smN N xs) (snp (smN N xs)))) (nI (snp (smN N xs))) a)
    unfold f_L_begins_b483_s
    rw [if_pos (Int32.le_refl _)]
    refine rul_l hN P (by omega) (fun M4 l4 C4 e4 => ?_)
    have et : l4 = txt (smN N xs) := by
      rw [e4, eq, e3, ek, e2, ef, ec]
      unfold txt txP
      simp only [byP_app, List.append_assoc, List.nil_append]
      rw [show byP [] = [] from rfl, List.append_nil]
    rw [et] at C4
    obtain ⟨c1, c2, c3, c4⟩ := C4
    obtain ⟨s, M5, h5, L5, K5, S5⟩ := toStr_f c4 c3
    unfold f_L_begins_b871 f_L_begins_b877
    rw [gd_t (dq3 c3.dy), h5, cl_s]
    have L : Lt M M5 := c1.tr L5
    obtain ⟨M6, h6, I6, T6, G6, K6⟩ := feeds_f (N := N) (xs := xs) (hI.lt L) (Nat.le_trans hc L.1.1) (by rw [L.2.1 64 (by omega)]; exact t1) (by rw [L.2.1 311 (by omega)]; exact t2) S5
    rw [h6, cl_s]
    unfold f_L_begins_b880
    obtain ⟨-, -, -, q4⟩ := d_cn hs T6
    rw [if_pos rfl, an_count1 I6.1, cl_s, q4, if_pos rfl, hQ]
    exact ⟨M6, rfl, I6, T6, L.1.tr G6, ((c2.tr K5).tr K6).le (by omega) (by omega)⟩
  rw [hQ] at fin
  exact fin
end BEGUN
