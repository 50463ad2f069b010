/-! THE LAW'S TEXT, line by line -/
theorem Bc.le {M0 M : Mem} {j j' n : Nat} {l : List Nat} (C : Bc M0 j n l M) (h : j ≤ j') : Bc M0 j' n l M := ⟨C.1, C.2.1.le (by omega) (by omega), C.2.2⟩
theorem nI_z {v : Nat} (hv : v < 2 ^ 31) : nI v = 0 ↔ v = 0 := ⟨fun h => inj_nI hv (by omega) (h.trans (show (0 : Int32) = nI 0 from rfl)), fun h => by rw [h]; rfl⟩
theorem nge {a b : Nat} (ha : a < 2 ^ 31) (hb : b < 2 ^ 31) (h : a < b) : ¬ nI b ≤ nI a := fun z => by
  rw [Int32.le_iff_toInt_le, nI_toInt ha, nI_toInt hb] at z
  omega
theorem line_e {P : Nat → List Pcb} {c : Nat} {lp l l' : List Nat} (h : l = lp ++ byP (gpP P 0 c)) (e : l' = l ++ byP (P c)) : l' = lp ++ byP (gpP P 0 (c + 1)) := by
  rw [gpP_snoc, byP_app, Nat.zero_add, ← List.append_assoc, ← h]
  exact e
section BEG
variable {N : Nat} {xs : Nat → Int32} {Q : Option (Int32 × Mem) → Prop} {M0 M : Mem} {j n : Nat} {l : List Nat}
theorem st_m (hN : N < 2 ^ 30) {f : Int32 → Mem → Option (Int32 × Mem)} {x y : Int32} {k m : Nat} (ex : x = nI k) (ey : y = nI m) (hk : k < 2 ^ 30) (h0 : 0 < m) (hm : m < 2 ^ 31) (h : Q (f (nI (smN N xs k m)) M)) : Q (cl (f_L_some N xs x y M) f) := by
  rw [ex, ey, some_f hN hk h0 hm, cl_s]
  exact h
theorem st_s {i w : Nat} {f : Nat → Mem → Option (Int32 × Mem)} (C : Bc M0 j n l M) (hw : (lsN i).length = w) (hi : i < 26) (hl : l.length + w ≤ 600) (k : ∀ M' l', Bc M0 (j + 1) n l' M' → l' = l ++ lsN i → l'.length = l.length + w → Q (f n M')) : Q (gd (1000 ≤ n ∧ dsc M n = 11 ∧ n - 753 < M.2.2.2) (cl (f_J4_append_15ec4 n (400 + i) M) f)) :=
  st_s0 C hi (by rw [hw]; exact hl) (fun M' l' C' e h => k M' l' C' e (by rw [h, hw]))
def frmT (sm : Nat → Nat → Nat) (p c : Nat) : List Pcb := if sm (sat p c + 4) 2 = 0 then [(false, gP (sgn (sm (sat p c + 3) 3 == 0))), (false, dP ((sm (sat p c) 3 + 1) % 3))] else []
theorem cam_l (hN : N < 2 ^ 30) {c : Nat} (hc : c < 3) (C0 : Bc M0 j n l M) {lp : List Nat} (hl : l = lp ++ byP (gpP (camP (smN N xs)) 0 c)) (hL : l.length ≤ 42) {rec : Nat → Int32 → Mem → Option (Int32 × Mem)} (k : ∀ M' l', Bc M0 (j + 7) n l' M' → l' = lp ++ byP (gpP (camP (smN N xs)) 0 (c + 1)) → Q (rec n (nI (c + 1)) M')) : Q (f_L_begins_b10_s N xs rec n (nI c) M) := by
  have hs := smN_ok N xs
  have h3 : ¬ (3 : Int32) ≤ nI c := nge (a := c) (b := 3) (by omega) (by omega) hc
  unfold f_L_begins_b10_s
  rw [if_neg h3]
  refine st_s C0 (i := 0) (w := 8) rfl (by decide) (by omega) (fun M1 l1 C1 e1 n1 => ?_)
  unfold f_L_begins_b21
  refine st_c C1 (b := 97 + c) (by omega) (chr_n (by omega)) (by omega) (fun M2 l2 C2 e2 n2 => ?_)
  unfold f_L_begins_b29
  refine st_s C2 (i := 1) (w := 1) rfl (by decide) (by omega) (fun M3 l3 C3 e3 n3 => ?_)
  unfold f_L_begins_b34
  refine st_m hN (k := c) (m := 3) rfl rfl (by omega) (by omega) (by omega) ?_
  have z11_3 := smN_ok N xs (c) 3 (by omega)
  refine st_i C3 (v := smN N xs c 3) (by omega) rfl (by omega) (fun M4 l4 C4 e4 n4 => ?_)
  unfold f_L_begins_b43
  refine st_s C4 (i := 1) (w := 1) rfl (by decide) (by omega) (fun M5 l5 C5 e5 n5 => ?_)
  unfold f_L_begins_b48
  refine st_m hN (k := c) (m := 3) rfl rfl (by omega) (by omega) (by omega) ?_
  have z17_3 := smN_ok N xs (c) 3 (by omega)
  refine st_m hN (k := 3 + c) (m := 4) (nI_add 3 c) rfl (by omega) (by omega) (by omega) ?_
  have z19_4 := smN_ok N xs (3 + c) 4 (by omega)
  refine st_i C5 (v := smN N xs c 3 + smN N xs (3 + c) 4) (by omega) (nI_add _ _) (by omega) (fun M6 l6 C6 e6 n6 => ?_)
  unfold f_L_begins_b66
  refine st_s C6 (i := 2) (w := 1) rfl (by decide) (by omega) (fun M7 l7 C7 e7 n7 => ?_)
  unfold f_L_begins_b71
  rw [bnd_e, nI_1]
  refine k _ _ C7 (line_e hl ?_)
  rw [e7, e6, e5, e4, e3, e2, e1]
  simp only [List.append_assoc]
  rfl
theorem fla_l (hN : N < 2 ^ 30) {c : Nat} (hc : c < snf (smN N xs)) (C0 : Bc M0 j n l M) {lp : List Nat} (hl : l = lp ++ byP (gpP (flaP (smN N xs)) 0 c)) (hL : l.length ≤ 200) {rec : Nat → Int32 → Int32 → Mem → Option (Int32 × Mem)} (k : ∀ M' l', Bc M0 (j + 9) n l' M' → l' = lp ++ byP (gpP (flaP (smN N xs)) 0 (c + 1)) → Q (rec n (nI (snf (smN N xs))) (nI (c + 1)) M')) : Q (f_L_begins_b89_s N xs rec n (nI (snf (smN N xs))) (nI c) M) := by
  have hs := smN_ok N xs
  have h3 : ¬ nI (snf (smN N xs)) ≤ nI c := nge (a := c) (b := snf (smN N xs)) (by have := s_c2 hs; omega) (by have := s_c2 hs; omega) hc
  have h6 := s_c2 hs
  unfold f_L_begins_b89_s
  rw [if_neg h3]
  refine st_m hN (k := 7 + c) (m := 3) (nI_add 7 c) rfl (by omega) (by omega) (by omega) ?_
  have z6_3 := smN_ok N xs (7 + c) 3 (by omega)
  refine st_s C0 (i := 3) (w := 7) rfl (by decide) (by omega) (fun M1 l1 C1 e1 n1 => ?_)
  unfold f_L_begins_b113
  refine st_c C1 (b := 97 + smN N xs (7 + c) 3) (by omega) (chr_n (by omega)) (by omega) (fun M2 l2 C2 e2 n2 => ?_)
  unfold f_L_begins_b122
  refine st_s C2 (i := 1) (w := 1) rfl (by decide) (by omega) (fun M3 l3 C3 e3 n3 => ?_)
  unfold f_L_begins_b127
  refine st_m hN (k := 9 + c) (m := 4) (nI_add 9 c) rfl (by omega) (by omega) (by omega) ?_
  have z14_4 := smN_ok N xs (9 + c) 4 (by omega)
  refine st_i C3 (v := 10 + smN N xs (9 + c) 4) (by omega) (nI_add 10 _) (by omega) (fun M4 l4 C4 e4 n4 => ?_)
  unfold f_L_begins_b143
  refine st_s C4 (i := 4) (w := 2) rfl (by decide) (by omega) (fun M5 l5 C5 e5 n5 => ?_)
  unfold f_L_begins_b148
  refine st_m hN (k := 11 + c) (m := 2) (nI_add 11 c) rfl (by omega) (by omega) (by omega) ?_
  have z20_2 := smN_ok N xs (11 + c) 2 (by omega)
  have em : nI (smN N xs (7 + c) 3) + 1 + nI (smN N xs (11 + c) 2) - (nI (smN N xs (7 + c) 3) + 1 + nI (smN N xs (11 + c) 2)) / 3 * 3 = nI ((smN N xs (7 + c) 3 + 1 + smN N xs (11 + c) 2) % 3) := by
    rw [show nI (smN N xs (7 + c) 3) + 1 = nI (smN N xs (7 + c) 3 + 1) from nI_add _ 1, nI_add, show (3 : Int32) = nI 3 from rfl]
    exact nI_rem (by omega) (by omega)
  rw [em]
  refine st_c C5 (b := 97 + (smN N xs (7 + c) 3 + 1 + smN N xs (11 + c) 2) % 3) (by omega) (chr_n (by omega)) (by omega) (fun M6 l6 C6 e6 n6 => ?_)
  unfold f_L_begins_b172
  refine st_s C6 (i := 1) (w := 1) rfl (by decide) (by omega) (fun M7 l7 C7 e7 n7 => ?_)
  unfold f_L_begins_b177
  refine st_m hN (k := 13 + c) (m := 4) (nI_add 13 c) rfl (by omega) (by omega) (by omega) ?_
  have z30_4 := smN_ok N xs (13 + c) 4 (by omega)
  refine st_i C7 (v := 10 + smN N xs (13 + c) 4) (by omega) (nI_add 10 _) (by omega) (fun M8 l8 C8 e8 n8 => ?_)
  unfold f_L_begins_b193
  refine st_s C8 (i := 2) (w := 1) rfl (by decide) (by omega) (fun M9 l9 C9 e9 n9 => ?_)
  unfold f_L_begins_b198
  rw [bnd_e, nI_1]
  refine k _ _ C9 (line_e hl ?_)
  rw [e9, e8, e7, e6, e5, e4, e3, e2, e1]
  simp only [List.append_assoc]
  rfl
theorem sid_l (hN : N < 2 ^ 30) {x : Int32} (C0 : Bc M0 j n l M) (hL : l.length ≤ 400) (k : ∀ M' l', Bc M0 (j + 5) n l' M' → l' = l ++ byP (gpP (sidP (smN N xs)) 0 2) → Q (f_L_begins_b241 N xs n x n M')) : Q (gd (1000 ≤ n ∧ dsc M n = 11 ∧ n - 753 < M.2.2.2) (cl (f_J4_append_15ec4 n 405 M) fun o1 M1m => f_L_begins_b211 N xs n x o1 M1m)) := by
  have hs := smN_ok N xs
  refine st_s C0 (i := 5) (w := 8) rfl (by decide) (by omega) (fun M1 l1 C1 e1 n1 => ?_)
  unfold f_L_begins_b211
  refine st_m hN (k := 15) (m := 3) rfl rfl (by omega) (by omega) (by omega) ?_
  have z4_3 := smN_ok N xs (15) 3 (by omega)
  refine st_i C1 (v := smN N xs 15 3) (by omega) rfl (by omega) (fun M2 l2 C2 e2 n2 => ?_)
  unfold f_L_begins_b221
  refine st_s C2 (i := 6) (w := 9) rfl (by decide) (by omega) (fun M3 l3 C3 e3 n3 => ?_)
  unfold f_L_begins_b226
  refine st_m hN (k := 16) (m := 3) rfl rfl (by omega) (by omega) (by omega) ?_
  have z10_3 := smN_ok N xs (16) 3 (by omega)
  refine st_i C3 (v := smN N xs 16 3) (by omega) rfl (by omega) (fun M4 l4 C4 e4 n4 => ?_)
  unfold f_L_begins_b236
  refine st_s C4 (i := 2) (w := 1) rfl (by decide) (by omega) (fun M5 l5 C5 e5 n5 => ?_)
  refine k _ _ C5 ?_
  rw [e5, e4, e3, e2, e1]
  simp only [List.append_assoc]
  rfl
theorem kin_f (hN : N < 2 ^ 30) {c : Nat} (hc : c < 2) {x y : Int32} (C0 : Bc M0 j n l M) (hL : l.length ≤ 500) {rec : Nat → Int32 → Int32 → Mem → Option (Int32 × Mem)} (k : ∀ M' l', Bc M0 (j + 1) n l' M' → l' = l ++ byP (mayP (sfo (smN N xs) c) [102, 111, 114, 99, 101, 100]) → l'.length ≤ l.length + 7 → Q (f_L_begins_b320 N xs rec n x (nI c) y M')) : Q (f_L_begins_b299 N xs rec n x (nI c) y n M) := by
  have hs := smN_ok N xs
  unfold f_L_begins_b299
  refine st_m hN (k := 21 + c) (m := 3) (nI_add 21 c) rfl (by omega) (by omega) (by omega) ?_
  have z3_3 := smN_ok N xs (21 + c) 3 (by omega)
  by_cases z : smN N xs (21 + c) 3 = 0
  · rw [if_pos ((nI_z (by omega)).mpr z)]
    refine st_s C0 (i := 8) (w := 7) rfl (by decide) (by omega) (fun M1 l1 C1 e1 n1 => ?_)
    unfold f_L_begins_b319
    refine k _ _ C1 ?_ (by omega)
    rw [e1, show sfo (smN N xs) c = true from beq_iff_eq.mpr z]
    rfl
  · rw [if_neg (fun q => z ((nI_z (by omega)).mp q))]
    refine k _ _ (C0.le (by omega)) ?_ (by omega)
    rw [show sfo (smN N xs) c = false from beq_eq_false_iff_ne.mpr z]
    exact (List.append_nil _).symm
theorem kin_a (hN : N < 2 ^ 30) {c : Nat} (hc : c < 2) {x y : Int32} (C0 : Bc M0 j n l M) (hL : l.length ≤ 500) {rec : Nat → Int32 → Int32 → Mem → Option (Int32 × Mem)} (k : ∀ M' l', Bc M0 (j + 1) n l' M' → l' = l ++ byP (mayP (sag (smN N xs) c) [97, 103, 97, 105, 110]) → l'.length ≤ l.length + 6 → Q (f_L_begins_b340 N xs rec n x (nI c) y M')) : Q (f_L_begins_b320 N xs rec n x (nI c) y M) := by
  have hs := smN_ok N xs
  unfold f_L_begins_b320
  refine st_m hN (k := 23 + c) (m := 2) (nI_add 23 c) rfl (by omega) (by omega) (by omega) ?_
  have z3_2 := smN_ok N xs (23 + c) 2 (by omega)
  by_cases z : smN N xs (23 + c) 2 = 0
  · rw [if_pos ((nI_z (by omega)).mpr z)]
    refine st_s C0 (i := 9) (w := 6) rfl (by decide) (by omega) (fun M1 l1 C1 e1 n1 => ?_)
    unfold f_L_begins_b339
    refine k _ _ C1 ?_ (by omega)
    rw [e1, show sag (smN N xs) c = true from beq_iff_eq.mpr z]
    rfl
  · rw [if_neg (fun q => z ((nI_z (by omega)).mp q))]
    refine k _ _ (C0.le (by omega)) ?_ (by omega)
    rw [show sag (smN N xs) c = false from beq_eq_false_iff_ne.mpr z]
    exact (List.append_nil _).symm
theorem kin_e (hN : N < 2 ^ 30) {c : Nat} (hc : c < 2) {x : Int32} (C0 : Bc M0 j n l M) (hL : l.length ≤ 500) {rec : Nat → Int32 → Int32 → Mem → Option (Int32 × Mem)} (k : ∀ M' l', Bc M0 (j + 3) n l' M' → l' = l ++ byP (kp3 (smN N xs) c ++ [scP]) → Q (rec n x (nI (c + 1)) M')) : Q (f_L_begins_b376 N xs rec n x (nI c) n M) := by
  have hs := smN_ok N xs
  unfold f_L_begins_b376
  refine st_m hN (k := 27 + c) (m := 3) (nI_add 27 c) rfl (by omega) (by omega) (by omega) ?_
  have z3_3 := smN_ok N xs (27 + c) 3 (by omega)
  by_cases z : smN N xs (27 + c) 3 = 0
  · rw [if_pos ((nI_z (by omega)).mpr z)]
    refine st_s C0 (i := 11) (w := 14) rfl (by decide) (by omega) (fun M1 l1 C1 e1 n1 => ?_)
    unfold f_L_begins_b396
    refine st_m hN (k := 29 + c) (m := 2) (nI_add 29 c) rfl (by omega) (by omega) (by omega) ?_
    have z9_2 := smN_ok N xs (29 + c) 2 (by omega)
    refine st_i C1 (v := 1 + smN N xs (29 + c) 2) (by omega) (nI_add 1 _) (by omega) (fun M2 l2 C2 e2 n2 => ?_)
    unfold f_L_begins_b411
    unfold f_L_begins_b412
    refine st_s C2 (i := 2) (w := 1) rfl (by decide) (by omega) (fun M3 l3 C3 e3 n3 => ?_)
    unfold f_L_begins_b418
    rw [bnd_e, nI_1]
    refine k _ _ (C3.le (by omega)) ?_
    rw [e3, e2, e1]; unfold kp3; rw [if_pos z]
    simp only [List.append_assoc]
    rfl
  · rw [if_neg (fun q => z ((nI_z (by omega)).mp q))]
    unfold f_L_begins_b412
    refine st_s C0 (i := 2) (w := 1) rfl (by decide) (by omega) (fun M4 l4 C4 e4 n4 => ?_)
    unfold f_L_begins_b418
    rw [bnd_e, nI_1]
    refine k _ _ (C4.le (by omega)) ?_
    rw [e4]; unfold kp3; rw [if_neg z]
    rfl
theorem kin_l (hN : N < 2 ^ 30) {c : Nat} (hc : c < 2) {x : Int32} (C0 : Bc M0 j n l M) {lp : List Nat} (hl : l = lp ++ byP (gpP (kinP (smN N xs)) 0 c)) (hL : l.length ≤ 400) {rec : Nat → Int32 → Int32 → Mem → Option (Int32 × Mem)} (k : ∀ M' l', Bc M0 (j + 13) n l' M' → l' = lp ++ byP (gpP (kinP (smN N xs)) 0 (c + 1)) → Q (rec n x (nI (c + 1)) M')) : Q (f_L_begins_b245_s N xs rec n x (nI c) M) := by
  have hs := smN_ok N xs
  have h3 : ¬ (2 : Int32) ≤ nI c := nge (a := c) (b := 2) (by omega) (by omega) hc
  unfold f_L_begins_b245_s
  rw [if_neg h3]
  refine st_m hN (k := 17 + c) (m := 3) (nI_add 17 c) rfl (by omega) (by omega) (by omega) ?_
  have z5_3 := smN_ok N xs (17 + c) 3 (by omega)
  refine st_s C0 (i := 7) (w := 6) rfl (by decide) (by omega) (fun M1 l1 C1 e1 n1 => ?_)
  unfold f_L_begins_b269
  refine st_c C1 (b := 97 + c) (by omega) (chr_n (by omega)) (by omega) (fun M2 l2 C2 e2 n2 => ?_)
  unfold f_L_begins_b278
  refine st_s C2 (i := 1) (w := 1) rfl (by decide) (by omega) (fun M3 l3 C3 e3 n3 => ?_)
  unfold f_L_begins_b283
  refine st_m hN (k := 19 + c) (m := 40) (nI_add 19 c) rfl (by omega) (by omega) (by omega) ?_
  have z13_40 := smN_ok N xs (19 + c) 40 (by omega)
  refine st_i C3 (v := 1 + smN N xs (19 + c) 40) (by omega) (nI_add 1 _) (by omega) (fun M4 l4 C4 e4 n4 => ?_)
  refine kin_f hN hc C4 (by omega) (fun M5 l5 C5 e5 n5 => ?_)
  refine kin_a hN hc C5 (by omega) (fun M6 l6 C6 e6 n6 => ?_)
  unfold f_L_begins_b340
  refine st_s C6 (i := 1) (w := 1) rfl (by decide) (by omega) (fun M7 l7 C7 e7 n7 => ?_)
  unfold f_L_begins_b346
  refine st_i C7 (v := smN N xs (17 + c) 3) (by omega) rfl (by omega) (fun M8 l8 C8 e8 n8 => ?_)
  unfold f_L_begins_b351
  refine st_s C8 (i := 10) (w := 8) rfl (by decide) (by omega) (fun M9 l9 C9 e9 n9 => ?_)
  unfold f_L_begins_b356
  refine st_m hN (k := 25 + c) (m := 2) (nI_add 25 c) rfl (by omega) (by omega) (by omega) ?_
  have z25_2 := smN_ok N xs (25 + c) 2 (by omega)
  have em : nI (smN N xs (17 + c) 3) + 1 + nI (smN N xs (25 + c) 2) - (nI (smN N xs (17 + c) 3) + 1 + nI (smN N xs (25 + c) 2)) / 3 * 3 = nI ((smN N xs (17 + c) 3 + 1 + smN N xs (25 + c) 2) % 3) := by
    rw [show nI (smN N xs (17 + c) 3) + 1 = nI (smN N xs (17 + c) 3 + 1) from nI_add _ 1, nI_add, show (3 : Int32) = nI 3 from rfl]
    exact nI_rem (by omega) (by omega)
  refine st_i C9 (v := (smN N xs (17 + c) 3 + 1 + smN N xs (25 + c) 2) % 3) (by omega) em (by omega) (fun M10 l10 C10 e10 n10 => ?_)
  refine kin_e hN hc C10 (by omega) (fun M11 l11 C11 e11 => ?_)
  refine k _ _ C11 (line_e hl ?_)
  rw [e11, e10, e9, e8, e7, e6, e5, e4, e3, e2, e1]
  show _ = l ++ byP (kinQ (smN N xs) c ++ [scP])
  unfold kinQ
  have k1 : byP (kp1 (smN N xs) c) = lsN 7 ++ ([97 + c] ++ (lsN 1 ++ (dec (1 + smN N xs (19 + c) 40) ++ []))) := rfl
  have k2 : byP (kp2 (smN N xs) c) = lsN 1 ++ (dec (smN N xs (17 + c) 3) ++ (lsN 10 ++ (dec ((smN N xs (17 + c) 3 + 1 + smN N xs (25 + c) 2) % 3) ++ []))) := rfl
  simp only [byP_app, k1, k2, List.append_assoc, List.append_nil, List.nil_append]
theorem boa_l (hN : N < 2 ^ 30) {x : Int32} (C0 : Bc M0 j n l M) (hL : l.length ≤ 400) (k : ∀ M' l', Bc M0 (j + 5) n l' M' → l' = l ++ byP (gpP (boaP (smN N xs)) 0 2) → Q (f_L_begins_b465 N xs n x n M')) : Q (gd (1000 ≤ n ∧ dsc M n = 11 ∧ n - 753 < M.2.2.2) (cl (f_J4_append_15ec4 n 412 M) fun o1 M1m => f_L_begins_b431 N xs n x o1 M1m)) := by
  have hs := smN_ok N xs
  refine st_s C0 (i := 12) (w := 9) rfl (by decide) (by omega) (fun M1 l1 C1 e1 n1 => ?_)
  unfold f_L_begins_b431
  refine st_m hN (k := 31) (m := 2) rfl rfl (by omega) (by omega) (by omega) ?_
  have z4_2 := smN_ok N xs (31) 2 (by omega)
  refine st_i C1 (v := 1 + smN N xs 31 2) (by omega) (nI_add 1 _) (by omega) (fun M2 l2 C2 e2 n2 => ?_)
  unfold f_L_begins_b443
  refine st_s C2 (i := 13) (w := 22) rfl (by decide) (by omega) (fun M3 l3 C3 e3 n3 => ?_)
  unfold f_L_begins_b448
  refine st_m hN (k := 32) (m := 3) rfl rfl (by omega) (by omega) (by omega) ?_
  have z10_3 := smN_ok N xs (32) 3 (by omega)
  refine st_i C3 (v := 1 + smN N xs 32 3) (by omega) (nI_add 1 _) (by omega) (fun M4 l4 C4 e4 n4 => ?_)
  unfold f_L_begins_b460
  refine st_s C4 (i := 14) (w := 25) rfl (by decide) (by omega) (fun M5 l5 C5 e5 n5 => ?_)
  refine k _ _ C5 ?_
  rw [e5, e4, e3, e2, e1]
  simp only [List.append_assoc]
  rfl
theorem rul_l (hN : N < 2 ^ 30) {x y : Int32} (C0 : Bc M0 j n l M) (hL : l.length ≤ 530) (k : ∀ M' l', Bc M0 (j + 9) n l' M' → l' = l ++ byP (gpP (rulP (smN N xs)) 0 4) → Q (f_L_begins_b871 N xs n x y n M')) : Q (gd (1000 ≤ n ∧ dsc M n = 11 ∧ n - 753 < M.2.2.2) (cl (f_J4_append_15ec4 n 422 M) fun o1 M1m => f_L_begins_b802 N xs n x y o1 M1m)) := by
  have hs := smN_ok N xs
  refine st_s C0 (i := 22) (w := 6) rfl (by decide) (by omega) (fun M1 l1 C1 e1 n1 => ?_)
  unfold f_L_begins_b802
  refine st_m hN (k := 180) (m := 100) rfl rfl (by omega) (by omega) (by omega) ?_
  have z4_100 := smN_ok N xs (180) 100 (by omega)
  refine st_i C1 (v := 20 + smN N xs 180 100) (by omega) (nI_add 20 _) (by omega) (fun M2 l2 C2 e2 n2 => ?_)
  unfold f_L_begins_b817
  refine st_s C2 (i := 23) (w := 7) rfl (by decide) (by omega) (fun M3 l3 C3 e3 n3 => ?_)
  unfold f_L_begins_b822
  refine st_m hN (k := 181) (m := 3) rfl rfl (by omega) (by omega) (by omega) ?_
  have z10_3 := smN_ok N xs (181) 3 (by omega)
  refine st_i C3 (v := smN N xs 181 3) (by omega) rfl (by omega) (fun M4 l4 C4 e4 n4 => ?_)
  unfold f_L_begins_b833
  refine st_s C4 (i := 24) (w := 6) rfl (by decide) (by omega) (fun M5 l5 C5 e5 n5 => ?_)
  unfold f_L_begins_b838
  refine st_m hN (k := 182) (m := 12) rfl rfl (by omega) (by omega) (by omega) ?_
  have z16_12 := smN_ok N xs (182) 12 (by omega)
  refine st_i C5 (v := smN N xs 182 12) (by omega) rfl (by omega) (fun M6 l6 C6 e6 n6 => ?_)
  unfold f_L_begins_b850
  refine st_s C6 (i := 25) (w := 8) rfl (by decide) (by omega) (fun M7 l7 C7 e7 n7 => ?_)
  unfold f_L_begins_b855
  refine st_m hN (k := 183) (m := 3) rfl rfl (by omega) (by omega) (by omega) ?_
  have z22_3 := smN_ok N xs (183) 3 (by omega)
  refine st_i C7 (v := smN N xs 183 3) (by omega) rfl (by omega) (fun M8 l8 C8 e8 n8 => ?_)
  unfold f_L_begins_b866
  refine st_s C8 (i := 2) (w := 1) rfl (by decide) (by omega) (fun M9 l9 C9 e9 n9 => ?_)
  refine k _ _ C9 ?_
  rw [e9, e8, e7, e6, e5, e4, e3, e2, e1]
  simp only [List.append_assoc]
  rfl
theorem frm_m (hN : N < 2 ^ 30) {p c : Nat} (hp : p < 4) (hc : c < 4) {x3 x4 x5 x6 x7 x8 x9 : Int32} (ha3 : x8 + 3 = nI (sat p c + 3)) (hat : sat p c < 200) (C0 : Bc M0 j n l M) (hL : l.length ≤ 580) {rec1 : Nat → Int32 → Int32 → Int32 → Int32 → Mem → Option (Int32 × Mem)} {rec2 : Nat → Int32 → Int32 → Int32 → Int32 → Int32 → Mem → Option (Int32 × Mem)} (k : ∀ M' l', Bc M0 (j + 1) n l' M' → l' = l ++ [sgn (smN N xs (sat p c + 3) 2 == 0)] → l'.length = l.length + 1 → Q (f_L_begins_b726 N xs rec1 rec2 n x3 x4 x5 x6 x7 x8 x9 n M')) : Q (f_L_begins_b704 N xs rec1 rec2 n x3 x4 x5 x6 x7 x8 x9 n M) := by
  have hs := smN_ok N xs
  unfold f_L_begins_b704
  refine st_m hN (k := sat p c + 3) (m := 2) ha3 rfl (by omega) (by omega) (by omega) ?_
  have z3_2 := smN_ok N xs (sat p c + 3) 2 (by omega)
  by_cases z : smN N xs (sat p c + 3) 2 = 0
  · rw [if_pos ((nI_z (by omega)).mpr z)]
    unfold f_L_begins_b723
    refine st_s C0 (i := 20) (w := 1) rfl (by decide) (by omega) (fun M1 l1 C1 e1 n1 => ?_)
    refine k _ _ C1 ?_ n1
    rw [e1, show (smN N xs (sat p c + 3) 2 == 0) = true from beq_iff_eq.mpr z]
    rfl
  · rw [if_neg (fun q => z ((nI_z (by omega)).mp q))]
    unfold f_L_begins_b723
    refine st_s C0 (i := 21) (w := 1) rfl (by decide) (by omega) (fun M2 l2 C2 e2 n2 => ?_)
    refine k _ _ C2 ?_ n2
    rw [e2, show (smN N xs (sat p c + 3) 2 == 0) = false from beq_eq_false_iff_ne.mpr z]
    rfl
theorem frm_e (hN : N < 2 ^ 30) {p c : Nat} (hp : p < 4) (hc : c < 4) {x3 x4 x5 x6 x8 : Int32} (ha3 : x8 + 3 = nI (sat p c + 3)) (ha4 : x8 + 4 = nI (sat p c + 4)) (hat : sat p c < 200) (C0 : Bc M0 j n l M) (hL : l.length ≤ 580) {rec1 : Nat → Int32 → Int32 → Int32 → Int32 → Mem → Option (Int32 × Mem)} {rec2 : Nat → Int32 → Int32 → Int32 → Int32 → Int32 → Mem → Option (Int32 × Mem)} (k : ∀ M' l', Bc M0 (j + 2) n l' M' → l' = l ++ byP (frmT (smN N xs) p c) → Q (rec2 n x3 x4 x5 x6 (nI (c + 1)) M')) : Q (f_L_begins_b731 N xs rec1 rec2 n x3 x4 x5 x6 (nI c) x8 (nI (smN N xs (sat p c) 3)) n M) := by
  have hs := smN_ok N xs
  unfold f_L_begins_b731
  refine st_m hN (k := sat p c + 4) (m := 2) ha4 rfl (by omega) (by omega) (by omega) ?_
  have z3_2 := smN_ok N xs (sat p c + 4) 2 (by omega)
  by_cases z : smN N xs (sat p c + 4) 2 = 0
  · rw [if_pos ((nI_z (by omega)).mpr z)]
    refine st_m hN (k := sat p c + 3) (m := 3) ha3 rfl (by omega) (by omega) (by omega) ?_
    have z7_3 := smN_ok N xs (sat p c + 3) 3 (by omega)
    have em : nI (smN N xs (sat p c) 3) + 1 - (nI (smN N xs (sat p c) 3) + 1) / 3 * 3 = nI ((smN N xs (sat p c) 3 + 1) % 3) := by
      rw [show nI (smN N xs (sat p c) 3) + 1 = nI (smN N xs (sat p c) 3 + 1) from nI_add _ 1, show (3 : Int32) = nI 3 from rfl]
      exact nI_rem (by have := hs (sat p c) 3 (by omega); omega) (by omega)
    by_cases y : smN N xs (sat p c + 3) 3 = 0
    · rw [if_pos ((nI_z (by omega)).mpr y)]
      unfold f_L_begins_b764
      refine st_s C0 (i := 20) (w := 1) rfl (by decide) (by omega) (fun M1 l1 C1 e1 n1 => ?_)
      unfold f_L_begins_b767
      refine st_i C1 (v := (smN N xs (sat p c) 3 + 1) % 3) (by omega) em (by omega) (fun M2 l2 C2 e2 n2 => ?_)
      unfold f_L_begins_b776
      rw [bnd_e, nI_1]
      refine k _ _ C2 ?_
      rw [e2, e1]; unfold frmT; rw [if_pos z, show (smN N xs (sat p c + 3) 3 == 0) = true from beq_iff_eq.mpr y]
      simp only [List.append_assoc]
      exact congrArg (fun q => l ++ q) (congrArg (fun q => [33] ++ q) (List.append_nil _).symm)
    · rw [if_neg (fun q => y ((nI_z (by omega)).mp q))]
      unfold f_L_begins_b764
      refine st_s C0 (i := 21) (w := 1) rfl (by decide) (by omega) (fun M11 l11 C11 e11 n11 => ?_)
      unfold f_L_begins_b767
      refine st_i C11 (v := (smN N xs (sat p c) 3 + 1) % 3) (by omega) em (by omega) (fun M12 l12 C12 e12 n12 => ?_)
      unfold f_L_begins_b776
      rw [bnd_e, nI_1]
      refine k _ _ C12 ?_
      rw [e12, e11]; unfold frmT; rw [if_pos z, show (smN N xs (sat p c + 3) 3 == 0) = false from beq_eq_false_iff_ne.mpr y]
      simp only [List.append_assoc]
      exact congrArg (fun q => l ++ q) (congrArg (fun q => [63] ++ q) (List.append_nil _).symm)
  · rw [if_neg (fun q => z ((nI_z (by omega)).mp q)), bnd_e, nI_1]
    refine k _ _ (C0.le (by omega)) ?_
    unfold frmT; rw [if_neg z]
    exact (List.append_nil _).symm
theorem frm_l (hN : N < 2 ^ 30) {p c : Nat} (hp : p < 4) (hc : c < sfn (smN N xs) p) {x3 x4 x5 : Int32} (C0 : Bc M0 j n l M) {lp : List Nat} (hl : l = lp ++ byP (gpP (frmP (smN N xs) p) 0 c)) (hL : l.length ≤ 560) {rec1 : Nat → Int32 → Int32 → Int32 → Int32 → Mem → Option (Int32 × Mem)} {rec2 : Nat → Int32 → Int32 → Int32 → Int32 → Int32 → Mem → Option (Int32 × Mem)} (k : ∀ M' l', Bc M0 (j + 8) n l' M' → l' = lp ++ byP (gpP (frmP (smN N xs) p) 0 (c + 1)) → Q (rec2 n x3 x4 x5 (nI p) (nI (c + 1)) M')) : Q (f_L_begins_b622_s N xs rec1 rec2 n x3 x4 x5 (nI p) (nI c) M) := by
  have hs := smN_ok N xs
  have h5 : sfn (smN N xs) p < 5 := hs (64 + p) 5 (by omega)
  have hat : sat p c < 200 := by unfold sat; omega
  have ea : (70 : Int32) + (20 : Int32) * nI p + (5 : Int32) * nI c = nI (sat p c) := by
    rw [show (20 : Int32) * nI p = nI (20 * p) from nI_mul' 20 p, show (5 : Int32) * nI c = nI (5 * c) from nI_mul' 5 c, show (70 : Int32) + nI (20 * p) = nI (70 + 20 * p) from nI_add 70 _, nI_add]
    rfl
  unfold f_L_begins_b622_s
  refine st_m hN (k := 64 + p) (m := 5) (nI_add 64 p) rfl (by omega) (by omega) (by omega) ?_
  have z8_5 := smN_ok N xs (64 + p) 5 (by omega)
  rw [if_neg (nge (a := c) (b := smN N xs (64 + p) 5) (by omega) (by omega) hc), bnd_e, ea]
  refine st_m hN (k := sat p c) (m := 3) rfl rfl (by omega) (by omega) (by omega) ?_
  have z11_3 := smN_ok N xs (sat p c) 3 (by omega)
  refine st_s C0 (i := 4) (w := 2) rfl (by decide) (by omega) (fun M1 l1 C1 e1 n1 => ?_)
  unfold f_L_begins_b667
  refine st_m hN (k := sat p c + 1) (m := 3) (nI_add _ 1) rfl (by omega) (by omega) (by omega) ?_
  have z15_3 := smN_ok N xs (sat p c + 1) 3 (by omega)
  refine st_c C1 (b := 97 + smN N xs (sat p c + 1) 3) (by omega) (chr_n (by omega)) (by omega) (fun M2 l2 C2 e2 n2 => ?_)
  unfold f_L_begins_b683
  refine st_s C2 (i := 1) (w := 1) rfl (by decide) (by omega) (fun M3 l3 C3 e3 n3 => ?_)
  unfold f_L_begins_b688
  refine st_m hN (k := sat p c + 2) (m := 9) (nI_add _ 2) rfl (by omega) (by omega) (by omega) ?_
  have z21_9 := smN_ok N xs (sat p c + 2) 9 (by omega)
  refine st_i C3 (v := 8 + smN N xs (sat p c + 2) 9) (by omega) (nI_add 8 _) (by omega) (fun M4 l4 C4 e4 n4 => ?_)
  refine frm_m hN hp (by omega) (nI_add _ 3) hat C4 (by omega) (fun M5 l5 C5 e5 n5 => ?_)
  unfold f_L_begins_b726
  refine st_i C5 (v := smN N xs (sat p c) 3) (by omega) rfl (by omega) (fun M6 l6 C6 e6 n6 => ?_)
  refine frm_e hN hp (by omega) (nI_add _ 3) (nI_add _ 4) hat C6 (by omega) (fun M7 l7 C7 e7 => ?_)
  refine k _ _ C7 (line_e hl ?_)
  rw [e7, e6, e5, e4, e3, e2, e1]
  show _ = l ++ byP ([(true, wP [99, 97 + smN N xs (sat p c + 1) 3]), (true, dP (8 + smN N xs (sat p c + 2) 9)), (false, gP (sgn (smN N xs (sat p c + 3) 2 == 0))), (false, dP (smN N xs (sat p c) 3))] ++ frmT (smN N xs) p c)
  have k1 : byP [(true, wP [99, 97 + smN N xs (sat p c + 1) 3]), (true, dP (8 + smN N xs (sat p c + 2) 9)), (false, gP (sgn (smN N xs (sat p c + 3) 2 == 0))), (false, dP (smN N xs (sat p c) 3))] = lsN 4 ++ ([97 + smN N xs (sat p c + 1) 3] ++ (lsN 1 ++ (dec (8 + smN N xs (sat p c + 2) 9) ++ ([sgn (smN N xs (sat p c + 3) 2 == 0)] ++ (dec (smN N xs (sat p c) 3) ++ []))))) := rfl
  simp only [byP_app, k1, List.append_assoc, List.append_nil, List.nil_append]
theorem ply_h (hN : N < 2 ^ 30) {p : Nat} (hp : p < snp (smN N xs)) {x3 : Int32} (C0 : Bc M0 j n l M) (hL : l.length ≤ 480) {rec1 : Nat → Int32 → Int32 → Int32 → Int32 → Mem → Option (Int32 × Mem)} (k : ∀ M' l', Bc M0 (j + 11) n l' M' → l' = l ++ byP (plyH (smN N xs) p) → l'.length ≤ l.length + 25 → Q (f_L_begins_b622 N xs rec1 fuel n x3 (nI (snp (smN N xs))) (nI (spm (smN N xs) p)) (nI p) 0 M')) : Q (f_L_begins_b483_s N xs rec1 n x3 (nI (snp (smN N xs))) (nI (smi (smN N xs) p)) (nI p) M) := by
  have hs := smN_ok N xs
  have h4 : snp (smN N xs) ≤ 4 := (s_c7 hs).2.2
  have hm := (s_c9 hs p hp).1
  have h3 : ¬ nI (snp (smN N xs)) ≤ nI p := nge (a := p) (b := snp (smN N xs)) (by omega) (by omega) hp
  have es : nI (smi (smN N xs) p) + nI (smN N xs (34 + p) 3) = nI (spm (smN N xs) p) := nI_add _ _
  unfold f_L_begins_b483_s
  rw [if_neg h3]
  refine st_m hN (k := 34 + p) (m := 3) (nI_add 34 p) rfl (by omega) (by omega) (by omega) ?_
  have z8_3 := smN_ok N xs (34 + p) 3 (by omega)
  rw [bnd_e, es]
  refine st_s C0 (i := 15) (w := 6) rfl (by decide) (by omega) (fun M1 l1 C1 e1 n1 => ?_)
  unfold f_L_begins_b511
  refine st_c C1 (b := 97 + p) (by omega) (chr_n (by omega)) (by omega) (fun M2 l2 C2 e2 n2 => ?_)
  unfold f_L_begins_b520
  refine st_s C2 (i := 1) (w := 1) rfl (by decide) (by omega) (fun M3 l3 C3 e3 n3 => ?_)
  unfold f_L_begins_b525
  refine st_i C3 (v := spm (smN N xs) p) (by omega) rfl (by omega) (fun M4 l4 C4 e4 n4 => ?_)
  unfold f_L_begins_b530
  refine st_s C4 (i := 16) (w := 2) rfl (by decide) (by omega) (fun M5 l5 C5 e5 n5 => ?_)
  unfold f_L_begins_b535
  refine st_m hN (k := 40 + p) (m := 2) (nI_add 40 p) rfl (by omega) (by omega) (by omega) ?_
  have z21_2 := smN_ok N xs (40 + p) 2 (by omega)
  refine st_c C5 (b := 97 + smN N xs (40 + p) 2) (by omega) (chr_n (by omega)) (by omega) (fun M6 l6 C6 e6 n6 => ?_)
  unfold f_L_begins_b552
  refine st_s C6 (i := 17) (w := 2) rfl (by decide) (by omega) (fun M7 l7 C7 e7 n7 => ?_)
  unfold f_L_begins_b557
  refine st_m hN (k := 46 + p) (m := 2) (nI_add 46 p) rfl (by omega) (by omega) (by omega) ?_
  have z27_2 := smN_ok N xs (46 + p) 2 (by omega)
  refine st_c C7 (b := 97 + smN N xs (46 + p) 2) (by omega) (chr_n (by omega)) (by omega) (fun M8 l8 C8 e8 n8 => ?_)
  unfold f_L_begins_b574
  refine st_s C8 (i := 1) (w := 1) rfl (by decide) (by omega) (fun M9 l9 C9 e9 n9 => ?_)
  unfold f_L_begins_b581
  refine st_m hN (k := 52 + p) (m := 8) (nI_add 52 p) rfl (by omega) (by omega) (by omega) ?_
  have z33_8 := smN_ok N xs (52 + p) 8 (by omega)
  refine st_i C9 (v := smN N xs (52 + p) 8) (by omega) rfl (by omega) (fun M10 l10 C10 e10 n10 => ?_)
  unfold f_L_begins_b595
  refine st_m hN (k := 58 + p) (m := 2) (nI_add 58 p) rfl (by omega) (by omega) (by omega) ?_
  have z37_2 := smN_ok N xs (58 + p) 2 (by omega)
  by_cases z : smN N xs (58 + p) 2 = 0
  · rw [if_pos ((nI_z (by omega)).mpr z)]
    unfold f_L_begins_b615
    refine st_s C10 (i := 18) (w := 4) rfl (by decide) (by omega) (fun M11 l11 C11 e11 n11 => ?_)
    unfold f_L_begins_b618
    refine k _ _ C11 ?_ (by omega)
    rw [e11, e10, e9, e8, e7, e6, e5, e4, e3, e2, e1]
    have e9 : spy (smN N xs) p = true := beq_iff_eq.mpr z
    unfold plyH; rw [e9]
    have k1 : byP [(false, wP [112, 108, 97, 121]), (true, wP [112, 97 + p]), (true, dP (spm (smN N xs) p)), (true, wP [107, 97 + spk (smN N xs) p]), (true, wP [115, 97 + sps (smN N xs) p]), (true, dP (spp (smN N xs) p)), (true, wP [121, 101, 115])] = lsN 15 ++ ([97 + p] ++ (lsN 1 ++ (dec (spm (smN N xs) p) ++ (lsN 16 ++ ([97 + smN N xs (40 + p) 2] ++ (lsN 17 ++ ([97 + smN N xs (46 + p) 2] ++ (lsN 1 ++ (dec (smN N xs (52 + p) 8) ++ lsN 18))))))))) := rfl
    simp only [List.append_assoc]
    exact congrArg (fun q => l ++ q) k1.symm
  · rw [if_neg (fun q => z ((nI_z (by omega)).mp q))]
    unfold f_L_begins_b615
    refine st_s C10 (i := 19) (w := 3) rfl (by decide) (by omega) (fun M12 l12 C12 e12 n12 => ?_)
    unfold f_L_begins_b618
    refine k _ _ C12 ?_ (by omega)
    rw [e12, e10, e9, e8, e7, e6, e5, e4, e3, e2, e1]
    have e9 : spy (smN N xs) p = false := beq_eq_false_iff_ne.mpr z
    unfold plyH; rw [e9]
    have k1 : byP [(false, wP [112, 108, 97, 121]), (true, wP [112, 97 + p]), (true, dP (spm (smN N xs) p)), (true, wP [107, 97 + spk (smN N xs) p]), (true, wP [115, 97 + sps (smN N xs) p]), (true, dP (spp (smN N xs) p)), (true, wP [110, 111])] = lsN 15 ++ ([97 + p] ++ (lsN 1 ++ (dec (spm (smN N xs) p) ++ (lsN 16 ++ ([97 + smN N xs (40 + p) 2] ++ (lsN 17 ++ ([97 + smN N xs (46 + p) 2] ++ (lsN 1 ++ (dec (smN N xs (52 + p) 8) ++ lsN 19))))))))) := rfl
    simp only [List.append_assoc]
    exact congrArg (fun q => l ++ q) k1.symm
end BEG
