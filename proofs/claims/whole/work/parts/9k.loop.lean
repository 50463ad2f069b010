set_option maxRecDepth 100000 in
set_option maxHeartbeats 4000000 in
theorem law_step {K : Kt} {X : Xt} {Q : State → Prop} {ce sl : Nat} {M : Mem} {i L : Nat} {xs : Nat → Int32} (hp : St K) (hB : Bx K X room_1 cL_law 7 RL lwr) (hs : Scr K X L xs) (hL : i + 6 ≤ L) (hL2 : L ≤ 3072) (ht : KThr K) (hst : X.2.1.stackTraces = false) (hf0 : ce + 0 ≤ room_1.cells ∧ sl + 0 ≤ room_1.slots) (hf : ce + 1 ≤ room_1.cells ∧ sl + 6 ≤ room_1.slots) (hf1 : ce + 1 + 0 ≤ room_1.cells ∧ sl + 6 + 0 ≤ room_1.slots) (hI : Inv M) (nx : ∀ M1, Inv M1 → Wt K X Q ce sl M1 1435 [(4, vi (nI i)), (3, vr 346), (2, vr 311), (1, vr 64), (0, vr 61)] []) (nx1 : ∀ M1, Inv M1 → Wt K X Q (ce + 1) (sl + 6) M1 1435 [(4, vi (nI i)), (3, vr 346), (2, vr 311), (1, vr 64), (0, vr 61)] []) : Wt K X Q ce sl M 33 [(4, vi (nI i)), (3, vr 346), (2, vr 311), (1, vr 64), (0, vr 61)] [] := by
  refine w_aload_n hB 4 dL_law_33 rfl rfl ?_
  refine w_iload hB 0 dL_law_34 rfl ?_
  refine w_sld hB hs (inb_nI (by omega) (by omega)) dL_law_36 ?_
  rw [nI_clamp (by omega)]
  refine w_bipush hB 63 (by decide) dL_law_37 ?_
  refine w_iand hB dL_law_39 ?_
  by_cases h0 : xs i &&& 63 = 0
  · refine w_tsIn hB 192 dL_law_40 (off := 152) (by rw [h0]; decide) (by rw [h0]; decide) (by rw [h0]; rfl) (by decide) ?_
    exact lcs_0 hp hB hs hL hL2 hf0 hI nx
  by_cases h1 : xs i &&& 63 = 1
  · refine w_tsIn hB 265 dL_law_40 (off := 225) (by rw [h1]; decide) (by rw [h1]; decide) (by rw [h1]; rfl) (by decide) ?_
    exact lcs_1 hp hB hs hL hL2 hf0 hI nx
  by_cases h2 : xs i &&& 63 = 2
  · refine w_tsIn hB 290 dL_law_40 (off := 250) (by rw [h2]; decide) (by rw [h2]; decide) (by rw [h2]; rfl) (by decide) ?_
    exact lcs_2 hp hB hs hL hL2 hf0 hI nx
  by_cases h3 : xs i &&& 63 = 3
  · refine w_tsIn hB 327 dL_law_40 (off := 287) (by rw [h3]; decide) (by rw [h3]; decide) (by rw [h3]; rfl) (by decide) ?_
    exact lcs_3 hp hB hs hL hL2 hf0 hI nx
  by_cases h4 : xs i &&& 63 = 4
  · refine w_tsIn hB 364 dL_law_40 (off := 324) (by rw [h4]; decide) (by rw [h4]; decide) (by rw [h4]; rfl) (by decide) ?_
    exact lcs_4 hp hB hs hL hL2 hf0 hI nx
  by_cases h5 : xs i &&& 63 = 5
  · refine w_tsIn hB 401 dL_law_40 (off := 361) (by rw [h5]; decide) (by rw [h5]; decide) (by rw [h5]; rfl) (by decide) ?_
    exact lcs_5 hp hB hs hL hL2 hf0 hI nx
  by_cases h6 : xs i &&& 63 = 6
  · refine w_tsIn hB 438 dL_law_40 (off := 398) (by rw [h6]; decide) (by rw [h6]; decide) (by rw [h6]; rfl) (by decide) ?_
    exact lcs_6 hp hB hs hL hL2 ht hst hf0 hf hf1 hI nx nx1
  by_cases h7 : xs i &&& 63 = 7
  · refine w_tsIn hB 518 dL_law_40 (off := 478) (by rw [h7]; decide) (by rw [h7]; decide) (by rw [h7]; rfl) (by decide) ?_
    exact lcs_7 hp hB hs hL hL2 hf0 hI nx
  by_cases h8 : xs i &&& 63 = 8
  · refine w_tsIn hB 555 dL_law_40 (off := 515) (by rw [h8]; decide) (by rw [h8]; decide) (by rw [h8]; rfl) (by decide) ?_
    exact lcs_8 hp hB hs hL hL2 hf0 hI nx
  by_cases h9 : xs i &&& 63 = 9
  · refine w_tsIn hB 592 dL_law_40 (off := 552) (by rw [h9]; decide) (by rw [h9]; decide) (by rw [h9]; rfl) (by decide) ?_
    exact lcs_9 hp hB hs hL hL2 hf0 hI nx
  by_cases h10 : xs i &&& 63 = 10
  · refine w_tsIn hB 669 dL_law_40 (off := 629) (by rw [h10]; decide) (by rw [h10]; decide) (by rw [h10]; rfl) (by decide) ?_
    exact lcs_10 hp hB hs hL hL2 hf0 hI nx
  by_cases h11 : xs i &&& 63 = 11
  · refine w_tsIn hB 694 dL_law_40 (off := 654) (by rw [h11]; decide) (by rw [h11]; decide) (by rw [h11]; rfl) (by decide) ?_
    exact lcs_11 hp hB hs hL hL2 hf0 hI nx
  by_cases h12 : xs i &&& 63 = 12
  · refine w_tsIn hB 719 dL_law_40 (off := 679) (by rw [h12]; decide) (by rw [h12]; decide) (by rw [h12]; rfl) (by decide) ?_
    exact lcs_12 hp hB hs hL hL2 hf0 hI nx
  by_cases h13 : xs i &&& 63 = 13
  · refine w_tsIn hB 744 dL_law_40 (off := 704) (by rw [h13]; decide) (by rw [h13]; decide) (by rw [h13]; rfl) (by decide) ?_
    exact lcs_13 hp hB hs hL hL2 hf0 hI nx
  by_cases h14 : xs i &&& 63 = 14
  · refine w_tsIn hB 769 dL_law_40 (off := 729) (by rw [h14]; decide) (by rw [h14]; decide) (by rw [h14]; rfl) (by decide) ?_
    exact lcs_14 hp hB hs hL hL2 hf0 hI nx
  by_cases h15 : xs i &&& 63 = 15
  · refine w_tsIn hB 806 dL_law_40 (off := 766) (by rw [h15]; decide) (by rw [h15]; decide) (by rw [h15]; rfl) (by decide) ?_
    exact lcs_15 hp hB hs hL hL2 hf0 hI nx
  by_cases h16 : xs i &&& 63 = 16
  · refine w_tsIn hB 819 dL_law_40 (off := 779) (by rw [h16]; decide) (by rw [h16]; decide) (by rw [h16]; rfl) (by decide) ?_
    exact lcs_16 hp hB hs hL hL2 hf0 hI nx
  by_cases h17 : xs i &&& 63 = 17
  · refine w_tsIn hB 856 dL_law_40 (off := 816) (by rw [h17]; decide) (by rw [h17]; decide) (by rw [h17]; rfl) (by decide) ?_
    exact lcs_17 hp hB hs hL hL2 hf0 hI nx
  by_cases h18 : xs i &&& 63 = 18
  · refine w_tsIn hB 893 dL_law_40 (off := 853) (by rw [h18]; decide) (by rw [h18]; decide) (by rw [h18]; rfl) (by decide) ?_
    exact lcs_18 hp hB hs hL hL2 hf0 hI nx
  by_cases h19 : xs i &&& 63 = 19
  · refine w_tsIn hB 930 dL_law_40 (off := 890) (by rw [h19]; decide) (by rw [h19]; decide) (by rw [h19]; rfl) (by decide) ?_
    exact lcs_19 hp hB hs hL hL2 hf0 hI nx
  by_cases h20 : xs i &&& 63 = 20
  · refine w_tsIn hB 967 dL_law_40 (off := 927) (by rw [h20]; decide) (by rw [h20]; decide) (by rw [h20]; rfl) (by decide) ?_
    exact lcs_20 hp hB hs hL hL2 hf0 hI nx
  by_cases h21 : xs i &&& 63 = 21
  · refine w_tsIn hB 992 dL_law_40 (off := 952) (by rw [h21]; decide) (by rw [h21]; decide) (by rw [h21]; rfl) (by decide) ?_
    exact lcs_21 hp hB hs hL hL2 hf0 hI nx
  by_cases h22 : xs i &&& 63 = 22
  · refine w_tsIn hB 1017 dL_law_40 (off := 977) (by rw [h22]; decide) (by rw [h22]; decide) (by rw [h22]; rfl) (by decide) ?_
    exact lcs_22 hp hB hs hL hL2 hf0 hI nx
  by_cases h23 : xs i &&& 63 = 23
  · refine w_tsIn hB 1070 dL_law_40 (off := 1030) (by rw [h23]; decide) (by rw [h23]; decide) (by rw [h23]; rfl) (by decide) ?_
    exact lcs_23 hp hB hs hL hL2 hf0 hI nx
  by_cases h24 : xs i &&& 63 = 24
  · refine w_tsIn hB 1083 dL_law_40 (off := 1043) (by rw [h24]; decide) (by rw [h24]; decide) (by rw [h24]; rfl) (by decide) ?_
    exact lcs_24 hp hB hs hL hL2 hf0 hI nx
  by_cases h25 : xs i &&& 63 = 25
  · refine w_tsIn hB 1108 dL_law_40 (off := 1068) (by rw [h25]; decide) (by rw [h25]; decide) (by rw [h25]; rfl) (by decide) ?_
    exact lcs_25 hp hB hs hL hL2 hf0 hI nx
  by_cases h26 : xs i &&& 63 = 26
  · refine w_tsIn hB 1133 dL_law_40 (off := 1093) (by rw [h26]; decide) (by rw [h26]; decide) (by rw [h26]; rfl) (by decide) ?_
    exact lcs_26 hp hB hs hL hL2 hf0 hI nx
  by_cases h27 : xs i &&& 63 = 27
  · refine w_tsIn hB 1158 dL_law_40 (off := 1118) (by rw [h27]; decide) (by rw [h27]; decide) (by rw [h27]; rfl) (by decide) ?_
    exact lcs_27 hp hB hs hL hL2 hf0 hI nx
  by_cases h28 : xs i &&& 63 = 28
  · refine w_tsIn hB 1171 dL_law_40 (off := 1131) (by rw [h28]; decide) (by rw [h28]; decide) (by rw [h28]; rfl) (by decide) ?_
    exact lcs_28 hp hB hs hL hL2 ht hst hf0 hf hf1 hI nx nx1
  by_cases h29 : xs i &&& 63 = 29
  · refine w_tsIn hB 1239 dL_law_40 (off := 1199) (by rw [h29]; decide) (by rw [h29]; decide) (by rw [h29]; rfl) (by decide) ?_
    exact lcs_29 hp hB hs hL hL2 hf0 hI nx
  by_cases h30 : xs i &&& 63 = 30
  · refine w_tsIn hB 1288 dL_law_40 (off := 1248) (by rw [h30]; decide) (by rw [h30]; decide) (by rw [h30]; rfl) (by decide) ?_
    exact lcs_30 hp hB hs hL hL2 ht hst hf0 hf hf1 hI nx nx1
  by_cases h31 : xs i &&& 63 = 31
  · refine w_tsIn hB 1344 dL_law_40 (off := 1304) (by rw [h31]; decide) (by rw [h31]; decide) (by rw [h31]; rfl) (by decide) ?_
    exact lcs_31 hp hB hs hL hL2 hf0 hI nx
  by_cases h32 : xs i &&& 63 = 32
  · refine w_tsIn hB 1357 dL_law_40 (off := 1317) (by rw [h32]; decide) (by rw [h32]; decide) (by rw [h32]; rfl) (by decide) ?_
    exact lcs_32 hp hB hs hL hL2 hf0 hI nx
  by_cases h33 : xs i &&& 63 = 33
  · refine w_tsIn hB 1410 dL_law_40 (off := 1370) (by rw [h33]; decide) (by rw [h33]; decide) (by rw [h33]; rfl) (by decide) ?_
    exact lcs_33 hp hB hs hL hL2 hf0 hI nx
  have t0 := lv_neT h0 (show (0 : Int32).toInt = 0 by decide)
  have t1 := lv_neT h1 (show (1 : Int32).toInt = 1 by decide)
  have t2 := lv_neT h2 (show (2 : Int32).toInt = 2 by decide)
  have t3 := lv_neT h3 (show (3 : Int32).toInt = 3 by decide)
  have t4 := lv_neT h4 (show (4 : Int32).toInt = 4 by decide)
  have t5 := lv_neT h5 (show (5 : Int32).toInt = 5 by decide)
  have t6 := lv_neT h6 (show (6 : Int32).toInt = 6 by decide)
  have t7 := lv_neT h7 (show (7 : Int32).toInt = 7 by decide)
  have t8 := lv_neT h8 (show (8 : Int32).toInt = 8 by decide)
  have t9 := lv_neT h9 (show (9 : Int32).toInt = 9 by decide)
  have t10 := lv_neT h10 (show (10 : Int32).toInt = 10 by decide)
  have t11 := lv_neT h11 (show (11 : Int32).toInt = 11 by decide)
  have t12 := lv_neT h12 (show (12 : Int32).toInt = 12 by decide)
  have t13 := lv_neT h13 (show (13 : Int32).toInt = 13 by decide)
  have t14 := lv_neT h14 (show (14 : Int32).toInt = 14 by decide)
  have t15 := lv_neT h15 (show (15 : Int32).toInt = 15 by decide)
  have t16 := lv_neT h16 (show (16 : Int32).toInt = 16 by decide)
  have t17 := lv_neT h17 (show (17 : Int32).toInt = 17 by decide)
  have t18 := lv_neT h18 (show (18 : Int32).toInt = 18 by decide)
  have t19 := lv_neT h19 (show (19 : Int32).toInt = 19 by decide)
  have t20 := lv_neT h20 (show (20 : Int32).toInt = 20 by decide)
  have t21 := lv_neT h21 (show (21 : Int32).toInt = 21 by decide)
  have t22 := lv_neT h22 (show (22 : Int32).toInt = 22 by decide)
  have t23 := lv_neT h23 (show (23 : Int32).toInt = 23 by decide)
  have t24 := lv_neT h24 (show (24 : Int32).toInt = 24 by decide)
  have t25 := lv_neT h25 (show (25 : Int32).toInt = 25 by decide)
  have t26 := lv_neT h26 (show (26 : Int32).toInt = 26 by decide)
  have t27 := lv_neT h27 (show (27 : Int32).toInt = 27 by decide)
  have t28 := lv_neT h28 (show (28 : Int32).toInt = 28 by decide)
  have t29 := lv_neT h29 (show (29 : Int32).toInt = 29 by decide)
  have t30 := lv_neT h30 (show (30 : Int32).toInt = 30 by decide)
  have t31 := lv_neT h31 (show (31 : Int32).toInt = 31 by decide)
  have t32 := lv_neT h32 (show (32 : Int32).toInt = 32 by decide)
  have t33 := lv_neT h33 (show (33 : Int32).toInt = 33 by decide)
  refine w_tsOut hB 1435 dL_law_40 (by omega) (by decide) ?_
  exact nx M hI
theorem sub6_neg : ∀ l, l < 6 → nI l - 6 < 0 := by decide
theorem go_on {i L : Nat} (hi : i ≤ L) (hL : L ≤ 3072) (h : ¬ nI L - 6 < nI i) : i + 6 ≤ L := by
  rcases Nat.lt_or_ge L 6 with c | c
  · exact absurd (Int32.lt_of_lt_of_le (sub6_neg L c) (Int32.not_lt.mp (neg_nI (by omega)))) h
  · rw [show (6 : Int32) = nI 6 from rfl, nI_sub c, lt_nI (by omega) (by omega)] at h
    omega
set_option maxRecDepth 100000 in
set_option maxHeartbeats 4000000 in
theorem law_loop {K : Kt} {X : Xt} {Q : State → Prop} {L : Nat} {xs : Nat → Int32} (hp : St K) (ht : KThr K) (hst : X.2.1.stackTraces = false) (hB : Bx K X room_1 cL_law 7 RL lwr) (hs : Scr K X L xs) (hL2 : L ≤ 3072)
    (he : ∀ (M : Mem) (ce sl : Nat) (V : List (Nat × Lv)), ce ≤ 601024 → sl ≤ 7293034 → Wt K X Q ce sl M 1442 V [vi 1]) :
    ∀ (n i ce sl : Nat) (M : Mem), L ≤ n + i → i ≤ L → ce ≤ 283 + i → sl ≤ 7271 + 6 * i → Inv M → Wt K X Q ce sl M 23 [(4, vi (nI i)), (3, vr 346), (2, vr 311), (1, vr 64), (0, vr 61)] [] := by
  intro n
  induction n with
  | zero =>
    intro i ce sl M h1 h2 h3 h4 hI
    refine w_iload hB 0 dL_law_23 rfl ?_
    refine w_aload_n hB 4 dL_law_25 rfl rfl ?_
    refine w_slen hB hs dL_law_26 ?_
    refine w_bipush hB 6 (by decide) dL_law_27 ?_
    refine w_isub hB dL_law_29 ?_
    refine w_icmp_gt hB 1441 dL_law_30 (by decide) (fun _ => ?_) (fun hc => ?_)
    · refine w_iconst hB 1 (by decide) dL_law_1441 ?_
      exact he M ce sl _ (by omega) (by omega)
    · have g := go_on h2 hL2 hc
      omega
  | succ n ih =>
    intro i ce sl M h1 h2 h3 h4 hI
    refine w_iload hB 0 dL_law_23 rfl ?_
    refine w_aload_n hB 4 dL_law_25 rfl rfl ?_
    refine w_slen hB hs dL_law_26 ?_
    refine w_bipush hB 6 (by decide) dL_law_27 ?_
    refine w_isub hB dL_law_29 ?_
    refine w_icmp_gt hB 1441 dL_law_30 (by decide) (fun _ => ?_) (fun hc => ?_)
    · refine w_iconst hB 1 (by decide) dL_law_1441 ?_
      exact he M ce sl _ (by omega) (by omega)
    · have g := go_on h2 hL2 hc
      have nx : ∀ (ce1 sl1 : Nat) (M1 : Mem), ce1 ≤ 283 + (i + 6) → sl1 ≤ 7271 + 6 * (i + 6) → Inv M1 → Wt K X Q ce1 sl1 M1 1435 [(4, vi (nI i)), (3, vr 346), (2, vr 311), (1, vr 64), (0, vr 61)] [] := by
        intro ce1 sl1 M1 q1 q2 q3
        refine w_iinc hB 0 (v := 6) (L' := [(4, vi (nI (i + 6))), (3, vr 346), (2, vr 311), (1, vr 64), (0, vr 61)]) dL_law_1435 rfl (by decide) (by decide) (nI_add i 6).symm rfl ?_
        refine w_goto hB 23 dL_law_1438 (by decide) ?_
        exact ih (i + 6) ce1 sl1 M1 (by omega) (by omega) q1 q2 q3
      have r1 : room_1.cells = 601024 := rfl
      have r2 : room_1.slots = 7293034 := rfl
      exact law_step hp hB hs g hL2 ht hst ⟨by rw [r1]; omega, by rw [r2]; omega⟩ ⟨by rw [r1]; omega, by rw [r2]; omega⟩ ⟨by rw [r1]; omega, by rw [r2]; omega⟩ hI (fun M1 q => nx ce sl M1 (by omega) (by omega) q) (fun M1 q => nx (ce + 1) (sl + 6) M1 (by omega) (by omega) q)
/-! from the making to the steady world -/
abbrev kst (K : Kt) : Kt := (kS K, kZ K, kD K, kY K, kA K, false)
theorem ent_S (K : Kt) {M M0 : Mem} {q : Nat} (h1 : M.1 = M0.1) (h2 : M.2.1 = M0.2.1) (r : ∀ k, M.2.2.1 (q + 64) k = M0.2.2.1 (q + 64) k) : ent (kst K) M (q + 64) = ent K M0 (q + 64) := by
  unfold ent flds fv
  simp only [r, h1, h2]
  rfl
theorem mmS_hi (q k : Nat) : mmS.2.2.1 (q + 64) k = mm624.2.2.1 (q + 64) k := by
  show (if q + 64 < 64 then cr (q + 64) k else mm624.2.2.1 (q + 64) k) = mm624.2.2.1 (q + 64) k
  exact if_neg (by omega)
theorem fst_S (M0 : Mem) (f : Nat → Nat → Nat) (c : Nat) : ((M0.1, M0.2.1, f, c) : Mem).1 = M0.1 ∧ ((M0.1, M0.2.1, f, c) : Mem).2.1 = M0.2.1 := ⟨rfl, rfl⟩
theorem mmS_lo : mmS.1 = mm624.1 ∧ mmS.2.1 = mm624.2.1 := by
  unfold mmS
  exact fst_S mm624 _ _
theorem wd_S (K : Kt) : wd (kst K) mmS = wd K mm624 := by
  have e : ∀ q, ent (kst K) mmS (q + 64) = ent K mm624 (q + 64) := fun q => ent_S K mmS_lo.1 mmS_lo.2 (mmS_hi q)
  unfold wd
  rw [show mmS.2.2.2 = 283 from rfl, mc624]
  exact List.map_congr_left (fun q _ => by rw [e q])
theorem val_S (K : Kt) : val (kst K) = val K := funext (fun v => by rcases v with x | x | n <;> rfl)
theorem Wt.steady {K : Kt} {X : Xt} {Q : State → Prop} {ce sl pc : Nat} {L : List (Nat × Lv)} {st : List Lv} (k : Wt (kst K) X Q ce sl mmS pc L st) : Wt K X Q ce sl mm624 pc L st := by
  intro _ H locs ls a b z dd
  have h := k (fun _ => ⟨rfl, mmS_cr⟩) H locs ls (by rw [wd_S]; exact a) b (fun h => by cases h) (by
    show lv_has ls _ (L.map (fun q => (q.1, val (kst K) q.2)))
    rw [val_S]
    exact dd)
  rw [val_S] at h
  exact h
