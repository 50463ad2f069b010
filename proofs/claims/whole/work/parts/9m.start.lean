set_option maxRecDepth 100000 in
theorem tb_nest : Cond.methodLinkNest RX9 20 yX2_init RX10 ∈ lw_tbl ∧ Cond.methodLinkNest RX9 49 yX5_init RX10 ∈ lw_tbl ∧ Cond.methodLinkNest RX9 50 yX1_init RX10 ∈ lw_tbl ∧ Cond.methodLinkNest RX9 51 yX6_init RX10 ∈ lw_tbl ∧ Cond.methodLinkNest RX10 34 yX4_init RX10 ∈ lw_tbl ∧ Cond.methodLinkNest RX4 11 yX2_init RX10 ∈ lw_tbl ∧ Cond.methodLinkNest RX10 41 yX3_init RX10 ∈ lw_tbl := by decide +kernel
set_option maxHeartbeats 4000000 in
set_option maxRecDepth 100000 in
/-- the law from its entry -/
theorem whole_start {p : Program} {e : Env} {s : State} {m : MethodId} {below : List Frame} {meth : Method} {c : Code} (l : Launch) (hflags : l.flags = flags0) {b L : Nat} {xs : Nat → Int32} (hL : L ≤ 3072) (C0 : lw_At p s m meth c b L xs) : W p l e room_1 s m #[Value.ref b] below meth c s.heap [] 0 0 (lw_Z below #[Value.ref b] s) (entryFrame m ([Value.ref b] : List Value).toArray 7) := by
  obtain ⟨hx, hcb, hr, hml, hown, hts, hX, hbl, hlocks, hgv⟩ := C0
  have hst : l.stackTraces = false := by
    unfold Launch.stackTraces
    rw [hflags]
    decide +kernel
  obtain ⟨ad, e61, hlt, hinj, hK0⟩ := start_A b hts (flat_of_before _ hgv)
  obtain ⟨Y, hY⟩ := start_Y hts
  obtain ⟨D, hD⟩ := start_D hts
  obtain ⟨K, hK⟩ : ∃ K : Kt, K = (s, s.heap.size, D, Y, ad, true) := ⟨_, rfl⟩
  have hb : kP K = true := by rw [hK]
  have hAl : Al K s := by
    rw [hK]
    exact ⟨State.WarmedH.refl s, Nat.le_refl _, rfl, ⟨hD, fun k q hq => hY D ad true k q hq⟩, fun _ _ => rfl, hlt, hinj⟩
  have hkT : KTok K := by rw [hK]; exact (hK0 D Y true).1
  have hkS : KTok (kst K) := by rw [hK]; exact (hK0 D Y false).1
  have hkR : KThr (kst K) := by rw [hK]; exact (hK0 D Y false).2
  have hg : KBd K := by
    rw [hK]
    obtain ⟨n1, n2, n3, n4, n5, n6, n7⟩ := tb_nest
    obtain ⟨-, a4, a5, a6, a7, a8⟩ := tb_ar
    exact ⟨(hK0 D Y true).1, ⟨va_Nw.of rfl (hts _ n1), va_Nw.of rfl (hts _ n2), va_Nw.of rfl (hts _ n3), va_Nw.of rfl (hts _ n4), va_Nw.of rfl (hts _ n5), va_Nw.of rfl (hts _ n6), va_Nw.of rfl (hts _ n7)⟩, va_AO.of (hts _ a4), va_AO.of (hts _ a5), va_AO.of (hts _ a6), va_AO.of (hts _ a8), va_AO.of (hts _ a7)⟩
  have hk61 : kA K 61 = b := by rw [hK]; exact e61
  have hkS2 : kS K = s := by rw [hK]
  have hkZ2 : kZ K = s.heap.size := by rw [hK]
  clear hK
  obtain ⟨X, hXe⟩ : ∃ X : Xt, X = (p, l, e, room_1, s, m, #[Value.ref b], below, meth, c) := ⟨_, rfl⟩
  have hB : Bx K X room_1 cL_law 7 RL lwr := by
    rw [hXe]
    exact ⟨hx, hcb, hml, hown, fun w hw => hts w (List.mem_filter.mp hw).1, hAl, hr, hlocks, rfl⟩
  have hBs : Bx (kst K) X room_1 cL_law 7 RL lwr := hB
  have hsc : Scr (kst K) X L xs := by
    rw [hXe]
    show va_X (kA K 61) L xs s s.heap ∧ kA K 61 < s.heap.size ∧ kA K 61 < kZ K
    rw [hk61, hkZ2]
    exact ⟨hX, hbl, hbl⟩
  have he : ∀ (M : Mem) (ce sl : Nat) (V : List (Nat × Lv)), ce ≤ 601024 → sl ≤ 7293034 → Wt (kst K) X (lw_Z below #[Value.ref b] s) ce sl M 1442 V [vi 1] := by
    intro M ce sl V h1 h2
    rw [hXe]
    intro cp H locs ls ha hbS hz dd
    refine va_forget (fun q hq => ?_) (W.widen h1 h2 (lw_ret hx hcb hr hlocks dL_law_1442))
    have h9 : kZ K ≤ q.base := hbS.2.2 q hq
    rw [hkZ2] at h9
    exact h9
  have hQ : ∃ Q : State → Prop, Q = lw_Z below #[Value.ref b] s := ⟨_, rfl⟩
  obtain ⟨Q, hQ⟩ := hQ
  rw [← hQ] at he ⊢
  have w : Wt K X Q 0 0 mm0 0 [(0, vr 61)] [] := by
    refine w_newB hB hb (ci := 8) (N := 14) (n := 64) tyX10 rfl inG_X10 tyX10_ok dz_X10 q_101 q_102 q_76 (by rw [mc0]) sh_64 (by decide) sgm0.2 ⟨Nat.le_of_ble_eq_true rfl, Nat.le_of_ble_eq_true rfl⟩ dL_law_0 ?_
    refine Wt.mem (M1 := mm1) rfl ?_
    refine w_dup hB rfl dL_law_3 ?_
    refine w_callI (M1 := mm540) hB (n := 64) (As := []) (st := [vr 64]) cw_L_23 rfl q_104 (by decide) (k60 hb hg) ⟨rfl, rfl⟩ (by decide) ⟨Nat.le_of_ble_eq_true rfl, Nat.le_of_ble_eq_true rfl⟩ rfl (Nat.le_of_ble_eq_true rfl) dL_law_4 rfl ?_
    refine w_astore_n hB (L' := [(1, vr 64), (0, vr 61)]) dL_law_7 rfl (by decide) rfl ?_
    refine w_newB hB hb (ci := 9) (N := 47) (n := 311) tyX11 rfl inG_X11 tyX11_ok dz_X11 q_1150 q_1151 q_88 (by rw [mc540]) sh_311 (by decide) sgm540.2 ⟨Nat.le_of_ble_eq_true rfl, Nat.le_of_ble_eq_true rfl⟩ dL_law_8 ?_
    refine Wt.mem (M1 := mm541) rfl ?_
    refine w_dup hB rfl dL_law_11 ?_
    refine w_callI (M1 := mm623) hB (n := 311) (As := []) (st := [vr 311]) cw_L_26 rfl q_1153 (by decide) (k62 hb hg) ⟨rfl, rfl⟩ (by decide) ⟨Nat.le_of_ble_eq_true rfl, Nat.le_of_ble_eq_true rfl⟩ rfl (Nat.le_of_ble_eq_true rfl) dL_law_12 rfl ?_
    refine w_astore_n hB (L' := [(2, vr 311), (1, vr 64), (0, vr 61)]) dL_law_15 rfl (by decide) rfl ?_
    refine w_iconst hB 1 (by decide) dL_law_16 ?_
    refine w_newJ hB hb (n := 346) sh_346 sl_346 sgm623.2 (by rw [mc623]) (by decide) (by decide) ⟨Nat.le_of_ble_eq_true rfl, Nat.le_of_ble_eq_true rfl⟩ dL_law_17 ?_
    refine Wt.mem (M1 := mm624) rfl ?_
    refine w_astore_n hB (L' := [(3, vr 346), (2, vr 311), (1, vr 64), (0, vr 61)]) dL_law_19 rfl (by decide) rfl ?_
    refine w_iconst hB 0 (by decide) dL_law_20 ?_
    refine w_istore hB (L' := [(4, vi 0), (3, vr 346), (2, vr 311), (1, vr 64), (0, vr 61)]) dL_law_21 (by decide) rfl rfl ?_
    refine Wt.steady ?_
    exact law_loop ⟨rfl, hkS⟩ hkR (by rw [hXe]; exact hst) hBs hsc hL he L 0 _ _ mmS (Nat.le_refl _) (Nat.zero_le _) (Nat.le_of_ble_eq_true rfl) (Nat.le_of_ble_eq_true rfl) inv_0
  rw [hXe] at w
  have hl := lv_entry ([.ref b]) (n := 7) (Nat.le_of_ble_eq_true rfl)
  rw [lg_entry_eq]
  have wd0 : wd K mm0 = [] := rfl
  have h := w (fun h => by rw [hb] at h; cases h) s.heap [] _ (by rw [wd0]; exact fun k q h => by simp at h) va_S.rf (fun _ => by rw [hkZ2]; rfl) (by
    show lv_has _ c.maxLocals [(0, val K (vr 61))]
    rw [hml, val61, hk61]
    exact hl)
  exact h
