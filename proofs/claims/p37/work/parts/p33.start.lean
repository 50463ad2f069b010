set_option maxRecDepth 100000 in
theorem mmS_sz : szM mmS = 0 := by decide +kernel
set_option maxHeartbeats 4000000 in
set_option maxRecDepth 100000 in
/-- the law from its entry -/
theorem whole_start {p : Program} {e : Env} {s : State} {m : MethodId} {below : List Frame} {meth : Method} {c : Code} (l : Launch) (hflags : l.flags = flags0) {b L : Nat} {xs : Nat → Int32} (hL : L ≤ 260) (C0 : lw_At p s m meth c b L xs) : W p l e room_1 s m #[Value.ref b] below meth c s.heap [] 0 0 (lw_Z below #[Value.ref b] s) (entryFrame m ([Value.ref b] : List Value).toArray 11) := by
  obtain ⟨hx, hcb, hr, hml, hown, hts, hX, hbl, hlocks, hgv⟩ := C0
  obtain ⟨M', hF, hgx, hmk⟩ := law_f (N := L) (xs := xs) (by omega)
  have g1 := hgx.1
  have g2 := hgx.2.1
  have k1 := hmk.1
  have k2 := hmk.2
  rw [show mmS.2.2.2 = 247 from rfl] at g1 k1
  rw [mmS_sz] at g2 k2
  obtain ⟨ad, e61, hlt, hinj, hK0⟩ := start_A b hts (flat_of_before _ hgv)
  obtain ⟨Y, hY⟩ := start_Y hts
  obtain ⟨D, hD⟩ := start_D hts
  obtain ⟨K, hK⟩ : ∃ K : Kt, K = (s, s.heap.size, D, Y, ad, true) := ⟨_, rfl⟩
  have hb : kP K = true := by rw [hK]
  have hAl : Al K s := by
    rw [hK]
    exact ⟨State.WarmedH.refl s, Nat.le_refl _, rfl, ⟨hD, fun k q hq => hY D ad true k q hq⟩, fun _ _ => rfl, hlt, hinj⟩
  have hkS : KTok (kst K) := by rw [hK]; exact hK0 D Y false
  have hg : KBd K := by
    rw [hK]
    obtain ⟨n1, n2, n3, n4, n5, n6, n7⟩ := tb_nest
    obtain ⟨-, a4, a5, a6, a7, a8⟩ := tb_ar
    exact ⟨hK0 D Y true, ⟨va_Nw.of rfl (hts _ n1), va_Nw.of rfl (hts _ n2), va_Nw.of rfl (hts _ n3), va_Nw.of rfl (hts _ n4), va_Nw.of rfl (hts _ n5), va_Nw.of rfl (hts _ n6), va_Nw.of rfl (hts _ n7)⟩, va_AO.of (hts _ a4), va_AO.of (hts _ a5), va_AO.of (hts _ a6), va_AO.of (hts _ a8), va_AO.of (hts _ a7)⟩
  have hkC : KC (kst K) := by
    rw [hK]
    exact start_C (A := #[Value.ref b]) hts
  have hk61 : kA K 61 = b := by rw [hK]; exact e61
  have hkS2 : kS K = s := by rw [hK]
  have hkZ2 : kZ K = s.heap.size := by rw [hK]
  have hsc : KScr (kst K) L xs := by
    show va_X (kA K 61) L xs (kS K) (kS K).heap ∧ kA K 61 < kZ K
    rw [hk61, hkZ2, hkS2]
    exact ⟨hX, hbl⟩
  clear hK
  have r1 : room_1.cells = 749912 := rfl
  have r2 : room_1.slots = 6851962 := rfl
  refine w_reroom (R1 := { frames := 10, cells := M'.2.2.2, slots := 3725 + szM M', locals := 257 }) (Nat.le_of_ble_eq_true rfl) (show M'.2.2.2 ≤ room_1.cells by omega) (show 3725 + szM M' ≤ room_1.slots by omega) (Nat.le_of_ble_eq_true rfl) ?_
  refine w_post (fun t ht => lw_of_MQ (K := kst K) (M1 := M') (mc := M'.2.2.2) (ms := 3725 + szM M') hkZ2.symm (by omega) (by omega) ht) ?_
  obtain ⟨X, hXe⟩ : ∃ X : Xt, X = (p, l, e, { frames := 10, cells := M'.2.2.2, slots := 3725 + szM M', locals := 257 }, s, m, #[Value.ref b], below, meth, c) := ⟨_, rfl⟩
  have hB : Bx K X { frames := 10, cells := M'.2.2.2, slots := 3725 + szM M', locals := 257 } cL_law 11 RL (some .boolean) := by
    rw [hXe]
    exact ⟨hx, hcb, hml, hown, fun w hw => hts w (List.mem_filter.mp hw).1, hAl, hr, hlocks, rfl⟩
  have hBs : Bx (kst K) X { frames := 10, cells := M'.2.2.2, slots := 3725 + szM M', locals := 257 } cL_law 11 RL (some .boolean) := hB
  have w : Wt K X (QM (kst K) X (some (vi 1)) M' M'.2.2.2 (3725 + szM M')) 0 0 mm0 0 [(0, vr 61)] [] := by
    refine w_newB hB hb (ci := 8) (N := 14) (n := 64) tyX10 rfl inG_X10 tyX10_ok dz_X10 q_37 q_38 q_9 (by rw [mc0]) sh_64 (by decide) sgm0.2 ⟨show 0 + 1 ≤ M'.2.2.2 by omega, show 0 + 14 ≤ 3725 + szM M' by omega⟩ dL_law_0 ?_
    refine Wt.mem (M1 := mm1) rfl ?_
    refine w_dup hB rfl dL_law_3 ?_
    refine w_callI (M1 := mm540) hB (n := 64) (As := []) (st := [vr 64]) cw_L_115 rfl q_40 (Or.inl (by decide)) (k60 hb hg) ⟨rfl, rfl⟩ ⟨Nat.le_of_ble_eq_true rfl, Nat.le_of_ble_eq_true rfl⟩ ⟨show 0 + 1 + 246 ≤ M'.2.2.2 by omega, show 0 + 14 + 3711 ≤ 3725 + szM M' by omega⟩ rfl (Nat.le_of_ble_eq_true rfl) dL_law_4 rfl ?_ (Or.inr (by rw [mc1, mc540]))
    refine w_astore_n hB (L' := [(1, vr 64), (0, vr 61)]) dL_law_7 rfl (by decide) rfl ?_
    refine Wt.steady ?_
    refine Wt.swap (L' := [(0, vr 61), (1, vr 64)]) (fun q h => by simp only [List.mem_cons, List.not_mem_nil, or_false] at h ⊢; exact h.symm) ?_
    exact b_L_law_b8 ⟨rfl, hkS⟩ hkC hsc hBs hF (show M'.2.2.2 + 247 = 0 + 1 + 246 + M'.2.2.2 by omega) (by rw [mmS_sz]; omega)
  rw [hXe] at w
  have hl := lv_entry ([.ref b]) (n := 11) (Nat.le_of_ble_eq_true rfl)
  rw [lg_entry_eq]
  have wd0 : wd K mm0 = [] := rfl
  have h := w (fun h => by rw [hb] at h; cases h) s.heap [] _ (by rw [wd0]; exact fun k q h => by simp at h) va_S.rf (by rw [hkZ2]; rfl) (by
    show lv_has _ c.maxLocals [(0, val K (vr 61))]
    rw [hml, val61, hk61]
    exact hl)
  exact h
