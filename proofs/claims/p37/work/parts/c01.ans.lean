/-! THE CLASS'S ANSWERS, alone (p37): after each the booth stands as before -/
theorem play_y {M : Mem} (h : HB M) {p : Nat} (hp : p < Cn M 4) : f_X10_isPlay (nI p) M = some (1, M) := by
  rcases play_c h (nI p) with ⟨-, e⟩ | ⟨n, -⟩
  · exact e
  · exact absurd ⟨p, hp, rfl⟩ n
theorem play_n {M : Mem} (h : HB M) {x : Int32} (hx : ¬ IsP M x) : f_X10_isPlay x M = some (0, M) := by
  rcases play_c h x with ⟨n, -⟩ | ⟨-, e⟩
  · exact absurd n hx
  · exact e
def AnV (M : Mem) (f : Mem → Option (Int32 × Mem)) (V : Int32 → Prop) : Prop := ∃ r M1, f M = some (r, M1) ∧ V r ∧ HB M1 ∧ OffC (tld M) M M1
theorem anJ {M : Mem} (h : HB M) {f : Mem → Option (Int32 × Mem)} {V : Int32 → Prop} (e : ∃ r M1, f M = some (r, M1) ∧ OffJ M M1 ∧ V r) : AnV M f V := by
  obtain ⟨r, M1, e1, o, v⟩ := e
  exact ⟨r, M1, e1, v, h.offJ o, o.offC _⟩
theorem an0 {M : Mem} (h : HB M) {f : Mem → Option (Int32 × Mem)} {r : Int32} (e : f M = some (r, M)) : AnV M f (fun x => x = r) := ⟨r, M, e, rfl, h, OffC.refl _ M⟩
theorem an_fewest {M : Mem} (h : HB M) {p : Nat} (hp : p < Cn M 4) : AnV M (f_X10_fewest (nI p)) (FewV M p) := by
  obtain ⟨a1, a2, a3⟩ := play_cell h hp
  have O := h.1.2.1
  have hT := h.1.1
  have h4 := O.1.2.2.2.2.1.2
  obtain ⟨r, M1, e1, o1, f1, k1⟩ := fewest_f h.1 hp (h.2 p hp).1
  have h1 : HB M1 := by
    have et : tld M1 = tld M := by unfold tld; rw [o1.1]
    unfold HB
    rw [et]
    refine ⟨h.1.offC o1, fun q hq => ?_⟩
    rw [Cn_dat (o1.dat hT)] at hq
    obtain ⟨b1, b2⟩ := k1 q (by omega)
    refine ⟨?_, ?_⟩
    · rcases b2 with b2 | ⟨rfl, b2⟩
      · rw [b2]; exact (h.2 q hq).1.imp id (fun z => z.dat O (o1.dat hT) hq)
      · rw [b2]; exact Or.inr (f1.dat O (o1.dat hT) hq)
    · rw [b1]; exact (h.2 q hq).2.imp id (fun z => z.dat O (o1.dat hT) hq)
  refine ⟨r, M1, ?_, f1, h1, o1⟩
  unfold f_X10_fewest
  rw [play_y h hp, cl_s, if_neg (by decide), gd_t a1, gd_t a2, a3]
  have e1' : f_X4_fewestFrames (M.2.2.1 64 2) (tld M + 31 + 5 * p) M = some (r, M1) := e1
  rw [e1', cl_s]
theorem an_mend {M : Mem} (h : HB M) {p : Nat} (hp : p < Cn M 4) : AnV M (f_X10_mend (nI p)) (LeftV M p) := by
  obtain ⟨a1, a2, a3⟩ := play_cell h hp
  have O := h.1.2.1
  have hT := h.1.1
  have h4 := O.1.2.2.2.2.1.2
  obtain ⟨r, M1, e1, o1, f1, k1⟩ := left_f h.1 hp (h.2 p hp).2
  have h1 : HB M1 := by
    have et : tld M1 = tld M := by unfold tld; rw [o1.1]
    unfold HB
    rw [et]
    refine ⟨h.1.offC o1, fun q hq => ?_⟩
    rw [Cn_dat (o1.dat hT)] at hq
    obtain ⟨b1, b2⟩ := k1 q (by omega)
    refine ⟨?_, ?_⟩
    · rw [b1]; exact (h.2 q hq).1.imp id (fun z => z.dat O (o1.dat hT) hq)
    · rcases b2 with b2 | ⟨rfl, b2⟩
      · rw [b2]; exact (h.2 q hq).2.imp id (fun z => z.dat O (o1.dat hT) hq)
      · rw [b2]; exact Or.inr (f1.dat O (o1.dat hT) hq)
  refine ⟨r, M1, ?_, f1, h1, o1⟩
  unfold f_X10_mend
  rw [play_y h hp, cl_s, if_neg (by decide), gd_t a1, gd_t a2, a3]
  have e1' : f_X4_fewestLeftOut (M.2.2.1 64 2) (tld M + 31 + 5 * p) M = some (r, M1) := e1
  rw [e1', cl_s]
theorem an_key {M : Mem} (h : HB M) {p : Nat} (hp : p < Cn M 4) : AnV M (f_X10_key (nI p)) (KeyV M p) := by
  obtain ⟨a1, a2, a3⟩ := play_cell h hp
  refine anJ h ?_
  unfold f_X10_key
  rw [play_y h hp]
  show ∃ r M1, gd (shc (M.2.2.1 64 2) = 8) (gd (inb (nI p) 8) (cl (f_X4_keyFrames (M.2.2.1 64 2) (cr (cr (M.2.2.1 64 2) 12) (nI p).toNatClampNeg) M) (fun r2 M2m => some (r2, M2m)))) = some (r, M1) ∧ _
  rw [gd_t a1, gd_t a2, a3]
  obtain ⟨M1, e1, o1⟩ := byAllc_f h.1 hp
  have e1' : f_X4_byFrames (M.2.2.1 64 2) (tld M + 31 + 5 * p) (nI (2 ^ Fn M p - 1)) M = some (vall M p, M1) := e1
  have h4p := h.1.2.1.1.2.2.2.2.1.2
  obtain ⟨-, -, -, -, -, t6⟩ := tt_p h.1.1 p (by omega)
  unfold f_X4_keyFrames
  rw [gd_t t6, allc_f h.1 hp, cl_s, e1', cl_s]
  rcases sure_cls (vall M p) M1 with ⟨s, e⟩ | ⟨s, e⟩
  · obtain ⟨M2, e2, o2⟩ := key_20 h.1 hp o1
    have e2' : f_X4_keyFrames_b27 fuel (M.2.2.1 64 2) (tld M + 31 + 5 * p) (nI (2 ^ Fn M p - 1)) 0 0 M1 = some (ky M p (Fn M p), M2) := e2
    exact ⟨_, M2, by rw [e, cl_s, if_neg (by decide), e2', cl_s], o2, Or.inr ⟨s, rfl⟩⟩
  · exact ⟨_, M1, by rw [e, cl_s, if_pos rfl, cl_s], o1, Or.inl ⟨s, rfl⟩⟩
theorem an_enough {M : Mem} (h : HB M) {p : Nat} (hp : p < Cn M 4) : AnV M (f_X10_enough (nI p)) (EnoV M p) := by
  obtain ⟨a1, a2, a3⟩ := play_cell h hp
  refine anJ h ?_
  unfold f_X10_enough
  rw [play_y h hp]
  show ∃ r M1, gd (shc (M.2.2.1 64 2) = 8) (gd (inb (nI p) 8) (cl (f_X4_fewestCameras (M.2.2.1 64 2) (cr (cr (M.2.2.1 64 2) 12) (nI p).toNatClampNeg) M) (fun r2 M2m => some (r2, M2m)))) = some (r, M1) ∧ _
  rw [gd_t a1, gd_t a2, a3]
  obtain ⟨M1, e1, o1⟩ := byAllc_f h.1 hp
  have e1' : f_X4_byFrames (M.2.2.1 64 2) (tld M + 31 + 5 * p) (nI (2 ^ Fn M p - 1)) M = some (vall M p, M1) := e1
  have h4p := h.1.2.1.1.2.2.2.2.1.2
  obtain ⟨-, -, -, -, -, t6⟩ := tt_p h.1.1 p (by omega)
  unfold f_X4_fewestCameras
  rw [gd_t t6, allc_f h.1 hp, cl_s, e1', cl_s]
  rcases sure_cls (vall M p) M1 with ⟨s, e⟩ | ⟨s, e⟩
  · have h0 := h.1.2.1.1.1
    have ec : f_X9_allCameras (M.2.2.1 64 2) M1 = some (nI (2 ^ Cn M 0 - 1), M1) := by
      have tc := (tt_c h.1.1).2.1
      have r0 : M1.1 (M.2.2.1 64 2) 0 = nI (Cn M 0) := by
        have : M1.1 (tld M) 0 = nI (Cn M 0) := by rw [o1.2 _ (by omega), h.1.2.2.1.1.1, h0.1]
        exact this
      unfold f_X9_allCameras
      rw [gd_t a1, r0, all_nI _ (by omega)]
    obtain ⟨m, M2, e2, o2, b⟩ := cse_26 h.1 hp (vall M p) o1 (eno_all h.1.2.1 hp)
    have e2' : f_X4_fewestCameras_b30 fuel (M.2.2.1 64 2) (tld M + 31 + 5 * p) (vall M p) (nI (2 ^ Cn M 0 - 1)) 0 M1 = some (nI m, M2) := e2
    exact ⟨_, M2, by rw [e, cl_s, if_neg (by decide), gd_t a1, ec, cl_s, e2', cl_s], o2, Or.inr ⟨s, m, rfl, b⟩⟩
  · exact ⟨_, M1, by rw [e, cl_s, if_pos rfl, cl_s], o1, Or.inl ⟨s, rfl⟩⟩
theorem an_verdict {M : Mem} (h : HB M) {p : Nat} (hp : p < Cn M 4) (y : Int32) : AnV M (f_X10_verdict (nI p) y) (fun r => (¬ (∃ j, j ≤ Fn M p ∧ y = nI j) ∧ r = -1) ∨ ∃ j, j ≤ Fn M p ∧ y = nI j ∧ r = vq M p (2 ^ j - 1)) := by
  obtain ⟨a1, a2, a3⟩ := play_cell h hp
  have O := h.1.2.1
  have h4 := O.1.2.2.2.2.1.2
  have hF := (O.2.2.2.2.2.2.1 p hp).2.2.2.2.2.1
  have r5 : M.1 (tld M + 31 + 5 * p) 5 = nI (Fn M p) := by rw [(h.1.2.2.1.2.2.2.2.2.1 p hp).2.2.2.2.2.1, hF.1]
  have pw : ∀ j, j ≤ Fn M p → 2 ^ j - 1 < 1024 := fun j hj => by
    have := two_le (show j ≤ 10 by omega)
    have : 1 ≤ 2 ^ j := Nat.one_le_two_pow
    omega
  refine anJ h ?_
  unfold f_X10_verdict
  rw [play_y h hp]
  show ∃ r M1, (if y < 0 then some ((-1), M) else gd (shc (M.2.2.1 64 2) = 8) (gd (inb (nI p) 8) (if y ≤ (M.1 (cr (cr (M.2.2.1 64 2) 12) (nI p).toNatClampNeg) 5) then cl (f_X4_byFrames (M.2.2.1 64 2) (cr (cr (M.2.2.1 64 2) 12) (nI p).toNatClampNeg) (((1 : Int32) <<< (y &&& 31)) - 1) M) (fun r2 M2m => some (r2, M2m)) else some ((-1), M)))) = some (r, M1) ∧ _
  by_cases c : y < 0
  · refine ⟨-1, M, by rw [if_pos c], OffJ.refl M, Or.inl ⟨?_, rfl⟩⟩
    rintro ⟨j, hj, rfl⟩
    exact neg_nI (by omega) c
  · rw [if_neg c, gd_t a1, gd_t a2, a3, r5]
    obtain ⟨j, hj, rfl⟩ := nI_of c
    by_cases c2 : nI j ≤ nI (Fn M p)
    · have hj2 : j ≤ Fn M p := by
        rcases Nat.lt_or_ge (Fn M p) j with z | z
        · exact absurd c2 (nI_ge z hj)
        · exact z
      obtain ⟨M', e, o⟩ := vq_J h.1 (OffJ.refl M) hp (pw j hj2)
      have e' : f_X4_byFrames (M.2.2.1 64 2) (tld M + 31 + 5 * p) (nI (2 ^ j - 1)) M = some (vq M p (2 ^ j - 1), M') := e
      exact ⟨_, M', by rw [if_pos c2, all_nI j (by omega), e', cl_s], o, Or.inr ⟨j, hj2, rfl, rfl⟩⟩
    · refine ⟨-1, M, by rw [if_neg c2], OffJ.refl M, Or.inl ⟨?_, rfl⟩⟩
      rintro ⟨i, hi, e⟩
      rw [e] at c2
      exact c2 (le_nI (by omega) (by omega) hi)
theorem an_by {M : Mem} (h : HB M) {p : Nat} (hp : p < Cn M 4) (y : Int32) : AnV M (f_X10_by (nI p) y) (fun r => (¬ (∃ c, c ≤ 2 ^ Cn M 0 - 1 ∧ y = nI c) ∧ r = -1) ∨ ∃ c, c ≤ 2 ^ Cn M 0 - 1 ∧ y = nI c ∧ r = vq M p (foA M p c)) := by
  obtain ⟨a1, a2, a3⟩ := play_cell h hp
  have O := h.1.2.1
  have h0 := O.1.1
  have h4 := O.1.2.2.2.2.1.2
  have pw := two_le (show Cn M 0 ≤ 10 by omega)
  have p1 : 1 ≤ 2 ^ Cn M 0 := Nat.one_le_two_pow
  have r0 : M.1 (M.2.2.1 64 2) 0 = nI (Cn M 0) := by
    have : M.1 (tld M) 0 = nI (Cn M 0) := by rw [h.1.2.2.1.1.1, h0.1]
    exact this
  have bi := by_iff (n := Cn M 0) h0.2 y
  refine anJ h ?_
  unfold f_X10_by
  rw [play_y h hp]
  show ∃ r M1, gd (shc (M.2.2.1 64 2) = 8) (cl (f_X9_allCameras (M.2.2.1 64 2) M) (fun r2 M2m => if (y &&& (r2 ^^^ (-1))) = 0 then gd (shc (M2m.2.2.1 64 2) = 8) (gd (inb (nI p) 8) (cl (f_X6_framesOf (cr (cr (M2m.2.2.1 64 2) 12) (nI p).toNatClampNeg) y M2m) (fun r3 M3m => cl (f_X4_byFrames (M2m.2.2.1 64 2) (cr (cr (M2m.2.2.1 64 2) 12) (nI p).toNatClampNeg) r3 M3m) (fun r4 M4m => some (r4, M4m))))) else some ((-1), M2m))) = some (r, M1) ∧ _
  have ec : f_X9_allCameras (M.2.2.1 64 2) M = some (nI (2 ^ Cn M 0 - 1), M) := by
    unfold f_X9_allCameras
    rw [gd_t a1, r0, all_nI _ (by omega)]
  rw [gd_t a1, ec, cl_s]
  by_cases c : y &&& (nI (2 ^ Cn M 0 - 1) ^^^ (-1)) = 0
  · obtain ⟨j, hj, rfl⟩ := bi.mp c
    obtain ⟨M', e, o⟩ := vq_J h.1 (OffJ.refl M) hp (foA_lt O hp j)
    have e' : f_X4_byFrames (M.2.2.1 64 2) (tld M + 31 + 5 * p) (nI (foA M p j)) M = some (vq M p (foA M p j), M') := e
    exact ⟨_, M', by rw [if_pos c, gd_t a1, gd_t a2, a3, framesOf_cls h.1 hp (by omega), cl_s, e', cl_s], o, Or.inr ⟨j, hj, rfl, rfl⟩⟩
  · exact ⟨-1, M, by rw [if_neg c], OffJ.refl M, Or.inl ⟨fun z => c (bi.mpr z), rfl⟩⟩
theorem an_camera {M : Mem} (h : HB M) (x y : Int32) : AnV M (f_X10_camera x y) (CamA M x y) := by
  refine anJ h ?_
  have h0 := h.1.2.1.1.1
  have r0 : M.1 (M.2.2.1 64 2) 0 = nI (Cn M 0) := by
    have : M.1 (tld M) 0 = nI (Cn M 0) := by rw [h.1.2.2.1.1.1, h0.1]
    exact this
  have t0 : shc (M.2.2.1 64 2) = 8 := tt_0 h.1.1
  obtain ⟨tr1, tr1', tr, tr2, -⟩ := tt_r h.1.1
  have tr1a : cr (M.2.2.1 64 2) 1 = tld M + 1 := tr1
  have tr1b : cr (M.2.2.1 64 2) 2 = tld M + 2 := tr1'
  have tra : cr (M.2.2.1 64 2) 4 = tld M + 3 := tr
  have iff0 := cnt_c (x := x) (n := Cn M 0) (by omega)
  unfold f_X10_camera
  by_cases c1 : x < 0
  · exact ⟨_, M, by rw [if_pos c1], OffJ.refl M, Or.inl ⟨fun z => (iff0.mpr z.1).1 c1, rfl⟩⟩
  · rw [if_neg c1, gd_t t0, r0]
    by_cases c2 : x < nI (Cn M 0)
    · rw [if_pos c2]
      obtain ⟨c, hc, rfl⟩ := iff0.mp ⟨c1, c2⟩
      have ib : inb (nI c) 5 := inb_nI (by omega) (by omega)
      have nc : (nI c).toNatClampNeg = c := nI_clamp (by omega)
      obtain ⟨w1, w2⟩ := h.1.2.2.1.2.1 c hc
      by_cases y0 : y = 0
      · exact ⟨_, M, by rw [if_pos y0, gd_t ib, nc, tr1a, w1], OffJ.refl M, Or.inr ⟨c, hc, rfl, Or.inl ⟨y0, rfl⟩⟩⟩
      rw [if_neg y0]
      by_cases y1 : y = 1
      · exact ⟨_, M, by rw [if_pos y1, gd_t ib, nc, tr1b, w2], OffJ.refl M, Or.inr ⟨c, hc, rfl, Or.inr (Or.inl ⟨y1, rfl⟩)⟩⟩
      rw [if_neg y1, tra]
      have bb := h.1.2.2.2
      by_cases y2 : y = 2
      · rw [if_pos y2]
        by_cases z : M.1 (tld M + 3) 1 = 0
        · obtain ⟨r, e, v⟩ := cam_c h hc z
          exact ⟨r, M, by rw [if_pos z, e, cl_s], OffJ.refl M, Or.inr ⟨c, hc, rfl, Or.inr (Or.inr (Or.inl ⟨y2, v⟩))⟩⟩
        · have n : Neg (CC M) := (Or.resolve_left bb (fun q => z q.1)).2
          exact ⟨-2, M, by rw [if_neg z], OffJ.refl M, Or.inr ⟨c, hc, rfl, Or.inr (Or.inr (Or.inl ⟨y2, Or.inl ⟨n, rfl⟩⟩))⟩⟩
      rw [if_neg y2]
      by_cases y3 : y = 3
      · rw [if_pos y3]
        by_cases z : M.1 (tld M + 3) 1 = 0
        · obtain ⟨r, e, v⟩ := cam_c2 h hc z
          exact ⟨r, M, by rw [if_pos z, e, cl_s], OffJ.refl M, Or.inr ⟨c, hc, rfl, Or.inr (Or.inr (Or.inr ⟨y3, v⟩))⟩⟩
        · have n : Neg (CC M) := (Or.resolve_left bb (fun q => z q.1)).2
          exact ⟨-2, M, by rw [if_neg z], OffJ.refl M, Or.inr ⟨c, hc, rfl, Or.inr (Or.inr (Or.inr ⟨y3, Or.inl ⟨n, rfl⟩⟩))⟩⟩
      rw [if_neg y3]
      exact ⟨-1, M, rfl, OffJ.refl M, Or.inl ⟨fun q => by rcases q.2 with q | q | q | q <;> contradiction, rfl⟩⟩
    · exact ⟨_, M, by rw [if_neg c2], OffJ.refl M, Or.inl ⟨fun z => c2 (iff0.mpr z.1).2, rfl⟩⟩
