/-! fewest, key, enough, mend, verdict, by -/
theorem play_cell {M : Mem} (h : HB M) {p : Nat} (hp : p < Cn M 4) : shc (M.2.2.1 64 2) = 8 ∧ inb (nI p) 8 ∧ cr (cr (M.2.2.1 64 2) 12) (nI p).toNatClampNeg = tld M + 31 + 5 * p := by
  have h4 := h.1.2.1.1.2.2.2.2.1.2
  obtain ⟨-, -, -, -, -, -, -, e, -⟩ := tt_r h.1.1
  obtain ⟨t1, -⟩ := tt_p h.1.1 p (by omega)
  refine ⟨tt_0 h.1.1, inb_nI (by omega) (by omega), ?_⟩
  rw [nI_clamp (by omega)]
  have e' : cr (M.2.2.1 64 2) 12 = tld M + 8 := e
  rw [e', t1]
theorem ask_fewest (x : Int32) : Ask (f_X10_fewest x) (f_X11_fewest x) := by
  refine ask_play (x := x) (z := -1) (fun M => rfl) (fun M => rfl) (fun M p h hp hx => ?_)
  subst hx
  obtain ⟨a1, a2, a3⟩ := play_cell h hp
  have O := h.1.2.1
  have hT := h.1.1
  have h4 := O.1.2.2.2.2.1.2
  obtain ⟨r, M1, e1, o1, f1, k1⟩ := fewest_f h.1 hp (h.2 p hp).1
  have h1 : HB M1 := by
    have et : tld M1 = tld M := by unfold tld; rw [o1.1]
    unfold HB
    rw [et]
    refine ⟨h.1.offC o1, fun q hq => ?_⟩
    rw [Cn_dat (o1.dat hT)] at hq
    obtain ⟨b1, b2⟩ := k1 q (by omega)
    refine ⟨?_, ?_⟩
    · rcases b2 with b2 | ⟨rfl, b2⟩
      · rw [b2]; exact (h.2 q hq).1.imp id (fun z => z.dat O (o1.dat hT) hq)
      · rw [b2]; exact Or.inr (f1.dat O (o1.dat hT) hq)
    · rw [b1]; exact (h.2 q hq).2.imp id (fun z => z.dat O (o1.dat hT) hq)
  obtain ⟨r', d', e2, f2⟩ := few_ref h1.1.2.1 (p := p) (by rw [Cn_dat (o1.dat hT)]; exact hp)
  have er : r' = r := f2.uniq (f1.dat O (o1.dat hT) hp)
  rw [er] at e2
  refine ⟨r, M1, sA (setI M1 311 0 0) 344 d', ?_, ?_, h1, o1.sm, rf_sA _ _, sA_0 d'⟩
  · show gd (shc (M.2.2.1 64 2) = 8) (gd (inb (nI p) 8) (cl (f_X4_fewestFrames (M.2.2.1 64 2) (cr (cr (M.2.2.1 64 2) 12) (nI p).toNatClampNeg) M) (fun r2 M2m => some (r2, M2m)))) = some (r, M1)
    rw [gd_t a1, gd_t a2, a3]
    have e1' : f_X4_fewestFrames (M.2.2.1 64 2) (tld M + 31 + 5 * p) M = some (r, M1) := e1
    rw [e1', cl_s]
  · have e2' := e2
    unfold f_X11_fewest at e2'
    simp only [bnd_e] at e2'
    have dt : Dat M (setI M1 311 0 0) := (o1.dat hT).tr (rf_0 M1 0).dat
    rcases play_r (h1.1.2.1.dat (rf_0 M1 0).dat) (nI p) with ⟨-, e3⟩ | ⟨n, -⟩
    · rw [e3, cl_s, if_neg (by decide)] at e2'
      exact e2'
    · exact absurd ((IsP.cong dt (nI p)).mpr ⟨p, hp, rfl⟩) n
/-- both by the judge: the class's changes stay in the judge -/
theorem ask_J {fc gc : Mem → Option (Int32 × Mem)} {M : Mem} (h : HB M) (V : Int32 → Prop) (hc : ∃ r M1, fc M = some (r, M1) ∧ OffJ M M1 ∧ V r) (hr : ∀ M1, MOk M1 → Dat M M1 → ∃ r d', gc M1 = some (r, sA M1 344 d') ∧ V r) (hV : ∀ r r', V r → V r' → r = r') :
    ∃ r M1 M2, fc M = some (r, M1) ∧ gc (setI M1 311 0 0) = some (r, M2) ∧ HB M1 ∧ Sm (tld M) M M1 ∧ Rf (setI M1 311 0 0) M2 ∧ M2.1 311 0 = 0 := by
  obtain ⟨r, M1, e1, o1, v1⟩ := hc
  have h1 := h.offJ o1
  have dt : Dat M (setI M1 311 0 0) := o1.dat.tr (rf_0 M1 0).dat
  obtain ⟨r', d', e2, v2⟩ := hr (setI M1 311 0 0) (h.1.2.1.dat dt) dt
  rw [hV r' r v2 v1] at e2
  exact ⟨r, M1, _, e1, e2, h1, o1.sm _, rf_sA _ _, sA_0 d'⟩
def KeyV (M : Mem) (p : Nat) (r : Int32) : Prop := (¬ Sure (vall M p) ∧ r = -2) ∨ (Sure (vall M p) ∧ r = ky M p (Fn M p))
theorem KeyV.uniq {M : Mem} {p : Nat} {r r' : Int32} (h : KeyV M p r) (h' : KeyV M p r') : r = r' := by
  rcases h with ⟨a, e⟩ | ⟨a, e⟩ <;> rcases h' with ⟨a', e'⟩ | ⟨a', e'⟩
  · rw [e, e']
  · exact absurd a' a
  · exact absurd a a'
  · rw [e, e']
theorem ky_dat {M M' : Mem} (O : MOk M) (h : Dat M M') {p : Nat} (hp : p < Cn M 4) : ∀ j, ky M' p j = ky M p j
  | 0 => rfl
  | j + 1 => by
    show (if vq M' p (sk M' p j) = 2 then ky M' p j ||| ((1 : Int32) <<< (nI j &&& 31)) else ky M' p j) = if vq M p (sk M p j) = 2 then ky M p j ||| ((1 : Int32) <<< (nI j &&& 31)) else ky M p j
    have e : sk M' p j = sk M p j := by unfold sk; rw [Fn_dat h]
    rw [e, vq_dat O h hp (sk_lt O hp j), ky_dat O h hp j]
theorem ask_key (x : Int32) : Ask (f_X10_key x) (f_X11_key x) := by
  refine ask_play (x := x) (z := -1) (fun M => rfl) (fun M => rfl) (fun M p h hp hx => ?_)
  subst hx
  obtain ⟨a1, a2, a3⟩ := play_cell h hp
  refine ask_J (fc := fun M => gd (shc (M.2.2.1 64 2) = 8) (gd (inb (nI p) 8) (cl (f_X4_keyFrames (M.2.2.1 64 2) (cr (cr (M.2.2.1 64 2) 12) (nI p).toNatClampNeg) M) (fun r2 M2m => some (r2, M2m))))) (gc := fun M1 => cl (f_X11_byAll (nI p) M1) (fun r2 M3m => cl (f_X11_isSure r2 M3m) (fun r3 M4m => if r3 = 0 then some ((-2), M4m) else f_X11_key_b33 fuel (nI p) 0 0 M4m))) h (KeyV M p) ?_ (fun M1 O1 dt => ?_) (fun _ _ => KeyV.uniq)
  · show ∃ r M1, gd (shc (M.2.2.1 64 2) = 8) (gd (inb (nI p) 8) (cl (f_X4_keyFrames (M.2.2.1 64 2) (cr (cr (M.2.2.1 64 2) 12) (nI p).toNatClampNeg) M) (fun r2 M2m => some (r2, M2m)))) = some (r, M1) ∧ _
    rw [gd_t a1, gd_t a2, a3]
    obtain ⟨M1, e1, o1⟩ := byAllc_f h.1 hp
    have e1' : f_X4_byFrames (M.2.2.1 64 2) (tld M + 31 + 5 * p) (nI (2 ^ Fn M p - 1)) M = some (vall M p, M1) := e1
    have h4p := h.1.2.1.1.2.2.2.2.1.2
    obtain ⟨-, -, -, -, -, t6⟩ := tt_p h.1.1 p (by omega)
    unfold f_X4_keyFrames
    rw [gd_t t6, allc_f h.1 hp, cl_s, e1', cl_s]
    rcases sure_cls (vall M p) M1 with ⟨s, e⟩ | ⟨s, e⟩
    · obtain ⟨M2, e2, o2⟩ := key_20 h.1 hp o1
      have e2' : f_X4_keyFrames_b27 fuel (M.2.2.1 64 2) (tld M + 31 + 5 * p) (nI (2 ^ Fn M p - 1)) 0 0 M1 = some (ky M p (Fn M p), M2) := e2
      exact ⟨_, M2, by rw [e, cl_s, if_neg (by decide), e2', cl_s], o2, Or.inr ⟨s, rfl⟩⟩
    · exact ⟨_, M1, by rw [e, cl_s, if_pos rfl, cl_s], o1, Or.inl ⟨s, rfl⟩⟩
  · have hp1 : p < Cn M1 4 := by rw [Cn_dat dt]; exact hp
    show ∃ r d', cl (f_X11_byAll (nI p) M1) (fun r2 M3m => cl (f_X11_isSure r2 M3m) (fun r3 M4m => if r3 = 0 then some ((-2), M4m) else f_X11_key_b33 fuel (nI p) 0 0 M4m)) = some (r, sA M1 344 d') ∧ _
    obtain ⟨d1, e1⟩ := byAll_f O1 hp1
    rw [e1, cl_s]
    rcases sure_ref (vall M1 p) (sA M1 344 d1) with ⟨s, e⟩ | ⟨s, e⟩
    · rw [e, cl_s, if_neg (by decide)]
      obtain ⟨d', e2⟩ := key_33 O1 hp1 d1
      rw [vall_dat h.1.2.1 dt hp] at s
      exact ⟨_, d', e2, Or.inr ⟨s, by rw [Fn_dat dt, ky_dat h.1.2.1 dt hp]⟩⟩
    · rw [e, cl_s, if_pos rfl]
      rw [vall_dat h.1.2.1 dt hp] at s
      exact ⟨_, d1, rfl, Or.inl ⟨s, rfl⟩⟩
def EnoV (M : Mem) (p : Nat) (r : Int32) : Prop := (¬ Sure (vall M p) ∧ r = -2) ∨ (Sure (vall M p) ∧ ∃ m, r = nI m ∧ Best (2 ^ Cn M 0) (fun s => vq M p (foA M p s) = vall M p) m)
theorem EnoV.uniq {M : Mem} {p : Nat} {r r' : Int32} (h : EnoV M p r) (h' : EnoV M p r') : r = r' := by
  rcases h with ⟨a, e⟩ | ⟨a, m, e, b⟩ <;> rcases h' with ⟨a', e'⟩ | ⟨a', m', e', b'⟩
  · rw [e, e']
  · exact absurd a' a
  · exact absurd a a'
  · rw [e, e', b.uniq b']
theorem eno_all {M : Mem} (O : MOk M) {p : Nat} (hp : p < Cn M 4) : vq M p (foA M p (2 ^ Cn M 0 - 1)) = vall M p := by
  unfold foA vall
  rw [fo_all O hp _ (Nat.le_refl _)]
theorem ask_enough (x : Int32) : Ask (f_X10_enough x) (f_X11_enough x) := by
  refine ask_play (x := x) (z := -1) (fun M => rfl) (fun M => rfl) (fun M p h hp hx => ?_)
  subst hx
  obtain ⟨a1, a2, a3⟩ := play_cell h hp
  refine ask_J (fc := fun M => gd (shc (M.2.2.1 64 2) = 8) (gd (inb (nI p) 8) (cl (f_X4_fewestCameras (M.2.2.1 64 2) (cr (cr (M.2.2.1 64 2) 12) (nI p).toNatClampNeg) M) (fun r2 M2m => some (r2, M2m))))) (gc := fun M1 => cl (f_X11_byAll (nI p) M1) (fun r2 M3m => cl (f_X11_isSure r2 M3m) (fun r3 M4m => if r3 = 0 then some ((-2), M4m) else f_X11_enough_b36 fuel (nI p) r2 (-1) 0 M4m))) h (EnoV M p) ?_ (fun M1 O1 dt => ?_) (fun _ _ => EnoV.uniq)
  · show ∃ r M1, gd (shc (M.2.2.1 64 2) = 8) (gd (inb (nI p) 8) (cl (f_X4_fewestCameras (M.2.2.1 64 2) (cr (cr (M.2.2.1 64 2) 12) (nI p).toNatClampNeg) M) (fun r2 M2m => some (r2, M2m)))) = some (r, M1) ∧ _
    rw [gd_t a1, gd_t a2, a3]
    obtain ⟨M1, e1, o1⟩ := byAllc_f h.1 hp
    have e1' : f_X4_byFrames (M.2.2.1 64 2) (tld M + 31 + 5 * p) (nI (2 ^ Fn M p - 1)) M = some (vall M p, M1) := e1
    have h4p := h.1.2.1.1.2.2.2.2.1.2
    obtain ⟨-, -, -, -, -, t6⟩ := tt_p h.1.1 p (by omega)
    unfold f_X4_fewestCameras
    rw [gd_t t6, allc_f h.1 hp, cl_s, e1', cl_s]
    rcases sure_cls (vall M p) M1 with ⟨s, e⟩ | ⟨s, e⟩
    · have h0 := h.1.2.1.1.1
      have ec : f_X9_allCameras (M.2.2.1 64 2) M1 = some (nI (2 ^ Cn M 0 - 1), M1) := by
        have tc := (tt_c h.1.1).2.1
        have r0 : M1.1 (M.2.2.1 64 2) 0 = nI (Cn M 0) := by
          have : M1.1 (tld M) 0 = nI (Cn M 0) := by rw [o1.2 _ (by omega), h.1.2.2.1.1.1, h0.1]
          exact this
        unfold f_X9_allCameras
        rw [gd_t a1, r0, all_nI _ (by omega)]
      obtain ⟨m, M2, e2, o2, b⟩ := cse_26 h.1 hp (vall M p) o1 (eno_all h.1.2.1 hp)
      have e2' : f_X4_fewestCameras_b30 fuel (M.2.2.1 64 2) (tld M + 31 + 5 * p) (vall M p) (nI (2 ^ Cn M 0 - 1)) 0 M1 = some (nI m, M2) := e2
      exact ⟨_, M2, by rw [e, cl_s, if_neg (by decide), gd_t a1, ec, cl_s, e2', cl_s], o2, Or.inr ⟨s, m, rfl, b⟩⟩
    · exact ⟨_, M1, by rw [e, cl_s, if_pos rfl, cl_s], o1, Or.inl ⟨s, rfl⟩⟩
  · have hp1 : p < Cn M1 4 := by rw [Cn_dat dt]; exact hp
    have O := h.1.2.1
    have c1 : 1 ≤ 2 ^ Cn M1 0 := Nat.one_le_two_pow
    show ∃ r d', cl (f_X11_byAll (nI p) M1) (fun r2 M3m => cl (f_X11_isSure r2 M3m) (fun r3 M4m => if r3 = 0 then some ((-2), M4m) else f_X11_enough_b36 fuel (nI p) r2 (-1) 0 M4m)) = some (r, sA M1 344 d') ∧ _
    obtain ⟨d1, e1⟩ := byAll_f O1 hp1
    rw [e1, cl_s]
    rcases sure_ref (vall M1 p) (sA M1 344 d1) with ⟨s, e⟩ | ⟨s, e⟩
    · rw [e, cl_s, if_neg (by decide)]
      obtain ⟨m, d', e2, b⟩ := eno_36 O1 hp1 (vall M1 p) d1 (k := 2 ^ Cn M1 0 - 1) (by omega) (eno_all O1 hp1)
      rw [vall_dat O dt hp] at s
      rw [Cn_dat dt] at b
      refine ⟨_, d', e2, Or.inr ⟨s, m, rfl, b.cong (fun k hk => ?_)⟩⟩
      rw [foA_dat dt, vq_dat O dt hp (foA_lt O hp k), vall_dat O dt hp]
    · rw [e, cl_s, if_pos rfl]
      rw [vall_dat O dt hp] at s
      exact ⟨_, d1, rfl, Or.inl ⟨s, rfl⟩⟩
