/-! text, in both -/
theorem do_text (x : Int32) : Do (f_X10_text x) (f_X11_text x) := by
  intro M hI
  obtain ⟨t, ht, e1, e2, e3⟩ := hI.2.2.2.2.1
  by_cases hx : 0 ≤ x ∧ x ≤ nI t
  · obtain ⟨n, hn, rfl⟩ := (rng_nI (m := t) (by omega)).mp hx
    obtain ⟨B, hB⟩ : ∃ B : Nat → Nat, ∀ k, k < t → B k < 256 ∧ M.1 312 k = sb (B k) := by
      refine ⟨fun k => if h : k < t then (e3 k h).2.choose else 0, fun k hk => ?_⟩
      have q := (e3 k hk).2.choose_spec
      simp only [hk, dif_pos]
      exact q
    obtain ⟨T, eT⟩ : ∃ T, T = M.2.2.1 64 3 := ⟨_, rfl⟩
    obtain ⟨U, eU⟩ : ∃ U, U = M.2.2.1 64 2 := ⟨_, rfl⟩
    have e203 : T + U = 203 := by
      have q := hI.2.2.2.2.2.2
      rw [← eT, ← eU] at q
      omega
    -- the class's end, where all lines were read
    have fin : ∀ st Mc Mr, PP n B T st Mc Mr → FCt T M Mc → ∃ M1, f_X10_text_b93 Mc = some (Mc.1 T 11, M1) ∧ M1.2.1 = Mc.2.1 ∧ M1.2.2.2 = Mc.2.2.2 ∧ (M1.2.2.1 64 2 = T ∧ M1.2.2.1 64 3 = U ∧ ∀ a k, ¬ (a = 64 ∧ (k = 2 ∨ k = 3)) → M1.2.2.1 a k = Mc.2.2.1 a k) ∧ ((∀ k, k < 4 → M1.1 217 k = 0) ∧ M1.1 217 9 = 0 ∧ (∀ k, k < 4 → M1.1 219 k = if k < rdN Mr 1 then Mc.1 (T + 5) k else 0) ∧ (∀ k, k < 4 → M1.1 220 k = 0) ∧ (∀ k, k < 8 → M1.1 221 k = 0)) ∧ M1.1 64 9 = 0 ∧ (M1.1 225 0 = 0 ∧ M1.1 225 1 = 0) ∧ ∀ a k, a ≠ 217 → a ≠ 219 → a ≠ 220 → a ≠ 221 → a ≠ 225 → ¬ (a = 64 ∧ k = 9) → M1.1 a k = Mc.1 a k := fun st Mc Mr P fc => by
      obtain ⟨q1, q2, q3, q4⟩ := P.cnt (s := 1) (by omega)
      have m1 : mxS 1 = 4 := by decide
      exact b93_f P.tt (by rw [fc.2.2.1 _ _ (by omega) (by omega), eU]) (by rw [fc.2.2.1 _ _ (by omega) (by omega), eT]) q3 (by omega)
    have learn : ∃ r M1, f_X10_text (nI n) M = some (r, M1) ∧ ∀ a k, 311 ≤ a → M1.1 a k = M.1 a k := by
      obtain ⟨hT, run⟩ := text_run hI e1 ht hn (Mr := M) (fun _ _ _ => rfl) B hB
      rw [← eT] at hT run
      have tc := tt_208 hT
      rcases run with ⟨st, Mc, Mr, q1, -, P, fc, -⟩ | ⟨Mc, Mr, q1, -, -, fc, -⟩
      · obtain ⟨M1, z1, -, -, -, -, -, -, z8⟩ := fin st Mc Mr P fc
        exact ⟨_, M1, by rw [q1, z1], fun a k h => by rw [z8 a k (by omega) (by omega) (by omega) (by omega) (by omega) (by omega), fc.2.2.2.2 _ _ (by omega) (by omega) (by omega) (by omega) (by omega)]⟩
      · exact ⟨_, Mc, q1, fun a k h => fc.2.2.2.2 _ _ (by omega) (by omega) (by omega) (by omega) (by omega)⟩
    obtain ⟨r, M1, f1, agree⟩ := learn
    obtain ⟨hT, run⟩ := text_run hI e1 ht hn (Mr := M1) agree B hB
    rw [← eT] at hT run
    have tc := tt_208 hT
    rcases run with ⟨st, Mc, Mr, q1, q2, P, fc, fr⟩ | ⟨Mc, Mr, q1, q2, F, fc, fr⟩
    · obtain ⟨M1', z1, z2, z3, ⟨z4, z5, z6⟩, zd, z9, z225, zo⟩ := fin st Mc Mr P fc
      have em : (r, M1) = (Mc.1 T 11, M1') := Option.some.inj (f1.symm.trans (q1.trans z1))
      have er : r = Mc.1 T 11 := congrArg Prod.fst em
      have eM : M1 = M1' := congrArg Prod.snd em
      rw [← eM] at z2 z3 z4 z5 z6 zd z9 z225 zo
      obtain ⟨p1, p2, p3, p4⟩ := P.cnt (s := 1) (by omega)
      obtain ⟨w1, w2, w3, w4⟩ := P.cnt (s := 4) (by omega)
      have m1 : mxS 1 = 4 := by decide
      obtain ⟨M2, o0, o1, o2, o3, o4, o5, o6, o7, o8, o9⟩ := over_f Mr (c := rdN Mr 1) (by omega) p1
      refine ⟨r, M1, M2, f1, ?_, over_inv hI hT e203 P rfl fc fr ⟨z4, z5⟩ zd z9 z225 zo o1 o2 o3 o4 o5 o6 o7 o8 o9, ?_⟩
      · rw [q2]
        unfold f_X11_text_b71
        have v : M2.1 313 4 = r := by
          rw [o8 313 4 (by decide) (by omega) (by decide), er]
          have w3' : Mc.1 T 11 = nI (rdN Mr 4) := w3
          rw [w3']
          exact w1
        rw [if_pos P.1.2.2.2, o0, clv_s, v]
      · rw [o9 _ _ (by omega) (by omega) (by omega) (by omega)]
        exact fr.2.2.1.1
    · have em : (r, M1) = ((-2) - (Mc.1 208 8), Mc) := Option.some.inj (f1.symm.trans q1)
      have er : r = (-2) - (Mc.1 208 8) := congrArg Prod.fst em
      have eM : M1 = Mc := congrArg Prod.snd em
      rw [eM] at fr
      refine ⟨r, M1, Mr, f1, ?_, Inv.refused hI (by rw [← eT]; exact hT) (by rw [← eT]; exact fc) fr, fr.2.2.1.1⟩
      rw [q2]
      unfold f_X11_text_b71
      rw [if_neg F.1, er, F.2]
  · obtain ⟨q1, M2, q2, q3, q4⟩ := text_out hI e1 e2 ht hx
    exact ⟨-1, M, M2, q1, q2, q3, q4⟩
