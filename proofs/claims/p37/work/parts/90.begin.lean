/-! where both begin -/
def zer (lo : Nat) (j : Nat) (d : Nat → Int32) : Nat → Int32 := fun i => if lo ≤ i ∧ i < lo + j then 0 else d i
theorem zer_s (lo j : Nat) (d : Nat → Int32) : upd (zer lo j d) (lo + j) 0 = zer lo (j + 1) d := by
  funext i
  show (if i = lo + j then 0 else if lo ≤ i ∧ i < lo + j then 0 else d i) = if lo ≤ i ∧ i < lo + (j + 1) then 0 else d i
  by_cases c : i = lo + j
  · rw [if_pos c, if_pos (by omega)]
  · rw [if_neg c]
    by_cases c2 : lo ≤ i ∧ i < lo + j
    · rw [if_pos c2, if_pos (by omega)]
    · rw [if_neg c2, if_neg (by omega)]
theorem zer_0 (lo : Nat) (d : Nat → Int32) : zer lo 0 d = d := funext (fun i => if_neg (by omega))
theorem us75_f (M : Mem) : f_X11_usual_b75 fuel 0 M = some (sA M 315 (zer 0 4 (M.1 315))) := by
  have hl := lp_for (z := fun _ _ => none) (s := f_X11_usual_b75_s) (fun j (f : Int32 → Mem → Option Mem) => f (nI j) (sA M 315 (zer 0 j (M.1 315)))) 4 (some (sA M 315 (zer 0 4 (M.1 315)))) (fun j hj f => by
    show f_X11_usual_b75_s f (nI j) (sA M 315 (zer 0 j (M.1 315))) = f (nI (j + 1)) (sA M 315 (zer 0 (j + 1) (M.1 315)))
    have z := zer_s 0 j (M.1 315)
    rw [Nat.zero_add] at z
    unfold f_X11_usual_b75_s
    rw [if_neg (show ¬ (4 : Int32) ≤ nI j from nI_ge (a := j) (b := 4) hj (by omega)), gd_t (inb_nI (by omega) (by omega)), nI_clamp (by omega), nar_b.1, setI_sA, sA_rw, sA_two, z, bnd_e, nI_1, bnd_e]) (fun f => by
    show f_X11_usual_b75_s f (nI 4) (sA M 315 (zer 0 4 (M.1 315))) = _
    unfold f_X11_usual_b75_s
    rw [if_pos (show (4 : Int32) ≤ nI 4 by decide)]) fuel (by unfold fuel; omega)
  simp only [zer_0, sA_self] at hl
  exact hl
theorem us49_f (M : Mem) : f_X11_usual_b49 fuel 1 0 M = some (sA (sA M 313 (zer 6 6 (M.1 313))) 315 (zer 0 4 (M.1 315))) := by
  have hl := lp_for (z := fun _ _ _ => none) (s := f_X11_usual_b49_s) (fun j (f : Int32 → Int32 → Mem → Option Mem) => f 1 (nI j) (sA M 313 (zer 6 j (M.1 313)))) 6 (some (sA (sA M 313 (zer 6 6 (M.1 313))) 315 (zer 0 4 (M.1 315)))) (fun j hj f => by
    show f_X11_usual_b49_s f 1 (nI j) (sA M 313 (zer 6 j (M.1 313))) = f 1 (nI (j + 1)) (sA M 313 (zer 6 (j + 1) (M.1 313)))
    have e : (6 : Int32) * 1 + nI j = nI (6 + j) := by rw [show (6 : Int32) * 1 = nI 6 by decide, nI_add]
    unfold f_X11_usual_b49_s
    rw [if_neg (show ¬ (6 : Int32) ≤ nI j from nI_ge (a := j) (b := 6) hj (by omega)), e, gd_t (inb_nI (by omega) (by omega)), nI_clamp (by omega), setI_sA, sA_rw, sA_two, zer_s, bnd_e, nI_1, bnd_e]) (fun f => by
    show f_X11_usual_b49_s f 1 (nI 6) (sA M 313 (zer 6 6 (M.1 313))) = _
    have r : (sA M 313 (zer 6 6 (M.1 313))).1 315 = M.1 315 := funext (fun k => sA_n M _ k (by omega))
    unfold f_X11_usual_b49_s
    rw [if_pos (show (6 : Int32) ≤ nI 6 by decide), us75_f, r]) fuel (by unfold fuel; omega)
  simp only [zer_0, sA_self] at hl
  exact hl
def rul0 (k : Nat) : Int32 := if k = 0 then 60 else if k = 1 then 0 else if k = 2 then 1000 else 1
theorem usual_f (M : Mem) : ∃ M', f_X11_usual 1 M = some M' ∧ (∀ s, s < 6 → M'.1 313 (6 + s) = 0) ∧ (∀ k, k < 4 → M'.1 314 (4 + k) = rul0 k) ∧ (∀ k, k < 4 → M'.1 315 k = 0) ∧ M'.2 = M.2 ∧ ∀ a k, ¬ (a = 313 ∧ 6 ≤ k) → ¬ (a = 314 ∧ 4 ≤ k) → a ≠ 315 → M'.1 a k = M.1 a k := by
  obtain ⟨M4, e4⟩ : ∃ X, X = setI (setI (setI (setI M 314 4 60) 314 5 0) 314 6 1000) 314 7 1 := ⟨_, rfl⟩
  refine ⟨sA (sA M4 313 (zer 6 6 (M4.1 313))) 315 (zer 0 4 (M4.1 315)), ?_, fun s hs => ?_, fun k hk => ?_, fun k hk => ?_, ?_, fun a k h1 h2 h3 => ?_⟩
  · unfold f_X11_usual
    rw [show (4 : Int32) * 1 + 0 = nI 4 by decide, show (4 : Int32) * 1 + 1 = nI 5 by decide, show (4 : Int32) * 1 + 2 = nI 6 by decide, show (4 : Int32) * 1 + 3 = nI 7 by decide, gd_t (inb_nI (by omega) (by omega)), bnd_e, gd_t (inb_nI (by omega) (by omega)), bnd_e, gd_t (inb_nI (by omega) (by omega)), bnd_e, gd_t (inb_nI (by omega) (by omega)), bnd_e, nI_clamp (show 4 < 2 ^ 31 by omega), nI_clamp (show 5 < 2 ^ 31 by omega), nI_clamp (show 6 < 2 ^ 31 by omega), nI_clamp (show 7 < 2 ^ 31 by omega), ← e4, us49_f]
  · rw [sA_n _ _ _ (by omega), sA_s]
    exact if_pos (by omega)
  · rw [sA_n _ _ _ (by omega), sA_n _ _ _ (by omega), e4]
    have e : k = 0 ∨ k = 1 ∨ k = 2 ∨ k = 3 := by omega
    rcases e with rfl | rfl | rfl | rfl
    · rw [setI_n (by omega), setI_n (by omega), setI_n (by omega), setI_s]; rfl
    · rw [setI_n (by omega), setI_n (by omega), setI_s]; rfl
    · rw [setI_n (by omega), setI_s]; rfl
    · rw [setI_s]; rfl
  · rw [sA_s]
    exact if_pos (by omega)
  · rw [e4]; rfl
  · have q : M4.1 a k = M.1 a k := by rw [e4, setI_n (by omega), setI_n (by omega), setI_n (by omega), setI_n (by omega)]
    rw [sA_n _ _ _ h3]
    by_cases c : a = 313
    · have z : zer 6 6 (M4.1 313) k = M4.1 313 k := if_neg (by omega)
      rw [c] at q
      rw [c, sA_s, z]; exact q
    · rw [sA_n _ _ _ c]; exact q
/-! the class's: what is told cleared, the first token taken -/
theorem clr9_f {T : Nat} (hT : TT T) (M : Mem) : ∃ M', f_X9_clear T M = some M' ∧ (∀ s, s < 6 → M'.1 T (sl s) = 0) ∧ (∀ k, k < 4 → M'.1 (T + 9) k = rul0 k) ∧ M'.1 (T + 3) 1 = 0 ∧ (BOk (M'.1 (T + 4)) ∧ Tig (fun _ _ _ => False) (cm (M'.1 (T + 4)))) ∧ M'.2 = M.2 ∧ ∀ a k, ¬ (T ≤ a ∧ a ≤ T + 9) → M'.1 a k = M.1 a k := by
  have t8 := tt_0 hT
  obtain ⟨-, -, tr3, tr, -, -, -, -, tr13⟩ := tt_r hT
  obtain ⟨M1, d1⟩ : ∃ X, X = setI (setI M T 0 0) T 3 0 := ⟨_, rfl⟩
  obtain ⟨M2, d2⟩ : ∃ X, X = setI (sA M1 (T + 4) (dgo 10 (fil 100 268435456 100 (M1.1 (T + 4))))) (T + 3) 1 0 := ⟨_, rfl⟩
  obtain ⟨M3, d3⟩ : ∃ X, X = setI (setI (setI (setI M2 T 5 0) T 7 0) T 9 0) T 11 0 := ⟨_, rfl⟩
  obtain ⟨M4, d4⟩ : ∃ X, X = setI (setI (setI (setI M3 (T + 9) 0 60) (T + 9) 1 0) (T + 9) 2 1000) (T + 9) 3 1 := ⟨_, rfl⟩
  have ok := dini_ok (M1.1 (T + 4))
  have r4 : ∀ a k, a ≠ T + 9 → M4.1 a k = M3.1 a k := fun a k h => by rw [d4, setI_n (Or.inl h), setI_n (Or.inl h), setI_n (Or.inl h), setI_n (Or.inl h)]
  have r3 : ∀ a k, a ≠ T → M3.1 a k = M2.1 a k := fun a k h => by rw [d3, setI_n (Or.inl h), setI_n (Or.inl h), setI_n (Or.inl h), setI_n (Or.inl h)]
  have r2 : ∀ a k, a ≠ T + 3 → a ≠ T + 4 → M2.1 a k = M1.1 a k := fun a k h h' => by rw [d2, setI_n (Or.inl h), sA_n _ _ _ h']
  have r1 : ∀ a k, a ≠ T → M1.1 a k = M.1 a k := fun a k h => by rw [d1, setI_n (Or.inl h), setI_n (Or.inl h)]
  have row : M4.1 (T + 4) = dgo 10 (fil 100 268435456 100 (M1.1 (T + 4))) := funext (fun k => by rw [r4 _ _ (by omega), r3 _ _ (by omega), d2, setI_n (by omega), sA_s])
  refine ⟨M4, ?_, fun s hs => ?_, fun k hk => ?_, ?_, ?_, ?_, fun a k h => ?_⟩
  · unfold f_X9_clear
    rw [gd_t t8, bnd_e, bnd_e, ← d1, tr3, clr2_f hT, clv_s, ← d2, bnd_e, bnd_e, bnd_e, bnd_e, ← d3, tr13, bnd_e, bnd_e, bnd_e, bnd_e, ← d4]
  · rw [r4 _ _ (by omega), d3]
    have e : s = 0 ∨ s = 1 ∨ s = 2 ∨ s = 3 ∨ s = 4 ∨ s = 5 := by omega
    rcases e with rfl | rfl | rfl | rfl | rfl | rfl
    · show (setI (setI (setI (setI M2 T 5 0) T 7 0) T 9 0) T 11 0).1 T 0 = 0
      rw [setI_n (by omega), setI_n (by omega), setI_n (by omega), setI_n (by omega), r2 _ _ (by omega) (by omega), d1, setI_n (by omega), setI_s]
    · show (setI (setI (setI (setI M2 T 5 0) T 7 0) T 9 0) T 11 0).1 T 5 = 0
      rw [setI_n (by omega), setI_n (by omega), setI_n (by omega), setI_s]
    · show (setI (setI (setI (setI M2 T 5 0) T 7 0) T 9 0) T 11 0).1 T 7 = 0
      rw [setI_n (by omega), setI_n (by omega), setI_s]
    · show (setI (setI (setI (setI M2 T 5 0) T 7 0) T 9 0) T 11 0).1 T 9 = 0
      rw [setI_n (by omega), setI_s]
    · exact setI_s
    · show (setI (setI (setI (setI M2 T 5 0) T 7 0) T 9 0) T 11 0).1 T 3 = 0
      rw [setI_n (by omega), setI_n (by omega), setI_n (by omega), setI_n (by omega), r2 _ _ (by omega) (by omega), d1, setI_s]
  · rw [d4]
    have e : k = 0 ∨ k = 1 ∨ k = 2 ∨ k = 3 := by omega
    rcases e with rfl | rfl | rfl | rfl
    · rw [setI_n (by omega), setI_n (by omega), setI_n (by omega), setI_s]; rfl
    · rw [setI_n (by omega), setI_n (by omega), setI_s]; rfl
    · rw [setI_n (by omega), setI_s]; rfl
    · rw [setI_s]; rfl
  · rw [r4 _ _ (by omega), r3 _ _ (by omega), d2, setI_s]
  · rw [row]; exact ok
  · rw [d4, d3, d2, d1]; rfl
  · rw [r4 _ _ (by omega), r3 _ _ (by omega), r2 _ _ (by omega) (by omega), r1 _ _ (by omega)]
theorem min_600 {n : Nat} (h : n ≤ 600) : min32 (nI n) 600 = nI n := by
  unfold min32
  by_cases c : n = 600
  · rw [c, if_neg (by decide)]
  · rw [if_neg (fun z => by have := (lt_nI (a := 600) (b := n) (by omega) (by omega)).mp z; omega)]
/-- both have begun -/
theorem begin_ls {n : Nat} {B : Nat → Nat} {T : Nat} {Mc Mr : Mem} (hT : TT T) (hn : n ≤ 600) (h65 : ∀ k, k < n → B k < 256 ∧ Mc.1 65 k = sb (B k)) (h312 : ∀ k, k < n → Mr.1 312 k = sb (B k)) (h3 : Mr.1 311 3 = nI n) (h5 : Mr.1 311 5 = 0) (h9 : Mr.1 311 9 = 0) :
    ∃ st Mc' Mr' Mr1, f_X7_begin T (nI n) Mc = some Mc' ∧ f_X11_usual 1 Mr = some Mr1 ∧ f_X11_steps Mr1 = some Mr' ∧ PP n B T st Mc' Mr' ∧ (Mc'.2.1 = Mc.2.1 ∧ Mc'.2.2.2 = Mc.2.2.2 ∧ (∀ a k, ¬ (a = 208 ∧ (k = 1 ∨ k = 4)) → Mc'.2.2.1 a k = Mc.2.2.1 a k) ∧ ∀ a k, ¬ (a = 208 ∧ 2 ≤ k) → ¬ (T ≤ a ∧ a ≤ T + 70) → Mc'.1 a k = Mc.1 a k) ∧
      (Mr'.2.2 = Mr.2.2 ∧ (∀ a k, ¬ (a = 311 ∧ k = 8) → Mr'.2.1 a k = Mr.2.1 a k) ∧ ∀ a k, ¬ (a = 311 ∧ (4 ≤ k ∧ k ≤ 10)) → ¬ (313 ≤ a ∧ a ≤ 339 ∧ hf a ≤ k) → Mr'.1 a k = Mr.1 a k) := by
  have tc := tt_208 hT
  have t8 := tt_0 hT
  obtain ⟨-, -, -, tr, -⟩ := tt_r hT
  obtain ⟨Mc1, e1, q1, q2, q3, q4, q5, q6⟩ := clr9_f hT Mc
  obtain ⟨Mc2, d2⟩ : ∃ X, X = setI (setI (setI (setI (setR Mc1 208 1 T) 208 2 (nI n)) 208 3 0) 208 9 0) 208 13 0 := ⟨_, rfl⟩
  have c2 : ∀ a k, a ≠ 208 → Mc2.1 a k = Mc1.1 a k := fun a k h => by rw [d2, setI_n (Or.inl h), setI_n (Or.inl h), setI_n (Or.inl h), setI_n (Or.inl h)]; rfl
  have x2 : Mc2.1 208 2 = nI n := by rw [d2, setI_n (by omega), setI_n (by omega), setI_n (by omega), setI_s]
  have x3 : Mc2.1 208 3 = nI 0 := by rw [d2, setI_n (by omega), setI_n (by omega), setI_s]; rfl
  have x9 : Mc2.1 208 9 = nI 0 := by rw [d2, setI_n (by omega), setI_s]; rfl
  have x13 : Mc2.1 208 13 = nI 0 := by rw [d2, setI_s]; rfl
  have sc : ScC n B Mc2 := ⟨x2, hn, fun k hk => ⟨(h65 k hk).1, by rw [c2 _ _ (by omega), q6 _ _ (by omega)]; exact (h65 k hk).2⟩⟩
  obtain ⟨Mc3, a1, a3, a5, a6, a4, f3⟩ := adv_c sc (Nat.zero_le n) x3
  obtain ⟨Mr1, u1, u2, u3, u4, u5, u6⟩ := usual_f Mr
  have sr : ScR n B Mr1 := ⟨by rw [u6 _ _ (by omega) (by omega) (by omega), h3], hn, fun k hk => ⟨(h65 k hk).1, by rw [u6 _ _ (by omega) (by omega) (by omega)]; exact h312 k hk⟩⟩
  obtain ⟨Mr3, b1, b4, b5, b6, b7, b8, g3⟩ := steps_r sr (Nat.zero_le n) (by rw [u6 _ _ (by omega) (by omega) (by omega), h5]; rfl)
  have st0 : nxt n B 0 ≤ n := by
    have := rnn_le bl n B 0
    unfold nxt
    omega
  have T3 : Mc3.2.2.1 208 1 = T := by
    have z : (if (208 : Nat) = 208 ∧ (1 : Nat) = 1 then T else Mc1.2.2.1 208 1) = T := if_pos ⟨rfl, rfl⟩
    rw [f3.2.2.1 _ _ (by omega), d2]
    exact z
  have r313 : ∀ s, s < 6 → Mr3.1 313 (6 + s) = 0 := fun s hs => by rw [g3.2.2 _ _ (by omega), u2 s hs]
  have rd0 : ∀ s, s < 6 → rdN Mr3 s = 0 := fun s hs => by unfold rdN; rw [r313 s hs]; rfl
  have cn0 : ∀ s, s < 6 → Cn (mixM Mc3 Mr3) s = 0 := fun s hs => by rw [cn_mix, rd0 s hs]
  have cT : ∀ a k, a < 208 → Mc3.1 a k = Mc1.1 a k := fun a k h => by rw [f3.2.2.2 _ _ (by omega), c2 _ _ (by omega)]
  have rul : ∀ k, k < 4 → (mixM Mc3 Mr3).1 314 k = rul0 k ∧ (mixM Mc3 Mr3).1 (T + 9) k = rul0 k := fun k hk => ⟨by rw [mix_r _ _ (by omega) (by omega), show hf 314 = 4 from rfl, g3.2.2 _ _ (by omega), u3 k hk], by rw [mix_c _ _ (by omega), cT _ _ (by omega), q2 k hk]⟩
  have Nm : NmR 6 Mc3 Mr3 := by
    have rq0 : ∀ s, s < 6 → rq 6 Mr3 s = 0 := fun s hs => by unfold rq; rw [rd0 s hs, if_neg (by omega)]
    refine ⟨fun s hs => ?_, 0, by rw [f3.2.2.2 _ _ (by omega), x9], by rw [rq0 0 (by omega), rq0 1 (by omega), rq0 2 (by omega), rq0 3 (by omega), rq0 4 (by omega)], fun i hi => absurd hi (by omega), fun s k hs hk => ?_, fun i j hi => absurd hi (by omega)⟩
    · rw [rq0 s hs, rd0 s hs, r313 s hs]
      exact ⟨rfl, by omega⟩
    · rw [rq0 s (by omega)] at hk
      exact absurd hk (by omega)
  have I : ITS (mixM Mc3 Mr3) T := by
    refine ⟨hT, fun s hs => ?_, fun c hc => ?_, fun c hc => ?_, fun c hc => ?_, fun c hc => ?_, fun c hc => ?_, fun c hc => ?_, fun c hc => ?_, ⟨?_, fun k hk => by rw [(rul k hk).1, (rul k hk).2]⟩, ?_⟩
    · have sl8 : sl s ≤ 11 := by
        have e : s = 0 ∨ s = 1 ∨ s = 2 ∨ s = 3 ∨ s = 4 ∨ s = 5 := by omega
        rcases e with rfl | rfl | rfl | rfl | rfl | rfl <;> decide
      rw [cn0 s hs, mix_r _ _ (by omega) (by omega), mix_c _ _ (by omega), show hf 313 = 6 from rfl, r313 s hs, cT _ _ (by omega), q1 s hs]
      exact ⟨rfl, by omega, rfl⟩
    · rw [cn0 0 (by omega)] at hc; exact absurd hc (by omega)
    · rw [cn0 5 (by omega)] at hc; exact absurd hc (by omega)
    · rw [cn0 1 (by omega)] at hc; exact absurd hc (by omega)
    · rw [cn0 2 (by omega)] at hc; exact absurd hc (by omega)
    · rw [cn0 3 (by omega)] at hc; exact absurd hc (by omega)
    · rw [cn0 4 (by omega)] at hc; exact absurd hc (by omega)
    · rw [cn0 4 (by omega)] at hc; exact absurd hc (by omega)
    · rw [(rul 0 (by omega)).1, (rul 1 (by omega)).1, (rul 2 (by omega)).1, (rul 3 (by omega)).1]
      decide
    · have r4 : (mixM Mc3 Mr3).1 (T + 4) = Mc1.1 (T + 4) := funext (fun k => by rw [mix_c _ _ (by omega), cT _ _ (by omega)])
      have cf : CC (mixM Mc3 Mr3) = fun _ _ _ => False := by
        funext a b v
        refine propext ⟨?_, fun z => absurd z id⟩
        rintro (⟨c, hc, -⟩ | ⟨f, hf, -⟩)
        · rw [cn0 0 (by omega)] at hc; exact absurd hc (by omega)
        · rw [cn0 5 (by omega)] at hf; exact absurd hf (by omega)
      refine Or.inl ⟨by rw [mix_c _ _ (by omega), cT _ _ (by omega), q3], ?_, ?_⟩
      · rw [tr, r4]; exact q4.1
      · rw [tr, r4, cf]; exact q4.2
  refine ⟨nxt n B 0, Mc3, Mr3, Mr1, ?_, u1, b1, ⟨⟨st0, ⟨a3, a5, a6, a4, sc.fs f3⟩, ⟨b5, b4, b6, b7, b8, sr.fs g3⟩, by rw [g3.2.2 _ _ (by omega), u6 _ _ (by omega) (by omega) (by omega), h9]⟩, T3, Nm, I, 0, by omega, by rw [f3.2.2.2 _ _ (by omega), x13], fun k hk => by rw [g3.2.2 _ _ (by omega), u4 k hk, Nat.zero_testBit]; rfl⟩, ⟨?_, ?_, fun a k h => ?_, fun a k h1 h2 => ?_⟩, ?_, fun a k h => ?_, fun a k h1 h2 => ?_⟩
  · unfold f_X7_begin
    rw [gd_t t8, e1, clv_s, bnd_e, min_600 hn, bnd_e, bnd_e, bnd_e, bnd_e, ← d2, a1, clv_s]
  · rw [f3.1, d2]
    show Mc1.2.1 = Mc.2.1
    rw [q5]
  · rw [f3.2.1, d2]
    show Mc1.2.2.2 = Mc.2.2.2
    rw [q5]
  · rw [f3.2.2.1 _ _ (by omega), d2]
    have z : (setR Mc1 208 1 T).2.2.1 a k = Mc1.2.2.1 a k := if_neg (by omega)
    show (setR Mc1 208 1 T).2.2.1 a k = _
    rw [z, q5]
  · by_cases c : a = 208
    · rw [f3.2.2.2 _ _ (by omega), d2, setI_n (by omega), setI_n (by omega), setI_n (by omega), setI_n (by omega)]
      show Mc1.1 a k = _
      exact q6 _ _ (by omega)
    · rw [f3.2.2.2 _ _ (by omega), c2 _ _ c, q6 _ _ (by omega)]
  · rw [g3.1, u5]
  · rw [g3.2.1 _ _ h, u5]
  · have h313 : hf 313 = 6 := rfl
    have h314 : hf 314 = 4 := rfl
    have h315 : hf 315 = 0 := rfl
    rw [g3.2.2 _ _ (by omega), u6 _ _ (fun z => h2 ⟨by omega, by omega, by rw [z.1, h313]; exact z.2⟩) (fun z => h2 ⟨by omega, by omega, by rw [z.1, h314]; exact z.2⟩) (fun z => h2 ⟨by omega, by omega, by rw [z, h315]; omega⟩)]
