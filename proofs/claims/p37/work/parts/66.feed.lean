/-! feed -/
theorem byte_sb (x : Int32) : ∃ b, b < 256 ∧ vp_nar .byte x.toInt8.toInt32 = sb b := by
  refine ⟨un (x &&& 255), ?_, ?_⟩
  · have e : un (x &&& 255) = un x &&& 255 := un_and x 255
    rw [e, show (255 : Nat) = 2 ^ 8 - 1 from rfl, Nat.and_two_pow_sub_one_eq_mod]
    exact Nat.mod_lt _ (by decide)
  · unfold sb
    rw [un_e, fa_byte_low, vp_nar_byte, Int8.toInt8_toInt32]
theorem sh_ok : ∀ j, j < 4 → nI (24 - 8 * j) + (-8) = (if j = 3 then -8 else nI (24 - 8 * (j + 1))) ∧ ¬ nI (24 - 8 * j) < 0 := by decide +kernel
/-- the bytes of a number, put behind -/
def putB (x : Int32) (t : Nat) (j : Nat) (d : Nat → Int32) : Nat → Int32 := fun k => if t ≤ k ∧ k < t + j then vp_nar .byte ((x >>> (nI (24 - 8 * (k - t)) &&& 31)).toInt8.toInt32) else d k
theorem putB_s (x : Int32) (t j : Nat) (d : Nat → Int32) : upd (putB x t j d) (t + j) (vp_nar .byte ((x >>> (nI (24 - 8 * j) &&& 31)).toInt8.toInt32)) = putB x t (j + 1) d := by
  funext k
  show (if k = t + j then _ else if t ≤ k ∧ k < t + j then _ else d k) = if t ≤ k ∧ k < t + (j + 1) then _ else d k
  by_cases c : k = t + j
  · rw [if_pos c, if_pos (by omega), show k - t = j by omega]
  · rw [if_neg c]
    by_cases c2 : t ≤ k ∧ k < t + j
    · rw [if_pos c2, if_pos (by omega)]
    · rw [if_neg c2, if_neg (by omega)]
theorem putB_0 (x : Int32) (t : Nat) (d : Nat → Int32) : putB x t 0 d = d := by
  funext k
  unfold putB
  rw [if_neg (by omega)]
theorem put_c (M : Mem) (x : Int32) {t : Nat} (ht : t + 4 ≤ 600) (h : M.1 64 1 = nI t) : f_X10_tapeNumber x M = some (setI (sA M 65 (putB x t 4 (M.1 65))) 64 1 (nI (t + 4))) := by
  have hl := lp_for (z := fun _ _ _ => none) (s := f_X10_tapeNumber_b3_s) (fun j (f : Int32 → Int32 → Mem → Option Mem) => f x (if j = 4 then -8 else nI (24 - 8 * j)) (setI (sA M 65 (putB x t j (M.1 65))) 64 1 (nI (t + j)))) 4 (some (setI (sA M 65 (putB x t 4 (M.1 65))) 64 1 (nI (t + 4)))) (fun j hj f => by
    show f_X10_tapeNumber_b3_s f x (if j = 4 then -8 else nI (24 - 8 * j)) (setI (sA M 65 (putB x t j (M.1 65))) 64 1 (nI (t + j))) = f x (if j + 1 = 4 then -8 else nI (24 - 8 * (j + 1))) (setI (sA M 65 (putB x t (j + 1) (M.1 65))) 64 1 (nI (t + (j + 1))))
    obtain ⟨s1, s2⟩ := sh_ok j hj
    have e4 : (if j + 1 = 4 then (-8 : Int32) else nI (24 - 8 * (j + 1))) = if j = 3 then -8 else nI (24 - 8 * (j + 1)) := by
      by_cases c : j = 3
      · rw [if_pos c, if_pos (by omega)]
      · rw [if_neg c, if_neg (by omega)]
    have up : setI (setI (setI (sA M 65 (putB x t j (M.1 65))) 64 1 (nI (t + j))) 65 (t + j) (vp_nar .byte ((x >>> (nI (24 - 8 * j) &&& 31)).toInt8.toInt32))) 64 1 (nI (t + (j + 1))) = setI (sA M 65 (putB x t (j + 1) (M.1 65))) 64 1 (nI (t + (j + 1))) := by
      rw [← putB_s]
      unfold setI sA
      congr 1
      funext a k
      show (if a = 64 ∧ k = 1 then nI (t + (j + 1)) else if a = 65 ∧ k = t + j then _ else if a = 64 ∧ k = 1 then nI (t + j) else if a = 65 then putB x t j (M.1 65) k else M.1 a k) = if a = 64 ∧ k = 1 then nI (t + (j + 1)) else if a = 65 then (if k = t + j then _ else putB x t j (M.1 65) k) else M.1 a k
      by_cases c : a = 64 ∧ k = 1
      · rw [if_pos c, if_pos c]
      · rw [if_neg c, if_neg c, if_neg c]
        by_cases c2 : a = 65
        · rw [if_pos c2, if_pos c2]
          by_cases c3 : k = t + j
          · rw [if_pos c3, if_pos ⟨c2, c3⟩]
          · rw [if_neg c3, if_neg (fun z => c3 z.2)]
        · rw [if_neg c2, if_neg c2, if_neg (fun z => c2 z.1)]
    unfold f_X10_tapeNumber_b3_s
    simp only [bnd_e]
    rw [if_neg (show ¬ j = 4 by omega), if_neg s2, setI_s, if_neg (by rw [show (600 : Int32) = nI 600 from rfl]; exact nI_ge (by omega) (by omega)), gd_t (inb_nI (by omega) (by omega)), nI_clamp (by omega), setI_n (Or.inl (by omega)), setI_s, nI_1, Nat.add_assoc, up, s1, e4]) (fun f => by
    show f_X10_tapeNumber_b3_s f x (-8) (setI (sA M 65 (putB x t 4 (M.1 65))) 64 1 (nI (t + 4))) = _
    unfold f_X10_tapeNumber_b3_s
    rw [if_pos (by decide)]) fuel (by unfold fuel; omega)
  have e0 : setI (sA M 65 (putB x t 0 (M.1 65))) 64 1 (nI (t + 0)) = M := by
    rw [putB_0, sA_self, Nat.add_zero, ← h, setI_sA, fa_upd_same rfl, sA_self]
  simp only [e0] at hl
  exact hl
theorem put_r (M : Mem) (x : Int32) {t : Nat} (ht : t + 4 ≤ 600) (h : M.1 311 2 = nI t) : f_X11_puts x M = some (setI (sA M 312 (putB x t 4 (M.1 312))) 311 2 (nI (t + 4))) := by
  have hl := lp_for (z := fun _ _ _ => none) (s := f_X11_puts_b3_s) (fun j (f : Int32 → Int32 → Mem → Option Mem) => f x (if j = 4 then -8 else nI (24 - 8 * j)) (setI (sA M 312 (putB x t j (M.1 312))) 311 2 (nI (t + j)))) 4 (some (setI (sA M 312 (putB x t 4 (M.1 312))) 311 2 (nI (t + 4)))) (fun j hj f => by
    show f_X11_puts_b3_s f x (if j = 4 then -8 else nI (24 - 8 * j)) (setI (sA M 312 (putB x t j (M.1 312))) 311 2 (nI (t + j))) = f x (if j + 1 = 4 then -8 else nI (24 - 8 * (j + 1))) (setI (sA M 312 (putB x t (j + 1) (M.1 312))) 311 2 (nI (t + (j + 1))))
    obtain ⟨s1, s2⟩ := sh_ok j hj
    have e4 : (if j + 1 = 4 then (-8 : Int32) else nI (24 - 8 * (j + 1))) = if j = 3 then -8 else nI (24 - 8 * (j + 1)) := by
      by_cases c : j = 3
      · rw [if_pos c, if_pos (by omega)]
      · rw [if_neg c, if_neg (by omega)]
    have up : setI (setI (setI (sA M 312 (putB x t j (M.1 312))) 311 2 (nI (t + j))) 312 (t + j) (vp_nar .byte ((x >>> (nI (24 - 8 * j) &&& 31)).toInt8.toInt32))) 311 2 (nI (t + (j + 1))) = setI (sA M 312 (putB x t (j + 1) (M.1 312))) 311 2 (nI (t + (j + 1))) := by
      rw [← putB_s]
      unfold setI sA
      congr 1
      funext a k
      show (if a = 311 ∧ k = 2 then nI (t + (j + 1)) else if a = 312 ∧ k = t + j then _ else if a = 311 ∧ k = 2 then nI (t + j) else if a = 312 then putB x t j (M.1 312) k else M.1 a k) = if a = 311 ∧ k = 2 then nI (t + (j + 1)) else if a = 312 then (if k = t + j then _ else putB x t j (M.1 312) k) else M.1 a k
      by_cases c : a = 311 ∧ k = 2
      · rw [if_pos c, if_pos c]
      · rw [if_neg c, if_neg c, if_neg c]
        by_cases c2 : a = 312
        · rw [if_pos c2, if_pos c2]
          by_cases c3 : k = t + j
          · rw [if_pos c3, if_pos ⟨c2, c3⟩]
          · rw [if_neg c3, if_neg (fun z => c3 z.2)]
        · rw [if_neg c2, if_neg c2, if_neg (fun z => c2 z.1)]
    unfold f_X11_puts_b3_s
    simp only [bnd_e]
    rw [if_neg (show ¬ j = 4 by omega), if_neg s2, setI_s, gd_t (inb_nI (by omega) (by omega)), nI_clamp (by omega), setI_n (Or.inl (by omega)), setI_s, nI_1, Nat.add_assoc, up, s1, e4]) (fun f => by
    show f_X11_puts_b3_s f x (-8) (setI (sA M 312 (putB x t 4 (M.1 312))) 311 2 (nI (t + 4))) = _
    unfold f_X11_puts_b3_s
    rw [if_pos (by decide)]) fuel (by unfold fuel; omega)
  have e0 : setI (sA M 312 (putB x t 0 (M.1 312))) 311 2 (nI (t + 0)) = M := by
    rw [putB_0, sA_self, Nat.add_zero, ← h, setI_sA, fa_upd_same rfl, sA_self]
  simp only [e0] at hl
  exact hl
/-- five numbers behind -/
def five (x1 x2 x3 x4 x5 : Int32) (t : Nat) (d : Nat → Int32) : Nat → Int32 := putB x5 (t + 16) 4 (putB x4 (t + 12) 4 (putB x3 (t + 8) 4 (putB x2 (t + 4) 4 (putB x1 t 4 d))))
theorem five_ok (x1 x2 x3 x4 x5 : Int32) (t : Nat) (d : Nat → Int32) (k : Nat) : (k < t → five x1 x2 x3 x4 x5 t d k = d k) ∧ (t ≤ k → k < t + 20 → ∃ b, b < 256 ∧ ∀ d', five x1 x2 x3 x4 x5 t d' k = sb b) := by
  have st : ∀ x t' (d' : Nat → Int32), (k < t' → putB x t' 4 d' k = d' k) ∧ (t' + 4 ≤ k → putB x t' 4 d' k = d' k) := fun x t' d' => ⟨fun h => by unfold putB; rw [if_neg (by omega)], fun h => by unfold putB; rw [if_neg (by omega)]⟩
  have ins : ∀ x t', t' ≤ k → k < t' + 4 → ∃ b, b < 256 ∧ ∀ d', putB x t' 4 d' k = sb b := fun x t' h1 h2 => by
    obtain ⟨b, hb, e⟩ := byte_sb (x >>> (nI (24 - 8 * (k - t')) &&& 31))
    exact ⟨b, hb, fun d' => by unfold putB; rw [if_pos ⟨h1, h2⟩, e]⟩
  refine ⟨fun h => ?_, fun h1 h2 => ?_⟩
  · unfold five
    rw [(st _ _ _).1 (by omega), (st _ _ _).1 (by omega), (st _ _ _).1 (by omega), (st _ _ _).1 (by omega), (st _ _ _).1 h]
  · unfold five
    by_cases c1 : k < t + 4
    · obtain ⟨b, hb, e⟩ := ins x1 t h1 c1
      exact ⟨b, hb, fun d' => by rw [(st _ _ _).1 (by omega), (st _ _ _).1 (by omega), (st _ _ _).1 (by omega), (st _ _ _).1 (by omega), e]⟩
    by_cases c2 : k < t + 8
    · obtain ⟨b, hb, e⟩ := ins x2 (t + 4) (by omega) (by omega)
      exact ⟨b, hb, fun d' => by rw [(st _ _ _).1 (by omega), (st _ _ _).1 (by omega), (st _ _ _).1 (by omega), e]⟩
    by_cases c3 : k < t + 12
    · obtain ⟨b, hb, e⟩ := ins x3 (t + 8) (by omega) (by omega)
      exact ⟨b, hb, fun d' => by rw [(st _ _ _).1 (by omega), (st _ _ _).1 (by omega), e]⟩
    by_cases c4 : k < t + 16
    · obtain ⟨b, hb, e⟩ := ins x4 (t + 12) (by omega) (by omega)
      exact ⟨b, hb, fun d' => by rw [(st _ _ _).1 (by omega), e]⟩
    · obtain ⟨b, hb, e⟩ := ins x5 (t + 16) (by omega) (by omega)
      exact ⟨b, hb, fun d' => by rw [e]⟩
theorem set2 (M : Mem) (n m k : Nat) (d d' : Nat → Int32) (x y : Int32) (h : m ≠ n) : setI (sA (setI (sA M n d) m k x) n d') m k y = setI (sA M n d') m k y := by
  unfold setI sA
  congr 1
  funext a j
  show (if a = m ∧ j = k then y else if a = n then d' j else if a = m ∧ j = k then x else if a = n then d j else M.1 a j) = if a = m ∧ j = k then y else if a = n then d' j else M.1 a j
  by_cases c : a = m ∧ j = k
  · rw [if_pos c, if_pos c]
  · rw [if_neg c, if_neg c, if_neg c]
    by_cases c2 : a = n
    · rw [if_pos c2, if_pos c2]
    · rw [if_neg c2, if_neg c2, if_neg c2]
theorem do_feed (x1 x2 x3 x4 x5 : Int32) : Do (f_X10_feed x1 x2 x3 x4 x5) (f_X11_feed x1 x2 x3 x4 x5) := by
  intro M hI
  obtain ⟨t, ht, t1, t2, t3⟩ := hI.2.2.2.2.1
  have hrow := hI.2.2.2.2.2
  have z2 : (setI M 311 0 0).1 311 2 = nI t := by rw [setI_n (Or.inr (by omega)), t2]
  have s20 : nI t + 20 = nI (t + 20) := nI_add _ _
  by_cases c : t + 20 ≤ 600
  · have ci : nI (t + 20) ≤ 600 := le_nI (b := 600) (by omega) (by omega) c
    have rd : ∀ (d : Nat → Int32) (x : Int32), (setI (sA M 65 d) 64 1 x).1 65 = d := fun d x => funext (fun k => by rw [setI_n (Or.inl (by omega)), sA_s])
    have gc : f_X10_feed x1 x2 x3 x4 x5 M = some (nI (t + 20), setI (sA M 65 (five x1 x2 x3 x4 x5 t (M.1 65))) 64 1 (nI (t + 20))) := by
      unfold f_X10_feed
      rw [t1, s20, if_pos ci, put_c M x1 (by omega) t1, clv_s, put_c _ x2 (by omega) setI_s, clv_s, rd, set2 _ _ _ _ _ _ _ _ (by omega), put_c _ x3 (by omega) setI_s, clv_s, rd, set2 _ _ _ _ _ _ _ _ (by omega), put_c _ x4 (by omega) setI_s, clv_s, rd, set2 _ _ _ _ _ _ _ _ (by omega), put_c _ x5 (by omega) setI_s, clv_s, rd, set2 _ _ _ _ _ _ _ _ (by omega), setI_s]
      rfl
    obtain ⟨M1, d1⟩ : ∃ X, X = setI (sA M 65 (five x1 x2 x3 x4 x5 t (M.1 65))) 64 1 (nI (t + 20)) := ⟨_, rfl⟩
    rw [← d1] at gc
    have r1 : ∀ a, a ≠ 65 → a ≠ 64 → M1.1 a = M.1 a := fun a h1 h2 => funext (fun k => by rw [d1, setI_n (Or.inl h2), sA_n _ _ _ h1])
    have r64 : ∀ k, k ≠ 1 → M1.1 64 k = M.1 64 k := fun k h => by rw [d1, setI_n (Or.inr h), sA_n _ _ _ (by omega)]
    have r641 : M1.1 64 1 = nI (t + 20) := by rw [d1, setI_s]
    have r65 : M1.1 65 = five x1 x2 x3 x4 x5 t (M.1 65) := by rw [d1]; exact rd _ _
    obtain ⟨M3, d3⟩ : ∃ X, X = setI M1 311 0 0 := ⟨_, rfl⟩
    have r3 : ∀ a, a ≠ 311 → M3.1 a = M1.1 a := fun a h => funext (fun k => by rw [d3, setI_n (Or.inl h)])
    have r3k : ∀ k, k ≠ 0 → M3.1 311 k = M.1 311 k := fun k h => by rw [d3, setI_n (Or.inr h), r1 311 (by omega) (by omega)]
    have z3 : M3.1 311 2 = nI t := by rw [r3k 2 (by omega), t2]
    have rd2 : ∀ (d : Nat → Int32) (x : Int32), (setI (sA M3 312 d) 311 2 x).1 312 = d := fun d x => funext (fun k => by rw [setI_n (Or.inl (by omega)), sA_s])
    have gr : f_X11_feed x1 x2 x3 x4 x5 M1 = some (nI (t + 20), setI (sA M3 312 (five x1 x2 x3 x4 x5 t (M3.1 312))) 311 2 (nI (t + 20))) := by
      unfold f_X11_feed
      rw [bnd_e, ← d3, z3, s20, if_pos ci, put_r M3 x1 (by omega) z3, clv_s, put_r _ x2 (by omega) setI_s, clv_s, rd2, set2 _ _ _ _ _ _ _ _ (by omega), put_r _ x3 (by omega) setI_s, clv_s, rd2, set2 _ _ _ _ _ _ _ _ (by omega), put_r _ x4 (by omega) setI_s, clv_s, rd2, set2 _ _ _ _ _ _ _ _ (by omega), put_r _ x5 (by omega) setI_s, clv_s, rd2, set2 _ _ _ _ _ _ _ _ (by omega), setI_s]
      rfl
    obtain ⟨M4, d4⟩ : ∃ X, X = setI (sA M3 312 (five x1 x2 x3 x4 x5 t (M3.1 312))) 311 2 (nI (t + 20)) := ⟨_, rfl⟩
    rw [← d4] at gr
    have r4 : ∀ a, a ≠ 312 → a ≠ 311 → M4.1 a = M3.1 a := fun a h1 h2 => funext (fun k => by rw [d4, setI_n (Or.inl h2), sA_n _ _ _ h1])
    have r4k : ∀ k, k ≠ 2 → M4.1 311 k = M3.1 311 k := fun k h => by rw [d4, setI_n (Or.inr h), sA_n _ _ _ (by omega)]
    have r42 : M4.1 311 2 = nI (t + 20) := by rw [d4, setI_s]
    have r312 : M4.1 312 = five x1 x2 x3 x4 x5 t (M.1 312) := by rw [d4, rd2, r3 312 (by omega), r1 312 (by omega) (by omega)]
    have q : ∀ a, a ≠ 64 → a ≠ 65 → a ≠ 311 → a ≠ 312 → M4.1 a = M.1 a := fun a h1 h2 h3 h4 => by rw [r4 a h4 h3, r3 a h3, r1 a h2 h1]
    have m4 : M4.2 = M.2 := by rw [d4, d3, d1]; rfl
    have q64 : ∀ k, k ≠ 1 → M4.1 64 k = M.1 64 k := fun k h => by rw [r4 64 (by omega) (by omega), r3 64 (by omega), r64 k h]
    have q311 : ∀ k, k ≠ 0 → k ≠ 2 → M4.1 311 k = M.1 311 k := fun k h1 h2 => by rw [r4k k h2, r3k k h1]
    obtain ⟨⟨j, hj, j1, j2, j3⟩, hT⟩ := hrow
    refine ⟨nI (t + 20), M1, M4, gc, gr, hI.oth ⟨m4, fun a h1 h2 => q a (by omega) (by omega) (by omega) (by omega), fun a h1 h2 => q a (by omega) (by omega) (by omega) (by omega)⟩ (fun a h1 h2 h3 => q a (by omega) (by omega) (by omega) (by omega)) (fun a h1 h2 => q a (by omega) (by omega) (by omega) (by omega)) ⟨q64 8 (by omega), q64 9 (by omega), q311 40 (by omega) (by omega)⟩ ⟨⟨t + 20, c, ?_, r42, fun k hk => ?_⟩, ⟨j, hj, ?_, ?_, fun k hk => ?_⟩, ?_⟩, ?_⟩
    · rw [r4 64 (by omega) (by omega), r3 64 (by omega), r641]
    · rw [r4 65 (by omega) (by omega), r3 65 (by omega), r65, r312]
      by_cases ck : k < t
      · rw [(five_ok x1 x2 x3 x4 x5 t (M.1 65) k).1 ck, (five_ok x1 x2 x3 x4 x5 t (M.1 312) k).1 ck]
        exact t3 k ck
      · obtain ⟨b, hb, e⟩ := (five_ok x1 x2 x3 x4 x5 t (M.1 65) k).2 (by omega) hk
        rw [e, e]
        exact ⟨rfl, b, hb, rfl⟩
    · rw [q64 13 (by omega), j1]
    · rw [q311 46 (by omega) (by omega), j2]
    · rw [q 226 (by omega) (by omega) (by omega) (by omega), q 345 (by omega) (by omega) (by omega) (by omega)]
      exact j3 k hk
    · rw [m4]; exact hT
    · rw [r4k 0 (by omega), d3, setI_s]
  · have ci : ¬ nI (t + 20) ≤ 600 := nI_ge (b := t + 20) (a := 600) (by omega) (by omega)
    refine do_minus hI (-1) ?_ ?_
    · unfold f_X10_feed
      rw [t1, s20, if_neg ci]
    · unfold f_X11_feed
      rw [bnd_e, z2, s20, if_neg ci]
