/-! pairs of a kind -/
def kcX (T k j : Nat) (a i : Nat) : Prop := (a = T + 10 + 3 * k ∧ i = 3) ∨ (a = T + 11 + 3 * k ∧ j ≤ i) ∨ (a = T + 12 + 3 * k ∧ j ≤ i)
def krX (k j : Nat) (a i : Nat) : Prop := (a = 324 ∧ i = 5 + k) ∨ (a = 325 ∧ 3 * (5 + k) + j ≤ i ∧ i < 3 * (5 + k) + 3) ∨ (a = 326 ∧ 3 * (5 + k) + j ≤ i ∧ i < 3 * (5 + k) + 3)
def Prr (T k : Nat) (Mc Mr : Mem) (i : Nat) : Prop := ∃ a b, a < 4 ∧ b < 4 ∧ a ≠ b ∧ Mc.1 (T + 11 + 3 * k) i = nI a ∧ Mc.1 (T + 12 + 3 * k) i = nI b ∧ Mr.1 325 (3 * (5 + k) + i) = nI a ∧ Mr.1 326 (3 * (5 + k) + i) = nI b
theorem Prr.fr {T k i j : Nat} {Mc Mr Mc' Mr' : Mem} (h : Prr T k Mc Mr i) (hT : TT T) (hk : k < 5) (hi : i < j) (oc : GCx (kcX T k j) Mc Mc') (or : GRx (krX k j) Mr Mr') : Prr T k Mc' Mr' i := by
  have tc := tt_208 hT
  obtain ⟨a, b, h1, h2, h3, h4, h5, h6, h7⟩ := h
  refine ⟨a, b, h1, h2, h3, ?_, ?_, ?_, ?_⟩
  · rw [oc.2.2.2 _ _ (by unfold kcX; omega) (by omega), h4]
  · rw [oc.2.2.2 _ _ (by unfold kcX; omega) (by omega), h5]
  · rw [or.2.2 _ _ (by unfold krX; omega) (by omega), h6]
  · rw [or.2.2 _ _ (by unfold krX; omega) (by omega), h7]
theorem pair_ls {n : Nat} {B : Nat → Nat} {T st k j : Nat} {Mc Mr : Mem} (h : LPt n B st Mc Mr) (hT : TT T) (hk : k < 5) (hj : j < 3) (cj : Mc.1 (T + 10 + 3 * k) 3 = nI j) (rj : Mr.1 324 (5 + k) = nI j) :
    (∃ st' Mc' Mr', st ≤ st' ∧ f_X7_tellPair (T + 10 + 3 * k) Mc = some (1, Mc') ∧ f_X11_pair (nI (5 + k)) Mr = some Mr' ∧ LPt n B st' Mc' Mr' ∧ Mc'.1 (T + 10 + 3 * k) 3 = nI (j + 1) ∧ Mr'.1 324 (5 + k) = nI (j + 1) ∧ Prr T k Mc' Mr' j ∧ GCx (kcX T k j) Mc Mc' ∧ GRx (krX k j) Mr Mr') ∨
    (∃ Mc' Mr', f_X7_tellPair (T + 10 + 3 * k) Mc = some (0, Mc') ∧ f_X11_pair (nI (5 + k)) Mr = some Mr' ∧ FL Mc' Mr' ∧ GCx (kcX T k j) Mc Mc' ∧ GRx (krX k j) Mr Mr') := by
  have tc := tt_208 hT
  obtain ⟨tk1, tk4, tk5, tks⟩ := tt_k hT k hk
  obtain ⟨x1, hx⟩ : ∃ x1, x1 = 5 + k := ⟨_, rfl⟩
  obtain ⟨o, ho⟩ : ∃ o, o = T + 10 + 3 * k := ⟨_, rfl⟩
  obtain ⟨x2, hy⟩ : ∃ x2, x2 = 3 * (5 + k) + j := ⟨_, rfl⟩
  have i3 : 3 * nI x1 + nI j = nI x2 := by rw [show (3 : Int32) = nI 3 from rfl, nI_mul', nI_add, hy, hx]
  rw [← hx] at rj
  rw [← ho] at cj tk4 tk5 tks
  rw [← hx, ← ho]
  unfold f_X7_tellPair f_X11_pair
  rw [mark0 h]
  rw [gd_t (inb_nI (by omega) (by omega)), nI_clamp (show x1 < 2 ^ 31 by omega), rj, i3, bnd_e]
  rcases num_ls h (lo := 0) (hi := 3) (by omega) (by omega) with ⟨a, Mc1, Mr1, v1, v2, l1, e1, q7, e2, h1, oc1, or1⟩ | ⟨Mc1, Mr1, e1, e2, f1, oc1, or1⟩
  · have e1' : f_X7_takeNumber 0 3 Mc = some (1, Mc1) := e1
    have e2' : f_X11_number 0 3 Mr = some (nI a, Mr1) := e2
    have b1 := (nx_le (B := B) h.1).2 l1
    obtain ⟨Mr2, g2⟩ : ∃ X, X = setI Mr1 325 x2 (nI a) := ⟨_, rfl⟩
    have h2 : LPt n B (nx n B st) Mc1 Mr2 := h1.sets (fun _ _ _ => rfl) rfl (fun c i q => by rw [g2, setI_n (by omega)]) (by rw [g2]; rfl)
    have or2 : GRx (krX k j) Mr Mr2 := by
      rw [g2]
      exact (or1.x _).tr (grx_I _ (by unfold krX; omega))
    rw [e1', cl_s, if_neg (show ¬ (1 : Int32) = 0 by decide), q7, bnd_e, e2', cl_s, gd_t (inb_nI (by omega) (by omega)), nI_clamp (show x2 < 2 ^ 31 by omega), bnd_e, ← g2]
    rcases takeW_ls h2 (s := 41) (by omega) (by omega) with ⟨Mc3, Mr3, l3, e3, e4, h3, oc3, or3⟩ | ⟨Mc3, Mr3, e3, e4, f3, oc3, or3⟩
    · have e3' : f_X7_take 22 Mc1 = some (1, Mc3) := e3
      have b3 := (nx_le (B := B) h2.1).2 l3
      have ra : Mr3.1 325 x2 = nI a := by rw [or3.2.2 _ _ (by omega), g2, setI_s]
      have rj3 : Mr3.1 324 x1 = nI j := by rw [or3.2.2 _ _ (by omega), g2, setI_n (by omega), or1.2.2 _ _ (by omega), rj]
      have oc3' : GC Mc Mc3 := oc1.tr oc3.g
      rw [e3', cl_s, if_neg (show ¬ (1 : Int32) = 0 by decide), e4, clv_s]
      rcases mark_ls h3 (a := a) (x1 := x1) (x2 := x2) (j := j) (by omega) (by omega) (by omega) ra rj3 with ⟨b, Mc4, Mr4, w1, w2, l4, e5, q74, e6, h4, oc4, or4, w3, w4⟩ | ⟨Mc4, Mr4, e5, e6, f4, oc4, or4⟩
      · have b4 := (nx_le (B := B) h3.1).2 l4
        have c3 : Mc4.1 o 3 = nI j := by rw [oc4.2.2.2 _ _ (by omega), oc3'.2.2.2 _ _ (by omega), cj]
        obtain ⟨Mc5, g5⟩ : ∃ X, X = setI Mc4 (T + 11 + 3 * k) j (nI a) := ⟨_, rfl⟩
        have c35 : Mc5.1 o 3 = nI j := by rw [g5, setI_n (by omega), c3]
        have q75 : Mc5.1 208 7 = nI b := by rw [g5, setI_n (by omega), q74]
        obtain ⟨Mc6, g6⟩ : ∃ X, X = setI Mc5 (T + 12 + 3 * k) j (nI b) := ⟨_, rfl⟩
        have c36 : Mc6.1 o 3 = nI j := by rw [g6, setI_n (by omega), c35]
        obtain ⟨Mc7, g7⟩ : ∃ X, X = setI Mc6 o 3 (nI (j + 1)) := ⟨_, rfl⟩
        have rc : ∀ c i, c < T ∨ T + 70 < c → Mc7.1 c i = Mc4.1 c i := fun c i q => by rw [g7, setI_n (by omega), g6, setI_n (by omega), g5, setI_n (by omega)]
        rw [e5, cl_s, if_neg (show ¬ (1 : Int32) = 0 by decide), gd_t tks, c3, gd_t (inb_nI (by omega) (by omega)), nI_clamp (show j < 2 ^ 31 by omega), tk4, bnd_e, ← g5, c35, gd_t (inb_nI (by omega) (by omega)), nI_clamp (show j < 2 ^ 31 by omega), tk5, q75, bnd_e, ← g6, c36, nI_1, bnd_e, ← g7, e6]
        refine Or.inl ⟨_, Mc7, Mr4, by omega, rfl, rfl, h4.sets (fun c i q => rc _ _ (by omega)) (by rw [g7, g6, g5]; rfl) (fun _ _ _ => rfl) rfl, by rw [g7, setI_s], w3, ⟨a, b, by omega, w1, w2, ?_, ?_, ?_, ?_⟩, ?_, ?_⟩
        · rw [g7, setI_n (by omega), g6, setI_n (by omega), g5, setI_s]
        · rw [g7, setI_n (by omega), g6, setI_s]
        · rw [← hy, or4.2.2 _ _ (by omega) (by omega), ra]
        · rw [← hy, w4]
        · rw [g7, g6, g5]
          exact ((oc3'.tr oc4).x _).tr ((gcx_I _ (by unfold kcX; omega)).tr ((gcx_I _ (by unfold kcX; omega)).tr (gcx_I _ (by unfold kcX; omega))))
        · exact or2.tr ((or3.g.x _).tr (or4.mono (fun c i q => by unfold krX; omega)))
      · rw [e5, cl_s, if_pos rfl, e6]
        exact Or.inr ⟨Mc4, Mr4, rfl, rfl, f4, (oc3'.tr oc4).x _, or2.tr ((or3.g.tr or4).x _)⟩
    · have e3' : f_X7_take 22 Mc1 = some (0, Mc3) := e3
      rw [e3', cl_s, if_pos rfl, e4, clv_s]
      unfold f_X11_pair_b43
      rw [must_d f3.1, cl_s, must_d f3.1, cl_s, if_pos rfl]
      refine Or.inr ⟨Mc3, Mr3, rfl, ?_, f3, (oc1.tr oc3).x _, or2.tr (or3.x _)⟩
      split <;> rfl
  · have e1' : f_X7_takeNumber 0 3 Mc = some (0, Mc1) := e1
    have e2' : f_X11_number 0 3 Mr = some (0, Mr1) := e2
    obtain ⟨Mr2, g2⟩ : ∃ X, X = setI Mr1 325 x2 0 := ⟨_, rfl⟩
    have f2 : FL Mc1 Mr2 := by rw [g2]; exact f1.set (by omega)
    have or2 : GRx (krX k j) Mr Mr2 := by
      rw [g2]
      exact (or1.x _).tr (grx_I _ (by unfold krX; omega))
    rw [e1', cl_s, if_pos rfl, e2', cl_s, gd_t (inb_nI (by omega) (by omega)), nI_clamp (show x2 < 2 ^ 31 by omega), bnd_e, ← g2, takesWord_d f2.1, clv_s]
    unfold f_X11_pair_b43
    rw [must_d f2.1, cl_s, must_d f2.1, cl_s, if_pos rfl]
    refine Or.inr ⟨Mc1, Mr2, rfl, ?_, f2, oc1.x _, or2⟩
    split <;> rfl
/-! the loop of pairs -/
theorem kl_d {Mr : Mem} (h9 : Mr.1 311 9 ≠ 0) (m : Nat) (x : Int32) : f_X11_kindLine_b69 (m + 1) x Mr = some Mr := by
  show f_X11_kindLine_b69_s (f_X11_kindLine_b69 m) x Mr = _
  unfold f_X11_kindLine_b69_s
  rw [is_d h9, cl_s, if_pos rfl, if_neg h9]
theorem kloop_ls {n : Nat} {B : Nat → Nat} {T k : Nat} (hT : TT T) (hk : k < 5) (m1 m2 : Nat) : ∀ d j x st Mc Mr, j + d = 3 → x + 1 = j → LPt n B st Mc Mr → Mc.1 (T + 10 + 3 * k) 3 = nI j → Mr.1 324 (5 + k) = nI j → (∀ i, i < j → Prr T k Mc Mr i) →
    (∃ j' st' Mc' Mr', st ≤ st' ∧ j ≤ j' ∧ j' ≤ 3 ∧ f_X7_tellKind_b92 (m1 + d + 1) (T + 10 + 3 * k) (nI x) Mc = f_X7_tellKind_b141 Mc' ∧ f_X11_kindLine_b69 (m2 + d + 1) (nI (5 + k)) Mr = some (setI Mr' 313 8 (Mr'.1 313 8 + 1)) ∧ LPt n B st' Mc' Mr' ∧ Mc'.1 (T + 10 + 3 * k) 3 = nI j' ∧ Mr'.1 324 (5 + k) = nI j' ∧ (∀ i, i < j' → Prr T k Mc' Mr' i) ∧ GCx (kcX T k j) Mc Mc' ∧ GRx (krX k j) Mr Mr') ∨
    (∃ Mc' Mr', f_X7_tellKind_b92 (m1 + d + 1) (T + 10 + 3 * k) (nI x) Mc = some (0, Mc') ∧ f_X11_kindLine_b69 (m2 + d + 1) (nI (5 + k)) Mr = some Mr' ∧ FL Mc' Mr' ∧ GCx (kcX T k j) Mc Mc' ∧ GRx (krX k j) Mr Mr') := by
  obtain ⟨tk1, tk4, tk5, tks⟩ := tt_k hT k hk
  intro d
  induction d with
  | zero =>
    intro j x st Mc Mr hj hx h cj rj P
    have K := LPt.k h
    have kw := (k_word K).2.2.2
    obtain ⟨-, ⟨-, -, c6, c4, -⟩, -, h9⟩ := id h
    show (∃ j' st' Mc' Mr', st ≤ st' ∧ j ≤ j' ∧ j' ≤ 3 ∧ f_X7_tellKind_b92_s (f_X7_tellKind_b92 m1) (T + 10 + 3 * k) (nI x) Mc = f_X7_tellKind_b141 Mc' ∧ f_X11_kindLine_b69_s (f_X11_kindLine_b69 m2) (nI (5 + k)) Mr = some (setI Mr' 313 8 (Mr'.1 313 8 + 1)) ∧ LPt n B st' Mc' Mr' ∧ Mc'.1 (T + 10 + 3 * k) 3 = nI j' ∧ Mr'.1 324 (5 + k) = nI j' ∧ (∀ i, i < j' → Prr T k Mc' Mr' i) ∧ GCx (kcX T k j) Mc Mc' ∧ GRx (krX k j) Mr Mr') ∨ (∃ Mc' Mr', f_X7_tellKind_b92_s (f_X7_tellKind_b92 m1) (T + 10 + 3 * k) (nI x) Mc = some (0, Mc') ∧ f_X11_kindLine_b69_s (f_X11_kindLine_b69 m2) (nI (5 + k)) Mr = some Mr' ∧ FL Mc' Mr' ∧ GCx (kcX T k j) Mc Mc' ∧ GRx (krX k j) Mr Mr')
    have is := is_f h (s := 40) (by omega) (by omega)
    unfold f_X7_tellKind_b92_s f_X11_kindLine_b69_s
    rw [if_neg (show ¬ (3 : Int32) ≤ nI x from nI_ge (a := x) (b := 3) (by omega) (by omega)), c4, gd_t kw, is, cl_s, gd_t tks, cj]
    have j3 : j = 3 := by omega
    by_cases c : ctN n B st = 23
    · obtain ⟨Mc', Mr', f1, f2, f3, f4, f5⟩ := fault h (k := 5) (by decide)
      rw [if_pos c, decide_eq_true (show ctN n B st = stk 40 from c), show b10 true = 1 from rfl, if_neg (show ¬ (1 : Int32) = 0 by decide), if_pos (show nI j = 3 by rw [j3]; rfl), f1, cl_s, gd_t nar_b.1, gd_t (inb_nI (by omega) (by omega)), nI_clamp (show 5 + k < 2 ^ 31 by omega), rj, if_pos (show (3 : Int32) ≤ nI j by rw [j3]; decide)]
      unfold f_X11_kindLine_b94
      rw [f2, cl_s, if_pos rfl]
      exact Or.inr ⟨Mc', Mr', rfl, rfl, f3, f4.x _, f5.x _⟩
    · rw [if_neg c, decide_eq_false (show ¬ ctN n B st = stk 40 from c), show b10 false = 0 from rfl, if_pos rfl, if_pos h9, bnd_e]
      exact Or.inl ⟨j, st, Mc, Mr, Nat.le_refl _, Nat.le_refl _, by omega, rfl, rfl, h, cj, rj, P, GCx.refl _ _, GRx.refl _ _⟩
  | succ d ih =>
    intro j x st Mc Mr hj hx h cj rj P
    have K := LPt.k h
    have kw := (k_word K).2.2.2
    obtain ⟨-, ⟨-, -, c6, c4, -⟩, -, h9⟩ := id h
    show (∃ j' st' Mc' Mr', st ≤ st' ∧ j ≤ j' ∧ j' ≤ 3 ∧ f_X7_tellKind_b92_s (f_X7_tellKind_b92 (m1 + d + 1)) (T + 10 + 3 * k) (nI x) Mc = f_X7_tellKind_b141 Mc' ∧ f_X11_kindLine_b69_s (f_X11_kindLine_b69 (m2 + d + 1)) (nI (5 + k)) Mr = some (setI Mr' 313 8 (Mr'.1 313 8 + 1)) ∧ LPt n B st' Mc' Mr' ∧ Mc'.1 (T + 10 + 3 * k) 3 = nI j' ∧ Mr'.1 324 (5 + k) = nI j' ∧ (∀ i, i < j' → Prr T k Mc' Mr' i) ∧ GCx (kcX T k j) Mc Mc' ∧ GRx (krX k j) Mr Mr') ∨ (∃ Mc' Mr', f_X7_tellKind_b92_s (f_X7_tellKind_b92 (m1 + d + 1)) (T + 10 + 3 * k) (nI x) Mc = some (0, Mc') ∧ f_X11_kindLine_b69_s (f_X11_kindLine_b69 (m2 + d + 1)) (nI (5 + k)) Mr = some Mr' ∧ FL Mc' Mr' ∧ GCx (kcX T k j) Mc Mc' ∧ GRx (krX k j) Mr Mr')
    have is := is_f h (s := 40) (by omega) (by omega)
    unfold f_X7_tellKind_b92_s f_X11_kindLine_b69_s
    rw [if_neg (show ¬ (3 : Int32) ≤ nI x from nI_ge (a := x) (b := 3) (by omega) (by omega)), c4, gd_t kw, is, cl_s, gd_t tks, cj]
    by_cases c : ctN n B st = 23
    · obtain ⟨Mc1, Mr1, a1, a2, h1, a4, a5⟩ := h.adv
      have lt : st < n := (k_end K).2 (by omega)
      have b1 := (nx_le (B := B) h.1).2 lt
      have cj1 : Mc1.1 (T + 10 + 3 * k) 3 = nI j := by rw [a4.2.2.2 _ _ (by have := tt_208 hT; omega), cj]
      have rj1 : Mr1.1 324 (5 + k) = nI j := by rw [a5.2.2 _ _ (by omega), rj]
      rw [if_pos c, decide_eq_true (show ctN n B st = stk 40 from c), show b10 true = 1 from rfl, if_neg (show ¬ (1 : Int32) = 0 by decide), if_neg (show ¬ nI j = 3 from fun z => by have := (nI_eq (a := j) (b := 3) (by omega) (by omega)).mp z; omega), gd_t (inb_nI (by omega) (by omega)), nI_clamp (show 5 + k < 2 ^ 31 by omega), rj, if_neg (show ¬ (3 : Int32) ≤ nI j from nI_ge (a := j) (b := 3) (by omega) (by omega)), a1, clv_s]
      unfold f_X11_kindLine_b94
      rw [must_t h9 (by decide), cl_s, if_neg (show ¬ (1 : Int32) = 0 by decide), a2, clv_s]
      rcases pair_ls h1 hT hk (j := j) (by omega) cj1 rj1 with ⟨st2, Mc2, Mr2, l2, e1, e2, h2, cj2, rj2, P2, oc2, or2⟩ | ⟨Mc2, Mr2, e1, e2, f2, oc2, or2⟩
      · have oc2' : GCx (kcX T k j) Mc Mc2 := (a4.g.x _).tr oc2
        have or2' : GRx (krX k j) Mr Mr2 := (a5.g.x _).tr or2
        rw [e1, cl_s, if_neg (show ¬ (1 : Int32) = 0 by decide), nI_1, bnd_e, e2, clv_s]
        have P2' : ∀ i, i < j + 1 → Prr T k Mc2 Mr2 i := fun i hi => by
          by_cases z : i = j
          · rw [z]; exact P2
          · exact (P i (by omega)).fr hT hk (by omega) oc2' or2'
        have mc : ∀ a i, kcX T k (j + 1) a i → kcX T k j a i := fun a i q => by unfold kcX at q ⊢; omega
        have mr : ∀ a i, krX k (j + 1) a i → krX k j a i := fun a i q => by unfold krX at q ⊢; omega
        rcases ih (j + 1) (x + 1) st2 Mc2 Mr2 (by omega) (by omega) h2 cj2 rj2 P2' with ⟨j', st', Mc', Mr', z1, z2, z3, z4, z5, z6, z7, z8, z9, z10, z11⟩ | ⟨Mc', Mr', z4, z5, z6, z10, z11⟩
        · exact Or.inl ⟨j', st', Mc', Mr', by omega, by omega, z3, z4, z5, z6, z7, z8, z9, oc2'.tr (z10.mono mc), or2'.tr (z11.mono mr)⟩
        · exact Or.inr ⟨Mc', Mr', z4, z5, z6, oc2'.tr (z10.mono mc), or2'.tr (z11.mono mr)⟩
      · rw [e1, cl_s, if_pos rfl, e2, clv_s, kl_d f2.1]
        exact Or.inr ⟨Mc2, Mr2, rfl, rfl, f2, (a4.g.x _).tr oc2, (a5.g.x _).tr or2⟩
    · rw [if_neg c, decide_eq_false (show ¬ ctN n B st = stk 40 from c), show b10 false = 0 from rfl, if_pos rfl, if_pos h9, bnd_e]
      exact Or.inl ⟨j, st, Mc, Mr, Nat.le_refl _, Nat.le_refl _, by omega, rfl, rfl, h, cj, rj, P, GCx.refl _ _, GRx.refl _ _⟩
