/-! a member of a board -/
theorem names_ls {n : Nat} {B : Nat → Nat} {o nc pd : Nat} (hp : 0 ≠ pd) (hn : nc ≤ 5) (m1 m2 : Nat) : ∀ d c y st Mc Mr, n - st ≤ d → c < st → (c = 0 ∨ ctN n B st ≠ 7) → y < 2 ^ nc → LPt n B st Mc Mr → NmR pd Mc Mr → rdN Mr 0 = nc →
    (∃ y' st' Mc' Mr', st ≤ st' ∧ y' < 2 ^ nc ∧ f_X7_tellMember_b4 (m1 + d + 2) o (nI y) (nI c) Mc = f_X7_tellMember_b56 o (nI y') Mc' ∧ f_X11_member_b6 (m2 + d + 1) (nI y) Mr = f_X11_member_b32 (nI y') Mr' ∧ ctN n B st' = 7 ∧ LPt n B st' Mc' Mr' ∧ GC Mc Mc' ∧ GR Mr Mr') ∨
    (∃ Mc' Mr' z, f_X7_tellMember_b4 (m1 + d + 2) o (nI y) (nI c) Mc = some (0, Mc') ∧ f_X11_member_b6 (m2 + d + 1) (nI y) Mr = some (z, Mr') ∧ FL Mc' Mr' ∧ GC Mc Mc' ∧ GR Mr Mr') := by
  intro d
  induction d with
  | zero =>
    intro c y st Mc Mr hd hc hq hy h N hr
    have n6 := FL.n600 h
    have kw := (k_word (LPt.k h)).2.2.2
    have c4 := h.2.1.2.2.2.1
    have q5 : (if nI c = 0 then f_X7_tellMember_b25 (f_X7_tellMember_b4 (m1 + 0 + 1)) o (nI y) (nI c) Mc else gd ((Mc.2.2.1 208 4) < 26) (if (Mc.2.2.1 208 4) = 7 then f_X7_tellMember_b56 o (nI y) Mc else f_X7_tellMember_b25 (f_X7_tellMember_b4 (m1 + 0 + 1)) o (nI y) (nI c) Mc)) = f_X7_tellMember_b25 (f_X7_tellMember_b4 (m1 + 0 + 1)) o (nI y) (nI c) Mc := by
      by_cases z : nI c = 0
      · rw [if_pos z]
      · rw [if_neg z, c4, gd_t kw, if_neg (show ¬ ctN n B st = 7 from fun q => by
          rcases hq with rfl | w
          · exact z rfl
          · exact w q)]
    have st0 := h.1
    have e4 : f_X7_tellMember_b4 (m1 + 0 + 2) o (nI y) (nI c) Mc = f_X7_tellMember_b25 (f_X7_tellMember_b4 (m1 + 0 + 1)) o (nI y) (nI c) Mc := by
      show f_X7_tellMember_b4_s (f_X7_tellMember_b4 (m1 + 0 + 1)) o (nI y) (nI c) Mc = _
      unfold f_X7_tellMember_b4_s
      rw [if_neg (show ¬ (600 : Int32) ≤ nI c from nI_ge (a := c) (b := 600) (by omega) (by omega))]
      exact q5
    have e6 : f_X11_member_b6 (m2 + 0 + 1) (nI y) Mr = f_X11_member_b6_s (f_X11_member_b6 (m2 + 0)) (nI y) Mr := rfl
    rw [e4, e6]
    unfold f_X7_tellMember_b25 f_X11_member_b6_s
    rcases known_ls h N (s := 0) (by omega) (by omega) with ⟨k, Mc1, Mr1, hk, l1, e1, e2, h1, oc1, or1⟩ | ⟨Mc1, Mr1, e1, e2, f1, oc1, or1⟩
    · omega
    · have e1' : f_X7_takeName 10 (-1) Mc = some (-1, Mc1) := e1
      have e2' : f_X11_known 0 Mr = some (0, Mr1) := e2
      rw [e1', cl_s, if_pos rfl, e2', cl_s, bnd_e, if_neg f1.1]
      unfold f_X11_member_b32
      rw [if_neg f1.1]
      exact Or.inr ⟨Mc1, Mr1, _, rfl, rfl, f1, oc1, or1⟩
  | succ d ih =>
    intro c y st Mc Mr hd hc hq hy h N hr
    have n6 := FL.n600 h
    have kw := (k_word (LPt.k h)).2.2.2
    have c4 := h.2.1.2.2.2.1
    have q5 : (if nI c = 0 then f_X7_tellMember_b25 (f_X7_tellMember_b4 (m1 + d + 2)) o (nI y) (nI c) Mc else gd ((Mc.2.2.1 208 4) < 26) (if (Mc.2.2.1 208 4) = 7 then f_X7_tellMember_b56 o (nI y) Mc else f_X7_tellMember_b25 (f_X7_tellMember_b4 (m1 + d + 2)) o (nI y) (nI c) Mc)) = f_X7_tellMember_b25 (f_X7_tellMember_b4 (m1 + d + 2)) o (nI y) (nI c) Mc := by
      by_cases z : nI c = 0
      · rw [if_pos z]
      · rw [if_neg z, c4, gd_t kw, if_neg (show ¬ ctN n B st = 7 from fun q => by
          rcases hq with rfl | w
          · exact z rfl
          · exact w q)]
    have st0 := h.1
    have e4 : f_X7_tellMember_b4 (m1 + (d + 1) + 2) o (nI y) (nI c) Mc = f_X7_tellMember_b25 (f_X7_tellMember_b4 (m1 + d + 2)) o (nI y) (nI c) Mc := by
      show f_X7_tellMember_b4_s (f_X7_tellMember_b4 (m1 + d + 2)) o (nI y) (nI c) Mc = _
      unfold f_X7_tellMember_b4_s
      rw [if_neg (show ¬ (600 : Int32) ≤ nI c from nI_ge (a := c) (b := 600) (by omega) (by omega))]
      exact q5
    have e6 : f_X11_member_b6 (m2 + (d + 1) + 1) (nI y) Mr = f_X11_member_b6_s (f_X11_member_b6 (m2 + d + 1)) (nI y) Mr := rfl
    rw [e4, e6]
    unfold f_X7_tellMember_b25 f_X11_member_b6_s
    rcases known_ls h N (s := 0) (by omega) (by omega) with ⟨k, Mc1, Mr1, hk, l1, e1, e2, h1, oc1, or1⟩ | ⟨Mc1, Mr1, e1, e2, f1, oc1, or1⟩
    · have e1' : f_X7_takeName 10 (-1) Mc = some (nI k, Mc1) := e1
      have e2' : f_X11_known 0 Mr = some (nI k, Mr1) := e2
      have b1 := (nx_le (B := B) h.1).2 l1
      have hy' : y ||| 2 ^ k < 2 ^ nc := Nat.or_lt_two_pow hy (Nat.pow_lt_pow_right (by decide) (by omega))
      have N1 : NmR pd Mc1 Mr1 := N.g oc1.g or1.g
      have hr1 : rdN Mr1 0 = nc := by rw [← hr]; unfold rdN; rw [or1.2.2 _ _ (by omega)]
      have r61 : (Mr1.1 311 6) = 41 ↔ ctN n B (nx n B st) = 7 := by
        rw [h1.2.2.1.2.2.1]
        exact k_sgn (LPt.k h1) (by unfold SgP; decide)
      rw [e1', cl_s, if_neg (show ¬ nI k = -1 from nI_m1 (by omega)), or_nI (by omega), bnd_e, nI_1, bnd_e, e2', cl_s, or_nI (by omega), bnd_e, if_pos h1.2.2.2]
      by_cases c7 : ctN n B (nx n B st) = 7
      · rw [if_pos (r61.mpr c7)]
        refine Or.inl ⟨y ||| 2 ^ k, nx n B st, Mc1, Mr1, by omega, hy', ?_, rfl, c7, h1, oc1.g, or1.g⟩
        show f_X7_tellMember_b4_s (f_X7_tellMember_b4 (m1 + d + 1)) o (nI (y ||| 2 ^ k)) (nI (c + 1)) Mc1 = _
        unfold f_X7_tellMember_b4_s
        have kw1 := (k_word (LPt.k h1)).2.2.2
        rw [if_neg (show ¬ (600 : Int32) ≤ nI (c + 1) from nI_ge (a := c + 1) (b := 600) (by omega) (by omega)), if_neg (show ¬ nI (c + 1) = 0 from fun z => by have := (nI_eq (a := c + 1) (b := 0) (by omega) (by omega)).mp z; omega), h1.2.1.2.2.2.1, gd_t kw1, if_pos c7]
      · rw [if_neg (fun z => c7 (r61.mp z))]
        rcases ih (c + 1) (y ||| 2 ^ k) (nx n B st) Mc1 Mr1 (by omega) (by omega) (Or.inr c7) hy' h1 N1 hr1 with ⟨y', st', Mc', Mr', z1, z2, z3, z4, z5, z6, z7, z8⟩ | ⟨Mc', Mr', z, z3, z4, z6, z7, z8⟩
        · exact Or.inl ⟨y', st', Mc', Mr', by omega, z2, z3, z4, z5, z6, oc1.g.tr z7, or1.g.tr z8⟩
        · exact Or.inr ⟨Mc', Mr', z, z3, z4, z6, oc1.g.tr z7, or1.g.tr z8⟩
    · have e1' : f_X7_takeName 10 (-1) Mc = some (-1, Mc1) := e1
      have e2' : f_X11_known 0 Mr = some (0, Mr1) := e2
      rw [e1', cl_s, if_pos rfl, e2', cl_s, bnd_e, if_neg f1.1]
      unfold f_X11_member_b32
      rw [if_neg f1.1]
      exact Or.inr ⟨Mc1, Mr1, _, rfl, rfl, f1, oc1, or1⟩
def bcX (T b j : Nat) (a i : Nat) : Prop := (a = T + 25 + 2 * b ∧ i = 1) ∨ (a = T + 26 + 2 * b ∧ j ≤ i)
def brX (b j : Nat) (a i : Nat) : Prop := (a = 328 ∧ i = 3 + b) ∨ (a = 329 ∧ 7 * (3 + b) + j ≤ i ∧ i < 7 * (3 + b) + 7)
def Brr (T b nc : Nat) (Mc Mr : Mem) (i : Nat) : Prop := ∃ s, s < 2 ^ nc ∧ Mc.1 (T + 26 + 2 * b) i = nI s ∧ Mr.1 329 (7 * (3 + b) + i) = nI s
theorem Brr.fr {T b nc i j : Nat} {Mc Mr Mc' Mr' : Mem} (h : Brr T b nc Mc Mr i) (hT : TT T) (hb : b < 3) (hi : i < j) (oc : GCx (bcX T b j) Mc Mc') (or : GRx (brX b j) Mr Mr') : Brr T b nc Mc' Mr' i := by
  have tc := tt_208 hT
  obtain ⟨s, h1, h2, h3⟩ := h
  exact ⟨s, h1, by rw [oc.2.2.2 _ _ (by unfold bcX; omega) (by omega), h2], by rw [or.2.2 _ _ (by unfold brX; omega) (by omega), h3]⟩
theorem mem_ls {n : Nat} {B : Nat → Nat} {T st b j nc pd : Nat} {Mc Mr : Mem} (hp : 0 ≠ pd) (h : LPt n B st Mc Mr) (N : NmR pd Mc Mr) (hr : rdN Mr 0 = nc) (hT : TT T) (hb : b < 3) (hj : j < 7) (c6 : ctN n B st = 6) (cj : Mc.1 (T + 25 + 2 * b) 1 = nI j) :
    (∃ st' s Mc1 Mc' Mr', st ≤ st' ∧ s < 2 ^ nc ∧ f_X7_advance Mc = some Mc1 ∧ f_X7_tellMember (T + 25 + 2 * b) Mc1 = some (1, Mc') ∧ f_X11_member Mr = some (nI s, Mr') ∧ LPt n B st' Mc' Mr' ∧ Mc'.1 (T + 25 + 2 * b) 1 = nI (j + 1) ∧ Mc'.1 (T + 26 + 2 * b) j = nI s ∧ GCx (bcX T b j) Mc Mc' ∧ GR Mr Mr') ∨
    (∃ Mc1 Mc' Mr' z, f_X7_advance Mc = some Mc1 ∧ f_X7_tellMember (T + 25 + 2 * b) Mc1 = some (0, Mc') ∧ f_X11_member Mr = some (z, Mr') ∧ FL Mc' Mr' ∧ GCx (bcX T b j) Mc Mc' ∧ GR Mr Mr') := by
  have tc := tt_208 hT
  obtain ⟨tb1, tb2, tbs⟩ := tt_b hT b hb
  have n6 := FL.n600 h
  have lt : st < n := (k_end (LPt.k h)).2 (by omega)
  have b1 := (nx_le (B := B) h.1).2 lt
  have mx0 : mxS 0 = 5 := by decide
  have nc5 : nc ≤ 5 := by
    have := (N.1 0 (by omega)).2
    unfold rq at this
    omega
  obtain ⟨Mc1, Mr1, a1, a2, h1, a4, a5⟩ := h.adv
  have ef1 : fuel = 4398 + 600 + 2 := rfl
  have ef2 : fuel = 4399 + 600 + 1 := rfl
  unfold f_X7_tellMember f_X11_member
  rw [a2, clv_s]
  have N1 : NmR pd Mc1 Mr1 := N.g a4.g a5.g
  have hr1 : rdN Mr1 0 = nc := by rw [← hr]; unfold rdN; rw [a5.2.2 _ _ (by omega)]
  rcases names_ls (o := T + 25 + 2 * b) hp nc5 4398 4399 600 0 0 (nx n B st) Mc1 Mr1 (by omega) (by omega) (Or.inl rfl) (Nat.pow_pos (by decide)) h1 N1 hr1 with ⟨s, st2, Mc2, Mr2, l2, hs, e1, e2, c7, h2, oc2, or2⟩ | ⟨Mc2, Mr2, z, e1, e2, f2, oc2, or2⟩
  · have e1' : f_X7_tellMember_b4 fuel (T + 25 + 2 * b) 0 0 Mc1 = f_X7_tellMember_b56 (T + 25 + 2 * b) (nI s) Mc2 := e1
    have e2' : f_X11_member_b6 fuel 0 Mr1 = f_X11_member_b32 (nI s) Mr2 := e2
    have oc : GC Mc Mc2 := a4.g.tr oc2
    have cj2 : Mc2.1 (T + 25 + 2 * b) 1 = nI j := by rw [oc.2.2.2 _ _ (by omega), cj]
    obtain ⟨Mc3, g3⟩ : ∃ X, X = setI Mc2 (T + 26 + 2 * b) j (nI s) := ⟨_, rfl⟩
    have cj3 : Mc3.1 (T + 25 + 2 * b) 1 = nI j := by rw [g3, setI_n (by omega), cj2]
    obtain ⟨Mc4, g4⟩ : ∃ X, X = setI Mc3 (T + 25 + 2 * b) 1 (nI (j + 1)) := ⟨_, rfl⟩
    have h4 : LPt n B st2 Mc4 Mr2 := h2.sets (fun c i q => by rw [g4, setI_n (by omega), g3, setI_n (by omega)]) (by rw [g4, g3]; rfl) (fun _ _ _ => rfl) rfl
    obtain ⟨Mc5, Mr5, d1, d2, h5, d4, d5⟩ := h4.adv
    have l5 := (nx_le (B := B) h4.1).2 ((k_end (LPt.k h4)).2 (by omega))
    have kw4 := (k_word (LPt.k h4)).2.2.2
    refine Or.inl ⟨nx n B st2, s, Mc1, Mc5, Mr5, by omega, hs, a1, ?_, ?_, h5, ?_, ?_, ?_, ?_⟩
    · rw [e1']
      unfold f_X7_tellMember_b56 f_X7_take
      rw [gd_t tbs, cj2, gd_t (inb_nI (by omega) (by omega)), nI_clamp (show j < 2 ^ 31 by omega), tb2, bnd_e, ← g3, cj3, nI_1, bnd_e, ← g4, h4.2.1.2.2.2.1, gd_t kw4, gd_t (show 7 < 26 by decide), if_pos c7, d1, clv_s, cl_s, gd_t nar_b.2]
    · rw [e2']
      unfold f_X11_member_b32
      rw [if_pos h2.2.2.2, d2, clv_s]
    · rw [d4.2.2.2 _ _ (by omega), g4, setI_s]
    · rw [d4.2.2.2 _ _ (by omega), g4, setI_n (by omega), g3, setI_s]
    · refine (oc.x _).tr (GCx.tr (M' := Mc4) ?_ (d4.g.x _))
      rw [g4, g3]
      exact (gcx_I _ (by unfold bcX; omega)).tr (gcx_I _ (by unfold bcX; omega))
    · exact a5.g.tr (or2.tr d5.g)
  · have e1' : f_X7_tellMember_b4 fuel (T + 25 + 2 * b) 0 0 Mc1 = some (0, Mc2) := e1
    have e2' : f_X11_member_b6 fuel 0 Mr1 = some (z, Mr2) := e2
    exact Or.inr ⟨Mc1, Mc2, Mr2, z, a1, e1', e2', f2, (a4.g.tr oc2).x _, a5.g.tr or2⟩
/-! the loop of members -/
theorem bl_d {Mr : Mem} (h9 : Mr.1 311 9 ≠ 0) (m : Nat) (x : Int32) : f_X11_boardLine_b56 (m + 1) x Mr = some Mr := by
  show f_X11_boardLine_b56_s (f_X11_boardLine_b56 m) x Mr = _
  unfold f_X11_boardLine_b56_s f_X11_boardLine_b130
  rw [if_neg h9]
  rw [if_neg h9]
theorem bstep_ls {n : Nat} {B : Nat → Nat} {T b nc j st pd : Nat} (hp : 0 ≠ pd) (hT : TT T) (hb : b < 3) {Mc Mr : Mem} (F : Nat → Int32 → Mem → Option (Int32 × Mem)) (G : Int32 → Mem → Option Mem) (hj : j ≤ 7) (h : LPt n B st Mc Mr) (N : NmR pd Mc Mr) (hr : rdN Mr 0 = nc) (cj : Mc.1 (T + 25 + 2 * b) 1 = nI j) (rj : Mr.1 328 (3 + b) = nI j) :
    (ctN n B st ≠ 6 ∧ f_X7_tellBoard_b76_s F (T + 25 + 2 * b) (nI j) Mc = f_X7_tellBoard_b124 Mc ∧ f_X11_boardLine_b56_s G (nI (3 + b)) Mr = some (setI Mr 313 9 (Mr.1 313 9 + 1))) ∨
    (∃ Mc' Mr', f_X7_tellBoard_b76_s F (T + 25 + 2 * b) (nI j) Mc = some (0, Mc') ∧ (f_X11_boardLine_b56_s G (nI (3 + b)) Mr = some Mr' ∨ f_X11_boardLine_b56_s G (nI (3 + b)) Mr = G (nI (3 + b)) Mr') ∧ FL Mc' Mr' ∧ GCx (bcX T b j) Mc Mc' ∧ GRx (brX b j) Mr Mr') ∨
    (j < 7 ∧ ∃ st' Mc' Mr', st ≤ st' ∧ f_X7_tellBoard_b76_s F (T + 25 + 2 * b) (nI j) Mc = F (T + 25 + 2 * b) (nI (j + 1)) Mc' ∧ f_X11_boardLine_b56_s G (nI (3 + b)) Mr = G (nI (3 + b)) Mr' ∧ LPt n B st' Mc' Mr' ∧ Mc'.1 (T + 25 + 2 * b) 1 = nI (j + 1) ∧ Mr'.1 328 (3 + b) = nI (j + 1) ∧ Brr T b nc Mc' Mr' j ∧ GCx (bcX T b j) Mc Mc' ∧ GRx (brX b j) Mr Mr') := by
  have tc := tt_208 hT
  have kw := (k_word (LPt.k h)).2.2.2
  have h9 := h.2.2.2
  have r6 : (Mr.1 311 6) = 40 ↔ ctN n B st = 6 := by
    rw [h.2.2.1.2.2.1]
    exact k_sgn (LPt.k h) (by unfold SgP; decide)
  unfold f_X7_tellBoard_b76_s f_X11_boardLine_b56_s
  rw [if_neg (show ¬ (7 : Int32) < nI j from fun z => by have := (lt_nI (a := 7) (b := j) (by omega) (by omega)).mp z; omega), h.2.1.2.2.2.1, gd_t kw, if_pos h9]
  by_cases c : ctN n B st = 6
  · rw [if_pos c, if_pos (r6.mpr c), gd_t (inb_nI (by omega) (by omega)), nI_clamp (show 3 + b < 2 ^ 31 by omega), rj]
    unfold f_X11_boardLine_b89
    by_cases z : j = 7
    · obtain ⟨Mc', Mr', f1, f2, f3, f4, f5⟩ := fault h (k := 5) (by decide)
      rw [if_pos (show nI j = 7 by rw [z]; rfl), if_pos (show (7 : Int32) ≤ nI j by rw [z]; decide), f1, cl_s, gd_t nar_b.1, f2, cl_s, if_pos rfl]
      exact Or.inr (Or.inl ⟨Mc', Mr', rfl, Or.inl rfl, f3, f4.x _, f5.x _⟩)
    · have i7 : (7 * nI (3 + b)) + nI j = nI (7 * (3 + b) + j) := by rw [show (7 : Int32) = nI 7 from rfl, nI_mul', nI_add]
      rw [if_neg (show ¬ nI j = 7 from fun q => z ((nI_eq (a := j) (b := 7) (by omega) (by omega)).mp q)), if_neg (show ¬ (7 : Int32) ≤ nI j from nI_ge (a := j) (b := 7) (by omega) (by omega)), must_t h9 (by decide), cl_s, if_neg (show ¬ (1 : Int32) = 0 by decide), gd_t (inb_nI (by omega) (by omega))]
      rcases mem_ls hp h N hr hT hb (j := j) (by omega) c cj with ⟨st', s, Mc1, Mc2, Mr2, l2, hs, a1, e1, e2, h2, cj2, v2, oc2, or2⟩ | ⟨Mc1, Mc2, Mr2, z2, a1, e1, e2, f2, oc2, or2⟩
      · obtain ⟨Mr3, g3⟩ : ∃ X, X = setI Mr2 329 (7 * (3 + b) + j) (nI s) := ⟨_, rfl⟩
        have rj3 : Mr3.1 328 (3 + b) = nI j := by rw [g3, setI_n (by omega), or2.2.2 _ _ (by omega), rj]
        obtain ⟨Mr4, g4⟩ : ∃ X, X = setI Mr3 328 (3 + b) (nI (j + 1)) := ⟨_, rfl⟩
        have h4 : LPt n B st' Mc2 Mr4 := h2.sets (fun _ _ _ => rfl) rfl (fun c i q => by rw [g4, setI_n (by omega), g3, setI_n (by omega)]) (by rw [g4, g3]; rfl)
        rw [a1, clv_s, e1, cl_s, if_neg (show ¬ (1 : Int32) = 0 by decide), nI_1, bnd_e, e2, cl_s, nI_clamp (show 3 + b < 2 ^ 31 by omega), rj, i7, gd_t (inb_nI (by omega) (by omega)), nI_clamp (show 7 * (3 + b) + j < 2 ^ 31 by omega), bnd_e, ← g3, rj3, nI_1, bnd_e, ← g4]
        refine Or.inr (Or.inr ⟨by omega, st', Mc2, Mr4, l2, rfl, rfl, h4, cj2, by rw [g4, setI_s], ⟨s, hs, v2, by rw [g4, setI_n (by omega), g3, setI_s]⟩, oc2, ?_⟩)
        rw [g4, g3]
        exact (or2.x _).tr ((grx_I _ (by unfold brX; omega)).tr (grx_I _ (by unfold brX; omega)))
      · obtain ⟨Mr3, g3⟩ : ∃ X, X = setI Mr2 329 (7 * (3 + b) + j) z2 := ⟨_, rfl⟩
        have rj3 : Mr3.1 328 (3 + b) = nI j := by rw [g3, setI_n (by omega), or2.2.2 _ _ (by omega), rj]
        obtain ⟨Mr4, g4⟩ : ∃ X, X = setI Mr3 328 (3 + b) (nI (j + 1)) := ⟨_, rfl⟩
        rw [a1, clv_s, e1, cl_s, if_pos rfl, e2, cl_s, nI_clamp (show 3 + b < 2 ^ 31 by omega), rj, i7, gd_t (inb_nI (by omega) (by omega)), nI_clamp (show 7 * (3 + b) + j < 2 ^ 31 by omega), bnd_e, ← g3, rj3, nI_1, bnd_e, ← g4]
        refine Or.inr (Or.inl ⟨Mc2, Mr4, rfl, Or.inr rfl, by rw [g4, g3]; exact (f2.set (by omega)).set (by omega), oc2, ?_⟩)
        rw [g4, g3]
        exact (or2.x _).tr ((grx_I _ (by unfold brX; omega)).tr (grx_I _ (by unfold brX; omega)))
  · unfold f_X11_boardLine_b130
    rw [if_neg c, if_neg (fun z => c (r6.mp z)), if_pos h9, bnd_e]
    exact Or.inl ⟨c, rfl, rfl⟩
theorem bloop_ls {n : Nat} {B : Nat → Nat} {T b nc pd : Nat} (hp : 0 ≠ pd) (hT : TT T) (hb : b < 3) (m1 m2 : Nat) : ∀ d j st Mc Mr, j + d = 7 → LPt n B st Mc Mr → NmR pd Mc Mr → rdN Mr 0 = nc → Mc.1 (T + 25 + 2 * b) 1 = nI j → Mr.1 328 (3 + b) = nI j → (∀ i, i < j → Brr T b nc Mc Mr i) →
    (∃ j' st' Mc' Mr', st ≤ st' ∧ j' ≤ 7 ∧ f_X7_tellBoard_b76 (m1 + d + 1) (T + 25 + 2 * b) (nI j) Mc = f_X7_tellBoard_b124 Mc' ∧ f_X11_boardLine_b56 (m2 + d + 2) (nI (3 + b)) Mr = some (setI Mr' 313 9 (Mr'.1 313 9 + 1)) ∧ LPt n B st' Mc' Mr' ∧ Mc'.1 (T + 25 + 2 * b) 1 = nI j' ∧ Mr'.1 328 (3 + b) = nI j' ∧ (∀ i, i < j' → Brr T b nc Mc' Mr' i) ∧ GCx (bcX T b j) Mc Mc' ∧ GRx (brX b j) Mr Mr') ∨
    (∃ Mc' Mr', f_X7_tellBoard_b76 (m1 + d + 1) (T + 25 + 2 * b) (nI j) Mc = some (0, Mc') ∧ f_X11_boardLine_b56 (m2 + d + 2) (nI (3 + b)) Mr = some Mr' ∧ FL Mc' Mr' ∧ GCx (bcX T b j) Mc Mc' ∧ GRx (brX b j) Mr Mr') := by
  intro d
  induction d with
  | zero =>
    intro j st Mc Mr hj h N hr cj rj P
    have e1 : f_X7_tellBoard_b76 (m1 + 0 + 1) (T + 25 + 2 * b) (nI j) Mc = f_X7_tellBoard_b76_s (f_X7_tellBoard_b76 (m1 + 0)) (T + 25 + 2 * b) (nI j) Mc := rfl
    have e2 : f_X11_boardLine_b56 (m2 + 0 + 2) (nI (3 + b)) Mr = f_X11_boardLine_b56_s (f_X11_boardLine_b56 (m2 + 0 + 1)) (nI (3 + b)) Mr := rfl
    rw [e1, e2]
    rcases bstep_ls hp hT hb (f_X7_tellBoard_b76 (m1 + 0)) (f_X11_boardLine_b56 (m2 + 0 + 1)) (j := j) (by omega) h N hr cj rj with ⟨-, q1, q2⟩ | ⟨Mc', Mr', q1, q2, q3, q4, q5⟩ | ⟨q, -⟩
    · exact Or.inl ⟨j, st, Mc, Mr, Nat.le_refl _, by omega, q1, q2, h, cj, rj, P, GCx.refl _ _, GRx.refl _ _⟩
    · exact Or.inr ⟨Mc', Mr', q1, by rcases q2 with q2 | q2; exact q2; rw [q2]; exact bl_d q3.1 _ _, q3, q4, q5⟩
    · omega
  | succ d ih =>
    intro j st Mc Mr hj h N hr cj rj P
    have tc := tt_208 hT
    have e1 : f_X7_tellBoard_b76 (m1 + (d + 1) + 1) (T + 25 + 2 * b) (nI j) Mc = f_X7_tellBoard_b76_s (f_X7_tellBoard_b76 (m1 + d + 1)) (T + 25 + 2 * b) (nI j) Mc := rfl
    have e2 : f_X11_boardLine_b56 (m2 + (d + 1) + 2) (nI (3 + b)) Mr = f_X11_boardLine_b56_s (f_X11_boardLine_b56 (m2 + d + 2)) (nI (3 + b)) Mr := rfl
    rw [e1, e2]
    rcases bstep_ls hp hT hb (f_X7_tellBoard_b76 (m1 + d + 1)) (f_X11_boardLine_b56 (m2 + d + 2)) (j := j) (by omega) h N hr cj rj with ⟨-, q1, q2⟩ | ⟨Mc', Mr', q1, q2, q3, q4, q5⟩ | ⟨q, st2, Mc2, Mr2, l2, q1, q2, h2, cj2, rj2, P2, oc2, or2⟩
    · exact Or.inl ⟨j, st, Mc, Mr, Nat.le_refl _, by omega, q1, q2, h, cj, rj, P, GCx.refl _ _, GRx.refl _ _⟩
    · exact Or.inr ⟨Mc', Mr', q1, by rcases q2 with q2 | q2; exact q2; rw [q2]; exact bl_d q3.1 _ _, q3, q4, q5⟩
    · rw [q1, q2]
      have P2' : ∀ i, i < j + 1 → Brr T b nc Mc2 Mr2 i := fun i hi => by
        by_cases z : i = j
        · rw [z]; exact P2
        · exact (P i (by omega)).fr hT hb (by omega) oc2 or2
      have N2 : NmR pd Mc2 Mr2 := N.gx oc2 or2 (fun a i q => by unfold bcX at q; omega) (fun a i q => by unfold brX at q; omega)
      have hr2 : rdN Mr2 0 = nc := by rw [← hr]; unfold rdN; rw [or2.2.2 _ _ (by unfold brX; omega) (by omega)]
      have mc : ∀ a i, bcX T b (j + 1) a i → bcX T b j a i := fun a i q => by unfold bcX at q ⊢; omega
      have mr : ∀ a i, brX b (j + 1) a i → brX b j a i := fun a i q => by unfold brX at q ⊢; omega
      rcases ih (j + 1) st2 Mc2 Mr2 (by omega) h2 N2 hr2 cj2 rj2 P2' with ⟨j', st', Mc', Mr', z1, z3, z4, z5, z6, z7, z8, z9, z10, z11⟩ | ⟨Mc', Mr', z4, z5, z6, z10, z11⟩
      · exact Or.inl ⟨j', st', Mc', Mr', by omega, z3, z4, z5, z6, z7, z8, z9, oc2.tr (z10.mono mc), or2.tr (z11.mono mr)⟩
      · exact Or.inr ⟨Mc', Mr', z4, z5, z6, oc2.tr (z10.mono mc), or2.tr (z11.mono mr)⟩
