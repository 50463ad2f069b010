/-! a frame of a play -/
def fcX (T p f : Nat) (a i : Nat) : Prop := (a = T + 31 + 5 * p ∧ i = 5) ∨ (T + 32 + 5 * p ≤ a ∧ a ≤ T + 35 + 5 * p ∧ f ≤ i)
def frX (p f : Nat) (a i : Nat) : Prop := (a = 335 ∧ i = 8 + p) ∨ (336 ≤ a ∧ a ≤ 339 ∧ 10 * (8 + p) + f ≤ i ∧ i < 10 * (8 + p) + 10)
def Frr (T p nc : Nat) (Mc Mr : Mem) (i : Nat) : Prop := ∃ c t y z, c < nc ∧ t ≤ 999 ∧ y < 16 ∧ z < 16 ∧ Mc.1 (T + 32 + 5 * p) i = nI c ∧ Mc.1 (T + 33 + 5 * p) i = nI t ∧ Mc.1 (T + 34 + 5 * p) i = nI y ∧ Mc.1 (T + 35 + 5 * p) i = nI z ∧ Mr.1 336 (10 * (8 + p) + i) = nI c ∧ Mr.1 337 (10 * (8 + p) + i) = nI t ∧ Mr.1 338 (10 * (8 + p) + i) = nI y ∧ Mr.1 339 (10 * (8 + p) + i) = nI z
theorem Frr.fr {T p nc i j : Nat} {Mc Mr Mc' Mr' : Mem} (h : Frr T p nc Mc Mr i) (hT : TT T) (hp : p < 8) (hi : i < j) (oc : GCx (fcX T p j) Mc Mc') (or : GRx (frX p j) Mr Mr') : Frr T p nc Mc' Mr' i := by
  have tc := tt_208 hT
  obtain ⟨c, t, y, z, h1, h2, h3, h4, h5, h6, h7, h8, k5, k6, k7, k8⟩ := h
  refine ⟨c, t, y, z, h1, h2, h3, h4, ?_, ?_, ?_, ?_, ?_, ?_, ?_, ?_⟩
  · rw [oc.2.2.2 _ _ (by unfold fcX; omega) (by omega), h5]
  · rw [oc.2.2.2 _ _ (by unfold fcX; omega) (by omega), h6]
  · rw [oc.2.2.2 _ _ (by unfold fcX; omega) (by omega), h7]
  · rw [oc.2.2.2 _ _ (by unfold fcX; omega) (by omega), h8]
  · rw [or.2.2 _ _ (by unfold frX; omega) (by omega), k5]
  · rw [or.2.2 _ _ (by unfold frX; omega) (by omega), k6]
  · rw [or.2.2 _ _ (by unfold frX; omega) (by omega), k7]
  · rw [or.2.2 _ _ (by unfold frX; omega) (by omega), k8]
theorem fr_d {Mr : Mem} (h9 : Mr.1 311 9 ≠ 0) (m : Nat) {q : Nat} (hq : q < 16) (x : Int32) : f_X11_readFrame_b82 (m + 1) (nI q) x Mr = some (setI Mr 335 q (Mr.1 335 q + 1)) := by
  show f_X11_readFrame_b82_s (f_X11_readFrame_b82 m) (nI q) x Mr = _
  unfold f_X11_readFrame_b82_s f_X11_readFrame_b238
  rw [if_neg h9, gd_t (inb_nI (by omega) (by omega)), nI_clamp (show q < 2 ^ 31 by omega), bnd_e]
theorem frame_ls {n : Nat} {B : Nat → Nat} {T st p f nc pd : Nat} {Mc Mr : Mem} (hpd : 0 ≠ pd) (hT : TT T) (hp : p < 8) (hf : f ≤ 10) (h : LPt n B st Mc Mr) (N : NmR pd Mc Mr) (hr : rdN Mr 0 = nc) (c5 : Mc.1 (T + 31 + 5 * p) 5 = nI f) (r5 : Mr.1 335 (8 + p) = nI f) :
    (f < 10 ∧ ∃ st' Mc' Mr', st ≤ st' ∧ f_X7_tellFrame (T + 31 + 5 * p) Mc = some (1, Mc') ∧ f_X11_readFrame (nI (8 + p)) Mr = some Mr' ∧ LPt n B st' Mc' Mr' ∧ Mc'.1 (T + 31 + 5 * p) 5 = nI (f + 1) ∧ Mr'.1 335 (8 + p) = nI (f + 1) ∧ Frr T p nc Mc' Mr' f ∧ GCx (fcX T p f) Mc Mc' ∧ GRx (frX p f) Mr Mr') ∨
    (∃ Mc' Mr', f_X7_tellFrame (T + 31 + 5 * p) Mc = some (0, Mc') ∧ f_X11_readFrame (nI (8 + p)) Mr = some Mr' ∧ FL Mc' Mr' ∧ GCx (fcX T p f) Mc Mc' ∧ GRx (frX p f) Mr Mr') := by
  have tc := tt_208 hT
  obtain ⟨-, tp6, tp7, tp8, tp9, tps⟩ := tt_p hT p hp
  obtain ⟨q, hq⟩ : ∃ q, q = 10 * (8 + p) + f := ⟨_, rfl⟩
  have i10 : (10 * nI (8 + p)) + nI f = nI q := by rw [show (10 : Int32) = nI 10 from rfl, nI_mul', nI_add, hq]
  unfold f_X7_tellFrame f_X11_readFrame
  rw [gd_t (inb_nI (by omega) (by omega)), nI_clamp (show 8 + p < 2 ^ 31 by omega), r5, i10, bnd_e]
  rcases find_ls h N (s := 0) (by omega) hpd (-1) with ⟨k, hk, q1, lt, e1, e2⟩ | ⟨Mc1, Mr1, e1, e2, f1, oc1, or1⟩ | ⟨k, Mc1, hk, q1, -⟩
  · have e1' : f_X7_findName 10 (-1) Mc = some (nI k, Mc) := e1
    have e2' : f_X11_looksUp 0 Mr = some (nI k, Mr) := e2
    have nc5 : nc ≤ 5 := by
      have a := (N.1 0 (by omega)).2
      have m0 : mxS 0 = 5 := by decide
      unfold rq at a
      omega
    have b1 := (nx_le (B := B) h.1).2 lt
    rw [e1', cl_s, if_neg q1, gd_t tps, c5, e2', cl_s, r5]
    by_cases z : f = 10
    · obtain ⟨Mc', Mr', f1, f2, f3, f4, f5⟩ := fault h (k := 5) (by decide)
      rw [if_pos (show nI f = 10 by rw [z]; rfl), if_pos (show (10 : Int32) ≤ nI f by rw [z]; decide), f1, cl_s, gd_t nar_b.1]
      unfold f_X11_readFrame_b35
      rw [f2, cl_s, if_pos rfl]
      exact Or.inr ⟨Mc', Mr', rfl, rfl, f3, f4.x _, f5.x _⟩
    · obtain ⟨Mr1, g1⟩ : ∃ X, X = setI Mr 336 q (nI k) := ⟨_, rfl⟩
      have h1 : LPt n B st Mc Mr1 := h.sets (fun _ _ _ => rfl) rfl (fun a i u => by rw [g1, setI_n (by omega)]) (by rw [g1]; rfl)
      have or1 : GRx (frX p f) Mr Mr1 := by rw [g1]; exact grx_I _ (by unfold frX; omega)
      obtain ⟨Mc2, Mr2, a1, a2, h2, a4, a5⟩ := h1.adv
      rw [if_neg (show ¬ nI f = 10 from fun u => z ((nI_eq (a := f) (b := 10) (by omega) (by omega)).mp u)), if_neg (show ¬ (10 : Int32) ≤ nI f from nI_ge (a := f) (b := 10) (by omega) (by omega)), a1, clv_s]
      unfold f_X11_readFrame_b35
      rw [must_t h.2.2.2 (by decide), cl_s, if_neg (show ¬ (1 : Int32) = 0 by decide), gd_t (inb_nI (by omega) (by omega)), nI_clamp (show q < 2 ^ 31 by omega), bnd_e, ← g1, a2, clv_s]
      rcases num_ls h2 (lo := 0) (hi := 999) (by omega) (by omega) with ⟨t, Mc3, Mr3, v1, v2, l3, e3, q7, e4, h3, oc3, or3⟩ | ⟨Mc3, Mr3, e3, e4, f3, oc3, or3⟩
      · have e3' : f_X7_takeNumber 0 999 Mc2 = some (1, Mc3) := e3
        have e4' : f_X11_number 0 999 Mr2 = some (nI t, Mr3) := e4
        have b3 := (nx_le (B := B) h2.1).2 l3
        have oc : GC Mc Mc3 := a4.g.tr oc3
        have c53 : Mc3.1 (T + 31 + 5 * p) 5 = nI f := by rw [oc.2.2.2 _ _ (by omega), c5]
        obtain ⟨Mc4, g4⟩ : ∃ X, X = setI Mc3 (T + 32 + 5 * p) f (nI k) := ⟨_, rfl⟩
        have q74 : Mc4.1 208 7 = nI t := by rw [g4, setI_n (by omega), q7]
        obtain ⟨Mc5, g5⟩ : ∃ X, X = setI (setI (setI Mc4 (T + 33 + 5 * p) f (nI t)) (T + 34 + 5 * p) f 0) (T + 35 + 5 * p) f 0 := ⟨_, rfl⟩
        have c55 : Mc5.1 (T + 31 + 5 * p) 5 = nI f := by rw [g5, setI_n (by omega), setI_n (by omega), setI_n (by omega), g4, setI_n (by omega), c53]
        obtain ⟨Mc6, g6⟩ : ∃ X, X = setI Mc5 (T + 31 + 5 * p) 5 (nI (f + 1)) := ⟨_, rfl⟩
        obtain ⟨Mr6, d6⟩ : ∃ X, X = setI (setI (setI Mr3 337 q (nI t)) 338 q 0) 339 q 0 := ⟨_, rfl⟩
        have h6 : LPt n B (nx n B (nx n B st)) Mc6 Mr6 := h3.sets (fun a i u => by rw [g6, setI_n (by omega), g5, setI_n (by omega), setI_n (by omega), setI_n (by omega), g4, setI_n (by omega)]) (by rw [g6, g5, g4]; rfl) (fun a i u => by rw [d6, setI_n (by omega), setI_n (by omega), setI_n (by omega)]) (by rw [d6]; rfl)
        have oc6 : GCx (fcX T p f) Mc Mc6 := by
          rw [g6, g5, g4]
          exact (oc.x _).tr ((gcx_I _ (by unfold fcX; omega)).tr ((gcx_I _ (by unfold fcX; omega)).tr ((gcx_I _ (by unfold fcX; omega)).tr ((gcx_I _ (by unfold fcX; omega)).tr (gcx_I _ (by unfold fcX; omega))))))
        have or6 : GRx (frX p f) Mr Mr6 := by
          rw [d6]
          exact or1.tr ((a5.g.x _).tr ((or3.x _).tr ((grx_I _ (by unfold frX; omega)).tr ((grx_I _ (by unfold frX; omega)).tr (grx_I _ (by unfold frX; omega))))))
        have k8 : Mc6.1 (T + 34 + 5 * p) f = nI 0 := by rw [g6, setI_n (by omega), g5, setI_n (by omega), setI_s]; rfl
        have k9 : Mc6.1 (T + 35 + 5 * p) f = nI 0 := by rw [g6, setI_n (by omega), g5, setI_s]; rfl
        have j8 : Mr6.1 338 q = nI 0 := by rw [d6, setI_n (by omega), setI_s]; rfl
        have j9 : Mr6.1 339 q = nI 0 := by rw [d6, setI_s]; rfl
        rw [e3', cl_s, if_neg (show ¬ (1 : Int32) = 0 by decide), c53, bnd_e, gd_t (inb_nI (by omega) (by omega)), nI_clamp (show f < 2 ^ 31 by omega), tp6, tp7, tp8, tp9, bnd_e, ← g4, q74, bnd_e, bnd_e, bnd_e, ← g5, c55, nI_1, bnd_e, ← g6, e4', cl_s, bnd_e, bnd_e, bnd_e, ← d6]
        have ef : fuel = 4995 + 4 + 1 := rfl
        have mcx : ∀ a i, mcX T p f a i → fcX T p f a i := fun a i u => by unfold mcX at u; unfold fcX; omega
        have mrx : ∀ a i, mrX q a i → frX p f a i := fun a i u => by unfold mrX at u; unfold frX; omega
        rcases marks_ls hT hp (f := f) (q2 := q) (by omega) (by omega) (nI (8 + p)) 4995 4995 4 0 _ 0 0 Mc6 Mr6 (by omega) h6 (by omega) (by omega) (by decide) k8 k9 j8 j9 with ⟨st7, y, w, Mc7, Mr7, l7, hy, hw, e5, e6, h7, k87, k97, j87, j97, oc7, or7⟩ | ⟨Mc7, Mr7, e5, e6, f7, oc7, or7⟩
        · have e5' : f_X7_tellFrame_b97 fuel (T + 31 + 5 * p) (nI f) 0 Mc6 = some (1, Mc7) := e5
          have e6' : f_X11_readFrame_b82 fuel (nI (8 + p)) (nI q) Mr6 = f_X11_readFrame_b238 (nI (8 + p)) Mr7 := e6
          have r57 : Mr7.1 335 (8 + p) = nI f := by rw [or7.2.2 _ _ (by unfold mrX; omega) (by omega), d6, setI_n (by omega), setI_n (by omega), setI_n (by omega), or3.2.2 _ _ (by omega), a5.2.2 _ _ (by omega), g1, setI_n (by omega), r5]
          obtain ⟨Mr8, d8⟩ : ∃ X, X = setI Mr7 335 (8 + p) (nI (f + 1)) := ⟨_, rfl⟩
          rw [e5', e6']
          unfold f_X11_readFrame_b238
          rw [gd_t (inb_nI (by omega) (by omega)), nI_clamp (show 8 + p < 2 ^ 31 by omega), r57, nI_1, bnd_e, ← d8]
          refine Or.inl ⟨by omega, st7, Mc7, Mr8, by omega, rfl, rfl, h7.sets (fun _ _ _ => rfl) rfl (fun a i u => by rw [d8, setI_n (by omega)]) (by rw [d8]; rfl), ?_, by rw [d8, setI_s], ⟨k, t, y, w, by omega, v2, hy, hw, ?_, ?_, k87, k97, ?_, ?_, ?_, ?_⟩, oc6.tr (oc7.mono mcx), ?_⟩
          · rw [oc7.2.2.2 _ _ (by unfold mcX; omega) (by omega), g6, setI_s]
          · rw [oc7.2.2.2 _ _ (by unfold mcX; omega) (by omega), g6, setI_n (by omega), g5, setI_n (by omega), setI_n (by omega), setI_n (by omega), g4, setI_s]
          · rw [oc7.2.2.2 _ _ (by unfold mcX; omega) (by omega), g6, setI_n (by omega), g5, setI_n (by omega), setI_n (by omega), setI_s]
          · rw [d8, setI_n (by omega), ← hq, or7.2.2 _ _ (by unfold mrX; omega) (by omega), d6, setI_n (by omega), setI_n (by omega), setI_n (by omega), or3.2.2 _ _ (by omega), a5.2.2 _ _ (by omega), g1, setI_s]
          · rw [d8, setI_n (by omega), ← hq, or7.2.2 _ _ (by unfold mrX; omega) (by omega), d6, setI_n (by omega), setI_n (by omega), setI_s]
          · rw [d8, setI_n (by omega), ← hq, j87]
          · rw [d8, setI_n (by omega), ← hq, j97]
          · rw [d8]
            exact or6.tr ((or7.mono mrx).tr (grx_I _ (by unfold frX; omega)))
        · have e5' : f_X7_tellFrame_b97 fuel (T + 31 + 5 * p) (nI f) 0 Mc6 = some (0, Mc7) := e5
          have e6' : f_X11_readFrame_b82 fuel (nI (8 + p)) (nI q) Mr6 = some Mr7 := e6
          rw [e5', e6']
          exact Or.inr ⟨Mc7, Mr7, rfl, rfl, f7, oc6.tr (oc7.mono mcx), or6.tr (or7.mono mrx)⟩
      · have e3' : f_X7_takeNumber 0 999 Mc2 = some (0, Mc3) := e3
        have e4' : f_X11_number 0 999 Mr2 = some (0, Mr3) := e4
        obtain ⟨Mr6, d6⟩ : ∃ X, X = setI (setI (setI Mr3 337 q 0) 338 q 0) 339 q 0 := ⟨_, rfl⟩
        have f6 : FL Mc3 Mr6 := by rw [d6]; exact ((f3.set (by omega)).set (by omega)).set (by omega)
        have ef : fuel = 4999 + 1 := rfl
        rw [e3', cl_s, if_pos rfl, e4', cl_s, bnd_e, bnd_e, bnd_e, ← d6, ef, fr_d f6.1 _ (by omega)]
        refine Or.inr ⟨Mc3, _, rfl, rfl, f6.set (by omega), (a4.g.tr oc3).x _, or1.tr ((a5.g.x _).tr ((or3.x _).tr (GRx.tr (M' := Mr6) ?_ (grx_I _ (by unfold frX; omega)))))⟩
        rw [d6]
        exact (grx_I _ (by unfold frX; omega)).tr ((grx_I _ (by unfold frX; omega)).tr (grx_I _ (by unfold frX; omega)))
  · have e1' : f_X7_findName 10 (-1) Mc = some (-1, Mc1) := e1
    have e2' : f_X11_looksUp 0 Mr = some (0, Mr1) := e2
    have r51 : Mr1.1 335 (8 + p) = nI f := by rw [or1.2.2 _ _ (by omega), r5]
    rw [e1', cl_s, if_pos rfl, e2', cl_s, r51]
    unfold f_X11_readFrame_b35
    rw [must_d f1.1, cl_s, must_d f1.1, cl_s, if_pos rfl]
    refine Or.inr ⟨Mc1, Mr1, rfl, ?_, f1, oc1.x _, or1.x _⟩
    split <;> rfl
  · exact absurd q1 (nI_m1 (by
      have a := (N.1 0 (by omega)).2
      have m0 : mxS 0 = 5 := by decide
      unfold rq at a
      omega))
/-! their loop -/
theorem fl_d {Mr : Mem} (h9 : Mr.1 311 9 ≠ 0) (m : Nat) (x : Int32) : f_X11_playLine_b145 (m + 1) x Mr = some Mr := by
  show f_X11_playLine_b145_s (f_X11_playLine_b145 m) x Mr = _
  unfold f_X11_playLine_b145_s f_X11_playLine_b168
  rw [if_neg h9]
  rw [if_neg h9]
theorem fstep_ls {n : Nat} {B : Nat → Nat} {T st p f nc pd : Nat} {Mc Mr : Mem} (F : Nat → Int32 → Mem → Option (Int32 × Mem)) (G : Int32 → Mem → Option Mem) (hpd : 0 ≠ pd) (hT : TT T) (hp : p < 8) (hf : f ≤ 10) (h : LPt n B st Mc Mr) (N : NmR pd Mc Mr) (hr : rdN Mr 0 = nc) (c5 : Mc.1 (T + 31 + 5 * p) 5 = nI f) (r5 : Mr.1 335 (8 + p) = nI f) :
    (f_X7_tellPlay_b202_s F (T + 31 + 5 * p) (nI f) Mc = f_X7_tellPlay_b234 Mc ∧ f_X11_playLine_b145_s G (nI (8 + p)) Mr = some (setI Mr 313 10 (Mr.1 313 10 + 1))) ∨
    (∃ Mc', ctN n B st ≠ 5 ∧ f_X7_tellPlay_b202_s F (T + 31 + 5 * p) (nI f) Mc = some (0, Mc') ∧ f_X7_fail 1 Mc = some (0, Mc') ∧ f_X11_playLine_b145_s G (nI (8 + p)) Mr = some (setI Mr 313 10 (Mr.1 313 10 + 1))) ∨
    (∃ Mc' Mr', f_X7_tellPlay_b202_s F (T + 31 + 5 * p) (nI f) Mc = some (0, Mc') ∧ f_X11_playLine_b145_s G (nI (8 + p)) Mr = G (nI (8 + p)) Mr' ∧ FL Mc' Mr' ∧ GCx (fcX T p f) Mc Mc' ∧ GRx (frX p f) Mr Mr') ∨
    (f < 10 ∧ ∃ st' Mc' Mr', st ≤ st' ∧ f_X7_tellPlay_b202_s F (T + 31 + 5 * p) (nI f) Mc = F (T + 31 + 5 * p) (nI (f + 1)) Mc' ∧ f_X11_playLine_b145_s G (nI (8 + p)) Mr = G (nI (8 + p)) Mr' ∧ LPt n B st' Mc' Mr' ∧ Mc'.1 (T + 31 + 5 * p) 5 = nI (f + 1) ∧ Mr'.1 335 (8 + p) = nI (f + 1) ∧ Frr T p nc Mc' Mr' f ∧ GCx (fcX T p f) Mc Mc' ∧ GRx (frX p f) Mr Mr') := by
  have K := LPt.k h
  have kw := k_word K
  have c4 := h.2.1.2.2.2.1
  have r6 := h.2.2.1.2.2.1
  have ks : rtN n B st = 59 ↔ ctN n B st = 5 := k_sgn K (by unfold SgP; decide)
  unfold f_X7_tellPlay_b202_s f_X11_playLine_b145_s f_X11_playLine_b168
  rw [if_neg (show ¬ (10 : Int32) < nI f from fun u => by have := (lt_nI (a := 10) (b := f) (by omega) (by omega)).mp u; omega), c4, gd_t kw.2.2.2, if_pos h.2.2.2, r6]
  by_cases c : ctN n B st = 5
  · rw [if_pos c, if_neg (show ¬ rtN n B st = 1 by rw [ks.mpr c]; decide), if_pos h.2.2.2, bnd_e]
    exact Or.inl ⟨rfl, rfl⟩
  · rw [if_neg c]
    by_cases r : rtN n B st = 1
    · rw [if_pos r]
      rcases frame_ls hpd hT hp hf h N hr c5 r5 with ⟨f10, st', Mc', Mr', l1, e1, e2, h1, z1, z2, z3, oc, or⟩ | ⟨Mc', Mr', e1, e2, f1, oc, or⟩
      · rw [e1, cl_s, if_neg (show ¬ (1 : Int32) = 0 by decide), nI_1, bnd_e, e2, clv_s]
        exact Or.inr (Or.inr (Or.inr ⟨f10, st', Mc', Mr', l1, rfl, rfl, h1, z1, z2, z3, oc, or⟩))
      · rw [e1, cl_s, if_pos rfl, e2, clv_s]
        exact Or.inr (Or.inr (Or.inl ⟨Mc', Mr', rfl, rfl, f1, oc, or⟩))
    · have c3 : ctN n B st ≠ 3 := fun u => r (kw.1.mpr (Or.inl u))
      obtain ⟨Mc', Mr', f1, f2, f3, f4, f5⟩ := fault h (k := 1) (by decide)
      rw [if_neg r, if_pos h.2.2.2, bnd_e]
      refine Or.inr (Or.inl ⟨Mc', c, ?_, f1, rfl⟩)
      unfold f_X7_tellFrame f_X7_findName
      rw [c4, gd_t kw.2.2.2, if_neg c3, f1, cl_s, cl_s, if_pos rfl, cl_s, if_pos rfl]
theorem floop_ls {n : Nat} {B : Nat → Nat} {T p nc pd : Nat} (hpd : 0 ≠ pd) (hT : TT T) (hp : p < 8) (m1 m2 : Nat) : ∀ d f st Mc Mr, f + d = 10 → LPt n B st Mc Mr → NmR pd Mc Mr → rdN Mr 0 = nc → Mc.1 (T + 31 + 5 * p) 5 = nI f → Mr.1 335 (8 + p) = nI f → (∀ i, i < f → Frr T p nc Mc Mr i) →
    (∃ f' st' Mc' Mr', st ≤ st' ∧ f' ≤ 10 ∧ f_X7_tellPlay_b202 (m1 + d + 1) (T + 31 + 5 * p) (nI f) Mc = f_X7_tellPlay_b234 Mc' ∧ f_X11_playLine_b145 (m2 + d + 2) (nI (8 + p)) Mr = some (setI Mr' 313 10 (Mr'.1 313 10 + 1)) ∧ LPt n B st' Mc' Mr' ∧ Mc'.1 (T + 31 + 5 * p) 5 = nI f' ∧ Mr'.1 335 (8 + p) = nI f' ∧ (∀ i, i < f' → Frr T p nc Mc' Mr' i) ∧ GCx (fcX T p f) Mc Mc' ∧ GRx (frX p f) Mr Mr') ∨
    (∃ st' Mc0 Mc' Mr', ctN n B st' ≠ 5 ∧ f_X7_tellPlay_b202 (m1 + d + 1) (T + 31 + 5 * p) (nI f) Mc = some (0, Mc') ∧ f_X7_fail 1 Mc0 = some (0, Mc') ∧ f_X11_playLine_b145 (m2 + d + 2) (nI (8 + p)) Mr = some (setI Mr' 313 10 (Mr'.1 313 10 + 1)) ∧ LPt n B st' Mc0 Mr' ∧ GCx (fcX T p f) Mc Mc0 ∧ GRx (frX p f) Mr Mr') ∨
    (∃ Mc' Mr', f_X7_tellPlay_b202 (m1 + d + 1) (T + 31 + 5 * p) (nI f) Mc = some (0, Mc') ∧ f_X11_playLine_b145 (m2 + d + 2) (nI (8 + p)) Mr = some Mr' ∧ FL Mc' Mr' ∧ GCx (fcX T p f) Mc Mc' ∧ GRx (frX p f) Mr Mr') := by
  intro d
  induction d with
  | zero =>
    intro f st Mc Mr hd h N hr c5 r5 P
    rcases fstep_ls (f_X7_tellPlay_b202 (m1 + 0)) (f_X11_playLine_b145 (m2 + 0 + 1)) hpd hT hp (f := f) (by omega) h N hr c5 r5 with ⟨q1, q2⟩ | ⟨Mc', q0, q1, q2, q3⟩ | ⟨Mc', Mr', q1, q2, q3, q4, q5⟩ | ⟨q, -⟩
    · exact Or.inl ⟨f, st, Mc, Mr, Nat.le_refl _, by omega, q1, q2, h, c5, r5, P, GCx.refl _ _, GRx.refl _ _⟩
    · exact Or.inr (Or.inl ⟨st, Mc, Mc', Mr, q0, q1, q2, q3, h, GCx.refl _ _, GRx.refl _ _⟩)
    · exact Or.inr (Or.inr ⟨Mc', Mr', q1, q2.trans (fl_d q3.1 _ _), q3, q4, q5⟩)
    · omega
  | succ d ih =>
    intro f st Mc Mr hd h N hr c5 r5 P
    have tc := tt_208 hT
    rcases fstep_ls (f_X7_tellPlay_b202 (m1 + d + 1)) (f_X11_playLine_b145 (m2 + d + 2)) hpd hT hp (f := f) (by omega) h N hr c5 r5 with ⟨q1, q2⟩ | ⟨Mc', q0, q1, q2, q3⟩ | ⟨Mc', Mr', q1, q2, q3, q4, q5⟩ | ⟨q, st2, Mc2, Mr2, l2, q1, q2, h2, z1, z2, z3, oc2, or2⟩
    · exact Or.inl ⟨f, st, Mc, Mr, Nat.le_refl _, by omega, q1, q2, h, c5, r5, P, GCx.refl _ _, GRx.refl _ _⟩
    · exact Or.inr (Or.inl ⟨st, Mc, Mc', Mr, q0, q1, q2, q3, h, GCx.refl _ _, GRx.refl _ _⟩)
    · exact Or.inr (Or.inr ⟨Mc', Mr', q1, q2.trans (fl_d q3.1 _ _), q3, q4, q5⟩)
    · have e1 : f_X7_tellPlay_b202 (m1 + (d + 1) + 1) (T + 31 + 5 * p) (nI f) Mc = f_X7_tellPlay_b202 (m1 + d + 1) (T + 31 + 5 * p) (nI (f + 1)) Mc2 := q1
      have e2 : f_X11_playLine_b145 (m2 + (d + 1) + 2) (nI (8 + p)) Mr = f_X11_playLine_b145 (m2 + d + 2) (nI (8 + p)) Mr2 := q2
      rw [e1, e2]
      have P2 : ∀ i, i < f + 1 → Frr T p nc Mc2 Mr2 i := fun i hi => by
        by_cases z : i = f
        · rw [z]; exact z3
        · exact (P i (by omega)).fr hT hp (by omega) oc2 or2
      have N2 : NmR pd Mc2 Mr2 := N.gx oc2 or2 (fun a i u => by unfold fcX at u; omega) (fun a i u => by unfold frX at u; omega)
      have hr2 : rdN Mr2 0 = nc := by rw [← hr]; unfold rdN; rw [or2.2.2 _ _ (by unfold frX; omega) (by omega)]
      have mc : ∀ a i, fcX T p (f + 1) a i → fcX T p f a i := fun a i u => by unfold fcX at u ⊢; omega
      have mr : ∀ a i, frX p (f + 1) a i → frX p f a i := fun a i u => by unfold frX at u ⊢; omega
      rcases ih (f + 1) st2 Mc2 Mr2 (by omega) h2 N2 hr2 z1 z2 P2 with ⟨f', st', Mc', Mr', w1, w3, w4, w5, w6, w7, w8, w9, w10, w11⟩ | ⟨st', Mc0, Mc', Mr', w0, w1, w2, w3, w4, w5, w6⟩ | ⟨Mc', Mr', w4, w5, w6, w10, w11⟩
      · exact Or.inl ⟨f', st', Mc', Mr', by omega, w3, w4, w5, w6, w7, w8, w9, oc2.tr (w10.mono mc), or2.tr (w11.mono mr)⟩
      · exact Or.inr (Or.inl ⟨st', Mc0, Mc', Mr', w0, w1, w2, w3, w4, oc2.tr (w5.mono mc), or2.tr (w6.mono mr)⟩)
      · exact Or.inr (Or.inr ⟨Mc', Mr', w4, w5, w6, oc2.tr (w10.mono mc), or2.tr (w11.mono mr)⟩)
