/-! THE LAW'S TEXT, the whole of it, read by the reference (p37) -/
/-- what the law's text tells: cameras, flashes, sides, kinds, boards, plays, rules -/
def allTk (ca cb : Nat → Nat) (nf : Nat) (fa fx fb fy : Nat → Nat) (sv ks : Nat → Nat) (fo ag : Nat → Bool) (kf kg : Nat → Nat) (kl : Nat → List (Nat × Nat)) (bn : Nat → Nat) (bm : Nat → List (List Nat)) (np : Nat) (pm pk pS pp : Nat → Nat) (py : Nat → Bool) (pf : Nat → List FrD) (rv : Nat → Nat) : List Tok :=
  grp (camTk ca cb) 0 3 ++ (grp (flTk fa fx fb fy) 0 nf ++ (grp (sdTk sv) 0 2 ++ (grp (kdTk ks fo ag kf kg kl) 0 2 ++ (grp (bdTk bn bm) 0 2 ++ (grp (pyTk pm pk pS pp py pf) 0 np ++ (grp (rlTk rv) 0 4 ++ []))))))
/-- what is told, in the reference's rows -/
def TolD (ca cb : Nat → Nat) (nf : Nat) (fa fx fb fy : Nat → Nat) (kf kg : Nat → Nat) (kl : Nat → List (Nat × Nat)) (np : Nat) (pk : Nat → Nat) (pf : Nat → List FrD) (M : Mem) : Prop :=
  (M.1 313 0 = nI 3 ∧ M.1 313 1 = nI 2 ∧ M.1 313 2 = nI 2 ∧ M.1 313 3 = nI 2 ∧ M.1 313 4 = nI np ∧ M.1 313 5 = nI nf) ∧
  (∀ c, c < 3 → M.1 317 c = nI (ca c) ∧ M.1 318 c = nI (cb c)) ∧
  (∀ f, f < nf → M.1 319 (4 * f) = nI (fa f) ∧ M.1 319 (4 * f + 1) = nI (fx f) ∧ M.1 319 (4 * f + 2) = nI (fb f) ∧ M.1 319 (4 * f + 3) = nI (fy f)) ∧
  (∀ k, k < 2 → M.1 324 k = nI (1 + (kl k).length) ∧ ∀ (j a b : Nat), ((kf k, kg k) :: kl k)[j]? = some (a, b) → M.1 325 (3 * k + j) = nI a ∧ M.1 326 (3 * k + j) = nI b) ∧
  ∀ p, p < np → M.1 331 p = nI (pk p) ∧ M.1 335 p = nI (pf p).length ∧ ∀ (i : Nat) (f : FrD), (pf p)[i]? = some f → FdC M (10 * p + i) f
theorem text_r {ca cb : Nat → Nat} {nf : Nat} {fa fx fb fy : Nat → Nat} {sv ks : Nat → Nat} {fo ag : Nat → Bool} {kf kg : Nat → Nat} {kl : Nat → List (Nat × Nat)} {bn : Nat → Nat} {bm : Nat → List (List Nat)} {np : Nat} {pm pk pS pp : Nat → Nat} {py : Nat → Bool} {pf : Nat → List FrD} {rv : Nat → Nat}
    (c1 : ∀ c, c < 3 → ca c ≤ cb c ∧ cb c ≤ 999) (c2 : nf ≤ 6) (c3 : ∀ f, f < nf → fa f < 3 ∧ fb f < 3 ∧ fa f ≠ fb f ∧ fx f ≤ 999 ∧ fy f ≤ 999) (c4 : ∀ k, k < 2 → sv k ≤ 9)
    (c5 : ∀ k, k < 2 → (1 ≤ ks k ∧ ks k ≤ 60) ∧ (kl k).length ≤ 2 ∧ ∀ (j a b : Nat), ((kf k, kg k) :: kl k)[j]? = some (a, b) → a < 4 ∧ b < 4 ∧ a ≠ b)
    (c6 : ∀ b, b < 2 → (1 ≤ bn b ∧ bn b ≤ 9) ∧ 0 < (bm b).length ∧ (bm b).length ≤ 7 ∧ ∀ m, m ∈ bm b → ∃ c l, m = c :: l ∧ l.length < 100 ∧ ∀ d, d ∈ m → d < 3)
    (c7 : np ≤ 8) (c8 : ∀ p, p + 1 < np → pm p ≤ pm (p + 1)) (c9 : ∀ p, p < np → pm p ≤ 999 ∧ pk p < 2 ∧ pS p < 2 ∧ pp p ≤ 99 ∧ (pf p).length ≤ 10 ∧ ∀ f, f ∈ pf p → f.1 < 3 ∧ f.2.1 ≤ 999 ∧ mkOk 0 f.2.2 ∧ f.2.2.length < 100)
    (c10 : ∀ x, x < 4 → rv x ≤ (if x = 0 ∨ x = 2 then 999 else 9))
    {M : Mem} {n t : Nat} {B : Nat → Nat} (ht : t ≤ 600) (hn : n ≤ t) (h2 : M.1 311 2 = nI t) (hB : ∀ k, k < t → B k < 256 ∧ M.1 312 k = sb (B k)) (hlx : LX n B (allTk ca cb nf fa fx fb fy sv ks fo ag kf kg kl bn bm np pm pk pS pp py pf rv) (nxt n B 0)) :
    ∃ M', f_X11_text (nI n) M = some (nI np, M') ∧ TolD ca cb nf fa fx fb fy kf kg kl np pk pf M' ∧ M'.2.2 = M.2.2 ∧ (∀ a k, (a < 311 ∨ 346 < a) → M'.1 a k = M.1 a k) ∧ ∀ a k, (a < 311 ∨ 346 < a) → M'.2.1 a k = M.2.1 a k := by
  obtain ⟨M1, h1⟩ : ∃ X, X = setI M 311 0 0 := ⟨_, rfl⟩
  obtain ⟨M6, h6⟩ : ∃ X, X = setI (setI (setI (setI M1 311 2 0) 311 3 (nI n)) 311 5 0) 311 9 0 := ⟨_, rfl⟩
  have r2 : M1.1 311 2 = nI t := by rw [h1, setI_n (by omega), h2]
  obtain ⟨M7, e7, u1, -, u3, u4, u5⟩ := usual_f M6
  have row7 : ∀ k, M7.1 312 k = M.1 312 k := fun k => by rw [u5 _ _ (by omega) (by omega) (by omega), h6, setI_n (by omega), setI_n (by omega), setI_n (by omega), setI_n (by omega), h1, setI_n (by omega)]
  have sc7 : ScR n B M7 := ⟨by rw [u5 _ _ (by omega) (by omega) (by omega), h6, setI_n (by omega), setI_n (by omega), setI_s], by omega, fun k hk => ⟨(hB k (by omega)).1, by rw [row7]; exact (hB k (by omega)).2⟩⟩
  have r5 : M7.1 311 5 = nI 0 := by rw [u5 _ _ (by omega) (by omega) (by omega), h6, setI_n (by omega), setI_s]; rfl
  obtain ⟨M8, e8, s4, s5, s6, s7, s8, f8⟩ := steps_r sc7 (Nat.zero_le n) r5
  have le0 : nxt n B 0 ≤ n := by
    have := rnn_le bl n B 0
    unfold nxt
    omega
  have p8 : RP n B (allTk ca cb nf fa fx fb fy sv ks fo ag kf kg kl bn bm np pm pk pS pp py pf rv) M8 :=
    ⟨_, le0, ⟨s5, s4, s6, s7, s8, sc7.fs f8⟩, hlx, by rw [f8.2.2 _ _ (by omega), u5 _ _ (by omega) (by omega) (by omega), h6, setI_s]⟩
  have n8 : NmS (cnt 0 0 0 0 0 0) nmv M8 := by
    have z : ∀ s, s < 6 → cnt 0 0 0 0 0 0 s = 0 := six rfl rfl rfl rfl rfl rfl
    refine ⟨fun s hs => ?_, fun s k hs hk => ?_⟩
    · rw [z s hs, f8.2.2 _ _ (by omega), u1 s hs]
      exact ⟨rfl, by omega⟩
    · rw [z s (by omega)] at hk
      exact absurd hk (Nat.not_lt_zero k)
  obtain ⟨M9, e9, p9, n9, d9, f9⟩ := g_cam (N := 3) (by omega) c1 p8 n8
  obtain ⟨M10, e10, p10, n10, d10, f10⟩ := g_fl (C := 3) c2 c3 p9 n9
  obtain ⟨M11, e11, p11, n11, f11⟩ := g_sd (N := 2) (by omega) c4 p10 n10
  obtain ⟨M12, e12, p12, n12, d12, f12⟩ := g_kd (N := 2) (by omega) c5 p11 n11
  obtain ⟨M13, e13, p13, n13, f13⟩ := g_bd (N := 2) (by omega) c6 p12 n12
  obtain ⟨M14, e14, p14, n14, d14, f14⟩ := g_py c7 c8 c9 p13 n13
  have z315 : ∀ x, x < 4 → M14.1 315 x = 0 := fun x hx => by
    rw [f14.2.2 _ _ (by omega) (fun z => by unfold RoI at z; omega), f13.2.2 _ _ (by omega) (fun z => by unfold RoI at z; omega), f12.2.2 _ _ (by omega) (fun z => by unfold RoI at z; omega), f11.2.2 _ _ (by omega) (fun z => by unfold RoI at z; omega), f10.2.2 _ _ (by omega) (fun z => by unfold RoI at z; omega), f9.2.2 _ _ (by omega) (fun z => by unfold RoI at z; omega), f8.2.2 _ _ (by omega), u3 x hx]
  obtain ⟨M15, e15, p15, f15⟩ := g_rl c10 z315 p14
  have n15 : NmS (cnt 3 2 2 2 np nf) nmv M15 := n14.fr f15 (fun k hk z => by omega) (fun _ _ _ _ z => z)
  have cn1 : M15.1 313 7 = nI 2 := (n15.1 1 (by omega)).1
  obtain ⟨M16, o0, o1, o2, o3, o4, o5, o6, o7, o8, o9⟩ := over_f M15 (c := 2) (by omega) cn1
  -- what later groups leave alone
  have k15 : ∀ r k, r ≠ 311 → r ≠ 313 → r ≠ 314 → r ≠ 315 → M15.1 r k = M14.1 r k := fun r k a b c d => f15.2.2 _ _ (by omega) (by omega)
  have k14 : ∀ r k, r ≠ 311 → r ≠ 313 → r < 330 → M14.1 r k = M13.1 r k := fun r k a b c => f14.2.2 _ _ (by omega) (fun z => by unfold RoI at z; omega)
  have k13 : ∀ r k, r ≠ 311 → r ≠ 313 → r < 327 → M13.1 r k = M12.1 r k := fun r k a b c => f13.2.2 _ _ (by omega) (fun z => by unfold RoI at z; omega)
  have k12 : ∀ r k, r ≠ 311 → r ≠ 313 → r < 321 → M12.1 r k = M11.1 r k := fun r k a b c => f12.2.2 _ _ (by omega) (fun z => by unfold RoI at z; omega)
  have k11 : ∀ r k, r ≠ 311 → r ≠ 313 → r < 320 → M11.1 r k = M10.1 r k := fun r k a b c => f11.2.2 _ _ (by omega) (fun z => by unfold RoI at z; omega)
  have k10 : ∀ r k, r ≠ 311 → r ≠ 313 → r < 319 → M10.1 r k = M9.1 r k := fun r k a b c => f10.2.2 _ _ (by omega) (fun z => by unfold RoI at z; omega)
  have cn : ∀ s, s < 6 → M16.1 313 s = nI (cnt 3 2 2 2 np nf s) := fun s hs => by
    rw [o8 313 s (by decide) (by omega) hs]
    exact (n15.1 s hs).1
  have fr8 : ∀ a k, (a < 311 ∨ 346 < a) → M8.1 a k = M.1 a k := fun a k h => by rw [f8.2.2 _ _ (by omega), u5 _ _ (by omega) (by omega) (by omega), h6, setI_n (by omega), setI_n (by omega), setI_n (by omega), setI_n (by omega), h1, setI_n (by omega)]
  have fr15 : ∀ a k, (a < 311 ∨ 346 < a) → M15.1 a k = M.1 a k := fun a k h => by
    rw [k15 _ _ (by omega) (by omega) (by omega) (by omega), f14.2.2 _ _ (by omega) (fun z => by unfold RoI at z; omega), f13.2.2 _ _ (by omega) (fun z => by unfold RoI at z; omega), f12.2.2 _ _ (by omega) (fun z => by unfold RoI at z; omega), f11.2.2 _ _ (by omega) (fun z => by unfold RoI at z; omega), f10.2.2 _ _ (by omega) (fun z => by unfold RoI at z; omega), f9.2.2 _ _ (by omega) (fun z => by unfold RoI at z; omega), fr8 a k h]
  have l15 : ∀ a k, (a < 311 ∨ 346 < a) → M15.2.1 a k = M.2.1 a k := fun a k h => by
    have nl : ¬ RoL a k := fun z => by unfold RoL at z; omega
    rw [f15.2.1 _ _ (by omega) (fun z => z), f14.2.1 _ _ (by omega) nl, f13.2.1 _ _ (by omega) nl, f12.2.1 _ _ (by omega) nl, f11.2.1 _ _ (by omega) nl, f10.2.1 _ _ (by omega) nl, f9.2.1 _ _ (by omega) nl, f8.2.1 _ _ (by omega), u4, h6, h1]
    rfl
  refine ⟨M16, ?_, ⟨⟨cn 0 (by omega), cn 1 (by omega), cn 2 (by omega), cn 3 (by omega), cn 4 (by omega), cn 5 (by omega)⟩, fun c hc => ?_, fun f hf => ?_, fun k hk => ?_, fun p hp => ?_⟩, ?_, ?_, ?_⟩
  · obtain ⟨k7, hk7⟩ : ∃ k, fuel = k + 1 + 4 + np + 2 + 2 + 2 + nf + 3 := ⟨fuel - (1 + 4 + np + 2 + 2 + 2 + nf + 3), by unfold fuel; omega⟩
    unfold f_X11_text
    simp only [bnd_e]
    rw [← h1, r2, within64 (by omega) (by omega), if_pos hn, cl_s, if_neg (show ¬ (1 : Int32) = 0 by decide), ← h6, e7, clv_s, e8, clv_s, hk7, e9, e10, e11, e12, e13, e14, e15]
    show f_X11_text_b50_s (f_X11_text_b50 k7) M15 = _
    unfold f_X11_text_b50_s f_X11_text_b71
    rw [if_pos p15.end.2, if_pos p15.end.1, if_pos p15.end.2, o0, clv_s]
    have := cn 4 (by omega)
    rw [this]
    rfl
  · obtain ⟨a, b⟩ := d9 c hc
    rw [o8 317 c (by decide) (by omega) (by show c < 5; omega), o8 318 c (by decide) (by omega) (by show c < 5; omega)]
    show M15.1 317 (5 + c) = _ ∧ M15.1 318 (5 + c) = _
    rw [k15 _ _ (by omega) (by omega) (by omega) (by omega), k14 _ _ (by omega) (by omega) (by omega), k13 _ _ (by omega) (by omega) (by omega), k12 _ _ (by omega) (by omega) (by omega), k11 _ _ (by omega) (by omega) (by omega), k10 _ _ (by omega) (by omega) (by omega), k15 _ _ (by omega) (by omega) (by omega) (by omega), k14 _ _ (by omega) (by omega) (by omega), k13 _ _ (by omega) (by omega) (by omega), k12 _ _ (by omega) (by omega) (by omega), k11 _ _ (by omega) (by omega) (by omega), k10 _ _ (by omega) (by omega) (by omega)]
    exact ⟨a, b⟩
  · have kk : ∀ k, M15.1 319 k = M10.1 319 k := fun k => by rw [k15 _ _ (by omega) (by omega) (by omega) (by omega), k14 _ _ (by omega) (by omega) (by omega), k13 _ _ (by omega) (by omega) (by omega), k12 _ _ (by omega) (by omega) (by omega), k11 _ _ (by omega) (by omega) (by omega)]
    obtain ⟨a1, a2, a3, a4⟩ := d10 f hf
    have q : ∀ k, k < 24 → M16.1 319 k = M10.1 319 (24 + k) := fun k hk => by
      rw [o8 319 k (by decide) (by omega) (by show k < 24; omega)]
      exact kk _
    rw [q _ (by omega), q _ (by omega), q _ (by omega), q _ (by omega)]
    exact ⟨a1, a2, a3, a4⟩
  · have kk : ∀ r k, r = 324 ∨ r = 325 ∨ r = 326 → M15.1 r k = M12.1 r k := fun r k h => by rw [k15 _ _ (by omega) (by omega) (by omega) (by omega), k14 _ _ (by omega) (by omega) (by omega), k13 _ _ (by omega) (by omega) (by omega)]
    obtain ⟨a1, a2⟩ := d12 k hk
    refine ⟨?_, fun j a b z => ?_⟩
    · rw [o8 324 k (by decide) (by omega) (by show k < 5; omega)]
      exact (kk 324 _ (by omega)).trans a1
    · have l := (c5 k hk).2.1
      have jl := (List.getElem?_eq_some_iff.mp z).1
      rw [List.length_cons] at jl
      obtain ⟨b1, b2⟩ := a2 j a b z
      rw [show 3 * (5 + k) + j = 15 + (3 * k + j) by omega] at b1 b2
      rw [o8 325 (3 * k + j) (by decide) (by omega) (by show 3 * k + j < 15; omega), o8 326 (3 * k + j) (by decide) (by omega) (by show 3 * k + j < 15; omega)]
      exact ⟨(kk 325 _ (by omega)).trans b1, (kk 326 _ (by omega)).trans b2⟩
  · have kk : ∀ r k, 330 ≤ r → M15.1 r k = M14.1 r k := fun r k h => k15 _ _ (by omega) (by omega) (by omega) (by omega)
    obtain ⟨a1, a2, a3⟩ := d14 p hp
    refine ⟨?_, ?_, fun i f z => ?_⟩
    · rw [o8 331 p (by decide) (by omega) (by show p < 8; omega)]
      exact (kk 331 _ (by omega)).trans a1
    · rw [o8 335 p (by decide) (by omega) (by show p < 8; omega)]
      exact (kk 335 _ (by omega)).trans a2
    · have l := (c9 p hp).2.2.2.2.1
      have il := (List.getElem?_eq_some_iff.mp z).1
      obtain ⟨b1, b2, b3, b4⟩ := a3 i f z
      rw [show 10 * (8 + p) + i = 80 + (10 * p + i) by omega] at b1 b2 b3 b4
      refine ⟨?_, ?_, ?_, ?_⟩
      · rw [o8 336 _ (by decide) (by omega) (by show 10 * p + i < 80; omega)]; exact (kk 336 _ (by omega)).trans b1
      · rw [o8 337 _ (by decide) (by omega) (by show 10 * p + i < 80; omega)]; exact (kk 337 _ (by omega)).trans b2
      · rw [o8 338 _ (by decide) (by omega) (by show 10 * p + i < 80; omega)]; exact (kk 338 _ (by omega)).trans b3
      · rw [o8 339 _ (by decide) (by omega) (by show 10 * p + i < 80; omega)]; exact (kk 339 _ (by omega)).trans b4
  · rw [o1, f15.1, f14.1, f13.1, f12.1, f11.1, f10.1, f9.1, f8.1, u4, h6, h1]
    rfl
  · intro a k h
    rw [o9 _ _ (by omega) (by omega) (by omega) (by omega), fr15 a k h]
  · intro a k h
    rw [o1]
    exact l15 a k h
