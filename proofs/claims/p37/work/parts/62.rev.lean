/-! reviewed, by both, with the day -/
theorem fa_first_cong {p q : Nat → Bool} : ∀ {n : Nat}, (∀ k, k < n → p k = q k) → fa_first p n = fa_first q n
  | 0, _ => rfl
  | n + 1, h => by
    have ih : fa_first p n = fa_first q n := fa_first_cong (fun k hk => h k (by omega))
    unfold fa_first
    rw [ih, h n (by omega)]
theorem kp_dat {M M' : Mem} (h : Dat M M') (p : Nat) : kp M' p = kp M p := by
  unfold kp
  rw [h 331 (by omega) (by omega) (by omega)]
theorem sec_dat {M M' : Mem} (h : Dat M M') (p : Nat) : sec M' p = sec M p := by
  unfold sec
  rw [kp_dat h, h 321 (by omega) (by omega) (by omega)]
theorem rk_dat {M M' : Mem} (O : MOk M) (h : Dat M M') {p : Nat} (hp : p < Cn M 4) : rk M' p = rk M p := by
  have hF := (O.2.2.2.2.2.2.1 p hp).2.2.2.2.2.1.2
  unfold rk
  rw [Fn_dat h]
  refine fa_first_cong (fun k hk => ?_)
  unfold stq
  rw [vq_dat O h hp (pw10 hF (by omega)), Fn_dat h, sec_dat h, h 314 (by omega) (by omega) (by omega)]
theorem rv_dat {M M' : Mem} (O : MOk M) (h : Dat M M') {p : Nat} (hp : p < Cn M 4) (c : Int32) : rv M' p c = rv M p c := by
  have hF := (O.2.2.2.2.2.2.1 p hp).2.2.2.2.2.1.2
  have le := rk_le M p
  have e : rvd M' p = rvd M p := by
    unfold rvd
    rw [rk_dat O h hp, vq_dat O h hp (pw10 hF le)]
  unfold rv
  rw [e]
theorem RDay.h0 {M : Mem} {s : Nat → Int32} (R : RDay M 217 s) : M.1 217 0 = s 0 := by
  obtain ⟨⟨hh, h1, h2, h3, -⟩, -⟩ := R
  rw [h2, h3]
theorem RDay.near {M M' : Mem} {s : Nat → Int32} (R : RDay M 217 s) (c4 : Cn M 4 ≤ 8) (o : Near M M') : RDay M' 217 s := R.rows c4 (Cn_dat o.dat 4) (Cn_dat o.dat 1) (fun a h1 h2 => o.row (by omega) (by omega) (by omega)) (fun _ _ => rfl)
theorem cll_s {M : Mem} {s : Nat → Int32} (R : RDay M 217 s) (c4 : Cn M 4 ≤ 8) {h p : Nat} (hh : s 0 = nI h) (h8 : h ≤ 8) (hp : p < h) : f_X3_call 217 (nI p) M = some (s (1 + p), M) := by
  obtain ⟨⟨h', h1, h2, h3, c, r, b, h5, ⟨h6, -, -⟩, h7, h8⟩, -⟩ := R
  have eh : h' = h := inj_nI (by omega) (by omega) (h3.symm.trans hh)
  subst eh
  unfold f_X3_call
  rw [gd_t day_c, h6, bit_nI (by omega) (by omega), (h7 p hp).1]
  rfl
/-- a change of the judge and the day alone -/
def OffA (M M' : Mem) : Prop := M'.2 = M.2 ∧ ∀ a, a < 212 ∨ 222 < a → M'.1 a = M.1 a
theorem OffA.refl (M : Mem) : OffA M M := ⟨rfl, fun _ _ => rfl⟩
theorem OffA.tr {M M' M'' : Mem} (h : OffA M M') (h' : OffA M' M'') : OffA M M'' := ⟨h'.1.trans h.1, fun a ha => (h'.2 a ha).trans (h.2 a ha)⟩
theorem OffD.offA {M M' : Mem} (h : OffD 217 M M') : OffA M M' := ⟨h.1, fun a ha => h.2 a (by omega)⟩
theorem OffJ.offA {M M' : Mem} (h : OffJ M M') : OffA M M' := ⟨h.1, fun a ha => h.2 a (by omega)⟩
theorem OffA.dat {M M' : Mem} (h : OffA M M') : Dat M M' := fun a h1 _ _ => h.2 a (by omega)
theorem offA_set (M : Mem) {a k : Nat} {v : Int32} (h : 212 ≤ a ∧ a ≤ 222) : OffA M (setI M a k v) := ⟨rfl, fun b hb => funext (fun j => setI_n (by omega))⟩
theorem OffA.hb {M M' : Mem} (h : HB M) (o : OffA M M') : HB M' := h.offH ⟨o.1, fun a h1 h2 => o.2 a (by omega), fun a h1 h2 => o.2 a (by omega)⟩
/-- the class asking, at most the judge -/
theorem review_j {M : Mem} (h : HB M) {p : Nat} (hp : p < Cn M 4) (c : Int32) : ∃ M', f_X4_review (tld M) (tld M + 31 + 5 * p) c M = some (rv M p c, M') ∧ OffK M M' ∧ M'.1 212 2 = nI (rk M p) * sec M p := by
  obtain ⟨M', e, o, z, -⟩ := review_k h (Near.refl M) hp c
  exact ⟨M', e, o, z⟩
def revA (M : Mem) (p : Nat) (who : Int32) (s : Nat → Int32) : Nat → Int32 := logV (nI p) who (rv M p (s (1 + p))) (nI (rk M p) * sec M p) (upd (upd s (9 + p) 1) (41 + p) (upd s (9 + p) 1 (41 + p) + nI (rk M p) * sec M p))
def revT (M : Mem) (p : Nat) (who : Int32) (s : Nat → Int32) : Nat → Int32 := upd (revA M p who s) (1 + p) (1 - revA M p who s (1 + p))
def revV (M : Mem) (p : Nat) (who : Int32) (s : Nat → Int32) : Nat → Int32 := if rv M p (s (1 + p)) = 2 then (if M.1 323 (kp M p) = 0 then revT M p who s else fgV (p + 1) (revT M p who s)) else revA M p who s
theorem revA_low {M : Mem} {p : Nat} {who : Int32} {s : Nat → Int32} {k : Nat} (h : k < 41) (h2 : k ≠ 9 + p) : revA M p who s k = s k := by
  unfold revA
  rw [logV_at, if_neg (by omega), if_neg (by omega), if_neg (by omega), if_neg (by omega), if_neg (by omega), if_neg (by omega), upd_n _ _ (by omega), upd_n _ _ h2]
theorem revV_mid {M : Mem} {p : Nat} {who : Int32} {s : Nat → Int32} {k : Nat} (h : 33 ≤ k ∧ k < 41) (h8 : p < 8) : revV M p who s k = s k := by
  have a := revA_low (M := M) (p := p) (who := who) (s := s) (k := k) (by omega) (by omega)
  have t : revT M p who s k = s k := by
    unfold revT
    rw [upd_n _ _ (by omega), a]
  unfold revV
  split
  · split
    · exact t
    · rw [fgV_n (by omega) (by omega), t]
  · exact a
theorem revV_0 {M : Mem} {p h : Nat} {who : Int32} {s : Nat → Int32} (hh : s 0 = nI h) (hp : p < h) : ∃ h', revV M p who s 0 = nI h' ∧ p < h' ∧ h' ≤ h := by
  have a := revA_low (M := M) (p := p) (who := who) (s := s) (k := 0) (by omega) (by omega)
  have t : revT M p who s 0 = s 0 := by
    unfold revT
    rw [upd_n _ _ (by omega), a]
  unfold revV
  split
  · split
    · exact ⟨h, by rw [t, hh], hp, Nat.le_refl _⟩
    · exact ⟨p + 1, by unfold fgV; rw [if_pos rfl], by omega, by omega⟩
  · exact ⟨h, by rw [a, hh], hp, Nat.le_refl _⟩
theorem revNow_c {M : Mem} (hb : HB M) {s : Nat → Int32} (R : RDay M 217 s) {h p : Nat} (hh : s 0 = nI h) (h8 : h ≤ Cn M 4) (hp : p < h) (who : Int32) : ∃ M', f_X10_reviewNow (nI p) who M = some (rv M p (s (1 + p)), M') ∧ OffA M M' ∧ RDay M' 217 (revV M p who s) := by
  have O := hb.1.2.1
  have c4 := O.1.2.2.2.2.1.2
  have c2 := O.1.2.2.1.2
  have tc := (tt_c hb.1.1).2.1
  have hp4 : p < Cn M 4 := by omega
  obtain ⟨g1, g2, g3⟩ := plc hb (Near.refl M)
  obtain ⟨p1, p2, p3, p4, p5, -⟩ := plj hb (Near.refl M) hp4
  obtain ⟨k1, k2⟩ := kp_ok O hp4
  obtain ⟨u1, u2, u3, u4⟩ := tt_k hb.1.1 (kp M p) (by omega)
  obtain ⟨-, -, -, -, -, tr8, -, -, -⟩ := tt_r hb.1.1
  obtain ⟨-, -, x2, -⟩ := hb.1.2.2.1.2.2.2.1 (kp M p) k1
  obtain ⟨M2, e2, o2, z2⟩ := review_j hb hp4 (s (1 + p))
  have R2 := R.near c4 o2.near
  have c42 : Cn M2 4 ≤ 8 := by rw [Cn_dat o2.near.dat]; exact c4
  have h20 : M2.1 217 0 = nI h := R2.h0.trans hh
  have R3 := day_rev R2 c42 (h := h) (p := p) h20 (by omega) hp
  obtain ⟨M3, d3⟩ : ∃ X, X = setI M2 217 2 (M2.1 217 2 ||| ((1 : Int32) <<< (nI p &&& 31))) := ⟨_, rfl⟩
  rw [← d3] at R3
  have c43 : Cn M3 4 ≤ 8 := by rw [d3, cn_set (by omega)]; exact c42
  have z3 : M3.1 212 2 = nI (rk M p) * sec M p := by rw [d3, setI_n (by omega), z2]
  have R4 := day_sec R3 c43 (p := p) (by omega) (nI (rk M p) * sec M p)
  obtain ⟨M4, d4⟩ : ∃ X, X = setI M3 221 p (M3.1 221 p + nI (rk M p) * sec M p) := ⟨_, rfl⟩
  rw [← d4] at R4
  have c44 : Cn M4 4 ≤ 8 := by rw [d4, cn_set (by omega)]; exact c43
  have z4 : M4.1 212 2 = nI (rk M p) * sec M p := by rw [d4, setI_n (by omega), z3]
  obtain ⟨M5, e5, R5, o5, -⟩ := addLog_f (Or.inl rfl) R4 c44 (nI p) who (rv M p (s (1 + p))) (nI (rk M p) * sec M p)
  have c45 : Cn M5 4 ≤ 8 := by rw [o5.cn (Or.inl rfl)]; exact c44
  have oa : OffA M M5 := by
    exact OffA.tr (M' := M2) ⟨o2.1, fun a ha => o2.2 a (by omega)⟩ (OffA.tr (M' := M3) (by rw [d3]; exact offA_set M2 (by omega)) (OffA.tr (M' := M4) (by rw [d4]; exact offA_set M3 (by omega)) (OffD.offA o5)))
  have ev : f_X10_reviewNow (nI p) who M = (if rv M p (s (1 + p)) = 2 then
      clv (f_X3_turn 217 (nI p) M5) (fun M6m => gd (shc (M6m.2.2.1 64 2) = 8) (gd (inb (M6m.1 (cr (cr (M6m.2.2.1 64 2) 12) (nI p).toNatClampNeg) 1) 5) (if (M6m.1 (cr (cr (M6m.2.2.1 64 2) 8) (M6m.1 (cr (cr (M6m.2.2.1 64 2) 12) (nI p).toNatClampNeg) 1).toNatClampNeg) 2) = 0 then some (rv M p (s (1 + p)), M6m) else clv (f_X3_restartBehind 217 (nI p) M6m) (fun M7m => some (rv M p (s (1 + p)), M7m)))))
    else some (rv M p (s (1 + p)), M5)) := by
    unfold f_X10_reviewNow
    rw [gd_t g1, gd_t p1, cll_s R c4 hh (by omega) hp, cl_s, p2, g3, e2, cl_s]
    simp only [bnd_e]
    rw [← d3, nI_clamp (show p < 2 ^ 31 by omega), z3, ← d4, z4, e5, clv_s]
  have rA : RDay M5 217 (revA M p who s) := R5
  rw [ev]
  unfold revV
  by_cases c : rv M p (s (1 + p)) = 2
  · rw [if_pos c, if_pos c]
    have h50 : M5.1 217 0 = nI h := by rw [rA.h0, revA_low (by omega) (by omega), hh]
    have R6 := day_turn rA c45 (h := h) (p := p) h50 (by omega) hp
    obtain ⟨M6, d6⟩ : ∃ X, X = setI M5 217 1 (M5.1 217 1 ^^^ ((1 : Int32) <<< (nI p &&& 31))) := ⟨_, rfl⟩
    rw [← d6] at R6
    have o6 : OffA M M6 := oa.tr (by rw [d6]; exact offA_set M5 (by omega))
    have c46 : Cn M6 4 ≤ 8 := by rw [Cn_dat o6.dat]; exact c4
    have et : f_X3_turn 217 (nI p) M5 = some M6 := by
      unfold f_X3_turn
      rw [gd_t day_c, bnd_e, ← d6]
    have r66 : M6.2.2.1 = M.2.2.1 := by rw [o6.1]
    have q1 : M6.1 (tld M + 31 + 5 * p) 1 = nI (kp M p) := by rw [o6.2 _ (by omega), p5, k2]
    have q2 : M6.1 (tld M + 10 + 3 * kp M p) 2 = M.1 323 (kp M p) := by rw [o6.2 _ (by omega), x2]
    rw [et, clv_s, r66, gd_t g1, p2, q1, gd_t (inb_nI (by omega) (by omega)), nI_clamp (show kp M p < 2 ^ 31 by omega), g3, tr8, u1, q2]
    by_cases cz : M.1 323 (kp M p) = 0
    · rw [if_pos cz, if_pos cz]
      exact ⟨M6, rfl, o6, R6⟩
    · rw [if_neg cz, if_neg cz]
      have h60 : M6.1 217 0 = nI h := by rw [d6, setI_n (by omega), h50]
      obtain ⟨M7, e7, R7, o7⟩ := day_back R6 c46 h60 (by omega) hp
      exact ⟨M7, by rw [e7, clv_s], o6.tr (OffD.offA o7), R7⟩
  · rw [if_neg c, if_neg c]
    exact ⟨M5, rfl, oa, rA⟩
/-! the same by the reference -/
def RfD (M M' : Mem) : Prop := M'.2 = M.2 ∧ ∀ a k, a ≠ 344 → a ≠ 340 → ¬ (a = 311 ∧ k = 44) → M'.1 a k = M.1 a k
theorem RfD.refl (M : Mem) : RfD M M := ⟨rfl, fun _ _ _ _ _ => rfl⟩
theorem RfD.tr {M M' M'' : Mem} (h : RfD M M') (h' : RfD M' M'') : RfD M M'' := ⟨h'.1.trans h.1, fun a k h1 h2 h3 => (h'.2 a k h1 h2 h3).trans (h.2 a k h1 h2 h3)⟩
theorem RfL.rfd {M M' : Mem} (h : RfL M M') : RfD M M' := ⟨h.1, fun a k h1 _ h3 => h.2 a k h1 h3⟩
theorem rfd_A (M : Mem) (d : Nat → Int32) : RfD M (sA M 340 d) := ⟨rfl, fun a k _ h _ => sA_n M d k h⟩
theorem RfD.dat {M M' : Mem} (h : RfD M M') : Dat M M' := fun a h1 h2 _ => funext (fun k => h.2 a k (by omega) (by omega) (by omega))
theorem sA_row (M : Mem) (n : Nat) (d : Nat → Int32) : (sA M n d).1 n = d := funext (fun k => sA_s M n d k)
theorem setI_sA (M : Mem) (n k : Nat) (x : Int32) : setI M n k x = sA M n (upd (M.1 n) k x) := by
  rw [← sA_set, sA_self]
theorem upd_dup {d : Nat → Int32} {k : Nat} {x y : Int32} : upd (upd d k x) k y = upd d k y := fa_upd_twice d k x y
/-- the reference forgets plays from f on -/
def fgP (f : Nat) (j : Nat) (s : Nat → Int32) : Nat → Int32 := fun k => if (1 + f ≤ k ∧ k < 1 + f + j) ∨ (9 + f ≤ k ∧ k < 9 + f + j) ∨ (17 + f ≤ k ∧ k < 17 + f + j) ∨ (25 + f ≤ k ∧ k < 25 + f + j) then 0 else s k
theorem forgets_f (M : Mem) {f : Nat} (hf : f ≤ 8) : f_X11_forgets (nI f) M = some (sA M 340 (fgV f (M.1 340))) := by
  have hl := lp_for (z := fun _ _ _ => none) (s := f_X11_forgets_b2_s) (fun j (g : Int32 → Int32 → Mem → Option Mem) => g (nI f) (nI (f + j)) (sA M 340 (fgP f j (M.1 340)))) (8 - f) (some (sA M 340 (fgV f (M.1 340)))) (fun j hj g => by
    show f_X11_forgets_b2_s g (nI f) (nI (f + j)) (sA M 340 (fgP f j (M.1 340))) = g (nI f) (nI (f + (j + 1))) (sA M 340 (fgP f (j + 1) (M.1 340)))
    unfold f_X11_forgets_b2_s
    have i1 : 1 + nI (f + j) = nI (1 + (f + j)) := nI_add _ _
    have i2 : 9 + nI (f + j) = nI (9 + (f + j)) := nI_add _ _
    have i3 : 17 + nI (f + j) = nI (17 + (f + j)) := nI_add _ _
    have i4 : 25 + nI (f + j) = nI (25 + (f + j)) := nI_add _ _
    have e : upd (upd (upd (upd (fgP f j (M.1 340)) (1 + (f + j)) 0) (9 + (f + j)) 0) (17 + (f + j)) 0) (25 + (f + j)) 0 = fgP f (j + 1) (M.1 340) := by
      funext k
      show (if k = 25 + (f + j) then (0 : Int32) else if k = 17 + (f + j) then 0 else if k = 9 + (f + j) then 0 else if k = 1 + (f + j) then 0 else if (1 + f ≤ k ∧ k < 1 + f + j) ∨ (9 + f ≤ k ∧ k < 9 + f + j) ∨ (17 + f ≤ k ∧ k < 17 + f + j) ∨ (25 + f ≤ k ∧ k < 25 + f + j) then 0 else M.1 340 k) = if (1 + f ≤ k ∧ k < 1 + f + (j + 1)) ∨ (9 + f ≤ k ∧ k < 9 + f + (j + 1)) ∨ (17 + f ≤ k ∧ k < 17 + f + (j + 1)) ∨ (25 + f ≤ k ∧ k < 25 + f + (j + 1)) then 0 else M.1 340 k
      by_cases c1 : k = 25 + (f + j)
      · rw [if_pos c1, if_pos (by omega)]
      rw [if_neg c1]
      by_cases c2 : k = 17 + (f + j)
      · rw [if_pos c2, if_pos (by omega)]
      rw [if_neg c2]
      by_cases c3 : k = 9 + (f + j)
      · rw [if_pos c3, if_pos (by omega)]
      rw [if_neg c3]
      by_cases c4 : k = 1 + (f + j)
      · rw [if_pos c4, if_pos (by omega)]
      rw [if_neg c4]
      by_cases c5 : (1 + f ≤ k ∧ k < 1 + f + j) ∨ (9 + f ≤ k ∧ k < 9 + f + j) ∨ (17 + f ≤ k ∧ k < 17 + f + j) ∨ (25 + f ≤ k ∧ k < 25 + f + j)
      · rw [if_pos c5, if_pos (by omega)]
      · rw [if_neg c5, if_neg (by omega)]
    simp only [bnd_e]
    rw [if_neg (by rw [show (8 : Int32) = nI 8 from rfl]; exact nI_ge (by omega) (by omega)), i1, i2, i3, i4, gd_t (inb_nI (by omega) (by omega)), gd_t (inb_nI (by omega) (by omega)), gd_t (inb_nI (by omega) (by omega)), gd_t (inb_nI (by omega) (by omega)), nI_clamp (show 1 + (f + j) < 2 ^ 31 by omega), nI_clamp (show 9 + (f + j) < 2 ^ 31 by omega), nI_clamp (show 17 + (f + j) < 2 ^ 31 by omega), nI_clamp (show 25 + (f + j) < 2 ^ 31 by omega), sA_set, sA_set, sA_set, sA_set, e, nI_1]
    rfl) (fun g => by
    show f_X11_forgets_b2_s g (nI f) (nI (f + (8 - f))) (sA M 340 (fgP f (8 - f) (M.1 340))) = _
    unfold f_X11_forgets_b2_s
    rw [show f + (8 - f) = 8 by omega, if_pos (by decide), bnd_e, sA_set]
    congr 2
    funext k
    show (if k = 0 then nI f else if (1 + f ≤ k ∧ k < 1 + f + (8 - f)) ∨ (9 + f ≤ k ∧ k < 9 + f + (8 - f)) ∨ (17 + f ≤ k ∧ k < 17 + f + (8 - f)) ∨ (25 + f ≤ k ∧ k < 25 + f + (8 - f)) then 0 else M.1 340 k) = if k = 0 then nI f else if (1 + f ≤ k ∧ k < 9) ∨ (9 + f ≤ k ∧ k < 17) ∨ (17 + f ≤ k ∧ k < 25) ∨ (25 + f ≤ k ∧ k < 33) then 0 else M.1 340 k
    by_cases c : k = 0
    · rw [if_pos c, if_pos c]
    · rw [if_neg c, if_neg c]
      by_cases c5 : (1 + f ≤ k ∧ k < 9) ∨ (9 + f ≤ k ∧ k < 17) ∨ (17 + f ≤ k ∧ k < 25) ∨ (25 + f ≤ k ∧ k < 33)
      · rw [if_pos c5, if_pos (by omega)]
      · rw [if_neg c5, if_neg (by omega)]) fuel (by unfold fuel; omega)
  have e0 : fgP f 0 (M.1 340) = M.1 340 := by
    funext k
    unfold fgP
    rw [if_neg (by omega)]
  simp only [e0, sA_self, Nat.add_zero] at hl
  exact hl
theorem reviewed_r {M M1 : Mem} (O : MOk M) (d : Dat M M1) {p : Nat} (hp : p < Cn M 4) (who : Int32) : ∃ M2, f_X11_reviewed (nI p) who M1 = some (rv M p (M1.1 340 (1 + p)), M2) ∧ RfD M1 M2 ∧ M2.1 340 = revV M p who (M1.1 340) := by
  have c4 := O.1.2.2.2.2.1.2
  have c2 := O.1.2.2.1.2
  obtain ⟨k1, k2⟩ := kp_ok O hp
  obtain ⟨M3, e3, o3, z3⟩ := review_r O d hp (M1.1 340 (1 + p))
  have s3 : M3.1 340 = M1.1 340 := o3.row (by omega) (by omega)
  have d3 : Dat M M3 := d.tr o3.near.dat
  have dA : ∀ x, Dat M (sA M3 340 x) := fun x => d3.tr (rfd_A M3 x).dat
  have zA : ∀ x, (sA M3 340 x).1 311 44 = nI (rk M p) := fun x => by rw [sA_n _ _ _ (by omega), z3]
  have sec1 : ∀ x, f_X11_secondsOf (nI p) (sA M3 340 x) = some (nI (rk M p) * sec M p, sA M3 340 x) := fun x => secondsOf_r O (dA x) hp (zA x)
  have oA : ∀ x, RfD M1 (sA M3 340 x) := fun x => o3.rfd.tr (rfd_A M3 x)
  have i1 : 1 + nI p = nI (1 + p) := nI_add _ _
  have i9 : 9 + nI p = nI (9 + p) := nI_add _ _
  have i41 : 41 + nI p = nI (41 + p) := nI_add _ _
  have ev : f_X11_reviewed (nI p) who M1 = (if rv M p (M1.1 340 (1 + p)) = 2 then (if M.1 323 (kp M p) = 0 then some (rv M p (M1.1 340 (1 + p)), sA M3 340 (revT M p who (M1.1 340))) else clv (f_X11_forgets (nI (p + 1)) (sA M3 340 (revT M p who (M1.1 340)))) (fun M8m => some (rv M p (M1.1 340 (1 + p)), M8m))) else some (rv M p (M1.1 340 (1 + p)), sA M3 340 (revA M p who (M1.1 340)))) := by
    unfold f_X11_reviewed
    rw [i1, i9, i41, gd_t (inb_nI (by omega) (by omega)), nI_clamp (show 1 + p < 2 ^ 31 by omega), e3, cl_s]
    simp only [bnd_e]
    rw [gd_t (inb_nI (by omega) (by omega)), gd_t (inb_nI (by omega) (by omega)), nI_clamp (show 9 + p < 2 ^ 31 by omega), nI_clamp (show 41 + p < 2 ^ 31 by omega), setI_sA M3, s3, sec1, cl_s, sA_s, sA_set, sec1, cl_s, logs_f, sA_row, sA_sA, clv_s]
    have eA : logV (nI p) who (rv M p (M1.1 340 (1 + p))) (nI (rk M p) * sec M p) (upd (upd (M1.1 340) (9 + p) 1) (41 + p) (upd (M1.1 340) (9 + p) 1 (41 + p) + nI (rk M p) * sec M p)) = revA M p who (M1.1 340) := rfl
    rw [eA, sA_set, sA_s, gd_t (inb_nI (by omega) (by omega)), nI_clamp (show p < 2 ^ 31 by omega)]
    have eT : upd (revA M p who (M1.1 340)) (1 + p) (1 - revA M p who (M1.1 340) (1 + p)) = revT M p who (M1.1 340) := rfl
    rw [eT, dA _ 331 (by omega) (by omega) (by omega), k2, gd_t (inb_nI (by omega) (by omega)), nI_clamp (show kp M p < 2 ^ 31 by omega), dA _ 323 (by omega) (by omega) (by omega), nI_1]
  rw [ev]
  unfold revV
  by_cases c : rv M p (M1.1 340 (1 + p)) = 2
  · rw [if_pos c, if_pos c]
    by_cases cz : M.1 323 (kp M p) = 0
    · rw [if_pos cz, if_pos cz]
      exact ⟨_, rfl, oA _, sA_row _ _ _⟩
    · rw [if_neg cz, if_neg cz, forgets_f _ (by omega), sA_row, sA_sA, clv_s]
      exact ⟨_, rfl, oA _, sA_row _ _ _⟩
  · rw [if_neg c, if_neg c]
    exact ⟨_, rfl, oA _, sA_row _ _ _⟩
theorem revA_dat {M M' : Mem} (O : MOk M) (h : Dat M M') {p : Nat} (hp : p < Cn M 4) (who : Int32) (s : Nat → Int32) : revA M' p who s = revA M p who s := by
  unfold revA
  rw [rv_dat O h hp, rk_dat O h hp, sec_dat h]
theorem revV_dat {M M' : Mem} (O : MOk M) (h : Dat M M') {p : Nat} (hp : p < Cn M 4) (who : Int32) (s : Nat → Int32) : revV M' p who s = revV M p who s := by
  unfold revV revT
  rw [rv_dat O h hp, revA_dat O h hp, kp_dat h, h 323 (by omega) (by omega) (by omega)]
