/-! left -/
def atO (M : Mem) (p : Nat) : Bool := !(decide (M.1 322 (kp M p) = 0) && decide (M.1 330 p < M.1 314 2))
def ovd (M : Mem) (p : Nat) : Bool := decide (rv M p (M.1 334 p) = 2)
theorem kp_ok {M : Mem} (O : MOk M) {p : Nat} (hp : p < Cn M 4) : kp M p < Cn M 2 ∧ M.1 331 p = nI (kp M p) := by
  obtain ⟨-, ⟨kk, hk, ek⟩, -⟩ := O.2.2.2.2.2.2.1 p hp
  have h2 := O.1.2.2.1.2
  unfold kp
  rw [ek, nI_clamp (by omega)]
  exact ⟨hk, rfl⟩
theorem atO_c {M Mj : Mem} (h : HB M) (o : Near M Mj) {p : Nat} (hp : p < Cn M 4) : f_X9_isReviewedAtOnce (tld M) (nI p) Mj = some (if atO M p then 1 else 0, Mj) := by
  have O := h.1.2.1
  have h2 := O.1.2.2.1.2
  have h4 := O.1.2.2.2.2.1.2
  have tc := (tt_c h.1.1).2.1
  obtain ⟨k1, k2⟩ := kp_ok O hp
  obtain ⟨u1, u2, u3, u4⟩ := tt_k h.1.1 (kp M p) (by omega)
  obtain ⟨-, -, -, -, -, tr8, -, -, tr13⟩ := tt_r h.1.1
  obtain ⟨-, x1, -⟩ := h.1.2.2.1.2.2.2.1 (kp M p) k1
  have las := h.1.2.2.1.2.2.2.2.2.2 2 (by omega)
  obtain ⟨p1, p2, p3, p4, p5, -⟩ := plj h o hp
  rw [o.ref] at p2
  have p2' : cr (cr (tld M) 12) (nI p).toNatClampNeg = tld M + 31 + 5 * p := p2
  unfold f_X9_isReviewedAtOnce atO
  rw [gd_t (tt_0 h.1.1), gd_t p1, p2', p5, k2, gd_t (inb_nI (by omega) (by omega)), nI_clamp (by omega), tr8, u1, o.row (a := tld M + 10 + 3 * kp M p) (by omega) (by omega) (by omega), x1, p4, tr13, o.row (a := tld M + 9) (by omega) (by omega) (by omega), las]
  by_cases c1 : M.1 322 (kp M p) = 0
  · rw [if_pos c1, decide_eq_true c1]
    by_cases c2 : M.1 330 p < M.1 314 2
    · rw [if_pos c2, decide_eq_true c2]; rfl
    · rw [if_neg c2, decide_eq_false c2]; rfl
  · rw [if_neg c1, decide_eq_false c1]; rfl
theorem atO_r {M Mj : Mem} (O : MOk M) (o : Dat M Mj) {p : Nat} (hp : p < Cn M 4) : f_X11_isAtOnce (nI p) Mj = some (if atO M p then 1 else 0, Mj) := by
  have h2 := O.1.2.2.1.2
  have h4 := O.1.2.2.2.2.1.2
  obtain ⟨k1, k2⟩ := kp_ok O hp
  unfold f_X11_isAtOnce atO
  rw [gd_t (inb_nI (by omega) (by omega)), nI_clamp (by omega), o 331 (by omega) (by omega) (by omega), k2, gd_t (inb_nI (by omega) (by omega)), nI_clamp (by omega), o 322 (by omega) (by omega) (by omega), o 330 (by omega) (by omega) (by omega), o 314 (by omega) (by omega) (by omega)]
  by_cases c1 : M.1 322 (kp M p) = 0
  · rw [if_pos c1, decide_eq_true c1]
    by_cases c2 : M.1 330 p < M.1 314 2
    · rw [if_pos c2, decide_eq_true c2]; rfl
    · rw [if_neg c2, decide_eq_false c2]; rfl
  · rw [if_neg c1, decide_eq_false c1]; rfl
def tur (M : Mem) (p : Nat) : Bool := atO M p && ovd M p
def lfi (M : Mem) (p : Nat) : Bool := tur M p == decide (M.1 334 p = 0)
def lsum (M : Mem) (x : Int32) : Nat → Int32
  | 0 => 0
  | j + 1 => if M.1 332 j = x ∧ lfi M j = true then lsum M x j + M.1 333 j else lsum M x j
theorem cun_c {M Mj : Mem} (h : HB M) (o : Near M Mj) {p : Nat} (hp : p < Cn M 4) : ∃ r M', f_X10_callUnchallenged (nI p) Mj = some (r, M') ∧ Near Mj M' ∧ (r = 1 ↔ lfi M p = true) := by
  obtain ⟨g1, g2, g3⟩ := plc h o
  obtain ⟨p1, p2, p3, p4, p5, p6, p7, p8, p9⟩ := plj h o hp
  have c01 : M.1 334 p = 0 ∨ M.1 334 p = 1 := (h.1.2.1.2.2.2.2.2.2.1 p hp).2.2.2.2.1
  unfold f_X10_callUnchallenged
  rw [gd_t g1, gd_t p1, p2, bnd_e, g3, atO_c h o hp, cl_s]
  have b0 : ∀ M', Near M M' → f_X10_callUnchallenged_b46 (tld M + 31 + 5 * p) 0 M' = some (M.1 334 p, M') := fun M' o' => by
    obtain ⟨-, -, q3, -, -, -, -, q8, -⟩ := plj h o' hp
    unfold f_X10_callUnchallenged_b46
    rw [if_pos rfl, gd_t q3, q8]
  have b1 : ∀ M', Near M M' → f_X10_callUnchallenged_b46 (tld M + 31 + 5 * p) 1 M' = some (1 - M.1 334 p, M') := fun M' o' => by
    obtain ⟨-, -, q3, -, -, -, -, q8, -⟩ := plj h o' hp
    unfold f_X10_callUnchallenged_b46
    rw [if_neg (by decide), gd_t q3, q8]
  unfold f_X10_callUnchallenged_b45 lfi tur
  by_cases c : atO M p = true
  · rw [if_pos c, if_neg (by decide), p8]
    obtain ⟨M', e', o', -, -⟩ := review_c h o hp (M.1 334 p)
    rw [o.ref, show M.2.2.1 64 2 = tld M from rfl, e', cl_s, c]
    unfold ovd
    by_cases c2 : rv M p (M.1 334 p) = 2
    · refine ⟨1 - M.1 334 p, M', by rw [if_pos c2, b1 M' (o.tr o')], o', ?_⟩
      rw [decide_eq_true c2]
      rcases c01 with z | z <;> rw [z] <;> decide
    · refine ⟨M.1 334 p, M', by rw [if_neg c2, b0 M' (o.tr o')], o', ?_⟩
      rw [decide_eq_false c2]
      rcases c01 with z | z <;> rw [z] <;> decide
  · have cf : atO M p = false := Bool.eq_false_iff.mpr c
    refine ⟨M.1 334 p, Mj, by rw [if_neg c, if_pos rfl, b0 Mj o], Near.refl Mj, ?_⟩
    rw [cf, Bool.false_and]
    rcases c01 with z | z <;> rw [z] <;> decide
theorem do_left (x : Int32) : Do (f_X10_left x) (f_X11_left x) := by
  refine do_any (gc := fun M1m => cl (f_X11_isSide x M1m) (fun r1 M2m => if r1 = 0 then some ((-1), M2m) else f_X11_left_b19 fuel x 0 0 M2m)) (fun M => rfl) (fun M hI => ?_)
  have h := hI.1
  have O := h.1.2.1
  refine h.side (x := x) (z := -1) (fun M => rfl) (fun M => rfl) (fun s hs hx => ?_)
  have h4 := O.1.2.2.2.2.1
  have hc := lp_inv (z := fun _ _ _ _ => none) (s := f_X10_left_b14_s) (fun j (Mj : Mem) (f : Int32 → Int32 → Int32 → Mem → Option (Int32 × Mem)) => f x (lsum M x j) (nI j) Mj) (fun _ Mj => Near M Mj) (fun r => ∃ M', r = some (lsum M x (Cn M 4), M') ∧ Near M M') (Cn M 4) (fun j hj Mj oj f => by
    obtain ⟨g1, g2, g3⟩ := plc h oj
    obtain ⟨p1, p2, p3, -, -, p6, p7, p8, -⟩ := plj h oj hj
    by_cases c : M.1 332 j = x
    · obtain ⟨r, M3, e3, o3, iff3⟩ := cun_c h oj hj
      obtain ⟨q1, -⟩ := plc h (oj.tr o3)
      obtain ⟨-, q2, -, -, -, -, q7, -, -⟩ := plj h (oj.tr o3) hj
      refine Or.inr ⟨M3, oj.tr o3, ?_⟩
      show f_X10_left_b14_s f x (lsum M x j) (nI j) Mj = f x (if M.1 332 j = x ∧ lfi M j = true then lsum M x j + M.1 333 j else lsum M x j) (nI (j + 1)) M3
      unfold f_X10_left_b14_s
      simp only [bnd_e]
      rw [gd_t g1, g2, if_neg (nI_ge hj (by omega)), gd_t p1, p2, p6, if_pos c, e3, cl_s, gd_t q1, q2, q7, nI_1]
      by_cases c2 : r = 1
      · rw [if_pos c2, if_pos ⟨c, iff3.mp c2⟩]
      · rw [if_neg c2, if_neg (fun z => c2 (iff3.mpr z.2))]
    · refine Or.inr ⟨Mj, oj, ?_⟩
      show f_X10_left_b14_s f x (lsum M x j) (nI j) Mj = f x (if M.1 332 j = x ∧ lfi M j = true then lsum M x j + M.1 333 j else lsum M x j) (nI (j + 1)) Mj
      unfold f_X10_left_b14_s
      simp only [bnd_e]
      rw [gd_t g1, g2, if_neg (nI_ge hj (by omega)), gd_t p1, p2, p6, if_neg c, nI_1, if_neg (fun z => c z.1)]) (fun Mj oj f => by
    obtain ⟨g1, g2, g3⟩ := plc h oj
    refine ⟨Mj, ?_, oj⟩
    show f_X10_left_b14_s f x (lsum M x (Cn M 4)) (nI (Cn M 4)) Mj = _
    unfold f_X10_left_b14_s
    rw [gd_t g1, g2, if_pos (le_nI (by omega) (by omega) (Nat.le_refl _))]) fuel (by unfold fuel; omega) M (Near.refl M)
  obtain ⟨M1, e1, o1⟩ := hc
  refine ⟨_, ⟨M1, e1, o1⟩, fun M2 o2 => ?_⟩
  have hr := lp_inv (z := fun _ _ _ _ => none) (s := f_X11_left_b19_s) (fun j (Mj : Mem) (f : Int32 → Int32 → Int32 → Mem → Option (Int32 × Mem)) => f x (lsum M x j) (nI j) Mj) (fun _ Mj => RfL M2 Mj) (fun r => ∃ M', r = some (lsum M x (Cn M 4), M') ∧ RfL M2 M') (Cn M 4) (fun j hj Mj oj f => by
    have nj : Dat M Mj := o2.dat.tr oj.near.dat
    have c01 : M.1 334 j = 0 ∨ M.1 334 j = 1 := (O.2.2.2.2.2.2.1 j hj).2.2.2.2.1
    have b89 : ∀ (t c : Bool) M3, RfL M2 M3 → f_X11_left_b89 f x (nI j) (lsum M x j) (if t then 1 else 0) (if c then 1 else 0) M3 = f x (if t == c then lsum M x j + M.1 333 j else lsum M x j) (nI (j + 1)) M3 := fun t c M3 o3 => by
      unfold f_X11_left_b89
      simp only [bnd_e]
      rw [gd_t (inb_nI (by omega) (by omega)), nI_clamp (by omega), (o2.dat.tr o3.near.dat) 333 (by omega) (by omega) (by omega), nI_1, Int32.add_zero]
      cases t <;> cases c <;> rfl
    have b70 : ∀ (t : Bool) M3, RfL M2 M3 → f_X11_left_b70 f x (lsum M x j) (nI j) (if t then 1 else 0) M3 = f x (if t == decide (M.1 334 j = 0) then lsum M x j + M.1 333 j else lsum M x j) (nI (j + 1)) M3 := fun t M3 o3 => by
      unfold f_X11_left_b70
      rw [gd_t (inb_nI (by omega) (by omega)), nI_clamp (by omega), (o2.dat.tr o3.near.dat) 334 (by omega) (by omega) (by omega)]
      by_cases c : M.1 334 j = 0
      · rw [if_pos c, decide_eq_true c, ← b89 t true M3 o3]; rfl
      · rw [if_neg c, decide_eq_false c, ← b89 t false M3 o3]; rfl
    have fin : M.1 332 j = x → (if M.1 332 j = x ∧ lfi M j = true then lsum M x j + M.1 333 j else lsum M x j) = (if (tur M j == decide (M.1 334 j = 0)) = true then lsum M x j + M.1 333 j else lsum M x j) := fun c => by
      unfold lfi
      by_cases c2 : (tur M j == decide (M.1 334 j = 0)) = true
      · rw [if_pos c2, if_pos ⟨c, c2⟩]
      · rw [if_neg c2, if_neg (fun z => c2 z.2)]
    by_cases c : M.1 332 j = x
    · by_cases ca : atO M j = true
      · obtain ⟨M3, e3, o3, -⟩ := review_r O nj hj (M.1 334 j)
        refine Or.inr ⟨M3, oj.tr o3, ?_⟩
        show f_X11_left_b19_s f x (lsum M x j) (nI j) Mj = f x (if M.1 332 j = x ∧ lfi M j = true then lsum M x j + M.1 333 j else lsum M x j) (nI (j + 1)) M3
        rw [fin c]
        unfold f_X11_left_b19_s f_X11_left_b69
        simp only [bnd_e]
        rw [nj 313 (by omega) (by omega) (by omega), h4.1, if_neg (nI_ge hj (by omega)), gd_t (inb_nI (by omega) (by omega)), nI_clamp (by omega), nj 332 (by omega) (by omega) (by omega), if_pos c, atO_r O nj hj, cl_s, if_pos ca, if_neg (by decide), nj 334 (by omega) (by omega) (by omega), e3, cl_s]
        have et : tur M j = ovd M j := by unfold tur; rw [ca, Bool.true_and]
        rw [et]
        unfold ovd
        by_cases c2 : rv M j (M.1 334 j) = 2
        · rw [if_pos c2, decide_eq_true c2]
          exact b70 true M3 (oj.tr o3)
        · rw [if_neg c2, decide_eq_false c2]
          exact b70 false M3 (oj.tr o3)
      · have cf : atO M j = false := Bool.eq_false_iff.mpr ca
        refine Or.inr ⟨Mj, oj, ?_⟩
        show f_X11_left_b19_s f x (lsum M x j) (nI j) Mj = f x (if M.1 332 j = x ∧ lfi M j = true then lsum M x j + M.1 333 j else lsum M x j) (nI (j + 1)) Mj
        rw [fin c]
        unfold f_X11_left_b19_s f_X11_left_b69
        simp only [bnd_e]
        rw [nj 313 (by omega) (by omega) (by omega), h4.1, if_neg (nI_ge hj (by omega)), gd_t (inb_nI (by omega) (by omega)), nI_clamp (by omega), nj 332 (by omega) (by omega) (by omega), if_pos c, atO_r O nj hj, cl_s, if_neg ca, if_pos rfl]
        have et : tur M j = false := by unfold tur; rw [cf, Bool.false_and]
        rw [et]
        exact b70 false Mj oj
    · refine Or.inr ⟨Mj, oj, ?_⟩
      show f_X11_left_b19_s f x (lsum M x j) (nI j) Mj = f x (if M.1 332 j = x ∧ lfi M j = true then lsum M x j + M.1 333 j else lsum M x j) (nI (j + 1)) Mj
      unfold f_X11_left_b19_s
      simp only [bnd_e]
      rw [nj 313 (by omega) (by omega) (by omega), h4.1, if_neg (nI_ge hj (by omega)), gd_t (inb_nI (by omega) (by omega)), nI_clamp (by omega), nj 332 (by omega) (by omega) (by omega), if_neg c, nI_1, if_neg (fun z => c z.1)]) (fun Mj oj f => by
    have nj : Dat M Mj := o2.dat.tr oj.near.dat
    refine ⟨Mj, ?_, oj⟩
    show f_X11_left_b19_s f x (lsum M x (Cn M 4)) (nI (Cn M 4)) Mj = _
    unfold f_X11_left_b19_s
    rw [nj 313 (by omega) (by omega) (by omega), h4.1, if_pos (le_nI (by omega) (by omega) (Nat.le_refl _))]) fuel (by unfold fuel; omega) M2 (RfL.refl M2)
  exact hr
