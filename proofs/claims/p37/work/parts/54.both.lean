/-! BOTH ANSWER ALIKE where nothing lasting changes -/
def Both (M : Mem) (f g : Mem → Option (Int32 × Mem)) : Prop := ∃ v, (∃ M1, f M = some (v, M1) ∧ Near M M1) ∧ ∀ M1, Near M M1 → ∃ M2, g M1 = some (v, M2) ∧ RfL M1 M2
theorem do_any {f g gc : Mem → Option (Int32 × Mem)} (hg : ∀ M, g M = gc (setI M 311 0 0)) (hh : ∀ M, Inv M → Both M f gc) : Do f g := by
  intro M h
  obtain ⟨v, ⟨M1, e1, o1⟩, k⟩ := hh M h
  obtain ⟨M2, e2, o2⟩ := k (setI M1 311 0 0) (o1.tr (near_0 M1 0))
  exact ⟨v, M1, M2, e1, by rw [hg]; exact e2, h.near ((o1.tr (near_0 M1 0)).tr o2.near), by rw [o2.t, set_0]⟩
theorem both_c {M : Mem} {f g : Mem → Option (Int32 × Mem)} (v : Int32) (h1 : f M = some (v, M)) (h2 : ∀ M1, Near M M1 → g M1 = some (v, M1)) : Both M f g := ⟨v, ⟨M, h1, Near.refl M⟩, fun M1 o => ⟨M1, h2 M1 o, RfL.refl M1⟩⟩
def IsS (M : Mem) (x : Int32) : Prop := ∃ s, s < Cn M 1 ∧ x = nI s
def IsB (M : Mem) (x : Int32) : Prop := ∃ b, b < Cn M 3 ∧ x = nI b
theorem HB.play {M : Mem} (h : HB M) {f g fc gc : Mem → Option (Int32 × Mem)} {x z : Int32} (hf : ∀ M, f M = cl (f_X10_isPlay x M) (fun r1 M1 => if r1 = 0 then some (z, M1) else fc M1)) (hg : ∀ M, g M = cl (f_X11_isPlay x M) (fun r1 M1 => if r1 = 0 then some (z, M1) else gc M1)) (hp : ∀ p, p < Cn M 4 → x = nI p → Both M fc gc) : Both M f g := by
  rcases play_c h x with ⟨c, e⟩ | ⟨c, e⟩
  · obtain ⟨p, hp1, hx⟩ := c
    obtain ⟨v, ⟨M1, e1, o1⟩, k⟩ := hp p hp1 hx
    refine ⟨v, ⟨M1, by rw [hf, e, cl_s, if_neg (by decide)]; exact e1, o1⟩, fun M2 o2 => ?_⟩
    rw [hg]
    rcases play_r (h.1.2.1.dat o2.dat) x with ⟨-, e3⟩ | ⟨n, -⟩
    · rw [e3, cl_s, if_neg (by decide)]; exact k M2 o2
    · exact absurd ((IsP.cong o2.dat x).mpr ⟨p, hp1, hx⟩) n
  · refine ⟨z, ⟨M, by rw [hf, e, cl_s, if_pos rfl], Near.refl M⟩, fun M2 o2 => ⟨M2, ?_, RfL.refl M2⟩⟩
    rw [hg]
    rcases play_r (h.1.2.1.dat o2.dat) x with ⟨n, -⟩ | ⟨-, e3⟩
    · exact absurd ((IsP.cong o2.dat x).mp n) c
    · rw [e3, cl_s, if_pos rfl]
theorem side_c {M : Mem} (h : HB M) (x : Int32) : (IsS M x ∧ f_X10_isSide x M = some (1, M)) ∨ (¬ IsS M x ∧ f_X10_isSide x M = some (0, M)) := by
  have O := h.1.2.1
  have h4 := O.1.2.1
  have r := h.1.2.2.1.1.2.1
  unfold f_X10_isSide
  by_cases c : x < 0
  · rw [if_pos c]
    refine Or.inr ⟨?_, rfl⟩
    rintro ⟨p, hp, rfl⟩
    exact neg_nI (by omega) c
  · rw [if_neg c]
    have e : M.2.2.1 64 2 = tld M := rfl
    rw [e, gd_t (tt_0 h.1.1), r, h4.1]
    obtain ⟨j, hj, rfl⟩ := nI_of c
    by_cases c2 : nI (Cn M 1) ≤ nI j
    · rw [if_pos c2]
      refine Or.inr ⟨?_, rfl⟩
      rintro ⟨p, hp, e2⟩
      rw [e2] at c2
      exact absurd c2 (nI_ge hp (by omega))
    · rw [if_neg c2]
      exact Or.inl ⟨⟨j, (lt_nI hj (by omega)).mp (Int32.not_le.mp c2), rfl⟩, rfl⟩
theorem side_r {M : Mem} (O : MOk M) (x : Int32) : (IsS M x ∧ f_X11_isSide x M = some (1, M)) ∨ (¬ IsS M x ∧ f_X11_isSide x M = some (0, M)) := by
  have h4 := O.1.2.1
  unfold f_X11_isSide
  rw [h4.1, within_n (by omega), cl_s]
  by_cases c : ¬ x < 0 ∧ x < nI (Cn M 1)
  · rw [if_pos c, gd_t (by decide)]
    obtain ⟨j, hj, e⟩ := idx_of (by omega) c.1 c.2
    exact Or.inl ⟨⟨j, hj, e⟩, rfl⟩
  · rw [if_neg c, gd_t (by decide)]
    refine Or.inr ⟨?_, rfl⟩
    rintro ⟨p, hp, rfl⟩
    exact c ⟨neg_nI (by omega), (lt_nI (by omega) (by omega)).mpr hp⟩
theorem board_c {M : Mem} (h : HB M) (x : Int32) : (IsB M x ∧ f_X10_isBoard x M = some (1, M)) ∨ (¬ IsB M x ∧ f_X10_isBoard x M = some (0, M)) := by
  have O := h.1.2.1
  have h4 := O.1.2.2.2.1
  have r := h.1.2.2.1.1.2.2.2.1
  unfold f_X10_isBoard
  by_cases c : x < 0
  · rw [if_pos c]
    refine Or.inr ⟨?_, rfl⟩
    rintro ⟨p, hp, rfl⟩
    exact neg_nI (by omega) c
  · rw [if_neg c]
    have e : M.2.2.1 64 2 = tld M := rfl
    rw [e, gd_t (tt_0 h.1.1), r, h4.1]
    obtain ⟨j, hj, rfl⟩ := nI_of c
    by_cases c2 : nI (Cn M 3) ≤ nI j
    · rw [if_pos c2]
      refine Or.inr ⟨?_, rfl⟩
      rintro ⟨p, hp, e2⟩
      rw [e2] at c2
      exact absurd c2 (nI_ge hp (by omega))
    · rw [if_neg c2]
      exact Or.inl ⟨⟨j, (lt_nI hj (by omega)).mp (Int32.not_le.mp c2), rfl⟩, rfl⟩
theorem board_r {M : Mem} (O : MOk M) (x : Int32) : (IsB M x ∧ f_X11_isBoard x M = some (1, M)) ∨ (¬ IsB M x ∧ f_X11_isBoard x M = some (0, M)) := by
  have h4 := O.1.2.2.2.1
  unfold f_X11_isBoard
  rw [h4.1, within_n (by omega), cl_s]
  by_cases c : ¬ x < 0 ∧ x < nI (Cn M 3)
  · rw [if_pos c, gd_t (by decide)]
    obtain ⟨j, hj, e⟩ := idx_of (by omega) c.1 c.2
    exact Or.inl ⟨⟨j, hj, e⟩, rfl⟩
  · rw [if_neg c, gd_t (by decide)]
    refine Or.inr ⟨?_, rfl⟩
    rintro ⟨p, hp, rfl⟩
    exact c ⟨neg_nI (by omega), (lt_nI (by omega) (by omega)).mpr hp⟩
theorem IsS.cong {M M' : Mem} (h : Dat M M') (x : Int32) : IsS M' x ↔ IsS M x := by
  unfold IsS
  rw [Cn_dat h]
theorem IsB.cong {M M' : Mem} (h : Dat M M') (x : Int32) : IsB M' x ↔ IsB M x := by
  unfold IsB
  rw [Cn_dat h]
theorem HB.side {M : Mem} (h : HB M) {f g fc gc : Mem → Option (Int32 × Mem)} {x z : Int32} (hf : ∀ M, f M = cl (f_X10_isSide x M) (fun r1 M1 => if r1 = 0 then some (z, M1) else fc M1)) (hg : ∀ M, g M = cl (f_X11_isSide x M) (fun r1 M1 => if r1 = 0 then some (z, M1) else gc M1)) (hp : ∀ p, p < Cn M 1 → x = nI p → Both M fc gc) : Both M f g := by
  rcases side_c h x with ⟨c, e⟩ | ⟨c, e⟩
  · obtain ⟨p, hp1, hx⟩ := c
    obtain ⟨v, ⟨M1, e1, o1⟩, k⟩ := hp p hp1 hx
    refine ⟨v, ⟨M1, by rw [hf, e, cl_s, if_neg (by decide)]; exact e1, o1⟩, fun M2 o2 => ?_⟩
    rw [hg]
    rcases side_r (h.1.2.1.dat o2.dat) x with ⟨-, e3⟩ | ⟨n, -⟩
    · rw [e3, cl_s, if_neg (by decide)]; exact k M2 o2
    · exact absurd ((IsS.cong o2.dat x).mpr ⟨p, hp1, hx⟩) n
  · refine ⟨z, ⟨M, by rw [hf, e, cl_s, if_pos rfl], Near.refl M⟩, fun M2 o2 => ⟨M2, ?_, RfL.refl M2⟩⟩
    rw [hg]
    rcases side_r (h.1.2.1.dat o2.dat) x with ⟨n, -⟩ | ⟨-, e3⟩
    · exact absurd ((IsS.cong o2.dat x).mp n) c
    · rw [e3, cl_s, if_pos rfl]
theorem HB.board {M : Mem} (h : HB M) {f g fc gc : Mem → Option (Int32 × Mem)} {x z : Int32} (hf : ∀ M, f M = cl (f_X10_isBoard x M) (fun r1 M1 => if r1 = 0 then some (z, M1) else fc M1)) (hg : ∀ M, g M = cl (f_X11_isBoard x M) (fun r1 M1 => if r1 = 0 then some (z, M1) else gc M1)) (hp : ∀ p, p < Cn M 3 → x = nI p → Both M fc gc) : Both M f g := by
  rcases board_c h x with ⟨c, e⟩ | ⟨c, e⟩
  · obtain ⟨p, hp1, hx⟩ := c
    obtain ⟨v, ⟨M1, e1, o1⟩, k⟩ := hp p hp1 hx
    refine ⟨v, ⟨M1, by rw [hf, e, cl_s, if_neg (by decide)]; exact e1, o1⟩, fun M2 o2 => ?_⟩
    rw [hg]
    rcases board_r (h.1.2.1.dat o2.dat) x with ⟨-, e3⟩ | ⟨n, -⟩
    · rw [e3, cl_s, if_neg (by decide)]; exact k M2 o2
    · exact absurd ((IsB.cong o2.dat x).mpr ⟨p, hp1, hx⟩) n
  · refine ⟨z, ⟨M, by rw [hf, e, cl_s, if_pos rfl], Near.refl M⟩, fun M2 o2 => ⟨M2, ?_, RfL.refl M2⟩⟩
    rw [hg]
    rcases board_r (h.1.2.1.dat o2.dat) x with ⟨n, -⟩ | ⟨-, e3⟩
    · exact absurd ((IsB.cong o2.dat x).mp n) c
    · rw [e3, cl_s, if_pos rfl]
/-! look -/
def calN (M : Mem) (p : Nat) : Int32 := if M.1 340 0 ≤ nI p then M.1 334 p else M.1 340 (1 + p)
theorem look_rng {y : Int32} : (0 ≤ y ∧ y ≤ 2) ↔ (y = 0 ∨ y = 1 ∨ y = 2) := by
  rw [show (2 : Int32) = nI 2 from rfl, rng_nI (by omega)]
  constructor
  · rintro ⟨i, hi, rfl⟩
    have key : ∀ i, i ≤ 2 → (nI i = 0 ∨ nI i = 1 ∨ nI i = 2) := by decide
    exact key i hi
  · rintro (rfl | rfl | rfl)
    · exact ⟨0, by omega, rfl⟩
    · exact ⟨1, by omega, rfl⟩
    · exact ⟨2, by omega, rfl⟩
theorem do_look (x y : Int32) : Do (f_X10_look x y) (f_X11_look x y) := by
  refine do_any (gc := fun M1m => cl (f_X11_isPlay x M1m) (fun r1 M2m => if r1 = 0 then some ((-1), M2m) else cl (f_X11_within (y.toInt64) 0 2 M2m) (fun r2 M3m => if r2 = 0 then some ((-1), M3m) else cl (f_X11_callOf x M3m) (fun r3 M4m => cl (f_X11_review x r3 M4m) (fun r4 M5m => if y = 0 then some (r4, M5m) else if y = 1 then cl (f_X11_secondsOf x M5m) (fun r5 M6m => some (r5, M6m)) else some (M5m.1 311 44, M5m)))))) (fun M => rfl) (fun M hI => ?_)
  have h := hI.1
  refine h.play (x := x) (z := -1) (fun M => rfl) (fun M => rfl) (fun p hp hx => ?_)
  subst hx
  obtain ⟨a1, a2, a3⟩ := play_cell h hp
  have h4 := h.1.2.1.1.2.2.2.2.1.2
  have wi : ∀ M', f_X11_within y.toInt64 0 2 M' = some (if 0 ≤ y ∧ y ≤ 2 then 1 else 0, M') := fun M' => within32 y 0 2 M'
  by_cases c : 0 ≤ y ∧ y ≤ 2
  · obtain ⟨M1, e1, o1, z2, z3⟩ := review_c h (Near.refl M) hp (calN M p)
    have ec := cal_c h hI.2.1 (Near.refl M) hp
    refine ⟨if y = 0 then rv M p (calN M p) else if y = 1 then nI (rk M p) * sec M p else nI (rk M p), ⟨M1, ?_, o1⟩, fun M2 o2 => ?_⟩
    · try dsimp only
      rw [if_neg (Int32.not_lt.mpr c.1), if_pos c.2, gd_t a1, gd_t a2, ec, cl_s, a3]
      have e1' : f_X4_review (M.2.2.1 64 2) (tld M + 31 + 5 * p) (if M.1 340 0 ≤ nI p then M.1 334 p else M.1 340 (1 + p)) M = some (rv M p (calN M p), M1) := e1
      rw [e1', cl_s, z2, z3]
      by_cases y0 : y = 0
      · rw [if_pos y0, if_pos y0]
      · rw [if_neg y0, if_neg y0]
        by_cases y1 : y = 1
        · rw [if_pos y1, if_pos y1]
        · rw [if_neg y1, if_neg y1]
    · obtain ⟨M3, e3, o3, z⟩ := review_r h.1.2.1 o2.dat hp (calN M p)
      have ec2 := cal_r (p := p) (by omega) o2.dat (o2.row (a := 340) (by omega) (by omega) (by omega))
      refine ⟨M3, ?_, o3⟩
      try dsimp only
      have e3' : f_X11_review (nI p) (if M.1 340 0 ≤ nI p then M.1 334 p else M.1 340 (1 + p)) M2 = some (rv M p (calN M p), M3) := e3
      rw [wi, cl_s, if_pos c, if_neg (by decide), ec2, cl_s, e3', cl_s, z, secondsOf_r h.1.2.1 (o2.dat.tr o3.near.dat) hp z, cl_s]
      by_cases y0 : y = 0
      · rw [if_pos y0, if_pos y0]
      · rw [if_neg y0, if_neg y0]
        by_cases y1 : y = 1
        · rw [if_pos y1, if_pos y1]
        · rw [if_neg y1, if_neg y1]
  · refine both_c (-1) ?_ (fun M1 o1 => ?_)
    · try dsimp only
      by_cases c1 : y < 0
      · rw [if_pos c1]
      · rw [if_neg c1, if_neg (fun z => c ⟨Int32.not_lt.mp c1, z⟩)]
    · try dsimp only
      rw [wi, cl_s, if_neg c, if_pos rfl]
/-! boards: whose members vote against -/
def memb (M : Mem) (b j : Nat) : Nat := (M.1 329 (7 * b + j)).toNatClampNeg
def ag (M : Mem) (b p : Nat) (c : Int32) : Nat → Nat
  | 0 => 0
  | j + 1 => if (vq M p (foA M p (memb M b j)) = 0 ∨ vq M p (foA M p (memb M b j)) = 1) ∧ vq M p (foA M p (memb M b j)) ≠ c then ag M b p c j ||| 2 ^ j else ag M b p c j
theorem ag_lt (M : Mem) (b p : Nat) (c : Int32) : ∀ j, ag M b p c j < 2 ^ j
  | 0 => Nat.one_pos
  | j + 1 => by
    have ih := ag_lt M b p c j
    have e : 2 ^ (j + 1) = 2 * 2 ^ j := by rw [Nat.pow_succ]; omega
    show (if _ then ag M b p c j ||| 2 ^ j else ag M b p c j) < _
    split
    · exact Nat.or_lt_two_pow (by omega) (by rw [e]; have : 1 ≤ 2 ^ j := Nat.one_le_two_pow; omega)
    · omega
theorem or_nI {a j : Nat} (hj : j ≤ 10) : nI a ||| ((1 : Int32) <<< (nI j &&& 31)) = nI (a ||| 2 ^ j) := by rw [one_nI j hj, fa_or]
theorem framesN {M M1 : Mem} (h : HB M) (o : Near M M1) {p c : Nat} (hp : p < Cn M 4) (hc : c < 1024) : f_X6_framesOf (tld M + 31 + 5 * p) (nI c) M1 = some (nI (foA M p c), M1) := by
  have e := framesOf_cls (h.near o).1 (p := p) (c := c) (by rw [Cn_dat o.dat]; exact hp) hc
  rw [o.tldE, foA_dat o.dat] at e
  exact e
theorem framesR {M M1 : Mem} (O : MOk M) (o : Dat M M1) {p c : Nat} (hp : p < Cn M 4) (hc : c < 1024) : f_X11_framesOf (nI p) (nI c) M1 = some (nI (foA M p c), M1) := by
  have e := framesOf_ref (O.dat o) (p := p) (c := c) (by rw [Cn_dat o]; exact hp) hc
  rw [foA_dat o] at e
  exact e
theorem memb_ok {M : Mem} (O : MOk M) {b j : Nat} (hb : b < Cn M 3) (hj : j < Bn M b) : M.1 329 (7 * b + j) = nI (memb M b j) ∧ memb M b j < 1024 := by
  obtain ⟨-, -, k⟩ := O.2.2.2.2.2.1 b hb
  obtain ⟨s, hs, e⟩ := k j hj
  have := Cn0_le O
  unfold memb
  rw [e, nI_clamp (by omega)]
  exact ⟨rfl, by omega⟩
theorem ag_c {M M1 : Mem} (h : HB M) (o : Near M M1) {b p : Nat} (hb : b < Cn M 3) (hp : p < Cn M 4) (c : Int32) : ∃ M', f_X4_membersAgainst (tld M) (tld M + 25 + 2 * b) (tld M + 31 + 5 * p) c M1 = some (nI (ag M b p c (Bn M b)), M') ∧ OffJ M1 M' := by
  have O := h.1.2.1
  have h3 := O.1.2.2.2.1.2
  have h4 := O.1.2.2.2.2.1.2
  obtain ⟨-, hB, -⟩ := O.2.2.2.2.2.1 b hb
  have tc := (tt_c h.1.1).2.1
  obtain ⟨t1, t2, t3, t4, t5, t6⟩ := tt_p h.1.1 p (by omega)
  obtain ⟨u1, u2, u3⟩ := tt_b h.1.1 b (by omega)
  obtain ⟨-, x1, x2⟩ := h.1.2.2.1.2.2.2.2.1 b hb
  have rd : ∀ a M2, a ≤ tld M + 70 → Near M M2 → M2.1 a = M.1 a := fun a M2 ha o2 => o2.row (by omega) (by omega) (by omega)
  unfold f_X4_membersAgainst f_X4_membersAgainst_b6
  have hl := lp_inv (z := fun _ _ _ _ _ _ _ => none) (s := f_X4_membersAgainst_b6_s) (fun j (Mj : Mem) (f : Nat → Nat → Nat → Int32 → Int32 → Int32 → Mem → Option (Int32 × Mem)) => f (tld M) (tld M + 25 + 2 * b) (tld M + 31 + 5 * p) c (nI (ag M b p c j)) (nI j) Mj) (fun _ Mj => OffJ M1 Mj) (fun r => ∃ M', r = some (nI (ag M b p c (Bn M b)), M') ∧ OffJ M1 M') (Bn M b) (fun j hj Mj oj f => by
    have nj := o.tr oj.near
    obtain ⟨m1, m2⟩ := memb_ok O hb hj
    obtain ⟨M3, e3, o3⟩ := vqN h nj hp (foA_lt O hp (memb M b j))
    refine Or.inr ⟨M3, oj.tr o3, ?_⟩
    show f_X4_membersAgainst_b6_s f (tld M) (tld M + 25 + 2 * b) (tld M + 31 + 5 * p) c (nI (ag M b p c j)) (nI j) Mj = f (tld M) (tld M + 25 + 2 * b) (tld M + 31 + 5 * p) c (nI (if (vq M p (foA M p (memb M b j)) = 0 ∨ vq M p (foA M p (memb M b j)) = 1) ∧ vq M p (foA M p (memb M b j)) ≠ c then ag M b p c j ||| 2 ^ j else ag M b p c j)) (nI (j + 1)) M3
    unfold f_X4_membersAgainst_b6_s
    simp only [bnd_e]
    rw [gd_t u3, rd (tld M + 25 + 2 * b) Mj (by omega) nj, x1, hB.1, if_neg (nI_ge hj (by omega)), gd_t (inb_nI (by omega) (by omega)), gd_t t6, nI_clamp (by omega), u2, rd (tld M + 26 + 2 * b) Mj (by omega) nj, x2 j hj, m1, framesN h nj hp m2, cl_s, e3, cl_s, nI_1, or_nI (by omega)]
    rcases sure_cls (vq M p (foA M p (memb M b j))) M3 with ⟨sv, e⟩ | ⟨sv, e⟩
    · rw [e, cl_s, if_neg (by decide)]
      by_cases c2 : vq M p (foA M p (memb M b j)) = c
      · rw [if_pos c2, if_neg (fun z => z.2 c2)]
      · rw [if_neg c2, if_pos ⟨sv, c2⟩]
    · rw [e, cl_s, if_pos rfl, if_neg (fun z => sv z.1)]) (fun Mj oj f => by
    have nj := o.tr oj.near
    refine ⟨Mj, ?_, oj⟩
    show f_X4_membersAgainst_b6_s f (tld M) (tld M + 25 + 2 * b) (tld M + 31 + 5 * p) c (nI (ag M b p c (Bn M b))) (nI (Bn M b)) Mj = _
    unfold f_X4_membersAgainst_b6_s
    rw [gd_t u3, rd (tld M + 25 + 2 * b) Mj (by omega) nj, x1, hB.1, if_pos (le_nI (by omega) (by omega) (Nat.le_refl _))]) fuel (by unfold fuel; omega) M1 (OffJ.refl M1)
  exact hl
theorem ag_r {M M1 : Mem} (O : MOk M) (o : Dat M M1) {b p : Nat} (hb : b < Cn M 3) (hp : p < Cn M 4) (c : Int32) : ∃ d', f_X11_against_b12 fuel (nI b) (nI p) 0 c 0 M1 = some (nI (ag M b p c (Bn M b)), sA M1 344 d') := by
  have h3 := O.1.2.2.2.1.2
  have h4 := O.1.2.2.2.2.1.2
  obtain ⟨-, hB, -⟩ := O.2.2.2.2.2.1 b hb
  have hl := lp_inv (z := fun _ _ _ _ _ _ => none) (s := f_X11_against_b12_s) (fun j (dj : Nat → Int32) (f : Int32 → Int32 → Int32 → Int32 → Int32 → Mem → Option (Int32 × Mem)) => f (nI b) (nI p) (nI (ag M b p c j)) c (nI j) (sA M1 344 dj)) (fun _ _ => True) (fun r => ∃ d', r = some (nI (ag M b p c (Bn M b)), sA M1 344 d')) (Bn M b) (fun j hj dj _ f => by
    have nj : Dat M (sA M1 344 dj) := o.tr (sA_dat M1 dj)
    obtain ⟨m1, m2⟩ := memb_ok O hb hj
    obtain ⟨d3, e3⟩ := vqR O nj hp (foA_lt O hp (memb M b j))
    rw [sA_sA] at e3
    refine Or.inr ⟨d3, trivial, ?_⟩
    show f_X11_against_b12_s f (nI b) (nI p) (nI (ag M b p c j)) c (nI j) (sA M1 344 dj) = f (nI b) (nI p) (nI (if (vq M p (foA M p (memb M b j)) = 0 ∨ vq M p (foA M p (memb M b j)) = 1) ∧ vq M p (foA M p (memb M b j)) ≠ c then ag M b p c j ||| 2 ^ j else ag M b p c j)) c (nI (j + 1)) (sA M1 344 d3)
    unfold f_X11_against_b12_s f_X11_against_b70
    have i7 : (7 * nI b) + nI j = nI (7 * b + j) := by rw [show (7 : Int32) = nI 7 from rfl, nI_mul', nI_add]
    simp only [bnd_e]
    rw [gd_t (inb_nI (by omega) (by omega)), nI_clamp (by omega), nj 328 (by omega) (by omega) (by omega), hB.1, if_neg (nI_ge hj (by omega)), i7, gd_t (inb_nI (by omega) (by omega)), nI_clamp (by omega), nj 329 (by omega) (by omega) (by omega), m1, framesR O nj hp m2, cl_s, e3, cl_s, nI_1, or_nI (by omega), or0]
    rcases sure_ref (vq M p (foA M p (memb M b j))) (sA M1 344 d3) with ⟨sv, e⟩ | ⟨sv, e⟩
    · rw [e, cl_s, if_neg (by decide)]
      by_cases c2 : vq M p (foA M p (memb M b j)) = c
      · rw [if_pos c2, if_neg (fun z => z.2 c2)]
      · rw [if_neg c2, if_pos ⟨sv, c2⟩]
    · rw [e, cl_s, if_pos rfl, if_neg (fun z => sv z.1)]) (fun dj _ f => by
    have nj : Dat M (sA M1 344 dj) := o.tr (sA_dat M1 dj)
    refine ⟨dj, ?_⟩
    show f_X11_against_b12_s f (nI b) (nI p) (nI (ag M b p c (Bn M b))) c (nI (Bn M b)) (sA M1 344 dj) = _
    unfold f_X11_against_b12_s
    rw [gd_t (inb_nI (by omega) (by omega)), nI_clamp (by omega), nj 328 (by omega) (by omega) (by omega), hB.1, if_pos (le_nI (by omega) (by omega) (Nat.le_refl _))]) fuel (by unfold fuel; omega) (M1.1 344) trivial
  simp only [sA_self] at hl
  exact hl
