/-! votes, pivot, boards -/
def agA (M : Mem) (b p : Nat) : Nat := ag M b p (calN M p) (Bn M b)
theorem agA_lt {M : Mem} (O : MOk M) {b p : Nat} (hb : b < Cn M 3) : agA M b p < 1024 := by
  obtain ⟨-, hB, -⟩ := O.2.2.2.2.2.1 b hb
  have := ag_lt M b p (calN M p) (Bn M b)
  have h2 := two_le (show Bn M b ≤ 10 by omega)
  unfold agA
  omega
theorem board_cell {M : Mem} (h : HB M) {b : Nat} (hb : b < Cn M 3) : inb (nI b) 3 ∧ cr (cr (M.2.2.1 64 2) 10) (nI b).toNatClampNeg = tld M + 25 + 2 * b := by
  have h3 := h.1.2.1.1.2.2.2.1.2
  obtain ⟨-, -, -, -, -, -, e, -⟩ := tt_r h.1.1
  obtain ⟨t1, -⟩ := tt_b h.1.1 b (by omega)
  refine ⟨inb_nI (by omega) (by omega), ?_⟩
  rw [nI_clamp (by omega)]
  have e' : cr (M.2.2.1 64 2) 10 = tld M + 7 := e
  rw [e', t1]
theorem against_r {M M1 : Mem} (h : HB M) (o : Near M M1) {b p : Nat} (hb : b < Cn M 3) (hp : p < Cn M 4) : ∃ d', f_X11_against (nI b) (nI p) M1 = some (nI (agA M b p), sA M1 344 d') := by
  have h4 := h.1.2.1.1.2.2.2.2.1.2
  obtain ⟨d', e⟩ := ag_r h.1.2.1 o.dat hb hp (calN M p)
  refine ⟨d', ?_⟩
  unfold f_X11_against
  rw [cal_r (p := p) (by omega) o.dat (o.row (a := 340) (by omega) (by omega) (by omega)), cl_s]
  exact e
theorem do_votes (x y : Int32) : Do (f_X10_votes x y) (f_X11_votes x y) := by
  refine do_any (gc := fun M1m => cl (f_X11_isBoard x M1m) (fun r1 M2m => if r1 = 0 then some ((-1), M2m) else cl (f_X11_isPlay y M2m) (fun r2 M3m => if r2 = 0 then some ((-1), M3m) else cl (f_X11_against x y M3m) (fun r3 M4m => some (r3, M4m))))) (fun M => rfl) (fun M hI => ?_)
  have h := hI.1
  refine h.board (x := x) (z := -1) (fun M => rfl) (fun M => rfl) (fun b hb hx => ?_)
  refine h.play (x := y) (z := -1) (fun M => rfl) (fun M => rfl) (fun p hp hy => ?_)
  subst hx
  subst hy
  obtain ⟨a1, a2, a3⟩ := play_cell h hp
  obtain ⟨b1, b2⟩ := board_cell h hb
  obtain ⟨M1, e1, o1⟩ := ag_c h (Near.refl M) hb hp (calN M p)
  have ec := cal_c h hI.2.1 (Near.refl M) hp
  refine ⟨nI (agA M b p), ⟨M1, ?_, o1.near⟩, fun M2 o2 => ?_⟩
  · try dsimp only
    have e1' : f_X4_membersAgainst (M.2.2.1 64 2) (tld M + 25 + 2 * b) (tld M + 31 + 5 * p) (if M.1 340 0 ≤ nI p then M.1 334 p else M.1 340 (1 + p)) M = some (nI (agA M b p), M1) := e1
    rw [gd_t a1, gd_t b1, gd_t a2, ec, cl_s, a3, b2, e1', cl_s]
  · obtain ⟨d', e2⟩ := against_r h o2 hb hp
    exact ⟨_, by try dsimp only; rw [e2, cl_s], rl_A M2 d'⟩
theorem do_pivot (x y : Int32) : Do (f_X10_pivot x y) (f_X11_pivot x y) := by
  refine do_any (gc := fun M1m => cl (f_X11_isBoard x M1m) (fun r1 M2m => if r1 = 0 then some ((-1), M2m) else cl (f_X11_isPlay y M2m) (fun r2 M3m => if r2 = 0 then some ((-1), M3m) else cl (f_X11_against x y M3m) (fun r3 M4m => cl (f_X11_bits r3 M4m) (fun r4 M5m => gd (inb x 6) (if r4 = (M5m.1 327 x.toNatClampNeg) then some (r3, M5m) else some (0, M5m))))))) (fun M => rfl) (fun M hI => ?_)
  have h := hI.1
  refine h.board (x := x) (z := -1) (fun M => rfl) (fun M => rfl) (fun b hb hx => ?_)
  refine h.play (x := y) (z := -1) (fun M => rfl) (fun M => rfl) (fun p hp hy => ?_)
  subst hx
  subst hy
  have h3 := h.1.2.1.1.2.2.2.1.2
  have tc := (tt_c h.1.1).2.1
  obtain ⟨a1, a2, a3⟩ := play_cell h hp
  obtain ⟨b1, b2⟩ := board_cell h hb
  obtain ⟨w0, -⟩ := h.1.2.2.1.2.2.2.2.1 b hb
  obtain ⟨M1, e1, o1⟩ := ag_c h (Near.refl M) hb hp (calN M p)
  have ec := cal_c h hI.2.1 (Near.refl M) hp
  have lt := agA_lt h.1.2.1 (b := b) (p := p) hb
  refine ⟨if nI (pc (agA M b p)) = M.1 327 b then nI (agA M b p) else 0, ⟨M1, ?_, o1.near⟩, fun M2 o2 => ?_⟩
  · try dsimp only
    have e1' : f_X4_membersAgainst (M.2.2.1 64 2) (tld M + 25 + 2 * b) (tld M + 31 + 5 * p) (if M.1 340 0 ≤ nI p then M.1 334 p else M.1 340 (1 + p)) M = some (nI (agA M b p), M1) := e1
    rw [gd_t a1, gd_t b1, gd_t a2, ec, cl_s, a3, b2, e1', cl_s, bitCount_f lt, cl_s, o1.near.ref, gd_t a1, b2, o1.2 _ (by omega), w0]
    by_cases c : nI (pc (agA M b p)) = M.1 327 b
    · rw [if_pos c, if_pos c]
    · rw [if_neg c, if_neg c]
  · obtain ⟨d', e2⟩ := against_r h o2 hb hp
    refine ⟨_, ?_, rl_A M2 d'⟩
    try dsimp only
    rw [e2, cl_s, bits_f lt, cl_s, gd_t (inb_nI (by omega) (by omega)), nI_clamp (by omega), sA_n _ _ _ (by omega), o2.dat 327 (by omega) (by omega) (by omega)]
    by_cases c : nI (pc (agA M b p)) = M.1 327 b
    · rw [if_pos c, if_pos c]
    · rw [if_neg c, if_neg c]
def ovr (M : Mem) (b p : Nat) : Bool := !decide (nI (pc (agA M b p)) < M.1 327 b)
theorem would_c {M M1 : Mem} (h : HB M) (R : RDay M 217 (M.1 340)) (o : Near M M1) {b p : Nat} (hb : b < Cn M 3) (hp : p < Cn M 4) : ∃ M', f_X10_wouldOverturn (nI b) (nI p) M1 = some (if ovr M b p then 1 else 0, M') ∧ OffJ M1 M' := by
  have h3 := h.1.2.1.1.2.2.2.1.2
  have tc := (tt_c h.1.1).2.1
  obtain ⟨a1, a2, a3⟩ := play_cell h hp
  obtain ⟨b1, b2⟩ := board_cell h hb
  obtain ⟨w0, -⟩ := h.1.2.2.1.2.2.2.2.1 b hb
  obtain ⟨M2, e1, o1⟩ := ag_c h o hb hp (calN M p)
  have ec := cal_c h R o hp
  have lt := agA_lt h.1.2.1 (b := b) (p := p) hb
  refine ⟨M2, ?_, o1⟩
  unfold f_X10_wouldOverturn
  have e1' : f_X4_membersAgainst (M.2.2.1 64 2) (tld M + 25 + 2 * b) (tld M + 31 + 5 * p) (if M.1 340 0 ≤ nI p then M.1 334 p else M.1 340 (1 + p)) M1 = some (nI (agA M b p), M2) := e1
  simp only [bnd_e]
  rw [o.ref, gd_t a1, gd_t b1, gd_t a2, ec, cl_s, b2, a3, e1', cl_s, bitCount_f lt, cl_s, o1.2 _ (by omega), o.row (a := tld M + 25 + 2 * b) (by omega) (by omega) (by omega), w0]
  unfold ovr
  by_cases c : nI (pc (agA M b p)) < M.1 327 b
  · rw [if_pos c, decide_eq_true c]; rfl
  · rw [if_neg c, decide_eq_false c]; rfl
def bo (M : Mem) (p : Nat) : Nat → Nat
  | 0 => 0
  | j + 1 => if ovr M j p then bo M p j ||| 2 ^ j else bo M p j
theorem do_boards (x : Int32) : Do (f_X10_boards x) (f_X11_boards x) := by
  refine do_any (gc := fun M1m => cl (f_X11_isPlay x M1m) (fun r1 M2m => if r1 = 0 then some ((-1), M2m) else f_X11_boards_b19 fuel x 0 0 M2m)) (fun M => rfl) (fun M hI => ?_)
  have h := hI.1
  have O := h.1.2.1
  refine h.play (x := x) (z := -1) (fun M => rfl) (fun M => rfl) (fun p hp hx => ?_)
  subst hx
  have h3 := O.1.2.2.2.1
  have tc := (tt_c h.1.1).2.1
  obtain ⟨a1, a2, a3⟩ := play_cell h hp
  have r9 := h.1.2.2.1.1.2.2.2.1
  have hc := lp_inv (z := fun _ _ _ _ => none) (s := f_X10_boards_b14_s) (fun j (Mj : Mem) (f : Int32 → Int32 → Int32 → Mem → Option (Int32 × Mem)) => f (nI p) (nI (bo M p j)) (nI j) Mj) (fun _ Mj => OffJ M Mj) (fun r => ∃ M', r = some (nI (bo M p (Cn M 3)), M') ∧ OffJ M M') (Cn M 3) (fun j hj Mj oj f => by
    obtain ⟨M3, e3, o3⟩ := would_c h hI.2.1 oj.near hj hp
    refine Or.inr ⟨M3, oj.tr o3, ?_⟩
    show f_X10_boards_b14_s f (nI p) (nI (bo M p j)) (nI j) Mj = f (nI p) (nI (if ovr M j p then bo M p j ||| 2 ^ j else bo M p j)) (nI (j + 1)) M3
    unfold f_X10_boards_b14_s
    have q : Mj.1 (M.2.2.1 64 2) 9 = nI (Cn M 3) := by
      rw [oj.2 (M.2.2.1 64 2) (show tld M < 213 ∨ 216 < tld M by omega), ← h3.1]; exact r9
    simp only [bnd_e]
    rw [oj.near.ref, gd_t a1, q, if_neg (nI_ge hj (by omega)), e3, cl_s, nI_1, or_nI (by omega)]
    by_cases c : ovr M j p = true
    · rw [if_pos c, if_pos c, if_neg (by decide)]
    · rw [if_neg c, if_neg c, if_pos rfl]) (fun Mj oj f => by
    refine ⟨Mj, ?_, oj⟩
    show f_X10_boards_b14_s f (nI p) (nI (bo M p (Cn M 3))) (nI (Cn M 3)) Mj = _
    unfold f_X10_boards_b14_s
    have q : Mj.1 (M.2.2.1 64 2) 9 = nI (Cn M 3) := by
      rw [oj.2 (M.2.2.1 64 2) (show tld M < 213 ∨ 216 < tld M by omega), ← h3.1]; exact r9
    rw [oj.near.ref, gd_t a1, q, if_pos (le_nI (by omega) (by omega) (Nat.le_refl _))]) fuel (by unfold fuel; omega) M (OffJ.refl M)
  obtain ⟨M1, e1, o1⟩ := hc
  refine ⟨_, ⟨M1, e1, o1.near⟩, fun M2 o2 => ?_⟩
  have hr := lp_inv (z := fun _ _ _ _ => none) (s := f_X11_boards_b19_s) (fun j (dj : Nat → Int32) (f : Int32 → Int32 → Int32 → Mem → Option (Int32 × Mem)) => f (nI p) (nI (bo M p j)) (nI j) (sA M2 344 dj)) (fun _ _ => True) (fun r => ∃ d', r = some (nI (bo M p (Cn M 3)), sA M2 344 d')) (Cn M 3) (fun j hj dj _ f => by
    have nj : Near M (sA M2 344 dj) := o2.tr (near_A M2 dj)
    obtain ⟨d3, e3⟩ := against_r h nj hj hp
    rw [sA_sA] at e3
    refine Or.inr ⟨d3, trivial, ?_⟩
    have lt := agA_lt O (b := j) (p := p) hj
    show f_X11_boards_b19_s f (nI p) (nI (bo M p j)) (nI j) (sA M2 344 dj) = f (nI p) (nI (if ovr M j p then bo M p j ||| 2 ^ j else bo M p j)) (nI (j + 1)) (sA M2 344 d3)
    unfold f_X11_boards_b19_s
    simp only [bnd_e]
    rw [nj.dat 313 (by omega) (by omega) (by omega), h3.1, if_neg (nI_ge hj (by omega)), e3, cl_s, bits_f lt, cl_s, gd_t (inb_nI (by omega) (by omega)), nI_clamp (by omega), sA_n _ _ _ (by omega), o2.dat 327 (by omega) (by omega) (by omega), nI_1, or_nI (by omega), or0]
    unfold ovr
    by_cases c : nI (pc (agA M j p)) < M.1 327 j
    · rw [if_pos c, decide_eq_true c]; rfl
    · rw [if_neg c, decide_eq_false c]; rfl) (fun dj _ f => by
    have nj : Near M (sA M2 344 dj) := o2.tr (near_A M2 dj)
    refine ⟨dj, ?_⟩
    show f_X11_boards_b19_s f (nI p) (nI (bo M p (Cn M 3))) (nI (Cn M 3)) (sA M2 344 dj) = _
    unfold f_X11_boards_b19_s
    rw [nj.dat 313 (by omega) (by omega) (by omega), h3.1, if_pos (le_nI (by omega) (by omega) (Nat.le_refl _))]) fuel (by unfold fuel; omega) (M2.1 344) trivial
  simp only [sA_self] at hr
  obtain ⟨d', e2⟩ := hr
  exact ⟨_, e2, rl_A M2 d'⟩
