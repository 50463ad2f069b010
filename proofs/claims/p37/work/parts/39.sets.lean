/-! KEY FRAMES, ENOUGH CAMERAS, FEWEST LEFT OUT -/
theorem or0 (x : Int32) : x ||| 0 = x := Int32.toBitVec_inj.mp (by rw [Int32.toBitVec_or]; exact BitVec.or_zero)
def un (x : Int32) : Nat := x.toBitVec.toNat
theorem un_e (x : Int32) : nI (un x) = x := by
  apply Int32.toBitVec_inj.mp
  apply BitVec.eq_of_toNat_eq
  show (BitVec.ofNat 32 x.toBitVec.toNat).toNat = x.toBitVec.toNat
  rw [BitVec.toNat_ofNat, Nat.mod_eq_of_lt x.toBitVec.isLt]
theorem un_nI {n : Nat} (h : n < 2 ^ 32) : un (nI n) = n := by
  show (BitVec.ofNat 32 n).toNat = n
  rw [BitVec.toNat_ofNat, Nat.mod_eq_of_lt h]
theorem un_and (x y : Int32) : un (x &&& y) = un x &&& un y := by
  unfold un
  rw [Int32.toBitVec_and, BitVec.toNat_and]
def msk (n : Nat) (y : Int32) : Nat := un (nI (2 ^ n - 1) &&& y)
theorem msk_e (n : Nat) (y : Int32) : nI (2 ^ n - 1) &&& y = nI (msk n y) := (un_e _).symm
theorem msk_lt {n : Nat} (hn : n ≤ 10) (y : Int32) : msk n y < 2 ^ n := by
  have h2 := two_le hn
  have h1 : 1 ≤ 2 ^ n := Nat.one_le_two_pow
  unfold msk
  rw [un_and, un_nI (by omega)]
  have : (2 ^ n - 1) &&& un y ≤ 2 ^ n - 1 := Nat.and_le_left
  omega
/-! frames of cameras -/
def fo (M : Mem) (p c : Nat) : Nat → Nat
  | 0 => 0
  | j + 1 => fo M p c j ||| (if c.testBit (qc M (10 * p + j)) then 2 ^ j else 0)
theorem fo_lt (M : Mem) (p c : Nat) : ∀ j, fo M p c j < 2 ^ j
  | 0 => Nat.one_pos
  | j + 1 => by
    show (fo M p c j ||| (if c.testBit (qc M (10 * p + j)) then 2 ^ j else 0)) < 2 ^ (j + 1)
    have h := fo_lt M p c j
    have h2 : 2 ^ j < 2 ^ (j + 1) := Nat.pow_lt_pow_right (by decide) (Nat.lt_succ_self j)
    refine Nat.or_lt_two_pow (by omega) ?_
    split
    · exact h2
    · omega
theorem fo_dat {M M' : Mem} (h : Dat M M') (p c : Nat) : ∀ j, fo M' p c j = fo M p c j
  | 0 => rfl
  | j + 1 => by
    show (fo M' p c j ||| (if c.testBit (qc M' (10 * p + j)) then 2 ^ j else 0)) = (fo M p c j ||| (if c.testBit (qc M (10 * p + j)) then 2 ^ j else 0))
    rw [fo_dat h p c j]
    unfold qc
    rw [h 336 (by omega) (by omega) (by omega)]
theorem or_all : ∀ j, j < 10 → ((2 ^ j - 1) ||| 2 ^ j) = 2 ^ (j + 1) - 1 := by decide +kernel
theorem fo_all {M : Mem} (O : MOk M) {p : Nat} (hp : p < Cn M 4) : ∀ j, j ≤ Fn M p → fo M p (2 ^ Cn M 0 - 1) j = 2 ^ j - 1 := by
  have hF := (O.2.2.2.2.2.2.1 p hp).2.2.2.2.2.1.2
  intro j
  induction j with
  | zero => intro _; rfl
  | succ j ih =>
    intro hj
    obtain ⟨q1, -⟩ := frame_nat O hp (show j < Fn M p by omega)
    show (fo M p (2 ^ Cn M 0 - 1) j ||| (if (2 ^ Cn M 0 - 1).testBit (qc M (10 * p + j)) then 2 ^ j else 0)) = 2 ^ (j + 1) - 1
    rw [ih (by omega), if_pos (by rw [Nat.testBit_two_pow_sub_one]; exact decide_eq_true q1), or_all j (by omega)]
def foA (M : Mem) (p c : Nat) : Nat := fo M p c (Fn M p)
theorem foA_lt {M : Mem} (O : MOk M) {p : Nat} (hp : p < Cn M 4) (c : Nat) : foA M p c < 1024 := by
  have hF := (O.2.2.2.2.2.2.1 p hp).2.2.2.2.2.1.2
  have := fo_lt M p c (Fn M p)
  have := two_le hF
  unfold foA
  omega
theorem framesOf_ref {M : Mem} (O : MOk M) {p c : Nat} (hp : p < Cn M 4) (hc : c < 1024) : f_X11_framesOf (nI p) (nI c) M = some (nI (foA M p c), M) := by
  have h0 := O.1.1.2
  have h4 := O.1.2.2.2.2.1.2
  have hF := (O.2.2.2.2.2.2.1 p hp).2.2.2.2.2.1
  unfold f_X11_framesOf f_X11_framesOf_b5
  have hl := lp_for (z := fun _ _ _ _ _ => none) (s := f_X11_framesOf_b5_s) (fun j (f : Int32 → Int32 → Int32 → Int32 → Mem → Option (Int32 × Mem)) => f (nI p) (nI c) (nI (fo M p c j)) (nI j) M) (Fn M p) (some (nI (foA M p c), M)) (fun j hj f => by
    obtain ⟨q1, q2, -⟩ := frame_nat O hp hj
    show f_X11_framesOf_b5_s f (nI p) (nI c) (nI (fo M p c j)) (nI j) M = f (nI p) (nI c) (nI (fo M p c j ||| (if c.testBit (qc M (10 * p + j)) then 2 ^ j else 0))) (nI (j + 1)) M
    unfold f_X11_framesOf_b5_s
    simp only [bnd_e]
    rw [gd_t (inb_nI (by omega) (by omega)), nI_clamp (by omega), hF.1, if_neg (nI_ge hj (by omega)), i10, gd_t (inb_nI (by omega) (by omega)), nI_clamp (by omega), q2, has_f (by omega) (by omega), cl_s]
    by_cases b : c.testBit (qc M (10 * p + j)) = true
    · rw [if_pos b, if_pos b, if_neg (by decide), one_nI j (by omega), fa_or, nI_1]
    · rw [if_neg b, if_neg b, if_pos rfl, or0, nI_1, Nat.or_zero]) (fun f => by
    show f_X11_framesOf_b5_s f (nI p) (nI c) (nI (fo M p c (Fn M p))) (nI (Fn M p)) M = _
    unfold f_X11_framesOf_b5_s
    rw [gd_t (inb_nI (by omega) (by omega)), nI_clamp (by omega), hF.1, if_pos (Int32.le_refl _)]
    rfl) fuel (by unfold fuel; omega)
  exact hl
theorem framesOf_cls {M : Mem} {T p c : Nat} (h : TB M T) (hp : p < Cn M 4) (hc : c < 1024) : f_X6_framesOf (T + 31 + 5 * p) (nI c) M = some (nI (foA M p c), M) := by
  have O := h.2.1
  have h0 := O.1.1.2
  have h4 := O.1.2.2.2.2.1.2
  have hF := (O.2.2.2.2.2.2.1 p hp).2.2.2.2.2.1
  obtain ⟨t1, t2, t3, t4, t5, t6⟩ := tt_p h.1 p (by omega)
  obtain ⟨-, -, -, -, -, r5, r6⟩ := h.2.2.1.2.2.2.2.2.1 p hp
  unfold f_X6_framesOf f_X6_framesOf_b4
  have hl := lp_for (z := fun _ _ _ _ _ => none) (s := f_X6_framesOf_b4_s) (fun j (f : Nat → Int32 → Int32 → Int32 → Mem → Option (Int32 × Mem)) => f (T + 31 + 5 * p) (nI c) (nI (fo M p c j)) (nI j) M) (Fn M p) (some (nI (foA M p c), M)) (fun j hj f => by
    obtain ⟨q1, q2, -⟩ := frame_nat O hp hj
    show f_X6_framesOf_b4_s f (T + 31 + 5 * p) (nI c) (nI (fo M p c j)) (nI j) M = f (T + 31 + 5 * p) (nI c) (nI (fo M p c j ||| (if c.testBit (qc M (10 * p + j)) then 2 ^ j else 0))) (nI (j + 1)) M
    unfold f_X6_framesOf_b4_s
    simp only [bnd_e]
    rw [gd_t t6, r5, hF.1, if_neg (nI_ge hj (by omega)), gd_t (inb_nI (by omega) (by omega)), nI_clamp (by omega), t2, (r6 j hj).1, q2, bit_nI (by omega) (by omega)]
    by_cases b : c.testBit (qc M (10 * p + j)) = true
    · rw [if_pos b, if_pos b, if_neg (by decide), one_nI j (by omega), fa_or, nI_1]
    · rw [if_neg b, if_neg b, nI_0, if_pos rfl, nI_1, Nat.or_zero]) (fun f => by
    show f_X6_framesOf_b4_s f (T + 31 + 5 * p) (nI c) (nI (fo M p c (Fn M p))) (nI (Fn M p)) M = _
    unfold f_X6_framesOf_b4_s
    rw [gd_t t6, r5, hF.1, if_pos (Int32.le_refl _)]
    rfl) fuel (by unfold fuel; omega)
  exact hl
theorem foA_dat {M M' : Mem} (h : Dat M M') (p c : Nat) : foA M' p c = foA M p c := by
  unfold foA
  rw [Fn_dat h, fo_dat h]
theorem framesJ_cls {M M1 : Mem} {T p c : Nat} (h : TB M T) (o : OffJ M M1) (hp : p < Cn M 4) (hc : c < 1024) : f_X6_framesOf (T + 31 + 5 * p) (nI c) M1 = some (nI (foA M p c), M1) := by
  have := framesOf_cls (h.offJ o) (p := p) (c := c) (by rw [Cn_dat o.dat]; exact hp) hc
  rw [foA_dat o.dat] at this
  exact this
theorem framesA_ref {M : Mem} (O : MOk M) {p c : Nat} (hp : p < Cn M 4) (hc : c < 1024) (d : Nat → Int32) : f_X11_framesOf (nI p) (nI c) (sA M 344 d) = some (nI (foA M p c), sA M 344 d) := by
  have := framesOf_ref (O.dat (sA_dat M d)) (p := p) (c := c) (by rw [Cn_dat (sA_dat M d)]; exact hp) hc
  rw [foA_dat (sA_dat M d)] at this
  exact this
/-! key frames -/
def sk (M : Mem) (p j : Nat) : Nat := msk (Fn M p) (((1 : Int32) <<< (nI j &&& 31)) ^^^ (-1))
def ky (M : Mem) (p : Nat) : Nat → Int32
  | 0 => 0
  | j + 1 => if vq M p (sk M p j) = 2 then ky M p j ||| ((1 : Int32) <<< (nI j &&& 31)) else ky M p j
theorem sk_lt {M : Mem} (O : MOk M) {p : Nat} (hp : p < Cn M 4) (j : Nat) : sk M p j < 1024 := by
  have hF := (O.2.2.2.2.2.2.1 p hp).2.2.2.2.2.1.2
  have := msk_lt hF (((1 : Int32) <<< (nI j &&& 31)) ^^^ (-1))
  have := two_le hF
  unfold sk
  omega
theorem allA_f {M : Mem} (O : MOk M) {p : Nat} (hp : p < Cn M 4) (d : Nat → Int32) : f_X11_allFrames (nI p) (sA M 344 d) = some (nI (2 ^ Fn M p - 1), sA M 344 d) := by
  have := all_f (O.dat (sA_dat M d)) (p := p) (by rw [Cn_dat (sA_dat M d)]; exact hp)
  rw [Fn_dat (sA_dat M d)] at this
  exact this
theorem key_33 {M : Mem} (O : MOk M) {p : Nat} (hp : p < Cn M 4) (d : Nat → Int32) : ∃ d', f_X11_key_b33 fuel (nI p) 0 0 (sA M 344 d) = some (ky M p (Fn M p), sA M 344 d') := by
  have h4 := O.1.2.2.2.2.1.2
  have hF := (O.2.2.2.2.2.2.1 p hp).2.2.2.2.2.1
  have hl := lp_inv (z := fun _ _ _ _ => none) (s := f_X11_key_b33_s) (fun j (x : Nat → Int32) (f : Int32 → Int32 → Int32 → Mem → Option (Int32 × Mem)) => f (nI p) (ky M p j) (nI j) (sA M 344 x)) (fun _ _ => True) (fun r => ∃ d', r = some (ky M p (Fn M p), sA M 344 d')) (Fn M p) (fun j hj x _ f => by
    refine Or.inr ?_
    show ∃ x', True ∧ f_X11_key_b33_s f (nI p) (ky M p j) (nI j) (sA M 344 x) = f (nI p) (if vq M p (sk M p j) = 2 then ky M p j ||| ((1 : Int32) <<< (nI j &&& 31)) else ky M p j) (nI (j + 1)) (sA M 344 x')
    unfold f_X11_key_b33_s
    simp only [bnd_e]
    rw [gd_t (inb_nI (by omega) (by omega)), nI_clamp (by omega), sA_n M _ p (by omega), hF.1, if_neg (nI_ge hj (by omega)), allA_f O hp, cl_s, msk_e]
    obtain ⟨d', e⟩ := vq_A O hp (sk_lt O hp j) x
    refine ⟨d', trivial, ?_⟩
    unfold sk at e ⊢
    rw [e, cl_s, or0, nI_1]
    split <;> rfl) (fun x _ f => by
    refine ⟨x, ?_⟩
    show f_X11_key_b33_s f (nI p) (ky M p (Fn M p)) (nI (Fn M p)) (sA M 344 x) = _
    unfold f_X11_key_b33_s
    rw [gd_t (inb_nI (by omega) (by omega)), nI_clamp (by omega), sA_n M _ p (by omega), hF.1, if_pos (Int32.le_refl _)]) fuel (by unfold fuel; omega) d trivial
  exact hl
theorem key_20 {M : Mem} {T p : Nat} (h : TB M T) (hp : p < Cn M 4) {M1 : Mem} (o : OffJ M M1) : ∃ M', f_X4_keyFrames_b27 fuel T (T + 31 + 5 * p) (nI (2 ^ Fn M p - 1)) 0 0 M1 = some (ky M p (Fn M p), M') ∧ OffJ M M' := by
  have O := h.2.1
  have h4 := O.1.2.2.2.2.1.2
  have hF := (O.2.2.2.2.2.2.1 p hp).2.2.2.2.2.1
  have tc := (tt_c h.1).2.1
  obtain ⟨t1, t2, t3, t4, t5, t6⟩ := tt_p h.1 p (by omega)
  have r5 := (h.2.2.1.2.2.2.2.2.1 p hp).2.2.2.2.2.1
  have rd : ∀ M2, OffJ M M2 → M2.1 (T + 31 + 5 * p) 5 = nI (Fn M p) := fun M2 o2 => by rw [o2.2 _ (by omega), r5, hF.1]
  have hl := lp_inv (z := fun _ _ _ _ _ _ => none) (s := f_X4_keyFrames_b27_s) (fun j (M2 : Mem) (f : Nat → Nat → Int32 → Int32 → Int32 → Mem → Option (Int32 × Mem)) => f T (T + 31 + 5 * p) (nI (2 ^ Fn M p - 1)) (ky M p j) (nI j) M2) (fun _ M2 => OffJ M M2) (fun r => ∃ M', r = some (ky M p (Fn M p), M') ∧ OffJ M M') (Fn M p) (fun j hj M2 o2 f => by
    refine Or.inr ?_
    show ∃ M3, OffJ M M3 ∧ f_X4_keyFrames_b27_s f T (T + 31 + 5 * p) (nI (2 ^ Fn M p - 1)) (ky M p j) (nI j) M2 = f T (T + 31 + 5 * p) (nI (2 ^ Fn M p - 1)) (if vq M p (sk M p j) = 2 then ky M p j ||| ((1 : Int32) <<< (nI j &&& 31)) else ky M p j) (nI (j + 1)) M3
    unfold f_X4_keyFrames_b27_s
    simp only [bnd_e]
    rw [gd_t t6, rd M2 o2, if_neg (nI_ge hj (by omega)), msk_e]
    obtain ⟨M3, e, o3⟩ := vq_J h o2 hp (sk_lt O hp j)
    refine ⟨M3, o3, ?_⟩
    unfold sk at e ⊢
    rw [e, cl_s, nI_1]
    split <;> rfl) (fun M2 o2 f => by
    refine ⟨M2, ?_, o2⟩
    show f_X4_keyFrames_b27_s f T (T + 31 + 5 * p) (nI (2 ^ Fn M p - 1)) (ky M p (Fn M p)) (nI (Fn M p)) M2 = _
    unfold f_X4_keyFrames_b27_s
    rw [gd_t t6, rd M2 o2, if_pos (Int32.le_refl _)]) fuel (by unfold fuel; omega) M1 o
  exact hl
