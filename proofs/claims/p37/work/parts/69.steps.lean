/-! the reference scans -/
def FsR (M M' : Mem) : Prop := M'.2.2 = M.2.2 ∧ (∀ a k, ¬ (a = 311 ∧ k = 8) → M'.2.1 a k = M.2.1 a k) ∧ ∀ a k, ¬ (a = 311 ∧ (4 ≤ k ∧ k ≤ 7)) → M'.1 a k = M.1 a k
theorem FsR.tr {M M' M'' : Mem} (h : FsR M M') (h' : FsR M' M'') : FsR M M'' := ⟨h'.1.trans h.1, fun a k x => (h'.2.1 a k x).trans (h.2.1 a k x), fun a k x => (h'.2.2 a k x).trans (h.2.2 a k x)⟩
theorem FsC.tr {M M' M'' : Mem} (h : FsC M M') (h' : FsC M' M'') : FsC M M'' := ⟨h'.1.trans h.1, h'.2.1.trans h.2.1, fun a k x => (h'.2.2.1 a k x).trans (h.2.2.1 a k x), fun a k x => (h'.2.2.2 a k x).trans (h.2.2.2 a k x)⟩
theorem FsC.refl (M : Mem) : FsC M M := ⟨rfl, rfl, fun _ _ _ => rfl, fun _ _ _ => rfl⟩
theorem FsR.refl (M : Mem) : FsR M M := ⟨rfl, fun _ _ _ => rfl, fun _ _ _ => rfl⟩
theorem fsR_I (M : Mem) {k : Nat} {x : Int32} (h : 4 ≤ k ∧ k ≤ 7) : FsR M (setI M 311 k x) := ⟨rfl, fun _ _ _ => rfl, fun a j q => setI_n (by omega)⟩
theorem fsR_L (M : Mem) (x : Int64) : FsR M (setL M 311 8 x) := ⟨rfl, fun a k h => by rw [setL_2, if_neg h], fun _ _ _ => rfl⟩
def rtN (n : Nat) (B : Nat → Nat) (st : Nat) : Int32 := if n ≤ st then 0 else if dg (B st) then (if 4 < rnn dg n B st then 3 else 2) else if ltr (B st) then (if 6 < rnn ltr n B st then 3 else 1) else sgR (B st)
def rvN (n : Nat) (B : Nat → Nat) (st : Nat) : Nat := if n ≤ st then 0 else if dg (B st) then nv B st (rnn dg n B st) else 0
def rwN (n : Nat) (B : Nat → Nat) (st : Nat) : Nat := if n ≤ st then 0 else if dg (B st) then 0 else if ltr (B st) then wv B st (rnn ltr n B st) else 0
theorem let_96 : ∀ j, j < 26 → (nI (97 + j)).toInt64 - 96 = lN (j + 1) := by decide +kernel
theorem pack {w b : Nat} (hw : w < 2 ^ 30) (hb : 97 ≤ b ∧ b ≤ 122) : (lN w <<< ((5 : Int32).toInt64 &&& 63)) ||| ((nI b).toInt64 - 96) = lN (w * 32 + (b - 96)) := by
  have k := let_96 (b - 97) (by omega)
  rw [show 97 + (b - 97) = b by omega] at k
  rw [k, show (5 : Int32) = nI 5 from rfl, wb_shl w (by omega), show b - 97 + 1 = b - 96 by omega]
  exact g_or (k := 5) (p := 32) (by decide) (by omega) (by omega)
theorem setLIL (M : Mem) (x x' : Int64) (y y' : Int32) : setI (setL (setI (setL M 311 8 x) 311 5 y) 311 8 x') 311 5 y' = setI (setL M 311 8 x') 311 5 y' := by
  have e : setL (setI (setL M 311 8 x) 311 5 y) 311 8 x' = setI (setL (setL M 311 8 x) 311 8 x') 311 5 y := rfl
  have e2 : setL (setL M 311 8 x) 311 8 x' = setL M 311 8 x' := by
    unfold setL
    congr 2
    funext a k
    show (if a = 311 ∧ k = 8 then x' else if a = 311 ∧ k = 8 then x else M.2.1 a k) = if a = 311 ∧ k = 8 then x' else M.2.1 a k
    by_cases c : a = 311 ∧ k = 8
    · rw [if_pos c, if_pos c]
    · simp only [if_neg c]
  rw [e, setII, e2]
theorem setL_id {M : Mem} {a k : Nat} {x : Int64} (h : M.2.1 a k = x) : setL M a k x = M := by
  unfold setL
  obtain ⟨i, l, r, c⟩ := M
  congr 2
  funext b j
  show (if b = a ∧ j = k then x else l b j) = l b j
  by_cases c : b = a ∧ j = k
  · rw [if_pos c, ← h, c.1, c.2]
  · rw [if_neg c]
theorem scn_r {n : Nat} {B : Nat → Nat} {M : Mem} (h : ScR n B M) {st : Nat} (hs : st ≤ n) (h4 : M.1 311 4 = nI st) (h5 : M.1 311 5 = nI st) (h7 : M.1 311 7 = 0) : f_X11_steps_b289 fuel M = some (setI (setI (setI M 311 7 (nI (nv B st (rnn dg n B st)))) 311 5 (nI (st + rnn dg n B st))) 311 6 (if 4 < rnn dg n B st then 3 else 2)) := by
  have h' := h
  obtain ⟨k1, k2, k3⟩ := h
  have le := rnn_le dg n B st
  have hB : ∀ k, k < n → B k < 256 := fun k hk => (k3 k hk).1
  have r4 : ∀ x y, (setI (setI M 311 7 x) 311 5 y).1 311 4 = nI st := fun x y => by rw [setI_n (by omega), setI_n (by omega), h4]
  have r7 : ∀ x y, (setI (setI M 311 7 x) 311 5 y).1 311 7 = x := fun x y => by rw [setI_n (by omega), setI_s]
  have sc : ∀ x y, ScR n B (setI (setI M 311 7 x) 311 5 y) := fun x y => ⟨by rw [setI_n (by omega), setI_n (by omega), k1], k2, fun j hj => ⟨(k3 j hj).1, by rw [setI_n (by omega), setI_n (by omega)]; exact (k3 j hj).2⟩⟩
  have hl := lp_for (z := fun _ => none) (s := f_X11_steps_b289_s) (fun i (f : Mem → Option Mem) => f (setI (setI M 311 7 (nI (nv B st i))) 311 5 (nI (st + i)))) (rnn dg n B st) (some (setI (setI (setI M 311 7 (nI (nv B st (rnn dg n B st)))) 311 5 (nI (st + rnn dg n B st))) 311 6 (if 4 < rnn dg n B st then 3 else 2))) (fun i hi f => by
    obtain ⟨q1, q2⟩ := rnn_in hi
    obtain ⟨b1, b2⟩ := dg_n q2
    show f_X11_steps_b289_s f (setI (setI M 311 7 (nI (nv B st i))) 311 5 (nI (st + i))) = f (setI (setI M 311 7 (nI (if i < 4 then nv B st i * 10 + (B (st + i) - 48) else nv B st i))) 311 5 (nI (st + (i + 1))))
    unfold f_X11_steps_b289_s f_X11_steps_b350
    simp only [bnd_e]
    have se : see n B (st + i) = nI (B (st + i)) := if_pos q1
    have ev : ((10 * nI (nv B st i)) + nI (B (st + i))) - 48 = nI (nv B st i * 10 + (B (st + i) - 48)) := by
      rw [show (10 : Int32) = nI 10 from rfl, nI_mul', nI_add, show (48 : Int32) = nI 48 from rfl, nI_sub (by omega)]
      exact congrArg nI (by omega)
    have e1 : nI (st + i) + 1 = nI (st + (i + 1)) := nI_1 _
    have r5 : ∀ x, (setI (setI (setI M 311 7 (nI (nv B st i))) 311 5 (nI (st + i))) 311 7 x).1 311 5 = nI (st + i) := fun x => by rw [setI_n (by omega), setI_s]
    rw [setI_s, see_f (sc _ _) (by omega), cl_s, see_dg hB, cl_s, if_pos (show st + i < n ∧ dg (B (st + i)) = true from ⟨q1, q2⟩), if_neg (show ¬ (1 : Int32) = 0 by decide), setI_s, r4, nI_sub (by omega), show st + i - st = i by omega, see_f (sc _ _) (by omega), cl_s, r7, se, ev, r5, r5, e1, set4 _ _ _ _ _ _ _ _ (by omega), set4 _ _ _ _ _ _ _ _ (by omega)]
    by_cases c : i < 4
    · rw [if_neg (by rw [show (4 : Int32) = nI 4 from rfl]; exact nI_ge c (by omega)), if_pos c]
    · rw [if_pos (by rw [show (4 : Int32) = nI 4 from rfl]; exact le_nI (by omega) (by omega) (by omega)), if_neg c]) (fun f => by
    show f_X11_steps_b289_s f (setI (setI M 311 7 (nI (nv B st (rnn dg n B st)))) 311 5 (nI (st + rnn dg n B st))) = _
    unfold f_X11_steps_b289_s f_X11_steps_b385
    simp only [bnd_e]
    rw [setI_s, see_f (sc _ _) (by omega), cl_s, see_dg hB, cl_s, if_neg (show ¬ (st + rnn dg n B st < n ∧ dg (B (st + rnn dg n B st)) = true) from rnn_out), if_pos rfl, setI_s, r4, nI_sub (by omega), show st + rnn dg n B st - st = rnn dg n B st by omega]
    by_cases c : 4 < rnn dg n B st
    · rw [if_pos (by rw [show (5 : Int32) = nI 5 from rfl]; exact le_nI (by omega) (by omega) c), if_pos c]
    · rw [if_neg (by rw [show (5 : Int32) = nI 5 from rfl]; exact nI_ge (by omega) (by omega)), if_neg c]) fuel (by unfold fuel; omega)
  have e0 : setI (setI M 311 7 (nI (nv B st 0))) 311 5 (nI (st + 0)) = M := by
    rw [setI_id (M := M) (x := nI (nv B st 0)) (by rw [h7]; rfl), Nat.add_zero, setI_id h5]
  simp only [e0] at hl
  exact hl
theorem scw_r {n : Nat} {B : Nat → Nat} {M : Mem} (h : ScR n B M) {st : Nat} (hs : st ≤ n) (h4 : M.1 311 4 = nI st) (h5 : M.1 311 5 = nI st) (h8 : M.2.1 311 8 = 0) : f_X11_steps_b162 fuel M = some (setI (setI (setL M 311 8 (lN (wv B st (rnn ltr n B st)))) 311 5 (nI (st + rnn ltr n B st))) 311 6 (if 6 < rnn ltr n B st then 3 else 1)) := by
  have h' := h
  obtain ⟨k1, k2, k3⟩ := h
  have le := rnn_le ltr n B st
  have hB : ∀ k, k < n → B k < 256 := fun k hk => (k3 k hk).1
  have al : ∀ j, j < rnn ltr n B st → ltr (B (st + j)) = true := fun j hj => (rnn_in hj).2
  have r4 : ∀ x y, (setI (setL M 311 8 x) 311 5 y).1 311 4 = nI st := fun x y => by rw [setI_n (by omega), setL_1, h4]
  have sc : ∀ x y, ScR n B (setI (setL M 311 8 x) 311 5 y) := fun x y => ⟨by rw [setI_n (by omega), setL_1, k1], k2, fun j hj => ⟨(k3 j hj).1, by rw [setI_n (by omega), setL_1]; exact (k3 j hj).2⟩⟩
  have r8 : ∀ x y, (setI (setL M 311 8 x) 311 5 y).2.1 311 8 = x := fun x y => by
    show (setL M 311 8 x).2.1 311 8 = x
    rw [setL_2, if_pos ⟨rfl, rfl⟩]
  have hl := lp_for (z := fun _ => none) (s := f_X11_steps_b162_s) (fun i (f : Mem → Option Mem) => f (setI (setL M 311 8 (lN (wv B st i))) 311 5 (nI (st + i)))) (rnn ltr n B st) (some (setI (setI (setL M 311 8 (lN (wv B st (rnn ltr n B st)))) 311 5 (nI (st + rnn ltr n B st))) 311 6 (if 6 < rnn ltr n B st then 3 else 1))) (fun i hi f => by
    obtain ⟨q1, q2⟩ := rnn_in hi
    have b12 := ltr_n q2
    show f_X11_steps_b162_s f (setI (setL M 311 8 (lN (wv B st i))) 311 5 (nI (st + i))) = f (setI (setL M 311 8 (lN (if i < 6 then wv B st i * 32 + (B (st + i) - 96) else wv B st i))) 311 5 (nI (st + (i + 1))))
    unfold f_X11_steps_b162_s f_X11_steps_b225
    simp only [bnd_e]
    have se : see n B (st + i) = nI (B (st + i)) := if_pos q1
    have ev := pack (w := wv B st i) (b := B (st + i)) (wv_30 (fun j hj => al j (by omega))) b12
    have e1 : nI (st + i) + 1 = nI (st + (i + 1)) := nI_1 _
    have r5 : ∀ x, (setL (setI (setL M 311 8 (lN (wv B st i))) 311 5 (nI (st + i))) 311 8 x).1 311 5 = nI (st + i) := fun x => by rw [setL_1, setI_s]
    rw [setI_s, see_f (sc _ _) (by omega), cl_s, see_lt hB, cl_s, if_pos (show st + i < n ∧ ltr (B (st + i)) = true from ⟨q1, q2⟩), if_neg (show ¬ (1 : Int32) = 0 by decide), setI_s, r4, nI_sub (by omega), show st + i - st = i by omega, see_f (sc _ _) (by omega), cl_s, r8, se, ev, r5, r5, e1, setLIL, setLIL]
    by_cases c : i < 6
    · rw [if_neg (by rw [show (6 : Int32) = nI 6 from rfl]; exact nI_ge c (by omega)), if_pos c]
    · rw [if_pos (by rw [show (6 : Int32) = nI 6 from rfl]; exact le_nI (by omega) (by omega) (by omega)), if_neg c]) (fun f => by
    show f_X11_steps_b162_s f (setI (setL M 311 8 (lN (wv B st (rnn ltr n B st)))) 311 5 (nI (st + rnn ltr n B st))) = _
    unfold f_X11_steps_b162_s f_X11_steps_b261
    simp only [bnd_e]
    rw [setI_s, see_f (sc _ _) (by omega), cl_s, see_lt hB, cl_s, if_neg (show ¬ (st + rnn ltr n B st < n ∧ ltr (B (st + rnn ltr n B st)) = true) from rnn_out), if_pos rfl, setI_s, r4, nI_sub (by omega), show st + rnn ltr n B st - st = rnn ltr n B st by omega]
    by_cases c : 6 < rnn ltr n B st
    · rw [if_pos (by rw [show (7 : Int32) = nI 7 from rfl]; exact le_nI (by omega) (by omega) c), if_pos c]
    · rw [if_neg (by rw [show (7 : Int32) = nI 7 from rfl]; exact nI_ge (by omega) (by omega)), if_neg c]) fuel (by unfold fuel; omega)
  have e0 : setI (setL M 311 8 (lN (wv B st 0))) 311 5 (nI (st + 0)) = M := by
    rw [setL_id (M := M) (x := lN (wv B st 0)) (by rw [h8]; rfl), Nat.add_zero, setI_id h5]
  simp only [e0] at hl
  exact hl
/-- the body behind the blanks -/
def stB (st : Nat) (M : Mem) : Mem := setL (setI (setI (setI (setI M 311 4 (nI st)) 311 5 (nI (st + 1))) 311 6 3) 311 7 0) 311 8 0
theorem sgR_ne : ∀ b, b < 256 → nI b ≠ -1 := by decide +kernel
theorem steps_r {n : Nat} {B : Nat → Nat} {M : Mem} (h : ScR n B M) {k : Nat} (hk : k ≤ n) (h5 : M.1 311 5 = nI k) : ∃ M', f_X11_steps M = some M' ∧ M'.1 311 4 = nI (nxt n B k) ∧ M'.1 311 5 = nI (eN n B (nxt n B k)) ∧ M'.1 311 6 = rtN n B (nxt n B k) ∧ M'.1 311 7 = nI (rvN n B (nxt n B k)) ∧ M'.2.1 311 8 = lN (rwN n B (nxt n B k)) ∧ FsR M M' := by
  have le := rnn_le bl n B k
  obtain ⟨k1, k2, k3⟩ := h
  have hB : ∀ k, k < n → B k < 256 := fun k hk => (k3 k hk).1
  have sc : ∀ x, ScR n B (setI M 311 4 x) := fun x => ⟨by rw [setI_n (by omega), k1], k2, fun j hj => ⟨(k3 j hj).1, by rw [setI_n (by omega)]; exact (k3 j hj).2⟩⟩
  obtain ⟨st, hst⟩ : ∃ st, st = nxt n B k := ⟨_, rfl⟩
  have stl : st ≤ n := by rw [hst]; unfold nxt; omega
  rw [← hst]
  -- the body
  have f7 : FsR M (stB st M) := ((((fsR_I M (by omega)).tr (fsR_I _ (by omega))).tr (fsR_I _ (by omega))).tr (fsR_I _ (by omega))).tr (fsR_L _ 0)
  have sc7 : ScR n B (stB st M) := ⟨by rw [f7.2.2 _ _ (by omega), k1], k2, fun j hj => ⟨(k3 j hj).1, by rw [f7.2.2 _ _ (by omega)]; exact (k3 j hj).2⟩⟩
  have b4 : (stB st M).1 311 4 = nI st := by unfold stB; rw [setL_1, setI_n (by omega), setI_n (by omega), setI_n (by omega), setI_s]
  have b5 : (stB st M).1 311 5 = nI (st + 1) := by unfold stB; rw [setL_1, setI_n (by omega), setI_n (by omega), setI_s]
  have b6 : (stB st M).1 311 6 = 3 := by unfold stB; rw [setL_1, setI_n (by omega), setI_s]
  have b7 : (stB st M).1 311 7 = 0 := by unfold stB; rw [setL_1, setI_s]
  have b8 : (stB st M).2.1 311 8 = 0 := by unfold stB; rw [setL_2, if_pos ⟨rfl, rfl⟩]
  have core : ∃ M', (if see n B st = -1 then some (setI (setI (stB st M) 311 5 (nI st)) 311 6 0) else if see n B st = 59 then f_X11_steps_b132 (see n B st) (stB st M) else if see n B st = 40 then f_X11_steps_b132 (see n B st) (stB st M) else if see n B st = 41 then f_X11_steps_b132 (see n B st) (stB st M) else if see n B st = 33 then f_X11_steps_b132 (see n B st) (stB st M) else if see n B st = 63 then f_X11_steps_b132 (see n B st) (stB st M) else if ¬ (st < n ∧ ltr (B st) = true) then (if ¬ (st < n ∧ dg (B st) = true) then some (stB st M) else f_X11_steps_b289 fuel (setI (stB st M) 311 5 (nI st))) else f_X11_steps_b162 fuel (setI (stB st M) 311 5 (nI st))) = some M' ∧ M'.1 311 4 = nI st ∧ M'.1 311 5 = nI (eN n B st) ∧ M'.1 311 6 = rtN n B st ∧ M'.1 311 7 = nI (rvN n B st) ∧ M'.2.1 311 8 = lN (rwN n B st) ∧ FsR M M' := by
    by_cases c : n ≤ st
    · have se : see n B st = -1 := if_neg (by omega)
      rw [se, if_pos rfl]
      refine ⟨_, rfl, ?_, ?_, ?_, ?_, ?_, f7.tr ((fsR_I _ (by omega)).tr (fsR_I _ (by omega)))⟩
      · rw [setI_n (by omega), setI_n (by omega), b4]
      · rw [setI_n (by omega), setI_s]; unfold eN; rw [if_pos c]
      · rw [setI_s]; unfold rtN; rw [if_pos c]
      · rw [setI_n (by omega), setI_n (by omega), b7]; unfold rvN; rw [if_pos c]; rfl
      · show (stB st M).2.1 311 8 = _
        rw [b8]; unfold rwN; rw [if_pos c]; rfl
    · have hb := hB st (by omega)
      have se : see n B st = nI (B st) := if_pos (by omega)
      have lit : ∀ c : Nat, c < 256 → (nI (B st) = nI c ↔ B st = c) := fun c hc => ⟨fun z => inj_nI (by omega) (by omega) z, fun z => by rw [z]⟩
      rw [se, if_neg (sgR_ne _ hb)]
      have sg : ∀ r : Int32, (B st = 59 ∨ B st = 40 ∨ B st = 41 ∨ B st = 33 ∨ B st = 63) → f_X11_steps_b132 (nI (B st)) (stB st M) = some (setI (stB st M) 311 6 (nI (B st))) ∧ rtN n B st = nI (B st) ∧ eN n B st = st + 1 ∧ rvN n B st = 0 ∧ rwN n B st = 0 := fun _ hc => by
        have nd : dg (B st) = false := by rcases hc with z | z | z | z | z <;> rw [z] <;> decide
        have nl : ltr (B st) = false := by rcases hc with z | z | z | z | z <;> rw [z] <;> decide
        refine ⟨rfl, ?_, ?_, ?_, ?_⟩
        · unfold rtN sgR
          rw [if_neg c, nd, nl, if_neg (show ¬ false = true by decide), if_neg (show ¬ false = true by decide)]
          rcases hc with z | z | z | z | z <;> rw [z] <;> decide
        · unfold eN
          rw [if_neg c, nd, nl]; rfl
        · unfold rvN
          rw [if_neg c, nd]; rfl
        · unfold rwN
          rw [if_neg c, nd, nl]; rfl
      have out : f_X11_steps_b132 (nI (B st)) (stB st M) = some (setI (stB st M) 311 6 (nI (B st))) → rtN n B st = nI (B st) → eN n B st = st + 1 → rvN n B st = 0 → rwN n B st = 0 → ∃ M', f_X11_steps_b132 (nI (B st)) (stB st M) = some M' ∧ M'.1 311 4 = nI st ∧ M'.1 311 5 = nI (eN n B st) ∧ M'.1 311 6 = rtN n B st ∧ M'.1 311 7 = nI (rvN n B st) ∧ M'.2.1 311 8 = lN (rwN n B st) ∧ FsR M M' := fun e1 e2 e3 e4 e5 => by
        refine ⟨_, e1, ?_, ?_, ?_, ?_, ?_, f7.tr (fsR_I _ (by omega))⟩
        · rw [setI_n (by omega), b4]
        · rw [setI_n (by omega), b5, e3]
        · rw [setI_s, e2]
        · rw [setI_n (by omega), b7, e4]; rfl
        · show (stB st M).2.1 311 8 = _
          rw [b8, e5]; rfl
      by_cases s1 : B st = 59
      · rw [if_pos (show nI (B st) = 59 from (lit 59 (by omega)).mpr s1)]
        obtain ⟨x1, x2, x3, x4, x5⟩ := sg 0 (by omega)
        exact out x1 x2 x3 x4 x5
      rw [if_neg (show ¬ nI (B st) = 59 from fun z => s1 ((lit 59 (by omega)).mp z))]
      by_cases s2 : B st = 40
      · rw [if_pos (show nI (B st) = 40 from (lit 40 (by omega)).mpr s2)]
        obtain ⟨x1, x2, x3, x4, x5⟩ := sg 0 (by omega)
        exact out x1 x2 x3 x4 x5
      rw [if_neg (show ¬ nI (B st) = 40 from fun z => s2 ((lit 40 (by omega)).mp z))]
      by_cases s3 : B st = 41
      · rw [if_pos (show nI (B st) = 41 from (lit 41 (by omega)).mpr s3)]
        obtain ⟨x1, x2, x3, x4, x5⟩ := sg 0 (by omega)
        exact out x1 x2 x3 x4 x5
      rw [if_neg (show ¬ nI (B st) = 41 from fun z => s3 ((lit 41 (by omega)).mp z))]
      by_cases s4 : B st = 33
      · rw [if_pos (show nI (B st) = 33 from (lit 33 (by omega)).mpr s4)]
        obtain ⟨x1, x2, x3, x4, x5⟩ := sg 0 (by omega)
        exact out x1 x2 x3 x4 x5
      rw [if_neg (show ¬ nI (B st) = 33 from fun z => s4 ((lit 33 (by omega)).mp z))]
      by_cases s5 : B st = 63
      · rw [if_pos (show nI (B st) = 63 from (lit 63 (by omega)).mpr s5)]
        obtain ⟨x1, x2, x3, x4, x5⟩ := sg 0 (by omega)
        exact out x1 x2 x3 x4 x5
      rw [if_neg (show ¬ nI (B st) = 63 from fun z => s5 ((lit 63 (by omega)).mp z))]
      have sc8 : ScR n B (setI (stB st M) 311 5 (nI st)) := ⟨by rw [setI_n (by omega), sc7.1], k2, fun j hj => ⟨(k3 j hj).1, by rw [setI_n (by omega)]; exact (sc7.2.2 j hj).2⟩⟩
      by_cases cl : ltr (B st) = true
      · have nd : dg (B st) = false := by
          cases q : dg (B st) with
          | false => rfl
          | true => rw [dg_ltr q] at cl; exact absurd cl (by decide)
        rw [if_neg (fun z => z ⟨by omega, cl⟩), scw_r sc8 stl (by rw [setI_n (by omega), b4]) setI_s (show (stB st M).2.1 311 8 = 0 from b8)]
        refine ⟨_, rfl, ?_, ?_, ?_, ?_, ?_, f7.tr (((fsR_I _ (by omega)).tr (fsR_L _ _)).tr ((fsR_I _ (by omega)).tr (fsR_I _ (by omega))))⟩
        · rw [setI_n (by omega), setI_n (by omega), setL_1, setI_n (by omega), b4]
        · rw [setI_n (by omega), setI_s]; unfold eN; rw [if_neg c, nd, if_neg (by decide), if_pos cl]
        · rw [setI_s]; unfold rtN; rw [if_neg c, nd, if_neg (show ¬ false = true by decide), if_pos cl]
        · rw [setI_n (by omega), setI_n (by omega), setL_1, setI_n (by omega), b7]; unfold rvN; rw [if_neg c, nd]; rfl
        · show (setL (setI (stB st M) 311 5 (nI st)) 311 8 (lN (wv B st (rnn ltr n B st)))).2.1 311 8 = _
          rw [setL_2, if_pos ⟨rfl, rfl⟩]; unfold rwN; rw [if_neg c, nd, if_neg (by decide), if_pos cl]
      · rw [if_pos (fun z => cl z.2)]
        by_cases cd : dg (B st) = true
        · rw [if_neg (fun z => z ⟨by omega, cd⟩), scn_r sc8 stl (by rw [setI_n (by omega), b4]) setI_s (by rw [setI_n (by omega), b7])]
          refine ⟨_, rfl, ?_, ?_, ?_, ?_, ?_, f7.tr (((fsR_I _ (by omega)).tr (fsR_I _ (by omega))).tr ((fsR_I _ (by omega)).tr (fsR_I _ (by omega))))⟩
          · rw [setI_n (by omega), setI_n (by omega), setI_n (by omega), setI_n (by omega), b4]
          · rw [setI_n (by omega), setI_s]; unfold eN; rw [if_neg c, if_pos cd]
          · rw [setI_s]; unfold rtN; rw [if_neg c, if_pos cd]
          · rw [setI_n (by omega), setI_n (by omega), setI_s]; unfold rvN; rw [if_neg c, if_pos cd]
          · show (stB st M).2.1 311 8 = _
            rw [b8]; unfold rwN; rw [if_neg c, if_pos cd]; rfl
        · rw [if_pos (fun z => cd z.2)]
          refine ⟨_, rfl, b4, ?_, ?_, ?_, ?_, f7⟩
          · rw [b5]; unfold eN; rw [if_neg c, if_neg cd, if_neg cl]
          · rw [b6]; unfold rtN sgR; rw [if_neg c, if_neg cd, if_neg cl, if_neg s1, if_neg s2, if_neg s3, if_neg s4, if_neg s5]
          · rw [b7]; unfold rvN; rw [if_neg c, if_neg cd]; rfl
          · rw [b8]; unfold rwN; rw [if_neg c, if_neg cd, if_neg cl]; rfl
  obtain ⟨M', e', q⟩ := core
  refine ⟨M', ?_, q⟩
  have hl := lp_for (z := fun _ => none) (s := f_X11_steps_b8_s) (fun i (f : Mem → Option Mem) => f (setI M 311 4 (nI (k + i)))) (rnn bl n B k) (some M') (fun i hi f => by
    obtain ⟨w1, w2⟩ := rnn_in hi
    obtain ⟨v1, v2⟩ := k3 _ w1
    show f_X11_steps_b8_s f (setI M 311 4 (nI (k + i))) = f (setI M 311 4 (nI (k + (i + 1))))
    unfold f_X11_steps_b8_s f_X11_steps_b34
    have se : see n B (k + i) = nI (B (k + i)) := if_pos w1
    have e1 : nI (k + i) + 1 = nI (k + (i + 1)) := nI_1 _
    simp only [bnd_e]
    rw [setI_s, see_f (sc _) (by omega), cl_s, setI_s, see_f (sc _) (by omega), cl_s, setI_s, e1, setII, se]
    have lit : ∀ c : Nat, c < 256 → (nI (B (k + i)) = nI c ↔ B (k + i) = c) := fun c hc => ⟨fun z => inj_nI (by omega) (by omega) z, fun z => by rw [z]⟩
    by_cases c : B (k + i) = 32
    · rw [if_pos (show nI (B (k + i)) = 32 from (lit 32 (by omega)).mpr c)]
    · rw [if_neg (show ¬ nI (B (k + i)) = 32 from fun z => c ((lit 32 (by omega)).mp z))]
      have c10 : B (k + i) = 10 := by
        unfold bl at w2
        rw [Bool.or_eq_true, beq_iff_eq, beq_iff_eq] at w2
        exact w2.resolve_left c
      rw [if_pos (show nI (B (k + i)) = 10 from (lit 10 (by omega)).mpr c10)]) (fun f => by
    show f_X11_steps_b8_s f (setI M 311 4 (nI (k + rnn bl n B k))) = _
    have est : k + rnn bl n B k = st := by rw [hst]; rfl
    rw [est]
    have no : ¬ (see n B st = 32) ∧ ¬ (see n B st = 10) := by
      have o := rnn_out (p := bl) (n := n) (B := B) (k := k)
      rw [est] at o
      by_cases c : st < n
      · have se : see n B st = nI (B st) := if_pos c
        have hb := hB st c
        have nb : ¬ (B st = 32 ∨ B st = 10) := fun z => o ⟨c, by
          unfold bl
          rw [Bool.or_eq_true, beq_iff_eq, beq_iff_eq]
          exact z⟩
        rw [se]
        exact ⟨fun z => nb (Or.inl (inj_nI (by omega) (by omega) (show nI (B st) = nI 32 from z))), fun z => nb (Or.inr (inj_nI (by omega) (by omega) (show nI (B st) = nI 10 from z)))⟩
      · have se : see n B st = -1 := if_neg c
        rw [se]
        decide
    unfold f_X11_steps_b8_s
    simp only [bnd_e]
    have e1 : nI st + 1 = nI (st + 1) := nI_1 _
    have x5 : setL (setI (setI (setI (setI M 311 4 (nI st)) 311 5 (nI (st + 1))) 311 6 3) 311 7 0) 311 8 0 = stB st M := rfl
    rw [setI_s, see_f (sc _) (by omega), cl_s, if_neg no.1, setI_s, see_f (sc _) (by omega), cl_s, if_neg no.2, setI_s, see_f (sc _) (by omega), cl_s, setI_s, e1, x5, b4, see_lt hB, cl_s, b4, see_dg hB, cl_s, b4, ← e']
    by_cases z1 : st < n ∧ ltr (B st) = true
    · rw [if_pos z1, if_neg (show ¬ (1 : Int32) = 0 by decide), if_neg (show ¬ ¬ (st < n ∧ ltr (B st) = true) from fun q => q z1)]
    · rw [if_neg z1, if_pos (show (0 : Int32) = 0 from rfl), if_pos z1]
      by_cases z2 : st < n ∧ dg (B st) = true
      · rw [if_pos z2, if_neg (show ¬ (1 : Int32) = 0 by decide), if_neg (show ¬ ¬ (st < n ∧ dg (B st) = true) from fun q => q z2)]
      · rw [if_neg z2, if_pos (show (0 : Int32) = 0 from rfl), if_pos z2]) fuel (by unfold fuel; omega)
  rw [Nat.add_zero] at hl
  unfold f_X11_steps
  rw [bnd_e, h5]
  exact hl
