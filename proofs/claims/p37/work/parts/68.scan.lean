/-! the bytes, as both see them -/
def bl (b : Nat) : Bool := b == 32 || b == 10
def dg (b : Nat) : Bool := decide (48 ≤ b) && decide (b ≤ 57)
def ltr (b : Nat) : Bool := decide (97 ≤ b) && decide (b ≤ 122)
def sgC (b : Nat) : Nat := if b = 33 then 8 else if b = 40 then 6 else if b = 41 then 7 else if b = 59 then 5 else if b = 63 then 9 else 2
def sgR (b : Nat) : Int32 := if b = 59 then 59 else if b = 40 then 40 else if b = 41 then 41 else if b = 33 then 33 else if b = 63 then 63 else 3
theorem sb_255 : ∀ b, b < 256 → sb b &&& 255 = nI b := by decide +kernel
theorem sb_32 : ∀ b, b < 256 → (sb b = 32 ↔ b = 32) ∧ (sb b = 10 ↔ b = 10) := by decide +kernel
theorem sby_dg : ∀ b, b < 256 → (if sb b < 48 then (0 : Int32) else if 57 < sb b then 0 else 1) = if dg b then 1 else 0 := by decide +kernel
theorem sby_lt : ∀ b, b < 256 → (if sb b < 97 then (0 : Int32) else if 122 < sb b then 0 else 1) = if ltr b then 1 else 0 := by decide +kernel
theorem sby_sgn : ∀ b, b < 256 → (if sb b = 33 then 8 else if sb b = 40 then 6 else if sb b = 41 then 7 else if sb b = 59 then 5 else if sb b = 63 then 9 else 2) = sgC b := by decide +kernel
theorem sb_small : ∀ b, b < 128 → sb b = nI b := by decide +kernel
theorem isDigit_f {b : Nat} (hb : b < 256) (M : Mem) : f_X7_isDigit (sb b) M = some (if dg b then 1 else 0, M) := by
  rw [← sby_dg b hb]
  unfold f_X7_isDigit
  by_cases c : sb b < 48
  · rw [if_pos c, if_pos c]
  · rw [if_neg c, if_neg c]
    by_cases c2 : 57 < sb b
    · rw [if_pos c2, if_pos c2]
    · rw [if_neg c2, if_neg c2]
theorem isLetter_f {b : Nat} (hb : b < 256) (M : Mem) : f_X7_isLetter (sb b) M = some (if ltr b then 1 else 0, M) := by
  rw [← sby_lt b hb]
  unfold f_X7_isLetter
  by_cases c : sb b < 97
  · rw [if_pos c, if_pos c]
  · rw [if_neg c, if_neg c]
    by_cases c2 : 122 < sb b
    · rw [if_pos c2, if_pos c2]
    · rw [if_neg c2, if_neg c2]
theorem ofSign_f {b : Nat} (hb : b < 256) (M : Mem) : f_X8_ofSign (sb b) M = some (sgC b, M) := by
  rw [← sby_sgn b hb]
  unfold f_X8_ofSign
  by_cases c : sb b = 33
  · rw [if_pos c, if_pos c]
  rw [if_neg c, if_neg c]
  by_cases c : sb b = 40
  · rw [if_pos c, if_pos c]
  rw [if_neg c, if_neg c]
  by_cases c : sb b = 41
  · rw [if_pos c, if_pos c]
  rw [if_neg c, if_neg c]
  by_cases c : sb b = 59
  · rw [if_pos c, if_pos c]
  rw [if_neg c, if_neg c]
  by_cases c : sb b = 63
  · rw [if_pos c, if_pos c]
  rw [if_neg c, if_neg c]
/-- the text: n bytes B, in both -/
def ScC (n : Nat) (B : Nat → Nat) (M : Mem) : Prop := M.1 208 2 = nI n ∧ n ≤ 600 ∧ ∀ k, k < n → B k < 256 ∧ M.1 65 k = sb (B k)
def ScR (n : Nat) (B : Nat → Nat) (M : Mem) : Prop := M.1 311 3 = nI n ∧ n ≤ 600 ∧ ∀ k, k < n → B k < 256 ∧ M.1 312 k = sb (B k)
def see (n : Nat) (B : Nat → Nat) (k : Nat) : Int32 := if k < n then nI (B k) else -1
theorem see_f {n : Nat} {B : Nat → Nat} {M : Mem} (h : ScR n B M) {k : Nat} (hk : k < 2 ^ 31) : f_X11_see (nI k) M = some (see n B k, M) := by
  obtain ⟨h1, h2, h3⟩ := h
  unfold f_X11_see see
  rw [h1]
  by_cases c : k < n
  · rw [if_neg (nI_ge c (by omega)), if_pos c, gd_t (inb_nI (by omega) (by omega)), nI_clamp (by omega), (h3 k c).2, sb_255 _ (h3 k c).1]
  · rw [if_pos (le_nI (by omega) hk (by omega)), if_neg c]
theorem see_lt {n : Nat} {B : Nat → Nat} (h : ∀ k, k < n → B k < 256) (k : Nat) (M : Mem) : f_X11_within (see n B k).toInt64 97 122 M = some (if k < n ∧ ltr (B k) = true then 1 else 0, M) := by
  have e : f_X11_within (see n B k).toInt64 97 122 M = some (if 97 ≤ see n B k ∧ see n B k ≤ 122 then 1 else 0, M) := within32 (see n B k) 97 122 M
  rw [e]
  have key : ∀ b, b < 256 → ((97 ≤ nI b ∧ nI b ≤ 122) ↔ ltr b = true) := by decide +kernel
  unfold see
  by_cases c : k < n
  · rw [if_pos c]
    by_cases c2 : ltr (B k) = true
    · rw [if_pos ((key _ (h k c)).mpr c2), if_pos ⟨c, c2⟩]
    · rw [if_neg (fun z => c2 ((key _ (h k c)).mp z)), if_neg (fun z => c2 z.2)]
  · rw [if_neg c, if_neg (by decide), if_neg (fun z => c z.1)]
theorem see_dg {n : Nat} {B : Nat → Nat} (h : ∀ k, k < n → B k < 256) (k : Nat) (M : Mem) : f_X11_within (see n B k).toInt64 48 57 M = some (if k < n ∧ dg (B k) = true then 1 else 0, M) := by
  have e : f_X11_within (see n B k).toInt64 48 57 M = some (if 48 ≤ see n B k ∧ see n B k ≤ 57 then 1 else 0, M) := within32 (see n B k) 48 57 M
  rw [e]
  have key : ∀ b, b < 256 → ((48 ≤ nI b ∧ nI b ≤ 57) ↔ dg b = true) := by decide +kernel
  unfold see
  by_cases c : k < n
  · rw [if_pos c]
    by_cases c2 : dg (B k) = true
    · rw [if_pos ((key _ (h k c)).mpr c2), if_pos ⟨c, c2⟩]
    · rw [if_neg (fun z => c2 ((key _ (h k c)).mp z)), if_neg (fun z => c2 z.2)]
  · rw [if_neg c, if_neg (by decide), if_neg (fun z => c z.1)]
/-- from k on over what p tells -/
def rnn (p : Nat → Bool) (n : Nat) (B : Nat → Nat) (k : Nat) : Nat := fa_first (fun i => !(p (B (k + i)))) (n - k)
theorem rnn_le (p : Nat → Bool) (n : Nat) (B : Nat → Nat) (k : Nat) : rnn p n B k ≤ n - k := fa_first_le _ _
theorem rnn_in {p : Nat → Bool} {n : Nat} {B : Nat → Nat} {k i : Nat} (h : i < rnn p n B k) : k + i < n ∧ p (B (k + i)) = true := by
  have l := rnn_le p n B k
  have z := fa_first_no (fun i => !(p (B (k + i)))) (n - k) i h
  refine ⟨by omega, ?_⟩
  cases q : p (B (k + i)) with
  | true => rfl
  | false =>
    have z' : (!(p (B (k + i)))) = false := z
    rw [q] at z'
    exact absurd z' (by decide)
theorem rnn_out {p : Nat → Bool} {n : Nat} {B : Nat → Nat} {k : Nat} : ¬ (k + rnn p n B k < n ∧ p (B (k + rnn p n B k)) = true) := by
  rintro ⟨h1, h2⟩
  have z := fa_first_yes (fun i => !(p (B (k + i)))) (n - k) (show rnn p n B k < n - k by omega)
  have z' : (!(p (B (k + rnn p n B k)))) = true := z
  rw [h2] at z'
  exact absurd z' (by decide)
/-- the value of a word, of a number: the first letters, digits -/
def wv (B : Nat → Nat) (k : Nat) : Nat → Nat
  | 0 => 0
  | i + 1 => if i < 6 then wv B k i * 32 + (B (k + i) - 96) else wv B k i
def nv (B : Nat → Nat) (k : Nat) : Nat → Nat
  | 0 => 0
  | i + 1 => if i < 4 then nv B k i * 10 + (B (k + i) - 48) else nv B k i
theorem wv_lt {B : Nat → Nat} {k : Nat} : ∀ {i : Nat}, (∀ j, j < i → ltr (B (k + j)) = true) → wv B k i < 32 ^ (if i < 6 then i else 6)
  | 0, _ => by
    show (0 : Nat) < 32 ^ (if 0 < 6 then 0 else 6)
    decide
  | i + 1, h => by
    have ih := wv_lt (B := B) (k := k) (i := i) (fun j hj => h j (by omega))
    have hl := h i (by omega)
    have hb : 97 ≤ B (k + i) ∧ B (k + i) ≤ 122 := by
      unfold ltr at hl
      rw [Bool.and_eq_true, decide_eq_true_eq, decide_eq_true_eq] at hl
      exact hl
    show (if i < 6 then wv B k i * 32 + (B (k + i) - 96) else wv B k i) < _
    by_cases c : i < 6
    · rw [if_pos c] at ih ⊢
      have e : 32 ^ (if i + 1 < 6 then i + 1 else 6) = 32 ^ i * 32 := by
        rw [← Nat.pow_succ]
        congr 1
        split <;> omega
      rw [e]
      omega
    · rw [if_neg c] at ih ⊢
      rw [if_neg (by omega)]
      exact ih
theorem wv_30 {B : Nat → Nat} {k i : Nat} (h : ∀ j, j < i → ltr (B (k + j)) = true) : wv B k i < 2 ^ 30 := by
  have a := wv_lt h
  have b : 32 ^ (if i < 6 then i else 6) ≤ 32 ^ 6 := Nat.pow_le_pow_right (by decide) (by split <;> omega)
  have c : (32 : Nat) ^ 6 = 2 ^ 30 := by decide
  omega
theorem wv_pos {B : Nat → Nat} {k : Nat} : ∀ {i : Nat}, 0 < i → (∀ j, j < i → ltr (B (k + j)) = true) → 0 < wv B k i
  | 0, h, _ => absurd h (by omega)
  | i + 1, _, h => by
    have hl := h i (by omega)
    have hb : 97 ≤ B (k + i) ∧ B (k + i) ≤ 122 := by
      unfold ltr at hl
      rw [Bool.and_eq_true, decide_eq_true_eq, decide_eq_true_eq] at hl
      exact hl
    show 0 < (if i < 6 then wv B k i * 32 + (B (k + i) - 96) else wv B k i)
    by_cases c : i < 6
    · rw [if_pos c]; omega
    · rw [if_neg c]
      exact wv_pos (by omega) (fun j hj => h j (by omega))
theorem nv_lt {B : Nat → Nat} {k : Nat} : ∀ {i : Nat}, (∀ j, j < i → dg (B (k + j)) = true) → nv B k i < 10 ^ (if i < 4 then i else 4)
  | 0, _ => by
    show (0 : Nat) < 10 ^ (if 0 < 4 then 0 else 4)
    decide
  | i + 1, h => by
    have ih := nv_lt (B := B) (k := k) (i := i) (fun j hj => h j (by omega))
    have hl := h i (by omega)
    have hb : 48 ≤ B (k + i) ∧ B (k + i) ≤ 57 := by
      unfold dg at hl
      rw [Bool.and_eq_true, decide_eq_true_eq, decide_eq_true_eq] at hl
      exact hl
    show (if i < 4 then nv B k i * 10 + (B (k + i) - 48) else nv B k i) < _
    by_cases c : i < 4
    · rw [if_pos c] at ih ⊢
      have e : 10 ^ (if i + 1 < 4 then i + 1 else 4) = 10 ^ i * 10 := by
        rw [← Nat.pow_succ]
        congr 1
        split <;> omega
      rw [e]
      omega
    · rw [if_neg c] at ih ⊢
      rw [if_neg (by omega)]
      exact ih
theorem nv_4 {B : Nat → Nat} {k i : Nat} (h : ∀ j, j < i → dg (B (k + j)) = true) : nv B k i < 10000 := by
  have a := nv_lt h
  have b : 10 ^ (if i < 4 then i else 4) ≤ 10 ^ 4 := Nat.pow_le_pow_right (by decide) (by split <;> omega)
  have c : (10 : Nat) ^ 4 = 10000 := by decide
  omega
theorem setI_id {M : Mem} {a k : Nat} {x : Int32} (h : M.1 a k = x) : setI M a k x = M := by
  rw [setI_sA, fa_upd_same h, sA_self]
theorem set4 (M : Mem) (a k j : Nat) (x y x' y' : Int32) (h : k ≠ j) : setI (setI (setI (setI M a k x) a j y) a k x') a j y' = setI (setI M a k x') a j y' := by
  unfold setI
  congr 1
  funext b i
  show (if b = a ∧ i = j then y' else if b = a ∧ i = k then x' else if b = a ∧ i = j then y else if b = a ∧ i = k then x else M.1 b i) = if b = a ∧ i = j then y' else if b = a ∧ i = k then x' else M.1 b i
  by_cases c : b = a ∧ i = j
  · rw [if_pos c, if_pos c]
  · by_cases c2 : b = a ∧ i = k
    · simp only [if_neg c, if_pos c2]
    · simp only [if_neg c, if_neg c2]
theorem setII (M : Mem) (a k : Nat) (x y : Int32) : setI (setI M a k x) a k y = setI M a k y := by
  rw [setI_sA (setI M a k x), setI_sA M a k x, sA_sA, sA_row, fa_upd_twice, ← setI_sA]
theorem ltr_n {b : Nat} (h : ltr b = true) : 97 ≤ b ∧ b ≤ 122 := by
  unfold ltr at h
  rw [Bool.and_eq_true, decide_eq_true_eq, decide_eq_true_eq] at h
  exact h
theorem dg_n {b : Nat} (h : dg b = true) : 48 ≤ b ∧ b ≤ 57 := by
  unfold dg at h
  rw [Bool.and_eq_true, decide_eq_true_eq, decide_eq_true_eq] at h
  exact h
/-! the class scans a number, a word -/
theorem scn_c {n : Nat} {B : Nat → Nat} {M : Mem} (h : ScC n B M) {st : Nat} (hs : st ≤ n) (h3 : M.1 208 3 = nI st) (h5 : M.1 208 5 = nI st) (h6 : M.1 208 6 = 0) : f_X7_scanNumber M = some (setR (setI (setI M 208 6 (nI (nv B st (rnn dg n B st)))) 208 3 (nI (st + rnn dg n B st))) 208 4 (if 4 < rnn dg n B st then 2 else 4)) := by
  obtain ⟨k1, k2, k3⟩ := h
  have le := rnn_le dg n B st
  have st5 : ∀ x y, (setI (setI M 208 6 x) 208 3 y).1 208 5 = nI st := fun x y => by rw [setI_n (by omega), setI_n (by omega), h5]
  have st2 : ∀ x y, (setI (setI M 208 6 x) 208 3 y).1 208 2 = nI n := fun x y => by rw [setI_n (by omega), setI_n (by omega), k1]
  have st6 : ∀ x y, (setI (setI M 208 6 x) 208 3 y).1 208 6 = x := fun x y => by rw [setI_n (by omega), setI_s]
  have st65 : ∀ x y k, (setI (setI M 208 6 x) 208 3 y).1 65 k = M.1 65 k := fun x y k => by rw [setI_n (by omega), setI_n (by omega)]
  have fin : f_X7_scanNumber_b83 (setI (setI M 208 6 (nI (nv B st (rnn dg n B st)))) 208 3 (nI (st + rnn dg n B st))) = some (setR (setI (setI M 208 6 (nI (nv B st (rnn dg n B st)))) 208 3 (nI (st + rnn dg n B st))) 208 4 (if 4 < rnn dg n B st then 2 else 4)) := by
    unfold f_X7_scanNumber_b83 f_X7_scanNumber_b106
    simp only [bnd_e]
    rw [setI_s, st5, nI_sub (by omega), show st + rnn dg n B st - st = rnn dg n B st by omega]
    by_cases c : 4 < rnn dg n B st
    · rw [if_pos (by rw [show (4 : Int32) = nI 4 from rfl]; exact (lt_nI (by omega) (by omega)).mpr c), if_pos c]
    · rw [if_neg (by rw [show (4 : Int32) = nI 4 from rfl]; exact fun z => c ((lt_nI (by omega) (by omega)).mp z)), if_neg c]
  have hl := lp_for (z := fun _ => none) (s := f_X7_scanNumber_b0_s) (fun i (f : Mem → Option Mem) => f (setI (setI M 208 6 (nI (nv B st i))) 208 3 (nI (st + i)))) (rnn dg n B st) (some (setR (setI (setI M 208 6 (nI (nv B st (rnn dg n B st)))) 208 3 (nI (st + rnn dg n B st))) 208 4 (if 4 < rnn dg n B st then 2 else 4))) (fun i hi f => by
    obtain ⟨q1, q2⟩ := rnn_in hi
    obtain ⟨b1, b2⟩ := dg_n q2
    obtain ⟨w1, w2⟩ := k3 _ q1
    show f_X7_scanNumber_b0_s f (setI (setI M 208 6 (nI (nv B st i))) 208 3 (nI (st + i))) = f (setI (setI M 208 6 (nI (if i < 4 then nv B st i * 10 + (B (st + i) - 48) else nv B st i))) 208 3 (nI (st + (i + 1))))
    unfold f_X7_scanNumber_b0_s f_X7_scanNumber_b67
    simp only [bnd_e]
    have ev : ((nI (nv B st i) * 10) + sb (B (st + i))) - 48 = nI (nv B st i * 10 + (B (st + i) - 48)) := by
      rw [sb_small _ (by omega), show (10 : Int32) = nI 10 from rfl, nI_mul', nI_add, show (48 : Int32) = nI 48 from rfl, nI_sub (by omega)]
      exact congrArg nI (by omega)
    have e1 : nI (st + i) + 1 = nI (st + (i + 1)) := nI_1 _
    have r3 : ∀ x, (setI (setI (setI M 208 6 (nI (nv B st i))) 208 3 (nI (st + i))) 208 6 x).1 208 3 = nI (st + i) := fun x => by rw [setI_n (by omega), setI_s]
    rw [setI_s, st2, if_neg (nI_ge q1 (by omega)), gd_t (inb_nI (by omega) (by omega)), nI_clamp (by omega), st65, w2, isDigit_f w1, cl_s, if_pos q2, if_neg (by decide), setI_s, st5, nI_sub (by omega), show st + i - st = i by omega, gd_t (inb_nI (by omega) (by omega)), nI_clamp (by omega), st65, w2, st6, ev, r3, r3, e1, set4 _ _ _ _ _ _ _ _ (by omega), set4 _ _ _ _ _ _ _ _ (by omega)]
    by_cases c : i < 4
    · rw [if_neg (by rw [show (4 : Int32) = nI 4 from rfl]; exact nI_ge c (by omega)), if_pos c]
    · rw [if_pos (by rw [show (4 : Int32) = nI 4 from rfl]; exact le_nI (by omega) (by omega) (by omega)), if_neg c]) (fun f => by
    show f_X7_scanNumber_b0_s f (setI (setI M 208 6 (nI (nv B st (rnn dg n B st)))) 208 3 (nI (st + rnn dg n B st))) = _
    unfold f_X7_scanNumber_b0_s
    rw [fin, setI_s, st2]
    by_cases c : n ≤ st + rnn dg n B st
    · rw [if_pos (le_nI (by omega) (by omega) c)]
    · obtain ⟨w1, w2⟩ := k3 (st + rnn dg n B st) (by omega)
      rw [if_neg (nI_ge (by omega) (by omega)), gd_t (inb_nI (by omega) (by omega)), nI_clamp (by omega), st65, w2, isDigit_f w1, cl_s, if_neg (fun z => rnn_out ⟨by omega, z⟩), if_pos rfl, fin]) fuel (by unfold fuel; omega)
  have e0 : setI (setI M 208 6 (nI (nv B st 0))) 208 3 (nI (st + 0)) = M := by
    rw [setI_id (M := M) (x := nI (nv B st 0)) (by rw [h6]; rfl), Nat.add_zero, setI_id h3]
  simp only [e0] at hl
  exact hl
theorem scw_c {n : Nat} {B : Nat → Nat} {M : Mem} (h : ScC n B M) {st : Nat} (hs : st ≤ n) (h0 : 0 < rnn ltr n B st) (h3 : M.1 208 3 = nI st) (h5 : M.1 208 5 = nI st) (h6 : M.1 208 6 = 0) : f_X7_scanWord M = some (setR (setI (setI M 208 6 (nI (wv B st (rnn ltr n B st)))) 208 3 (nI (st + rnn ltr n B st))) 208 4 (if 6 < rnn ltr n B st then 2 else tokW (wv B st (rnn ltr n B st)))) := by
  obtain ⟨k1, k2, k3⟩ := h
  have le := rnn_le ltr n B st
  have st5 : ∀ x y, (setI (setI M 208 6 x) 208 3 y).1 208 5 = nI st := fun x y => by rw [setI_n (by omega), setI_n (by omega), h5]
  have st2 : ∀ x y, (setI (setI M 208 6 x) 208 3 y).1 208 2 = nI n := fun x y => by rw [setI_n (by omega), setI_n (by omega), k1]
  have st6 : ∀ x y, (setI (setI M 208 6 x) 208 3 y).1 208 6 = x := fun x y => by rw [setI_n (by omega), setI_s]
  have st65 : ∀ x y k, (setI (setI M 208 6 x) 208 3 y).1 65 k = M.1 65 k := fun x y k => by rw [setI_n (by omega), setI_n (by omega)]
  have al : ∀ j, j < rnn ltr n B st → ltr (B (st + j)) = true := fun j hj => (rnn_in hj).2
  have fin : f_X7_scanWord_b80 (setI (setI M 208 6 (nI (wv B st (rnn ltr n B st)))) 208 3 (nI (st + rnn ltr n B st))) = some (setR (setI (setI M 208 6 (nI (wv B st (rnn ltr n B st)))) 208 3 (nI (st + rnn ltr n B st))) 208 4 (if 6 < rnn ltr n B st then 2 else tokW (wv B st (rnn ltr n B st)))) := by
    unfold f_X7_scanWord_b80 f_X7_scanWord_b108
    simp only [bnd_e]
    rw [setI_s, st5, nI_sub (by omega), show st + rnn ltr n B st - st = rnn ltr n B st by omega, st6, ofWord_f (wv_pos h0 al) (wv_30 al), cl_s]
    by_cases c : 6 < rnn ltr n B st
    · rw [if_pos (by rw [show (6 : Int32) = nI 6 from rfl]; exact (lt_nI (by omega) (by omega)).mpr c), if_pos c]
    · rw [if_neg (by rw [show (6 : Int32) = nI 6 from rfl]; exact fun z => c ((lt_nI (by omega) (by omega)).mp z)), if_neg c]
  have hl := lp_for (z := fun _ => none) (s := f_X7_scanWord_b0_s) (fun i (f : Mem → Option Mem) => f (setI (setI M 208 6 (nI (wv B st i))) 208 3 (nI (st + i)))) (rnn ltr n B st) (some (setR (setI (setI M 208 6 (nI (wv B st (rnn ltr n B st)))) 208 3 (nI (st + rnn ltr n B st))) 208 4 (if 6 < rnn ltr n B st then 2 else tokW (wv B st (rnn ltr n B st))))) (fun i hi f => by
    obtain ⟨q1, q2⟩ := rnn_in hi
    obtain ⟨b1, b2⟩ := ltr_n q2
    obtain ⟨w1, w2⟩ := k3 _ q1
    show f_X7_scanWord_b0_s f (setI (setI M 208 6 (nI (wv B st i))) 208 3 (nI (st + i))) = f (setI (setI M 208 6 (nI (if i < 6 then wv B st i * 32 + (B (st + i) - 96) else wv B st i))) 208 3 (nI (st + (i + 1))))
    unfold f_X7_scanWord_b0_s f_X7_scanWord_b64 f_X8_withLetter
    simp only [bnd_e]
    have ev : (((nI (wv B st i) * 32) + sb (B (st + i))) - 97) + 1 = nI (wv B st i * 32 + (B (st + i) - 96)) := by
      rw [sb_small _ (by omega), show (32 : Int32) = nI 32 from rfl, nI_mul', nI_add, show (97 : Int32) = nI 97 from rfl, nI_sub (by omega), nI_1]
      exact congrArg nI (by omega)
    have e1 : nI (st + i) + 1 = nI (st + (i + 1)) := nI_1 _
    have r3 : ∀ x, (setI (setI (setI M 208 6 (nI (wv B st i))) 208 3 (nI (st + i))) 208 6 x).1 208 3 = nI (st + i) := fun x => by rw [setI_n (by omega), setI_s]
    rw [setI_s, st2, if_neg (nI_ge q1 (by omega)), gd_t (inb_nI (by omega) (by omega)), nI_clamp (by omega), st65, w2, isLetter_f w1, cl_s, if_pos q2, if_neg (by decide), setI_s, st5, nI_sub (by omega), show st + i - st = i by omega, gd_t (inb_nI (by omega) (by omega)), nI_clamp (by omega), st65, w2, st6, cl_s, ev, r3, r3, e1, set4 _ _ _ _ _ _ _ _ (by omega), set4 _ _ _ _ _ _ _ _ (by omega)]
    by_cases c : i < 6
    · rw [if_neg (by rw [show (6 : Int32) = nI 6 from rfl]; exact nI_ge c (by omega)), if_pos c]
    · rw [if_pos (by rw [show (6 : Int32) = nI 6 from rfl]; exact le_nI (by omega) (by omega) (by omega)), if_neg c]) (fun f => by
    show f_X7_scanWord_b0_s f (setI (setI M 208 6 (nI (wv B st (rnn ltr n B st)))) 208 3 (nI (st + rnn ltr n B st))) = _
    unfold f_X7_scanWord_b0_s
    rw [fin, setI_s, st2]
    by_cases c : n ≤ st + rnn ltr n B st
    · rw [if_pos (le_nI (by omega) (by omega) c)]
    · obtain ⟨w1, w2⟩ := k3 (st + rnn ltr n B st) (by omega)
      rw [if_neg (nI_ge (by omega) (by omega)), gd_t (inb_nI (by omega) (by omega)), nI_clamp (by omega), st65, w2, isLetter_f w1, cl_s, if_neg (fun z => rnn_out ⟨by omega, z⟩), if_pos rfl, fin]) fuel (by unfold fuel; omega)
  have e0 : setI (setI M 208 6 (nI (wv B st 0))) 208 3 (nI (st + 0)) = M := by
    rw [setI_id (M := M) (x := nI (wv B st 0)) (by rw [h6]; rfl), Nat.add_zero, setI_id h3]
  simp only [e0] at hl
  exact hl
/-- what stands at st: the class's token, its value, its end -/
def eN (n : Nat) (B : Nat → Nat) (st : Nat) : Nat := if n ≤ st then st else if dg (B st) then st + rnn dg n B st else if ltr (B st) then st + rnn ltr n B st else st + 1
def ctN (n : Nat) (B : Nat → Nat) (st : Nat) : Nat := if n ≤ st then 1 else if dg (B st) then (if 4 < rnn dg n B st then 2 else 4) else if ltr (B st) then (if 6 < rnn ltr n B st then 2 else tokW (wv B st (rnn ltr n B st))) else sgC (B st)
def vlN (n : Nat) (B : Nat → Nat) (st : Nat) : Nat := if n ≤ st then 0 else if dg (B st) then nv B st (rnn dg n B st) else if ltr (B st) then wv B st (rnn ltr n B st) else 0
/-- a change by scanning alone -/
def FsC (M M' : Mem) : Prop := M'.2.1 = M.2.1 ∧ M'.2.2.2 = M.2.2.2 ∧ (∀ a k, ¬ (a = 208 ∧ k = 4) → M'.2.2.1 a k = M.2.2.1 a k) ∧ ∀ a k, ¬ (a = 208 ∧ (k = 3 ∨ k = 5 ∨ k = 6)) → M'.1 a k = M.1 a k
theorem rnn_pos {p : Nat → Bool} {n : Nat} {B : Nat → Nat} {k : Nat} (h : k < n) (hp : p (B k) = true) : 0 < rnn p n B k := by
  rcases Nat.eq_zero_or_pos (rnn p n B k) with z | z
  · have o := rnn_out (p := p) (n := n) (B := B) (k := k)
    rw [z] at o
    exact absurd ⟨h, hp⟩ o
  · exact z
theorem dg_ltr {b : Nat} (h : dg b = true) : ltr b = false := by
  have := dg_n h
  unfold ltr
  rw [decide_eq_false (by omega)]
  rfl
theorem adv_52 {n : Nat} {B : Nat → Nat} {M : Mem} (h : ScC n B M) {st : Nat} (hs : st ≤ n) (h3 : M.1 208 3 = nI st) : ∃ M', f_X7_advance_b52 M = some M' ∧ M'.1 208 3 = nI (eN n B st) ∧ M'.1 208 5 = nI st ∧ M'.1 208 6 = nI (vlN n B st) ∧ M'.2.2.1 208 4 = ctN n B st ∧ FsC M M' := by
  obtain ⟨k1, k2, k3⟩ := h
  obtain ⟨M2, d2⟩ : ∃ X, X = setI (setI M 208 5 (nI st)) 208 6 0 := ⟨_, rfl⟩
  have r2 : ∀ a k, ¬ (a = 208 ∧ (k = 5 ∨ k = 6)) → M2.1 a k = M.1 a k := fun a k h => by rw [d2, setI_n (by omega), setI_n (by omega)]
  have m2 : M2.2 = M.2 := by rw [d2]; rfl
  have r23 : M2.1 208 3 = nI st := by rw [r2 _ _ (by omega), h3]
  have r25 : M2.1 208 5 = nI st := by rw [d2, setI_n (by omega), setI_s]
  have r26 : M2.1 208 6 = 0 := by rw [d2, setI_s]
  have sc2 : ScC n B M2 := ⟨by rw [r2 _ _ (by omega), k1], k2, fun k hk => ⟨(k3 k hk).1, by rw [r2 _ _ (by omega)]; exact (k3 k hk).2⟩⟩
  have fr : ∀ (x y : Int32) (t : Nat), FsC M (setR (setI (setI M2 208 6 x) 208 3 y) 208 4 t) := fun x y t => by
    refine ⟨by show M2.2.1 = _; rw [m2], by show M2.2.2.2 = _; rw [m2], fun a k hk => ?_, fun a k hk => ?_⟩
    · rw [setR_3, if_neg hk]
      show M2.2.2.1 a k = _
      rw [m2]
    · rw [setR_1, setI_n (by omega), setI_n (by omega), r2 a k (by omega)]
  have fin : ∀ (x y : Int32) (t : Nat), x = nI (vlN n B st) → y = nI (eN n B st) → t = ctN n B st → ∀ Z, Z = setR (setI (setI M2 208 6 x) 208 3 y) 208 4 t → Z.1 208 3 = nI (eN n B st) ∧ Z.1 208 5 = nI st ∧ Z.1 208 6 = nI (vlN n B st) ∧ Z.2.2.1 208 4 = ctN n B st ∧ FsC M Z := fun x y t hx hy ht Z hZ => by
    subst hZ
    refine ⟨?_, ?_, ?_, ?_, fr x y t⟩
    · rw [setR_1, setI_s, hy]
    · rw [setR_1, setI_n (by omega), setI_n (by omega), r25]
    · rw [setR_1, setI_n (by omega), setI_s, hx]
    · rw [setR_3, if_pos ⟨rfl, rfl⟩, ht]
  unfold f_X7_advance_b52
  simp only [bnd_e]
  rw [h3, ← d2, r23, sc2.1]
  by_cases c : n ≤ st
  · rw [if_neg (fun z => by have := (lt_nI (by omega) (by omega)).mp z; omega)]
    have e : setR M2 208 4 1 = setR (setI (setI M2 208 6 0) 208 3 (nI st)) 208 4 1 := by rw [setI_id r26, setI_id r23]
    exact ⟨_, rfl, fin 0 (nI st) 1 (by unfold vlN; rw [if_pos c]; rfl) (by unfold eN; rw [if_pos c]) (by unfold ctN; rw [if_pos c]) _ e⟩
  · obtain ⟨w1, w2⟩ := sc2.2.2 st (by omega)
    rw [if_pos ((lt_nI (by omega) (by omega)).mpr (by omega)), gd_t (inb_nI (by omega) (by omega)), nI_clamp (by omega), w2, isDigit_f w1, cl_s]
    by_cases cd : dg (B st) = true
    · rw [if_pos cd, if_neg (by decide), scn_c sc2 hs r23 r25 r26, clv_s]
      exact ⟨_, rfl, fin _ _ _ (by unfold vlN; rw [if_neg c, if_pos cd]) (by unfold eN; rw [if_neg c, if_pos cd]) (by unfold ctN; rw [if_neg c, if_pos cd]) _ rfl⟩
    · rw [if_neg cd, if_pos rfl, r23, gd_t (inb_nI (by omega) (by omega)), nI_clamp (by omega), w2, isLetter_f w1, cl_s]
      by_cases cl : ltr (B st) = true
      · rw [if_pos cl, if_neg (by decide), scw_c sc2 hs (rnn_pos (by omega) cl) r23 r25 r26, clv_s]
        exact ⟨_, rfl, fin _ _ _ (by unfold vlN; rw [if_neg c, if_neg cd, if_pos cl]) (by unfold eN; rw [if_neg c, if_neg cd, if_pos cl]) (by unfold ctN; rw [if_neg c, if_neg cd, if_pos cl]) _ rfl⟩
      · rw [if_neg cl, if_pos rfl, r23, gd_t (inb_nI (by omega) (by omega)), nI_clamp (by omega), w2, ofSign_f w1, cl_s, setR_1, r23, nI_1]
        have e : setI (setR M2 208 4 (sgC (B st))) 208 3 (nI (st + 1)) = setR (setI (setI M2 208 6 0) 208 3 (nI (st + 1))) 208 4 (sgC (B st)) := by rw [setI_id r26]; rfl
        exact ⟨_, rfl, fin 0 (nI (st + 1)) _ (by unfold vlN; rw [if_neg c, if_neg cd, if_neg cl]; rfl) (by unfold eN; rw [if_neg c, if_neg cd, if_neg cl]) (by unfold ctN; rw [if_neg c, if_neg cd, if_neg cl]) _ e⟩
/-- the next token's start -/
def nxt (n : Nat) (B : Nat → Nat) (k : Nat) : Nat := k + rnn bl n B k
theorem adv_c {n : Nat} {B : Nat → Nat} {M : Mem} (h : ScC n B M) {k : Nat} (hk : k ≤ n) (h3 : M.1 208 3 = nI k) : ∃ M', f_X7_advance M = some M' ∧ M'.1 208 3 = nI (eN n B (nxt n B k)) ∧ M'.1 208 5 = nI (nxt n B k) ∧ M'.1 208 6 = nI (vlN n B (nxt n B k)) ∧ M'.2.2.1 208 4 = ctN n B (nxt n B k) ∧ FsC M M' := by
  have le := rnn_le bl n B k
  have h' := h
  obtain ⟨k1, k2, k3⟩ := h
  have sc : ∀ x, ScC n B (setI M 208 3 x) := fun x => ⟨by rw [setI_n (by omega), k1], k2, fun j hj => ⟨(k3 j hj).1, by rw [setI_n (by omega)]; exact (k3 j hj).2⟩⟩
  obtain ⟨M', e', q3, q5, q6, q4, qf⟩ := adv_52 (sc (nI (nxt n B k))) (st := nxt n B k) (by unfold nxt; omega) setI_s
  refine ⟨M', ?_, q3, q5, q6, q4, qf.1, qf.2.1, fun a j hj => qf.2.2.1 a j hj, fun a j hj => by rw [qf.2.2.2 a j hj, setI_n (by omega)]⟩
  have hl := lp_for (z := fun _ => none) (s := f_X7_advance_b0_s) (fun i (f : Mem → Option Mem) => f (setI M 208 3 (nI (k + i)))) (rnn bl n B k) (some M') (fun i hi f => by
    obtain ⟨w1, w2⟩ := rnn_in hi
    obtain ⟨v1, v2⟩ := k3 _ w1
    show f_X7_advance_b0_s f (setI M 208 3 (nI (k + i))) = f (setI M 208 3 (nI (k + (i + 1))))
    unfold f_X7_advance_b0_s f_X7_advance_b39
    simp only [bnd_e]
    have e1 : nI (k + i) + 1 = nI (k + (i + 1)) := nI_1 _
    rw [setI_s, (sc _).1, if_neg (nI_ge w1 (by omega)), gd_t (inb_nI (by omega) (by omega)), nI_clamp (by omega), setI_n (by omega), v2, e1, setII]
    by_cases c : B (k + i) = 32
    · rw [if_pos ((sb_32 _ v1).1.mpr c)]
    · rw [if_neg (fun z => c ((sb_32 _ v1).1.mp z))]
      have c10 : B (k + i) = 10 := by
        unfold bl at w2
        rw [Bool.or_eq_true, beq_iff_eq, beq_iff_eq] at w2
        exact w2.resolve_left c
      rw [if_pos ((sb_32 _ v1).2.mpr c10)]) (fun f => by
    show f_X7_advance_b0_s f (setI M 208 3 (nI (k + rnn bl n B k))) = _
    unfold f_X7_advance_b0_s
    rw [setI_s, (sc _).1]
    have e'' : f_X7_advance_b52 (setI M 208 3 (nI (k + rnn bl n B k))) = some M' := e'
    by_cases c : n ≤ k + rnn bl n B k
    · rw [if_pos (le_nI (by omega) (by omega) c), e'']
    · obtain ⟨v1, v2⟩ := k3 (k + rnn bl n B k) (by omega)
      have no : ¬ (B (k + rnn bl n B k) = 32 ∨ B (k + rnn bl n B k) = 10) := fun z => rnn_out (p := bl) ⟨show k + rnn bl n B k < n by omega, by
        unfold bl
        rw [Bool.or_eq_true, beq_iff_eq, beq_iff_eq]
        exact z⟩
      rw [if_neg (nI_ge (by omega) (by omega)), gd_t (inb_nI (by omega) (by omega)), nI_clamp (by omega), setI_n (by omega), v2, if_neg (fun z => no (Or.inl ((sb_32 _ v1).1.mp z))), if_neg (fun z => no (Or.inr ((sb_32 _ v1).2.mp z))), e'']) fuel (by unfold fuel; omega)
  have e0 : setI M 208 3 (nI (k + 0)) = M := by rw [Nat.add_zero, setI_id h3]
  simp only [e0] at hl
  exact hl
