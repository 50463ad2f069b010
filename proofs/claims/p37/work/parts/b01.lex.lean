/-! THE LAW'S TEXT as the reference reads it: tokens (p37) -/
/-- what a token is, a number's value, a word's value -/
abbrev Tok : Type := Int32 × Nat × Nat
def Sfx (n : Nat) (B : Nat → Nat) (st : Nat) (L : List Nat) : Prop := n = st + L.length ∧ ∀ i, i < L.length → B (st + i) = L.getD i 0
def LX (n : Nat) (B : Nat → Nat) : List Tok → Nat → Prop
  | [], st => st = n
  | t :: ts, st => st < n ∧ rtN n B st = t.1 ∧ rvN n B st = t.2.1 ∧ rwN n B st = t.2.2 ∧ LX n B ts (nx n B st)
def nbh (L : List Nat) : Prop := ∀ b r, L = b :: r → bl b = false
/-- one blank or none ahead of what follows -/
def Sk (L L' : List Nat) : Prop := nbh L' ∧ (L = L' ∨ L = 32 :: L')
/-- a list of bytes is read as these tokens, wherever it is the text's end -/
def Lxs (L : List Nat) (ts : List Tok) : Prop := ∀ n B st, Sfx n B st L → LX n B ts st
theorem Sfx.tail {n st : Nat} {B : Nat → Nat} {w L : List Nat} (h : Sfx n B st (w ++ L)) : Sfx n B (st + w.length) L := by
  obtain ⟨h1, h2⟩ := h
  rw [List.length_append] at h1 h2
  refine ⟨by omega, fun i hi => ?_⟩
  have := h2 (w.length + i) (by omega)
  rw [show st + (w.length + i) = st + w.length + i by omega] at this
  rw [this, List.getD_eq_getElem?_getD, List.getD_eq_getElem?_getD, List.getElem?_append_right (by omega), show w.length + i - w.length = i by omega]
theorem Sfx.at {n st : Nat} {B : Nat → Nat} {w L : List Nat} (h : Sfx n B st (w ++ L)) {i : Nat} (hi : i < w.length) : B (st + i) = w.getD i 0 := by
  have := h.2 i (by rw [List.length_append]; omega)
  rw [this, List.getD_eq_getElem?_getD, List.getD_eq_getElem?_getD, List.getElem?_append_left hi]
theorem Sfx.hd {n st b : Nat} {B : Nat → Nat} {L : List Nat} (h : Sfx n B st (b :: L)) : st < n ∧ B st = b := by
  have h1 := h.1
  rw [List.length_cons] at h1
  exact ⟨by omega, h.2 0 (by rw [List.length_cons]; omega)⟩
theorem Sfx.tl {n st b : Nat} {B : Nat → Nat} {L : List Nat} (h : Sfx n B st (b :: L)) : Sfx n B (st + 1) L := Sfx.tail (w := [b]) h
theorem Sfx.nil {n st : Nat} {B : Nat → Nat} (h : Sfx n B st []) : st = n := h.1.symm
theorem rnn_eq {p : Nat → Bool} {n st k : Nat} {B : Nat → Nat} (hin : ∀ i, i < k → p (B (st + i)) = true) (hk : st + k ≤ n) (hout : st + k < n → p (B (st + k)) = false) : rnn p n B st = k := by
  rcases Nat.lt_trichotomy (rnn p n B st) k with h | h | h
  · exact absurd ⟨by omega, hin _ h⟩ (rnn_out (p := p) (n := n) (B := B) (k := st))
  · exact h
  · obtain ⟨q1, q2⟩ := rnn_in h
    rw [hout q1] at q2
    exact absurd q2 (by decide)
theorem hd_of {n st : Nat} {B : Nat → Nat} {L : List Nat} {p : Nat → Bool} (h : Sfx n B st L) (hp : ∀ b r, L = b :: r → p b = false) (hs : st < n) : p (B st) = false := by
  cases L with
  | nil => have := h.nil; omega
  | cons b r => rw [h.hd.2]; exact hp b r rfl
theorem nxt_sk {n a : Nat} {B : Nat → Nat} {L L' : List Nat} (h : Sfx n B a L) (hs : Sk L L') : Sfx n B (nxt n B a) L' := by
  obtain ⟨hb, e | e⟩ := hs
  · subst e
    have l := h.1
    have : rnn bl n B a = 0 := rnn_eq (fun i hi => absurd hi (Nat.not_lt_zero i)) (by omega) (fun q => by rw [Nat.add_zero]; exact hd_of h hb (by omega))
    unfold nxt
    rw [this, Nat.add_zero]
    exact h
  · subst e
    have h2 := h.tl
    have l := h2.1
    have : rnn bl n B a = 1 := rnn_eq (fun i hi => by
      rw [show a + i = a by omega, h.hd.2]; rfl) (by omega) (fun q => hd_of h2 hb q)
    unfold nxt
    rw [this]
    exact h2
theorem lxs_nil : Lxs [] [] := fun _ _ _ h => h.nil
theorem wv_cong {B B' : Nat → Nat} {a b : Nat} : ∀ k, (∀ i, i < k → B (a + i) = B' (b + i)) → wv B a k = wv B' b k
  | 0, _ => rfl
  | k + 1, h => by
    show (if k < 6 then wv B a k * 32 + (B (a + k) - 96) else wv B a k) = if k < 6 then wv B' b k * 32 + (B' (b + k) - 96) else wv B' b k
    rw [wv_cong k (fun i hi => h i (by omega)), h k (Nat.lt_succ_self k)]
theorem nv_cong {B B' : Nat → Nat} {a b : Nat} : ∀ k, (∀ i, i < k → B (a + i) = B' (b + i)) → nv B a k = nv B' b k
  | 0, _ => rfl
  | k + 1, h => by
    show (if k < 4 then nv B a k * 10 + (B (a + k) - 48) else nv B a k) = if k < 4 then nv B' b k * 10 + (B' (b + k) - 48) else nv B' b k
    rw [nv_cong k (fun i hi => h i (by omega)), h k (Nat.lt_succ_self k)]
def pkw (w : List Nat) : Nat := wv (fun i => w.getD i 0) 0 w.length
def pkn (w : List Nat) : Nat := nv (fun i => w.getD i 0) 0 w.length
theorem ltr_dg {b : Nat} (h : ltr b = true) : dg b = false := by
  cases q : dg b with
  | false => rfl
  | true => rw [dg_ltr q] at h; exact absurd h (by decide)
theorem lxs_word {w L L' : List Nat} {ts : List Tok} (hw : ∀ i, i < w.length → ltr (w.getD i 0) = true) (h0 : 0 < w.length) (h6 : w.length ≤ 6) (hL : ∀ b r, L = b :: r → ltr b = false) (hs : Sk L L') (ih : Lxs L' ts) : Lxs (w ++ L) ((1, 0, pkw w) :: ts) := by
  intro n B st h
  have t := h.tail
  have l := t.1
  have e : ∀ i, i < w.length → ltr (B (st + i)) = true := fun i hi => by rw [h.at hi]; exact hw i hi
  have r : rnn ltr n B st = w.length := rnn_eq e (by omega) (fun q => hd_of t hL q)
  have b0 := e 0 h0
  rw [Nat.add_zero] at b0
  have d0 := ltr_dg b0
  have en : eN n B st = st + w.length := by
    unfold eN
    rw [if_neg (by omega), if_neg (by rw [d0]; decide), if_pos b0, r]
  refine ⟨by omega, ?_, ?_, ?_, ?_⟩
  · unfold rtN
    rw [if_neg (by omega), if_neg (by rw [d0]; decide), if_pos b0, r, if_neg (by omega)]
  · unfold rvN
    rw [if_neg (by omega), if_neg (by rw [d0]; decide)]
  · unfold rwN
    rw [if_neg (by omega), if_neg (by rw [d0]; decide), if_pos b0, r]
    exact wv_cong _ (fun i hi => by rw [h.at hi, Nat.zero_add])
  · unfold nx
    rw [en]
    exact ih _ _ _ (nxt_sk t hs)
theorem lxs_num {w L L' : List Nat} {ts : List Tok} (hw : ∀ i, i < w.length → dg (w.getD i 0) = true) (h0 : 0 < w.length) (h4 : w.length ≤ 4) (hL : ∀ b r, L = b :: r → dg b = false) (hs : Sk L L') (ih : Lxs L' ts) : Lxs (w ++ L) ((2, pkn w, 0) :: ts) := by
  intro n B st h
  have t := h.tail
  have l := t.1
  have e : ∀ i, i < w.length → dg (B (st + i)) = true := fun i hi => by rw [h.at hi]; exact hw i hi
  have r : rnn dg n B st = w.length := rnn_eq e (by omega) (fun q => hd_of t hL q)
  have b0 := e 0 h0
  rw [Nat.add_zero] at b0
  have en : eN n B st = st + w.length := by
    unfold eN
    rw [if_neg (by omega), if_pos b0, r]
  refine ⟨by omega, ?_, ?_, ?_, ?_⟩
  · unfold rtN
    rw [if_neg (by omega), if_pos b0, r, if_neg (by omega)]
  · unfold rvN
    rw [if_neg (by omega), if_pos b0, r]
    exact nv_cong _ (fun i hi => by rw [h.at hi, Nat.zero_add])
  · unfold rwN
    rw [if_neg (by omega), if_pos b0]
  · unfold nx
    rw [en]
    exact ih _ _ _ (nxt_sk t hs)
theorem lxs_sign {b : Nat} {L L' : List Nat} {ts : List Tok} (hb : dg b = false ∧ ltr b = false) (hs : Sk L L') (ih : Lxs L' ts) : Lxs (b :: L) ((sgR b, 0, 0) :: ts) := by
  intro n B st h
  have t := h.tl
  obtain ⟨h1, h2⟩ := h.hd
  have en : eN n B st = st + 1 := by
    unfold eN
    rw [if_neg (by omega), h2, if_neg (by rw [hb.1]; decide), if_neg (by rw [hb.2]; decide)]
  refine ⟨h1, ?_, ?_, ?_, ?_⟩
  · unfold rtN
    rw [if_neg (by omega), h2, if_neg (by rw [hb.1]; decide), if_neg (by rw [hb.2]; decide)]
  · unfold rvN
    rw [if_neg (by omega), h2, if_neg (by rw [hb.1]; decide)]
  · unfold rwN
    rw [if_neg (by omega), h2, if_neg (by rw [hb.1]; decide), if_neg (by rw [hb.2]; decide)]
  · unfold nx
    rw [en]
    exact ih _ _ _ (nxt_sk t hs)
/-! numbers as the law writes them -/
def dec (v : Nat) : List Nat := if v < 10 then [48 + v] else if v < 100 then [48 + v / 10, 48 + v % 10] else [48 + v / 100, 48 + v / 10 % 10, 48 + v % 10]
theorem dec_ok : ∀ v, v < 1000 → (∀ i, i < (dec v).length → dg ((dec v).getD i 0) = true) ∧ 0 < (dec v).length ∧ (dec v).length ≤ 4 ∧ pkn (dec v) = v := by decide +kernel
theorem lxs_dec {v : Nat} {L L' : List Nat} {ts : List Tok} (hv : v < 1000) (hL : ∀ b r, L = b :: r → dg b = false) (hs : Sk L L') (ih : Lxs L' ts) : Lxs (dec v ++ L) ((2, v, 0) :: ts) := by
  obtain ⟨h1, h2, h3, h4⟩ := dec_ok v hv
  have := lxs_num h1 h2 h3 hL hs ih
  rw [h4] at this
  exact this
