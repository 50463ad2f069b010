/-! what is told, cleared -/
def fil (L : Nat) (x : Int32) (j : Nat) (d : Nat → Int32) : Nat → Int32 := fun i => if i < j then x else d i
theorem fil_s (L : Nat) (x : Int32) (j : Nat) (d : Nat → Int32) : upd (fil L x j d) j x = fil L x (j + 1) d := by
  funext i
  show (if i = j then x else if i < j then x else d i) = if i < j + 1 then x else d i
  by_cases c : i = j
  · rw [if_pos c, if_pos (by omega)]
  · rw [if_neg c]
    by_cases c2 : i < j
    · rw [if_pos c2, if_pos (by omega)]
    · rw [if_neg c2, if_neg (by omega)]
theorem sA_rw (M : Mem) (n : Nat) (d : Nat → Int32) : (sA M n d).1 n = d := funext (fun k => sA_s M n d k)
theorem sA_two (M : Mem) (n : Nat) (d d' : Nat → Int32) : sA (sA M n d) n d' = sA M n d' := by
  unfold sA
  congr 1
  funext a k
  show (if a = n then d' k else if a = n then d k else M.1 a k) = if a = n then d' k else M.1 a k
  by_cases c : a = n
  · rw [if_pos c, if_pos c]
  · rw [if_neg c, if_neg c, if_neg c]
theorem fill_f {n0 L : Nat} (h1 : shc n0 = 20) (h2 : shl n0 = L) (hL : L < 5000) (x : Int32) (M : Mem) : f_J7_fill_53178 n0 x M = some (sA M n0 (fil L x L (M.1 n0))) := by
  have hl := lp_for (z := fun _ _ _ _ _ => none) (s := f_J7_fill_53178_b5_s) (fun j (f : Nat → Int32 → Int32 → Int32 → Mem → Option Mem) => f n0 x (nI j) (nI L) (sA M n0 (fil L x j (M.1 n0)))) L (some (sA M n0 (fil L x L (M.1 n0)))) (fun j hj f => by
    show f_J7_fill_53178_b5_s f n0 x (nI j) (nI L) (sA M n0 (fil L x j (M.1 n0))) = f n0 x (nI (j + 1)) (nI L) (sA M n0 (fil L x (j + 1) (M.1 n0)))
    unfold f_J7_fill_53178_b5_s
    rw [if_neg (show ¬ nI L ≤ nI j from nI_ge hj (by omega)), gd_t h1, h2, gd_t (inb_nI (by omega) (by omega)), nI_clamp (by omega), setI_sA, sA_rw, sA_two, fil_s, bnd_e, nI_1, bnd_e]) (fun f => by
    show f_J7_fill_53178_b5_s f n0 x (nI L) (nI L) (sA M n0 (fil L x L (M.1 n0))) = _
    unfold f_J7_fill_53178_b5_s
    rw [if_pos (show nI L ≤ nI L from le_nI (by omega) (by omega) (Nat.le_refl _))]) fuel (by unfold fuel; omega)
  have e0 : fil L x 0 (M.1 n0) = M.1 n0 := funext (fun i => if_neg (by omega))
  simp only [e0, sA_self] at hl
  unfold f_J7_fill_53178
  rw [gd_t h1, h2, bnd_e]
  exact hl
def dgo (j : Nat) (d : Nat → Int32) : Nat → Int32 := fun i => if i % 11 = 0 ∧ i / 11 < j then 0 else d i
theorem dgo_s (j : Nat) (d : Nat → Int32) : upd (dgo j d) (11 * j) 0 = dgo (j + 1) d := by
  funext i
  show (if i = 11 * j then 0 else if i % 11 = 0 ∧ i / 11 < j then 0 else d i) = if i % 11 = 0 ∧ i / 11 < j + 1 then 0 else d i
  by_cases c : i = 11 * j
  · rw [if_pos c, if_pos (by omega)]
  · rw [if_neg c]
    by_cases c2 : i % 11 = 0 ∧ i / 11 < j
    · rw [if_pos c2, if_pos (by omega)]
    · rw [if_neg c2, if_neg (by omega)]
theorem sh_c {T : Nat} (h : TT T) : shc (T + 4) = 20 ∧ shl (T + 4) = 100 := tt_all (P := fun T => shc (T + 4) = 20 ∧ shl (T + 4) = 100) h (by decide +kernel) (by decide +kernel)
theorem clr2_f {T : Nat} (hT : TT T) (M : Mem) : f_X2_clear (T + 3) M = some (setI (sA M (T + 4) (dgo 10 (fil 100 268435456 100 (M.1 (T + 4))))) (T + 3) 1 0) := by
  obtain ⟨s1, -⟩ := tt_c hT
  obtain ⟨s2, s3⟩ := sh_c hT
  obtain ⟨-, -, -, tr, -⟩ := tt_r hT
  obtain ⟨D, hD⟩ : ∃ D, D = fil 100 268435456 100 (M.1 (T + 4)) := ⟨_, rfl⟩
  have hl := lp_for (z := fun _ _ _ => none) (s := f_X2_clear_b11_s) (fun j (f : Nat → Int32 → Mem → Option Mem) => f (T + 3) (nI j) (sA M (T + 4) (dgo j D))) 10 (some (setI (sA M (T + 4) (dgo 10 D)) (T + 3) 1 0)) (fun j hj f => by
    show f_X2_clear_b11_s f (T + 3) (nI j) (sA M (T + 4) (dgo j D)) = f (T + 3) (nI (j + 1)) (sA M (T + 4) (dgo (j + 1) D))
    have e : nI j * 10 + nI j = nI (11 * j) := by rw [show (10 : Int32) = nI 10 from rfl, nI_mul', nI_add]; congr 1; omega
    unfold f_X2_clear_b11_s
    rw [if_neg (show ¬ (10 : Int32) ≤ nI j from nI_ge (a := j) (b := 10) hj (by omega)), gd_t s1, e, gd_t (inb_nI (by omega) (by omega)), nI_clamp (by omega), tr, setI_sA, sA_rw, sA_two, dgo_s, bnd_e, nI_1, bnd_e]) (fun f => by
    show f_X2_clear_b11_s f (T + 3) (nI 10) (sA M (T + 4) (dgo 10 D)) = _
    unfold f_X2_clear_b11_s
    rw [if_pos (show (10 : Int32) ≤ nI 10 by decide), gd_t s1, bnd_e]) fuel (by unfold fuel; omega)
  have e0 : dgo 0 D = D := funext (fun i => if_neg (by omega))
  simp only [e0] at hl
  unfold f_X2_clear
  rw [gd_t s1, tr, fill_f s2 s3 (by omega), clv_s, ← hD]
  exact hl
theorem dini_ok (d : Nat → Int32) : BOk (dgo 10 (fil 100 268435456 100 d)) ∧ Tig (fun _ _ _ => False) (cm (dgo 10 (fil 100 268435456 100 d))) := by
  have v : ∀ i, i < 100 → dgo 10 (fil 100 268435456 100 d) i = if i % 11 = 0 then 0 else 268435456 := fun i hi => by
    show (if i % 11 = 0 ∧ i / 11 < 10 then 0 else if i < 100 then 268435456 else d i) = _
    by_cases c : i % 11 = 0
    · rw [if_pos c, if_pos (by omega)]
    · rw [if_neg c, if_neg (by omega), if_pos hi]
  have w : ∀ a b, cm (dgo 10 (fil 100 268435456 100 d)) a b = if a < 10 ∧ a = b then 0 else IN := fun a b => by
    by_cases c : a < 10 ∧ b < 10
    · rw [cm_in _ c.1 c.2, v _ (by omega)]
      by_cases e : a = b
      · rw [if_pos (show (10 * b + a) % 11 = 0 by omega), if_neg (show ¬ (0 : Int32) = 268435456 by decide), if_pos ⟨c.1, e⟩]
        rfl
      · rw [if_neg (show ¬ (10 * b + a) % 11 = 0 by omega), if_pos rfl, if_neg (fun z => e z.2)]
    · have q : cm (dgo 10 (fil 100 268435456 100 d)) a b = IN := if_neg c
      rw [q, if_neg (by omega)]
  have in0 : IN ≠ 0 := by unfold IN; decide
  refine ⟨fun i hi => ?_, ⟨fun a ha => by rw [w, if_pos ⟨ha, rfl⟩], fun a b c ha hb hc h1 h2 => ?_⟩, fun a b x h => absurd h id, fun a b h => ?_, fun a b => ?_⟩
  · rw [v i hi]
    by_cases c : i % 11 = 0
    · rw [if_pos c]; exact Or.inr (by decide)
    · rw [if_neg c]; exact Or.inl rfl
  · rw [w] at h1 h2
    rw [w, w, w]
    by_cases e1 : a < 10 ∧ a = b
    · by_cases e2 : b < 10 ∧ b = c
      · rw [if_pos (show a < 10 ∧ a = c by omega), if_pos e1, if_pos e2]
        decide
      · rw [if_neg e2] at h2; exact absurd rfl h2
    · rw [if_neg e1] at h1; exact absurd rfl h1
  · rw [w] at h ⊢
    by_cases e1 : a < 10 ∧ a = b
    · rw [if_pos e1, e1.2]; exact Der.refl _ _
    · rw [if_neg e1] at h; exact absurd rfl h
  · rw [w]
    by_cases e1 : a < 10 ∧ a = b
    · rw [if_pos e1]; exact Or.inr (by decide)
    · rw [if_neg e1]; exact Or.inl rfl
