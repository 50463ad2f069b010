/-! THE GHOST'S STEPS (p37): after feed and text of the class the reference's are done on the ghost rows -/
def gmerge (M M' : Mem) : Mem := (fun a k => if 311 ≤ a ∧ a ≤ 346 then M'.1 a k else M.1 a k, fun a k => if 311 ≤ a ∧ a ≤ 346 then M'.2.1 a k else M.2.1 a k, M.2.2)
/-- only ghost rows differ -/
def Gho (M M' : Mem) : Prop := M'.2.2 = M.2.2 ∧ (∀ a k, a < 311 ∨ 346 < a → M'.1 a k = M.1 a k) ∧ ∀ a k, a < 311 ∨ 346 < a → M'.2.1 a k = M.2.1 a k
theorem gmerge_gho (M M' : Mem) : Gho M (gmerge M M') := ⟨rfl, fun a k h => if_neg (by omega), fun a k h => if_neg (by omega)⟩
theorem gmerge_eq {M M' : Mem} (h : Gho M M') : gmerge M M' = M' := by
  obtain ⟨h1, h2, h3⟩ := h
  unfold gmerge
  rw [← h1]
  refine Prod.ext (funext (fun a => funext (fun k => ?_))) (Prod.ext (funext (fun a => funext (fun k => ?_))) rfl)
  · show (if 311 ≤ a ∧ a ≤ 346 then M'.1 a k else M.1 a k) = M'.1 a k
    by_cases c : 311 ≤ a ∧ a ≤ 346
    · rw [if_pos c]
    · rw [if_neg c, h2 a k (by omega)]
  · show (if 311 ≤ a ∧ a ≤ 346 then M'.2.1 a k else M.2.1 a k) = M'.2.1 a k
    by_cases c : 311 ≤ a ∧ a ≤ 346
    · rw [if_pos c]
    · rw [if_neg c, h3 a k (by omega)]
def gho (g : Mem → Option (Int32 × Mem)) (q : Option (Int32 × Mem)) : Option (Int32 × Mem) := match q with
  | none => none
  | some (r, M1) => match g M1 with
    | none => some (r, M1)
    | some (_, M2) => some (r, gmerge M1 M2)
theorem gho_f {g : Mem → Option (Int32 × Mem)} {r r' : Int32} {M1 M2 : Mem} (h : g M1 = some (r', M2)) (k : Gho M1 M2) : gho g (some (r, M1)) = some (r, M2) := by
  show (match g M1 with
    | none => some (r, M1)
    | some (_, M2) => some (r, gmerge M1 M2)) = _
  rw [h]
  show some (r, gmerge M1 M2) = _
  rw [gmerge_eq k]
def f_X10_feedG (x1 x2 x3 x4 x5 : Int32) (M : Mem) : Option (Int32 × Mem) := gho (f_X11_feed x1 x2 x3 x4 x5) (f_X10_feed x1 x2 x3 x4 x5 M)
def f_X10_textG (x : Int32) (M : Mem) : Option (Int32 × Mem) := gho (f_X11_text x) (f_X10_text x M)
theorem feedG_f {M : Mem} (hI : Inv M) {t : Nat} (t1 : M.1 64 1 = nI t) (t2 : M.1 311 2 = nI t) (c : t + 20 ≤ 600) (x1 x2 x3 x4 x5 : Int32) :
    ∃ M', f_X10_feedG x1 x2 x3 x4 x5 M = some (nI (t + 20), M') ∧ Inv M' ∧ M'.1 64 1 = nI (t + 20) ∧ M'.1 311 2 = nI (t + 20) ∧ M'.1 312 = five x1 x2 x3 x4 x5 t (M.1 312) ∧ M'.2 = M.2 ∧ (∀ a, a ≠ 64 → a ≠ 65 → a ≠ 311 → a ≠ 312 → M'.1 a = M.1 a) := by
  have s20 : nI t + 20 = nI (t + 20) := nI_add _ _
  have ci : nI (t + 20) ≤ 600 := le_nI (b := 600) (by omega) (by omega) c
  have rd : ∀ (d : Nat → Int32) (x : Int32), (setI (sA M 65 d) 64 1 x).1 65 = d := fun d x => funext (fun k => by rw [setI_n (Or.inl (by omega)), sA_s])
  have gc : f_X10_feed x1 x2 x3 x4 x5 M = some (nI (t + 20), setI (sA M 65 (five x1 x2 x3 x4 x5 t (M.1 65))) 64 1 (nI (t + 20))) := by
    unfold f_X10_feed
    rw [t1, s20, if_pos ci, put_c M x1 (by omega) t1, clv_s, put_c _ x2 (by omega) setI_s, clv_s, rd, set2 _ _ _ _ _ _ _ _ (by omega), put_c _ x3 (by omega) setI_s, clv_s, rd, set2 _ _ _ _ _ _ _ _ (by omega), put_c _ x4 (by omega) setI_s, clv_s, rd, set2 _ _ _ _ _ _ _ _ (by omega), put_c _ x5 (by omega) setI_s, clv_s, rd, set2 _ _ _ _ _ _ _ _ (by omega), setI_s]
    rfl
  obtain ⟨M1, d1⟩ : ∃ X, X = setI (sA M 65 (five x1 x2 x3 x4 x5 t (M.1 65))) 64 1 (nI (t + 20)) := ⟨_, rfl⟩
  rw [← d1] at gc
  have r1 : ∀ a, a ≠ 65 → a ≠ 64 → M1.1 a = M.1 a := fun a h1 h2 => funext (fun k => by rw [d1, setI_n (Or.inl h2), sA_n _ _ _ h1])
  have r641 : M1.1 64 1 = nI (t + 20) := by rw [d1, setI_s]
  obtain ⟨M3, d3⟩ : ∃ X, X = setI M1 311 0 0 := ⟨_, rfl⟩
  have r3 : ∀ a, a ≠ 311 → M3.1 a = M1.1 a := fun a h => funext (fun k => by rw [d3, setI_n (Or.inl h)])
  have r3k : ∀ k, k ≠ 0 → M3.1 311 k = M.1 311 k := fun k h => by rw [d3, setI_n (Or.inr h), r1 311 (by omega) (by omega)]
  have z3 : M3.1 311 2 = nI t := by rw [r3k 2 (by omega), t2]
  have rd2 : ∀ (d : Nat → Int32) (x : Int32), (setI (sA M3 312 d) 311 2 x).1 312 = d := fun d x => funext (fun k => by rw [setI_n (Or.inl (by omega)), sA_s])
  have gr : f_X11_feed x1 x2 x3 x4 x5 M1 = some (nI (t + 20), setI (sA M3 312 (five x1 x2 x3 x4 x5 t (M3.1 312))) 311 2 (nI (t + 20))) := by
    unfold f_X11_feed
    rw [bnd_e, ← d3, z3, s20, if_pos ci, put_r M3 x1 (by omega) z3, clv_s, put_r _ x2 (by omega) setI_s, clv_s, rd2, set2 _ _ _ _ _ _ _ _ (by omega), put_r _ x3 (by omega) setI_s, clv_s, rd2, set2 _ _ _ _ _ _ _ _ (by omega), put_r _ x4 (by omega) setI_s, clv_s, rd2, set2 _ _ _ _ _ _ _ _ (by omega), put_r _ x5 (by omega) setI_s, clv_s, rd2, set2 _ _ _ _ _ _ _ _ (by omega), setI_s]
    rfl
  obtain ⟨M4, d4⟩ : ∃ X, X = setI (sA M3 312 (five x1 x2 x3 x4 x5 t (M3.1 312))) 311 2 (nI (t + 20)) := ⟨_, rfl⟩
  rw [← d4] at gr
  have r4 : ∀ a, a ≠ 312 → a ≠ 311 → M4.1 a = M3.1 a := fun a h1 h2 => funext (fun k => by rw [d4, setI_n (Or.inl h2), sA_n _ _ _ h1])
  have r42 : M4.1 311 2 = nI (t + 20) := by rw [d4, setI_s]
  have r312 : M4.1 312 = five x1 x2 x3 x4 x5 t (M.1 312) := by rw [d4, rd2, r3 312 (by omega), r1 312 (by omega) (by omega)]
  have q1 : ∀ a, a ≠ 311 → a ≠ 312 → M4.1 a = M1.1 a := fun a h3 h4 => by rw [r4 a h4 h3, r3 a h3]
  have m4 : M4.2 = M1.2 := by rw [d4, d3]; rfl
  have m1 : M1.2 = M.2 := by rw [d1]; rfl
  obtain ⟨r, N1, N2, f1, g1, i2, -⟩ := do_feed x1 x2 x3 x4 x5 M hI
  have e1 : N1 = M1 := congrArg Prod.snd (Option.some.inj (f1.symm.trans gc))
  rw [e1] at g1
  have e2 : N2 = M4 := congrArg Prod.snd (Option.some.inj (g1.symm.trans gr))
  rw [e2] at i2
  refine ⟨M4, ?_, i2, ?_, r42, r312, m4.trans m1, fun a h1 h2 h3 h4 => ?_⟩
  · unfold f_X10_feedG
    rw [gc]
    exact gho_f gr ⟨by rw [m4], fun a k h => by rw [q1 a (by omega) (by omega)], fun a k h => by rw [m4]⟩
  · rw [q1 64 (by omega) (by omega), r641]
  · rw [q1 a h3 h4, r1 a h2 h1]
/-- what a text of the class leaves -/
theorem text_fr {M : Mem} (hI : Inv M) {t n : Nat} (ht : t ≤ 600) (hn : n ≤ t) (e1 : M.1 64 1 = nI t) {B : Nat → Nat} (hB : ∀ k, k < t → B k < 256 ∧ M.1 312 k = sb (B k)) :
    ∃ r M1, f_X10_text (nI n) M = some (r, M1) ∧ M1.2.1 = M.2.1 ∧ M1.2.2.2 = M.2.2.2 ∧ (∀ a k, a ≠ 64 → a ≠ 208 → a ≠ 210 → M1.2.2.1 a k = M.2.2.1 a k) ∧ ∀ a k, 311 ≤ a → M1.1 a k = M.1 a k := by
  obtain ⟨T, eT⟩ : ∃ T, T = M.2.2.1 64 3 := ⟨_, rfl⟩
  obtain ⟨U, eU⟩ : ∃ U, U = M.2.2.1 64 2 := ⟨_, rfl⟩
  have e203 : T + U = 203 := by
    have q := hI.2.2.2.2.2.2
    rw [← eT, ← eU] at q
    omega
  obtain ⟨hT, run⟩ := text_run hI e1 ht hn (Mr := M) (fun _ _ _ => rfl) B hB
  rw [← eT] at hT run
  have tc := tt_208 hT
  rcases run with ⟨st, Mc, Mr, q1, -, P, fc, -⟩ | ⟨Mc, Mr, q1, -, -, fc, -⟩
  · obtain ⟨p1, p2, p3, p4⟩ := P.cnt (s := 1) (by omega)
    have m1 : mxS 1 = 4 := by decide
    obtain ⟨M1, z1, z2, z3, ⟨-, -, z6⟩, -, -, -, z8⟩ := b93_f P.tt (U := U) (by rw [fc.2.2.1 _ _ (by omega) (by omega), eU]) (by rw [fc.2.2.1 _ _ (by omega) (by omega), eT]) p3 (by omega)
    exact ⟨_, M1, by rw [q1, z1], by rw [z2, fc.1], by rw [z3, fc.2.1], fun a k h1 h2 h3 => by rw [z6 a k (by omega), fc.2.2.1 a k (by omega) h3], fun a k h => by rw [z8 a k (by omega) (by omega) (by omega) (by omega) (by omega) (by omega), fc.2.2.2.2 _ _ (by omega) (by omega) (by omega) (by omega) (by omega)]⟩
  · exact ⟨_, Mc, q1, fc.1, fc.2.1, fun a k h1 h2 h3 => fc.2.2.1 a k (by omega) h3, fun a k h => fc.2.2.2.2 _ _ (by omega) (by omega) (by omega) (by omega) (by omega)⟩
theorem textG_f {sm : Nat → Nat → Nat} (hs : SmO sm) {M : Mem} (hI : Inv M) {t : Nat} (ht : t ≤ 600) (hn : (txt sm).length ≤ t) (e1 : M.1 64 1 = nI t) (e2 : M.1 311 2 = nI t) {B : Nat → Nat} (hB : ∀ k, k < t → B k < 256 ∧ M.1 312 k = sb (B k)) (hb : ∀ k, k < (txt sm).length → B k = (txt sm).getD k 0) :
    ∃ M', f_X10_textG (nI (txt sm).length) M = some (nI (snp sm), M') ∧ Inv M' ∧ TolS sm M' ∧ M'.2.2.2 = M.2.2.2 ∧ (∀ a k, a ≠ 64 → a ≠ 208 → a ≠ 210 → M'.2.2.1 a k = M.2.2.1 a k) ∧ (∀ a k, 346 < a → M'.1 a k = M.1 a k) ∧ ∀ a k, 346 < a → M'.2.1 a k = M.2.1 a k := by
  obtain ⟨r, M1, f1, k1, k2, k3, k4⟩ := text_fr hI ht hn e1 hB
  obtain ⟨M2, g1, d1, d2, d3, d4⟩ := txt_told hs (M := M1) ht hn (by rw [k4 _ _ (by omega), e2]) (fun k hk => by rw [k4 _ _ (by omega)]; exact hB k hk) hb
  obtain ⟨r', N1, N2, f2, g2, i2, -⟩ := do_text (nI (txt sm).length) M hI
  have ee := Option.some.inj (f2.symm.trans f1)
  have er : r' = r := congrArg Prod.fst ee
  have e1' : N1 = M1 := congrArg Prod.snd ee
  rw [e1', g1] at g2
  have gg := Option.some.inj g2
  have er2 : nI (snp sm) = r' := congrArg Prod.fst gg
  have e3 : M2 = N2 := congrArg Prod.snd gg
  rw [← e3] at i2
  refine ⟨M2, ?_, i2, d1, by rw [d2, k2], fun a k h1 h2 h3 => by rw [d2]; exact k3 a k h1 h2 h3, fun a k h => by rw [d3 a k (Or.inr h), k4 a k (by omega)], fun a k h => by rw [d4 a k (Or.inr h), k1]⟩
  unfold f_X10_textG
  rw [f1, er2, er]
  exact gho_f g1 ⟨d2, d3, d4⟩
