/-! THE TEXT FED: the loops -/
section FED
variable {N : Nat} {xs : Nat → Int32} {s v t : Nat} {l : List Nat} {M0 : Mem}
/-- the five numbers after k bytes -/
def VkP (M0 : Mem) (v : Nat) (g : Nat → Nat) (k : Nat) (a : Mem) : Prop := a.2 = M0.2 ∧ (∀ q, q ≠ v → a.1 q = M0.1 q) ∧ ∀ w, w < 5 → a.1 v w = nI (wdG g w (min (k - 4 * w) 4))
theorem VkP.eq {g : Nat → Nat} {k : Nat} {a : Mem} (h : VkP M0 v g k a) : EQ M0 a := ⟨by rw [h.1], by rw [h.1]⟩
theorem four_step (S : Str M0 s l) (dv : dyo M0 v 20) (lv : dln M0 v = 5) (hv : ∀ a, M0.2.2.1 s 0 = a → a ≠ v) (hsv : s ≠ v) (ht : t + 20 ≤ 600) {i : Nat} (hi : i < 20) {a : Mem} (P : VkP M0 v (fun k => tpB l (t + k)) i a) (rec7 : Nat → Int32 → Int32 → Mem → Option (Int32 × Mem)) (f : Nat → Int32 → Int32 → Nat → Int32 → Mem → Option (Int32 × Mem)) :
    ∃ a', VkP M0 v (fun k => tpB l (t + k)) (i + 1) a' ∧ f_L_feeds_b20_s N xs rec7 f s (nI l.length) (nI t) v (nI i) a = f s (nI l.length) (nI t) v (nI (i + 1)) a' := by
  have hl := S.2.2.1
  have hb := S.2.2.2.1
  have q := P.eq
  obtain ⟨p1, p2, p3⟩ := P
  have da := q.dyo dv
  have la : dln a v = 5 := by rw [q.dlq, lv]
  obtain ⟨w, m, ew, hm, hw⟩ : ∃ w m, i = 4 * w + m ∧ m < 4 ∧ w < 5 := ⟨i / 4, i % 4, by omega, by omega, by omega⟩
  have e4 : nI i / 4 = nI w := by
    show nI i / nI 4 = nI w
    rw [nI_div (by omega) (by omega), show i / 4 = w by omega]
  have rdv : a.1 v w = nI (wdG (fun k => tpB l (t + k)) w m) := by rw [p3 w hw, show min (i - 4 * w) 4 = m by omega]
  have hg : ∀ k, (fun k => tpB l (t + k)) k < 128 := fun k => tpB_lt hb _
  have w3 := wdG_3 hg w hm
  have key : ∀ c : Nat, c = tpB l (t + i) → f_L_feeds_b64 N xs rec7 f s (nI l.length) (nI t) v (nI i) v (nI w) ((a.1 v (nI w).toNatClampNeg) <<< ((8 : Int32) &&& 31)) (nI c) a = f s (nI l.length) (nI t) v (nI (i + 1)) (setI a v w (nI (wdG (fun k => tpB l (t + k)) w (m + 1)))) := fun c ec => by
    have c128 : c < 128 := by rw [ec]; exact tpB_lt hb _
    unfold f_L_feeds_b64
    refine (gd_t (dq3 da)).trans ((gd_t (inb_nI (by rw [la]; exact hw) (by rw [la]; decide))).trans ?_)
    rw [bnd_e, nI_clamp (by omega), rdv, wd_put w3 (by omega), bnd_e, nI_1]
    rw [show 256 * wdG (fun k => tpB l (t + k)) w m + c = wdG (fun k => tpB l (t + k)) w (m + 1) from by
      show _ = 256 * wdG (fun k => tpB l (t + k)) w m + tpB l (t + (4 * w + m))
      rw [ec, ew]]
  refine ⟨setI a v w (nI (wdG (fun k => tpB l (t + k)) w (m + 1))), ⟨p1, fun q hq => ?_, fun w' hw' => ?_⟩, ?_⟩
  · rw [← p2 q hq]
    exact funext (fun k => setI_n (Or.inl hq))
  · by_cases z : w' = w
    · subst z
      rw [setI_s, show min (i + 1 - 4 * w') 4 = m + 1 by omega]
    · rw [setI_n (Or.inr z), p3 w' hw', show min (i + 1 - 4 * w') 4 = min (i - 4 * w') 4 by omega]
  · unfold f_L_feeds_b20_s
    rw [if_neg (show ¬ (20 : Int32) ≤ nI i from nge (a := i) (b := 20) (by omega) (by omega) hi), gd_t (dq3 da), e4]
    refine (gd_t (inb_nI (by rw [la]; exact hw) (by rw [la]; decide))).trans ?_
    rw [nI_add]
    by_cases c : l.length ≤ t + i
    · rw [if_pos (le_nI (by omega) (by omega) c)]
      exact key 32 (by unfold tpB; rw [if_neg (by omega)])
    · rw [if_neg (nge (by omega) (by omega) (by omega))]
      have Sa' : Str a s l := by
        obtain ⟨d, s1, sl, sb, b, eb, db, lb, sv⟩ := S
        have nb := hv b eb
        exact ⟨q.dyo d, by rw [p2 s hsv]; exact s1, sl, sb, b, by rw [p1]; exact eb, q.dyo db, by rw [q.dlq, lb], fun k hk => by rw [p2 b nb]; exact sv k hk⟩
      rw [gd_t (dq3 Sa'.1), chr_at Sa' (by omega), cl_s]
      exact key _ (by unfold tpB; rw [if_pos (by omega)])
/-- a stretch of twenty bytes -/
theorem twenty {Q : Option (Int32 × Mem) → Prop} (S : Str M0 s l) (dv : dyo M0 v 20) (lv : dln M0 v = 5) (hv : ∀ a, M0.2.2.1 s 0 = a → a ≠ v) (hsv : s ≠ v) (ht : t + 20 ≤ 600) (z0 : M0.1 v = fun _ => 0) (hI : Inv M0) (t1 : M0.1 64 1 = nI t) (t2 : M0.1 311 2 = nI t) (rec7 : Nat → Int32 → Int32 → Mem → Option (Int32 × Mem))
    (k : ∀ M', Inv M' → M'.1 64 1 = nI (t + 20) → M'.1 311 2 = nI (t + 20) → (∀ k, M'.1 312 k = if t ≤ k ∧ k < t + 20 then sb (tpB l k) else M0.1 312 k) → M'.2 = M0.2 → (∀ a, a ≠ 64 → a ≠ 65 → a ≠ 311 → a ≠ 312 → a ≠ v → M'.1 a = M0.1 a) → Q (rec7 s (nI l.length) (nI (t + 20)) M')) : Q (f_L_feeds_b15 N xs rec7 s (nI l.length) (nI t) v M0) := by
  have hb := S.2.2.2.1
  have hg : ∀ k, (fun k => tpB l (t + k)) k < 128 := fun k => tpB_lt hb _
  refine lp_inv (s := f_L_feeds_b20_s N xs rec7) (fun i a f => f s (nI l.length) (nI t) v (nI i) a) (VkP M0 v (fun k => tpB l (t + k))) Q 20 (fun i hi a P f => Or.inr (four_step S dv lv hv hsv ht hi P rec7 f)) (fun a P f => ?_) fuel (by decide) M0 ⟨rfl, fun _ _ => rfl, fun w hw => ?_⟩
  · have q := P.eq
    obtain ⟨p1, p2, p3⟩ := P
    have da := q.dyo dv
    have la : dln a v = 5 := by rw [q.dlq, lv]
    have v10 := dv.1
    have La : Lt M0 a := ⟨q.gx, fun c hc => p2 c (by omega), fun c _ _ => by rw [p1]⟩
    have rd : ∀ w, w < 5 → a.1 v w = nI (wdG (fun k => tpB l (t + k)) w 4) := fun w hw => by rw [p3 w hw, show min (20 - 4 * w) 4 = 4 by omega]
    obtain ⟨M', h1, h2, h3, h4, h5, h6, h7⟩ := feedG_f (hI.lt La) (t := t) (by rw [p2 64 (by omega)]; exact t1) (by rw [p2 311 (by omega)]; exact t2) ht (a.1 v 0) (a.1 v 1) (a.1 v 2) (a.1 v 3) (a.1 v 4)
    show Q (f_L_feeds_b20_s N xs rec7 f s (nI l.length) (nI t) v (nI 20) a)
    unfold f_L_feeds_b20_s
    rw [if_pos (show (20 : Int32) ≤ nI 20 from Int32.le_refl _), gd_t (dq3 da), la, gd_t (by decide), gd_t (by decide), gd_t (by decide), gd_t (by decide), gd_t (by decide), h1, cl_s, bnd_e, show nI t + 20 = nI (t + 20) from nI_add t 20]
    refine k M' h2 h3 h4 (fun j => ?_) (h6.trans p1) (fun b b1 b2 b3 b4 b5 => (h7 b b1 b2 b3 b4).trans (p2 b b5))
    rw [h5, rd 0 (by omega), rd 1 (by omega), rd 2 (by omega), rd 3 (by omega), rd 4 (by omega), five_g hg]
    by_cases z : t ≤ j ∧ j < t + 20
    · rw [if_pos z, if_pos z, show t + (j - t) = j by omega]
    · rw [if_neg z, if_neg z, p2 312 (by omega)]
  · rw [z0, show min (0 - 4 * w) 4 = 0 by omega]
    rfl
/-- after i stretches -/
def FdP (Mb : Mem) (s : Nat) (l : List Nat) (i : Nat) (M : Mem) : Prop := Inv M ∧ M.1 64 1 = nI (20 * i) ∧ M.1 311 2 = nI (20 * i) ∧ Str M s l ∧ (∀ k, k < 20 * i → M.1 312 k = sb (tpB l k)) ∧ GX Mb M ∧ Mk Mb M i (5 * i) ∧ 247 ≤ M.2.2.2
theorem feeds_f {M : Mem} (hI : Inv M) (hc : 247 ≤ M.2.2.2) (t1 : M.1 64 1 = nI 0) (t2 : M.1 311 2 = nI 0) (S : Str M s (txt (smN N xs))) : ∃ M', f_L_feeds N xs s M = some (nI (snp (smN N xs)), M') ∧ Inv M' ∧ TolS (smN N xs) M' ∧ GX M M' ∧ Mk M M' 30 150 := by
  have hs := smN_ok N xs
  have hl := txt_ln hs
  obtain ⟨l, el⟩ : ∃ l, l = txt (smN N xs) := ⟨_, rfl⟩
  rw [← el] at S hl
  have hb := S.2.2.2.1
  have len : f_J0_length_8abf5D s M = some (nI l.length, M) := by
    obtain ⟨d, s1, sl, sb, a, ea, da, la, sv⟩ := S
    unfold f_J0_length_8abf5D f_J0_coder_7d493D
    rw [ea, gd_t (dq3 d), gd_t (dq3 da), if_neg (by decide), gd_t (dq3 d), s1, gd_t (by decide), cl_s, shr0, ofN, la]
  unfold f_L_feeds
  rw [gd_t (dq3 S.1), len, cl_s]
  obtain ⟨q, hq⟩ : ∃ q, q = (l.length + 19) / 20 := ⟨_, rfl⟩
  refine lp_inv (s := f_L_feeds_b7_s N xs) (fun i a f => f s (nI l.length) (nI (20 * i)) a) (FdP M s l) (fun r => ∃ M', r = some (nI (snp (smN N xs)), M') ∧ Inv M' ∧ TolS (smN N xs) M' ∧ GX M M' ∧ Mk M M' 30 150) q (fun i hi a P f => Or.inr ?_) (fun a P f => ?_) fuel (show q < 5000 by omega) M ⟨hI, t1, t2, S, fun k hk => absurd hk (by omega), GX.refl M, ⟨by omega, by omega⟩, hc⟩
  · obtain ⟨p1, p2, p3, p4, p5, p6, p7, p8⟩ := P
    show ∃ a', FdP M s l (i + 1) a' ∧ f_L_feeds_b7_s N xs f s (nI l.length) (nI (20 * i)) a = f s (nI l.length) (nI (20 * (i + 1))) a'
    unfold f_L_feeds_b7_s
    rw [if_neg (nge (by omega) (by omega) (by omega)), bnd_e]
    obtain ⟨M2, e2⟩ : ∃ X, X = nwA 20 5 5 a := ⟨_, rfl⟩
    obtain ⟨v, ev⟩ : ∃ v, v = nn a := ⟨_, rfl⟩
    obtain ⟨dv, lv⟩ := dyo_nw (M := a) 20 5 5 p8
    have L2 : Lt a M2 := by rw [e2]; exact lt_nw p8
    have K2 : Mk a M2 1 5 := by rw [e2]; exact mk_nw _ _ _ _
    have z2 : M2.1 (nn a) = fun _ => 0 := by rw [e2]; exact nwA_Is
    have r2 : ∀ c, c ≠ v → M2.1 c = a.1 c := fun c h => by rw [e2]; exact nwA_I (by rw [← ev]; exact h)
    have u2 : ∀ c, c ≠ v → c ≠ 0 → M2.2.2.1 c = a.2.2.1 c := fun c h h0 => by rw [e2]; exact nwA_R (by rw [← ev]; exact h) h0
    have vn : v - 753 = a.2.2.2 := by rw [ev]; unfold nn; omega
    rw [← e2, ← ev] at dv lv
    rw [← ev] at z2
    have S2 : Str M2 s l := p4.off L2.1 (fun c h1 h2 => ⟨r2 c (by omega), u2 c (by omega) (by omega)⟩)
    rw [← e2, ← ev]
    have v10 := dv.1
    have nsv : s ≠ v := by have := p4.1.2.2; have := p4.1.1; omega
    refine twenty (t := 20 * i) (Q := fun r => ∃ a', FdP M s l (i + 1) a' ∧ r = f s (nI l.length) (nI (20 * (i + 1))) a') S2 dv lv (fun b eb => ?_) nsv (by omega) z2 (p1.lt L2) (by rw [r2 64 (by omega)]; exact p2) (by rw [r2 311 (by omega)]; exact p3) f (fun M' h1 h2 h3 h4 h5 h6 => ?_)
    · have p4' := p4
      obtain ⟨d, s1, sl, sb, b', eb', db', lb, sv⟩ := p4'
      have e : M2.2.2.1 s 0 = a.2.2.1 s 0 := by rw [u2 s nsv (by have := p4.1.1; omega)]
      rw [e, eb'] at eb
      rw [← eb]
      have := db'.2.2
      have := db'.1
      omega
    · have e' : 20 * (i + 1) = 20 * i + 20 := by omega
      have q' : EQ M2 M' := ⟨by rw [h5], by rw [h5]⟩
      refine ⟨M', ⟨h1, by rw [e']; exact h2, by rw [e']; exact h3, p4.off (L2.1.tr q'.gx) (fun c c1 c2 => ?_), fun k hk => ?_, p6.tr (L2.1.tr q'.gx), ((p7.tr K2).tr q'.mk).le (by omega) (by omega), Nat.le_trans p8 (L2.1.tr q'.gx).1⟩, by rw [e']⟩
      · rw [h6 c (by omega) (by omega) (by omega) (by omega) (by omega), h5, r2 c (by omega), u2 c (by omega) (by omega)]
        exact ⟨rfl, rfl⟩
      · rw [h4]
        by_cases z : 20 * i ≤ k ∧ k < 20 * i + 20
        · rw [if_pos z]
        · rw [if_neg z, r2 312 (by omega)]
          exact p5 k (by omega)
  · obtain ⟨p1, p2, p3, p4, p5, p6, p7, p8⟩ := P
    show ∃ M', f_L_feeds_b7_s N xs f s (nI l.length) (nI (20 * q)) a = some (nI (snp (smN N xs)), M') ∧ _
    unfold f_L_feeds_b7_s
    rw [if_pos (le_nI (by omega) (by omega) (by omega))]
    have tg := textG_f hs p1 (t := 20 * q) (by omega) (by rw [← el]; omega) p2 p3 (B := tpB l) (fun k hk => ⟨Nat.lt_trans (tpB_lt hb k) (by decide), p5 k hk⟩) (fun k hk => by rw [← el] at hk ⊢; unfold tpB; rw [if_pos hk])
    rw [← el] at tg
    obtain ⟨M', g1, g2, g3, -⟩ := tg
    have q' := k_X10_textG g1
    rw [g1, cl_s]
    exact ⟨M', rfl, g2, g3, p6.tr q'.gx, (p7.tr q'.mk).le (by omega) (by omega)⟩
end FED
