/-! what an asking changes, at most; the review, by both -/
def Near (M M' : Mem) : Prop := M'.2 = M.2 ∧ ∀ a k, ¬ (212 ≤ a ∧ a ≤ 216) → a ≠ 344 → ¬ (a = 311 ∧ (k = 0 ∨ k = 44)) → M'.1 a k = M.1 a k
theorem Near.refl (M : Mem) : Near M M := ⟨rfl, fun _ _ _ _ _ => rfl⟩
theorem Near.tr {M M' M'' : Mem} (h : Near M M') (h' : Near M' M'') : Near M M'' := ⟨h'.1.trans h.1, fun a k h1 h2 h3 => (h'.2 a k h1 h2 h3).trans (h.2 a k h1 h2 h3)⟩
theorem Near.sm {M M' : Mem} (T : Nat) (h : Near M M') : Sm T M M' := ⟨h.1, fun a k h1 h2 h3 _ => h.2 a k h1 h2 h3⟩
theorem Near.row {M M' : Mem} (h : Near M M') {a : Nat} (h1 : ¬ (212 ≤ a ∧ a ≤ 216)) (h2 : a ≠ 344) (h3 : a ≠ 311) : M'.1 a = M.1 a := funext (fun k => h.2 a k h1 h2 (fun z => h3 z.1))
theorem Near.dat {M M' : Mem} (h : Near M M') : Dat M M' := fun a h1 h2 _ => h.row (by omega) (by omega) (by omega)
theorem OffJ.near {M M' : Mem} (h : OffJ M M') : Near M M' := ⟨h.1, fun a k h1 _ _ => by rw [h.2 a (by omega)]⟩
theorem Rf.near {M M' : Mem} (h : Rf M M') : Near M M' := ⟨h.1, fun a k _ h2 h3 => h.2 a k h2 h3⟩
theorem near_0 (M : Mem) (x : Int32) : Near M (setI M 311 0 x) := (rf_0 M x).near
theorem near_A (M : Mem) (d : Nat → Int32) : Near M (sA M 344 d) := (rf_sA M d).near
theorem near_44 (M : Mem) (x : Int32) : Near M (setI M 311 44 x) := ⟨rfl, fun a k _ _ h => by rw [setI_1, if_neg (fun z => h ⟨z.1, Or.inr z.2⟩)]⟩
theorem near_212 (M : Mem) (k : Nat) (x : Int32) : Near M (setI M 212 k x) := ⟨rfl, fun a j h _ _ => by rw [setI_1, if_neg (fun z => h (by omega))]⟩
theorem Near.ref {M M' : Mem} (h : Near M M') : M'.2.2.1 = M.2.2.1 := by rw [h.1]
theorem Near.tldE {M M' : Mem} (h : Near M M') : tld M' = tld M := by unfold tld; rw [h.1]
theorem HB.near {M M' : Mem} (h : HB M) (o : Near M M') : HB M' := h.sm (o.sm _) (fun q hq => by
  have := (tt_c h.1.1).2.1
  rw [o.row (a := tld M + 31 + 5 * q) (by omega) (by omega) (by omega)]
  exact ⟨rfl, rfl⟩)
theorem Inv.near {M M' : Mem} (h : Inv M) (o : Near M M') : Inv M' := Inv.sm h (o.sm _) (h.1.near o)
theorem vqN {M M1 : Mem} (h : HB M) (o : Near M M1) {p s : Nat} (hp : p < Cn M 4) (hs : s < 1024) : ∃ M', f_X4_byFrames (tld M) (tld M + 31 + 5 * p) (nI s) M1 = some (vq M p s, M') ∧ OffJ M1 M' := by
  have h1 := h.near o
  obtain ⟨M', e, o'⟩ := vq_cls h1.1.2.1 h1.1.1 h1.1.2.2.1 h1.1.2.2.2 (p := p) (s := s) (by rw [Cn_dat o.dat]; exact hp) hs
  rw [vq_dat h.1.2.1 o.dat hp hs, o.tldE] at e
  exact ⟨M', e, o'⟩
theorem vqR {M M1 : Mem} (O : MOk M) (o : Dat M M1) {p s : Nat} (hp : p < Cn M 4) (hs : s < 1024) : ∃ d', f_X11_verdictOf (nI p) (nI s) M1 = some (vq M p s, sA M1 344 d') := by
  obtain ⟨d', e, -⟩ := vq_ref (O.dat o) (p := p) (s := s) (by rw [Cn_dat o]; exact hp) hs
  rw [vq_dat O o hp hs] at e
  exact ⟨d', e⟩
/-! a review: how many frames are looked at -/
def sec (M : Mem) (p : Nat) : Int32 := M.1 321 (kp M p)
def stq (M : Mem) (p j : Nat) : Bool := decide (vq M p (2 ^ j - 1) ≠ 2 ∨ Fn M p ≤ j ∨ M.1 314 0 < (nI j + 1) * sec M p)
def rk (M : Mem) (p : Nat) : Nat := fa_first (stq M p) (Fn M p)
def rvd (M : Mem) (p : Nat) : Int32 := vq M p (2 ^ rk M p - 1)
def rv (M : Mem) (p : Nat) (call : Int32) : Int32 := if rvd M p = 0 ∨ rvd M p = 1 then (if rvd M p = call then 1 else 2) else 0
theorem rk_le (M : Mem) (p : Nat) : rk M p ≤ Fn M p := fa_first_le _ _
theorem rk_stop (M : Mem) (p : Nat) : stq M p (rk M p) = true := by
  rcases Nat.lt_or_ge (rk M p) (Fn M p) with h | h
  · exact fa_first_yes _ _ h
  · exact decide_eq_true (Or.inr (Or.inl h))
theorem rk_go {M : Mem} {p i : Nat} (h : i < rk M p) : vq M p (2 ^ i - 1) = 2 ∧ i < Fn M p ∧ ¬ M.1 314 0 < (nI i + 1) * sec M p := by
  have z := fa_first_no (stq M p) (Fn M p) i h
  have z2 := of_decide_eq_false z
  refine ⟨Classical.byContradiction (fun q => z2 (Or.inl q)), ?_, fun q => z2 (Or.inr (Or.inr q))⟩
  have := rk_le M p
  omega
theorem pw10 {j n : Nat} (hn : n ≤ 10) (h : j ≤ n) : 2 ^ j - 1 < 1024 := by
  have := two_le (show j ≤ 10 by omega)
  have : 1 ≤ 2 ^ j := Nat.one_le_two_pow
  omega
/-- a change of the judge alone -/
def OffK (M M' : Mem) : Prop := M'.2 = M.2 ∧ ∀ a, a < 212 ∨ 216 < a → M'.1 a = M.1 a
theorem OffK.tr {M M' M'' : Mem} (h : OffK M M') (h' : OffK M' M'') : OffK M M'' := ⟨h'.1.trans h.1, fun a x => (h'.2 a x).trans (h.2 a x)⟩
theorem OffJ.offK {M M' : Mem} (h : OffJ M M') : OffK M M' := ⟨h.1, fun a ha => h.2 a (by omega)⟩
theorem OffK.near {M M' : Mem} (h : OffK M M') : Near M M' := ⟨h.1, fun a k h1 _ _ => by rw [h.2 a (by omega)]⟩
theorem offK_212 (M : Mem) (k : Nat) (x : Int32) : OffK M (setI M 212 k x) := ⟨rfl, fun a h => funext (fun j => by rw [setI_1, if_neg (fun z => by omega)])⟩
theorem rev_77 (M : Mem) (c : Int32) (s : Int32) (j : Nat) (v : Int32) : ∃ M', f_X4_review_b77 c s (nI j) v M = some (if v = 0 ∨ v = 1 then (if v = c then 1 else 2) else 0, M') ∧ OffK M M' ∧ M'.1 212 2 = nI j * s ∧ M'.1 212 3 = nI j := by
  refine ⟨setI (setI M 212 3 (nI j)) 212 2 (nI j * s), ?_, (offK_212 _ _ _).tr (offK_212 _ _ _), by rw [setI_1, if_pos ⟨rfl, rfl⟩], by rw [setI_1, if_neg (by omega), setI_1, if_pos ⟨rfl, rfl⟩]⟩
  unfold f_X4_review_b77
  simp only [bnd_e]
  rcases sure_cls v (setI (setI M 212 3 (nI j)) 212 2 (nI j * s)) with ⟨sv, e⟩ | ⟨sv, e⟩
  · rw [e, cl_s, if_neg (by decide), if_pos (show v = 0 ∨ v = 1 from sv)]
    by_cases c2 : v = c
    · rw [if_pos c2, if_pos c2]
    · rw [if_neg c2, if_neg c2]
  · rw [e, cl_s, if_pos rfl, if_neg (show ¬ (v = 0 ∨ v = 1) from sv)]
theorem review_k {M M1 : Mem} (h : HB M) (o : Near M M1) {p : Nat} (hp : p < Cn M 4) (c : Int32) : ∃ M', f_X4_review (tld M) (tld M + 31 + 5 * p) c M1 = some (rv M p c, M') ∧ OffK M1 M' ∧ M'.1 212 2 = nI (rk M p) * sec M p ∧ M'.1 212 3 = nI (rk M p) := by
  have O := h.1.2.1
  have h4 := O.1.2.2.2.2.1.2
  have h2 := O.1.2.2.1.2
  obtain ⟨-, ⟨kk, hk, ek⟩, -, -, -, hF, -⟩ := O.2.2.2.2.2.2.1 p hp
  have tc := (tt_c h.1.1).2.1
  have t0 := tt_0 h.1.1
  obtain ⟨t1, t2, t3, t4, t5, t6⟩ := tt_p h.1.1 p (by omega)
  obtain ⟨u1, u2, u3, u4⟩ := tt_k h.1.1 kk (by omega)
  obtain ⟨-, -, -, -, -, tr8, -, -, tr13⟩ := tt_r h.1.1
  obtain ⟨w0, w1, w2, w3, w4, w5, -⟩ := h.1.2.2.1.2.2.2.2.2.1 p hp
  obtain ⟨x0, -⟩ := h.1.2.2.1.2.2.2.1 kk hk
  have kpe : kp M p = kk := by unfold kp; rw [ek, nI_clamp (by omega)]
  have lim := h.1.2.2.1.2.2.2.2.2.2 0 (by omega)
  have rd : ∀ a M2, a ≤ tld M + 70 → Near M M2 → M2.1 a = M.1 a := fun a M2 ha o2 => o2.row (by omega) (by omega) (by omega)
  have es : M1.1 (tld M + 10 + 3 * kk) 0 = sec M p := by rw [rd _ _ (by omega) o, x0]; unfold sec; rw [kpe]
  unfold f_X4_review
  rw [gd_t t0, gd_t t6, rd (tld M + 31 + 5 * p) M1 (by omega) o, w1, ek, gd_t (inb_nI (by omega) (by omega)), nI_clamp (by omega), tr8, u1, bnd_e, es]
  obtain ⟨M2, e2, o2⟩ := vqN h o hp (s := 0) (by omega)
  have e2' : f_X4_byFrames (tld M) (tld M + 31 + 5 * p) 0 M1 = some (vq M p 0, M2) := e2
  rw [e2', cl_s]
  have hl := lp_inv (z := fun _ _ _ _ _ _ _ => none) (s := f_X4_review_b26_s) (fun j (Mj : Mem) (f : Nat → Nat → Int32 → Int32 → Int32 → Int32 → Mem → Option (Int32 × Mem)) => f (tld M) (tld M + 31 + 5 * p) c (sec M p) (nI j) (vq M p (2 ^ j - 1)) Mj) (fun _ Mj => Near M Mj ∧ OffK M1 Mj) (fun r => ∃ M', r = some (rv M p c, M') ∧ OffK M1 M' ∧ M'.1 212 2 = nI (rk M p) * sec M p ∧ M'.1 212 3 = nI (rk M p)) (rk M p) (fun j hj Mj hj2 f => by
    obtain ⟨g1, g2, g3⟩ := rk_go hj
    obtain ⟨M3, e3, o3⟩ := vqN h hj2.1 hp (s := 2 ^ (j + 1) - 1) (pw10 (n := Fn M p) hF.2 (by omega))
    refine Or.inr ⟨M3, ⟨hj2.1.tr o3.near, hj2.2.tr o3.offK⟩, ?_⟩
    show f_X4_review_b26_s f (tld M) (tld M + 31 + 5 * p) c (sec M p) (nI j) (vq M p (2 ^ j - 1)) Mj = f (tld M) (tld M + 31 + 5 * p) c (sec M p) (nI (j + 1)) (vq M p (2 ^ (j + 1) - 1)) M3
    unfold f_X4_review_b26_s
    rw [if_pos g1, gd_t t6, rd (tld M + 31 + 5 * p) Mj (by omega) hj2.1, w5, hF.1, if_neg (nI_ge g2 (by omega)), gd_t t0, tr13, rd (tld M + 9) Mj (by omega) hj2.1, lim, if_neg g3, bnd_e, nI_1, all_nI (j + 1) (by omega), e3, cl_s]) (fun Mj hj2 f => by
    have st := of_decide_eq_true (rk_stop M p)
    obtain ⟨M', e', o', z1, z2⟩ := rev_77 Mj c (sec M p) (rk M p) (rvd M p)
    refine ⟨M', ?_, hj2.2.tr o', z1, z2⟩
    show f_X4_review_b26_s f (tld M) (tld M + 31 + 5 * p) c (sec M p) (nI (rk M p)) (rvd M p) Mj = _
    unfold f_X4_review_b26_s
    by_cases c1 : rvd M p = 2
    · rw [if_pos c1, gd_t t6, rd (tld M + 31 + 5 * p) Mj (by omega) hj2.1, w5, hF.1]
      by_cases c2 : nI (Fn M p) ≤ nI (rk M p)
      · rw [if_pos c2]; exact e'
      · rw [if_neg c2, gd_t t0, tr13, rd (tld M + 9) Mj (by omega) hj2.1, lim]
        have c3 : M.1 314 0 < (nI (rk M p) + 1) * sec M p := by
          rcases st with z | z | z
          · exact absurd c1 z
          · exact absurd (le_nI (by omega) (by have := rk_le M p; omega) z) c2
          · exact z
        rw [if_pos c3]; exact e'
    · rw [if_neg c1]; exact e') fuel (by have := rk_le M p; have := hF.2; unfold fuel; omega) M2 ⟨o.tr o2.near, o2.offK⟩
  exact hl
theorem review_c {M M1 : Mem} (h : HB M) (o : Near M M1) {p : Nat} (hp : p < Cn M 4) (c : Int32) : ∃ M', f_X4_review (tld M) (tld M + 31 + 5 * p) c M1 = some (rv M p c, M') ∧ Near M1 M' ∧ M'.1 212 2 = nI (rk M p) * sec M p ∧ M'.1 212 3 = nI (rk M p) := by
  obtain ⟨M', e, o', z⟩ := review_k h o hp c
  exact ⟨M', e, o'.near, z⟩
theorem rev_84 (M : Mem) (c v : Int32) : f_X11_review_b84 c v M = some (if v = 0 ∨ v = 1 then (if v = c then 1 else 2) else 0, M) := by
  unfold f_X11_review_b84
  rcases sure_ref v M with ⟨sv, e⟩ | ⟨sv, e⟩
  · rw [e, cl_s, if_neg (by decide), if_pos (show v = 0 ∨ v = 1 from sv)]
    by_cases c2 : v = c
    · rw [if_pos c2, if_pos c2]
    · rw [if_neg c2, if_neg c2]
  · rw [e, cl_s, if_pos rfl, if_neg (show ¬ (v = 0 ∨ v = 1) from sv)]
/-- the reference's changes of its matrix and of looked alone -/
def RfL (M M' : Mem) : Prop := M'.2 = M.2 ∧ ∀ a k, a ≠ 344 → ¬ (a = 311 ∧ k = 44) → M'.1 a k = M.1 a k
theorem RfL.refl (M : Mem) : RfL M M := ⟨rfl, fun _ _ _ _ => rfl⟩
theorem RfL.tr {M M' M'' : Mem} (h : RfL M M') (h' : RfL M' M'') : RfL M M'' := ⟨h'.1.trans h.1, fun a k h1 h2 => (h'.2 a k h1 h2).trans (h.2 a k h1 h2)⟩
theorem RfL.near {M M' : Mem} (h : RfL M M') : Near M M' := ⟨h.1, fun a k _ h2 h3 => h.2 a k h2 (fun z => h3 ⟨z.1, Or.inr z.2⟩)⟩
theorem RfL.t {M M' : Mem} (h : RfL M M') : M'.1 311 0 = M.1 311 0 := h.2 311 0 (by omega) (by omega)
theorem RfL.row {M M' : Mem} (h : RfL M M') {a : Nat} (h1 : a ≠ 344) (h2 : a ≠ 311) : M'.1 a = M.1 a := funext (fun k => h.2 a k h1 (fun z => h2 z.1))
theorem rl_A (M : Mem) (d : Nat → Int32) : RfL M (sA M 344 d) := ⟨rfl, fun a k h _ => sA_n M d k h⟩
theorem rl_44 (M : Mem) (x : Int32) : RfL M (setI M 311 44 x) := ⟨rfl, fun a k _ h => by rw [setI_1, if_neg h]⟩
theorem review_r {M M1 : Mem} (O : MOk M) (o : Dat M M1) {p : Nat} (hp : p < Cn M 4) (c : Int32) : ∃ M', f_X11_review (nI p) c M1 = some (rv M p c, M') ∧ RfL M1 M' ∧ M'.1 311 44 = nI (rk M p) := by
  have h4 := O.1.2.2.2.2.1.2
  have h2 := O.1.2.2.1.2
  obtain ⟨-, ⟨kk, hk, ek⟩, -, -, -, hF, -⟩ := O.2.2.2.2.2.2.1 p hp
  have kpe : kp M p = kk := by unfold kp; rw [ek, nI_clamp (by omega)]
  have dt : ∀ M2, RfL M1 M2 → Dat M M2 := fun M2 o2 => o.tr o2.near.dat
  unfold f_X11_review
  rw [bnd_e]
  obtain ⟨d2, e2⟩ := vqR O (dt _ (rl_44 M1 0)) hp (s := 0) (by omega)
  have e2' : f_X11_verdictOf (nI p) 0 (setI M1 311 44 0) = some (vq M p 0, sA (setI M1 311 44 0) 344 d2) := e2
  rw [e2', cl_s]
  have hl := lp_inv (z := fun _ _ _ _ => none) (s := f_X11_review_b12_s) (fun j (Mj : Mem) (f : Int32 → Int32 → Int32 → Mem → Option (Int32 × Mem)) => f (nI p) c (vq M p (2 ^ j - 1)) Mj) (fun j Mj => RfL M1 Mj ∧ Mj.1 311 44 = nI j) (fun r => ∃ M', r = some (rv M p c, M') ∧ RfL M1 M' ∧ M'.1 311 44 = nI (rk M p)) (rk M p) (fun j hj Mj hj2 f => by
    obtain ⟨g1, g2, g3⟩ := rk_go hj
    obtain ⟨q1, q2⟩ := hj2
    have o3 : RfL M1 (setI Mj 311 44 (nI (j + 1))) := q1.tr (rl_44 _ _)
    obtain ⟨d3, e3⟩ := vqR O (dt _ o3) hp (s := 2 ^ (j + 1) - 1) (pw10 (n := Fn M p) hF.2 (by omega))
    refine Or.inr ⟨_, ⟨o3.tr (rl_A _ d3), by rw [sA_n _ _ 44 (by omega), setI_1, if_pos ⟨rfl, rfl⟩]⟩, ?_⟩
    show f_X11_review_b12_s f (nI p) c (vq M p (2 ^ j - 1)) Mj = f (nI p) c (vq M p (2 ^ (j + 1) - 1)) (sA (setI Mj 311 44 (nI (j + 1))) 344 d3)
    unfold f_X11_review_b12_s
    have z1 : Mj.1 335 p = nI (Fn M p) := by rw [dt _ q1 335 (by omega) (by omega) (by omega), hF.1]
    have z2 : Mj.1 331 p = nI kk := by rw [dt _ q1 331 (by omega) (by omega) (by omega), ek]
    have z3 : Mj.1 321 kk = sec M p := by rw [dt _ q1 321 (by omega) (by omega) (by omega)]; unfold sec; rw [kpe]
    have z4 : Mj.1 314 0 = M.1 314 0 := by rw [dt _ q1 314 (by omega) (by omega) (by omega)]
    simp only [bnd_e]
    rw [if_pos g1, gd_t (inb_nI (by omega) (by omega)), nI_clamp (by omega), z1, q2, if_neg (nI_ge g2 (by omega)), z2, gd_t (inb_nI (by omega) (by omega)), nI_clamp (by omega), z3, z4, if_neg g3, nI_1, setI_1, if_pos ⟨rfl, rfl⟩, all_nI (j + 1) (by omega), e3, cl_s]) (fun Mj hj2 f => by
    have st := of_decide_eq_true (rk_stop M p)
    obtain ⟨q1, q2⟩ := hj2
    have e' := rev_84 Mj c (rvd M p)
    refine ⟨Mj, ?_, q1, q2⟩
    show f_X11_review_b12_s f (nI p) c (rvd M p) Mj = _
    have z1 : Mj.1 335 p = nI (Fn M p) := by rw [dt _ q1 335 (by omega) (by omega) (by omega), hF.1]
    have z2 : Mj.1 331 p = nI kk := by rw [dt _ q1 331 (by omega) (by omega) (by omega), ek]
    have z3 : Mj.1 321 kk = sec M p := by rw [dt _ q1 321 (by omega) (by omega) (by omega)]; unfold sec; rw [kpe]
    have z4 : Mj.1 314 0 = M.1 314 0 := by rw [dt _ q1 314 (by omega) (by omega) (by omega)]
    unfold f_X11_review_b12_s
    by_cases c1 : rvd M p = 2
    · rw [if_pos c1, gd_t (inb_nI (by omega) (by omega)), nI_clamp (by omega), z1, q2]
      by_cases c2 : nI (Fn M p) ≤ nI (rk M p)
      · rw [if_pos c2]; exact e'
      · rw [if_neg c2, z2, gd_t (inb_nI (by omega) (by omega)), nI_clamp (by omega), z3, z4]
        have c3 : M.1 314 0 < (nI (rk M p) + 1) * sec M p := by
          rcases st with z | z | z
          · exact absurd c1 z
          · exact absurd (le_nI (by omega) (by have := rk_le M p; omega) z) c2
          · exact z
        rw [if_pos c3]; exact e'
    · rw [if_neg c1]; exact e') fuel (by have := rk_le M p; have := hF.2; unfold fuel; omega) _ ⟨(rl_44 M1 0).tr (rl_A _ d2), by rw [sA_n _ _ 44 (by omega), setI_1, if_pos ⟨rfl, rfl⟩]; rfl⟩
  exact hl
theorem secondsOf_r {M M1 : Mem} (O : MOk M) (o : Dat M M1) {p : Nat} (hp : p < Cn M 4) {j : Nat} (h : M1.1 311 44 = nI j) : f_X11_secondsOf (nI p) M1 = some (nI j * sec M p, M1) := by
  have h4 := O.1.2.2.2.2.1.2
  have h2 := O.1.2.2.1.2
  obtain ⟨-, ⟨kk, hk, ek⟩, -⟩ := O.2.2.2.2.2.2.1 p hp
  have kpe : kp M p = kk := by unfold kp; rw [ek, nI_clamp (by omega)]
  have z2 : M1.1 331 p = nI kk := by rw [o 331 (by omega) (by omega) (by omega), ek]
  have z3 : M1.1 321 kk = sec M p := by rw [o 321 (by omega) (by omega) (by omega)]; unfold sec; rw [kpe]
  unfold f_X11_secondsOf
  rw [gd_t (inb_nI (by omega) (by omega)), nI_clamp (by omega), z2, gd_t (inb_nI (by omega) (by omega)), nI_clamp (by omega), z3, h]
/-! the day, read by both -/
theorem cal_c {M M1 : Mem} (h : HB M) (R : RDay M 217 (M.1 340)) (o : Near M M1) {p : Nat} (hp : p < Cn M 4) : f_X10_callNow (nI p) M1 = some (if M.1 340 0 ≤ nI p then M.1 334 p else M.1 340 (1 + p), M1) := by
  have h4 := h.1.2.1.1.2.2.2.2.1.2
  obtain ⟨a1, a2, a3⟩ := play_cell h hp
  obtain ⟨⟨hh, h1, h2, h3, c, r, b, h5, ⟨h6, -, -⟩, h7, -⟩, -⟩ := R
  obtain ⟨-, -, -, -, w4, -⟩ := h.1.2.2.1.2.2.2.2.2.1 p hp
  have tc := (tt_c h.1.1).2.1
  have z0 : M1.1 217 0 = nI hh := by rw [o.row (by omega) (by omega) (by omega), h2]
  have z1 : M1.1 217 1 = nI c := by rw [o.row (by omega) (by omega) (by omega), h6]
  unfold f_X10_callNow
  rw [z0, h3, o.ref, gd_t a1, gd_t a2, a3, o.row (a := tld M + 31 + 5 * p) (by omega) (by omega) (by omega), w4]
  by_cases c1 : nI hh ≤ nI p
  · rw [if_pos c1, if_pos c1]
  · rw [if_neg c1, if_neg c1]
    have lt : p < hh := by
      rcases Nat.lt_or_ge p hh with q | q
      · exact q
      · exact absurd (le_nI (by omega) (by omega) q) c1
    unfold f_X3_call
    rw [gd_t (by decide +kernel), z1, bit_nI (by omega) (by omega), cl_s, (h7 p lt).1]
    rfl
theorem cal_r {M M1 : Mem} {p : Nat} (hp : p < 8) (d : Dat M M1) (e : M1.1 340 = M.1 340) : f_X11_callOf (nI p) M1 = some (if M.1 340 0 ≤ nI p then M.1 334 p else M.1 340 (1 + p), M1) := by
  unfold f_X11_callOf
  rw [e, d 334 (by omega) (by omega) (by omega), gd_t (inb_nI (by omega) (by omega)), nI_clamp (by omega)]
  by_cases c1 : M.1 340 0 ≤ nI p
  · rw [if_pos c1, if_pos c1]
  · rw [if_neg c1, if_neg c1, n1, gd_t (inb_nI (by omega) (by omega)), nI_clamp (by omega)]
