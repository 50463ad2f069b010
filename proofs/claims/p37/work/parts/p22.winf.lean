/-! THE LAW'S WINDOWS over all frames -/
def lI (l : Nat → Nat) : Nat → Int := fun c => (l c : Int)
theorem LateA.oth {M M' : Mem} {n : Nat} {l : Nat → Nat} (A : LateA M n l) (g : GX M M') (e : M'.1 n = M.1 n) : LateA M' n l := by
  obtain ⟨a1, a2, a3, a4⟩ := A
  refine ⟨g.dyo (show dyo M n 20 from a1), g.dl (show dyo M n 20 from a1) a2, fun c hc => ?_, a4⟩
  rw [e]
  exact a3 c hc
section WINF
variable {N : Nat} {xs : Nat → Int32} {Mw : Mem} {n4 n8 n9 p s : Nat} {l : Nat → Nat}
/-- what the frame k of the play p holds -/
theorem frm_d (hs : SmO (smN N xs)) (T : TolS (smN N xs) Mw) (B : Box (smN N xs) l) {k : Nat} (hp : p < Cn Mw 4) (hk : k < Fn Mw p) : ∃ c tk A B', c < 3 ∧ tk < 1000 ∧ A < 16 ∧ B' < 16 ∧ l c < 1000 ∧ Mw.1 336 (10 * p + k) = nI c ∧ Mw.1 337 (10 * p + k) = nI tk ∧ Mw.1 338 (10 * p + k) = nI A ∧ Mw.1 339 (10 * p + k) = nI B' ∧ qs Mw (10 * p + k) = A ∧ qn Mw (10 * p + k) = B' ∧ atk Mw p (lI l) k = (tk : Int) - (l c : Int) ∧ 3 ≤ atk Mw p (lI l) k ∧ atk Mw p (lI l) k ≤ 16 := by
  have hp' : p < snp (smN N xs) := by rw [← (d_cn hs T).2.2.1]; exact hp
  have hF := (d_pl hs T hp').2.2.1
  rw [hF] at hk
  obtain ⟨⟨e1, e2, e3, e4⟩, e5, e6, e7, e8⟩ := d_fr hs T hp' hk
  obtain ⟨m1, m2⟩ := mk_lt16 hs p k
  have c3 := hs (sat p k + 1) 3 (by omega)
  have t9 := hs (sat p k + 2) 9 (by omega)
  obtain ⟨b1, b2⟩ := B _ c3
  have s1 := hs (smN N xs (sat p k + 1) 3) 3 (by omega)
  have s2 := hs (3 + smN N xs (sat p k + 1) 3) 4 (by omega)
  have ea : atk Mw p (lI l) k = ((8 + smN N xs (sat p k + 2) 9 : Nat) : Int) - (l (smN N xs (sat p k + 1) 3) : Int) := by
    unfold atk lI
    rw [e5, e6]
  unfold sca at b1
  unfold scb at b2
  refine ⟨_, _, _, _, c3, ?_, m1, m2, ?_, e1, e2, e3, e4, e7, e8, ea, ?_, ?_⟩
  · omega
  · omega
  · rw [ea]; omega
  · rw [ea]; omega
theorem hiF_s (M : Mem) (p s : Nat) (l : Nat → Int) (k m : Nat) : hiF M p s l (k + 1) m = if s.testBit k = true ∧ (qs M (10 * p + k)).testBit m = true then (if atk M p l k < hiF M p s l k m then atk M p l k else hiF M p s l k m) else hiF M p s l k m := rfl
theorem loF_s (M : Mem) (p s : Nat) (l : Nat → Int) (k m : Nat) : loF M p s l (k + 1) m = if s.testBit k = true ∧ (qn M (10 * p + k)).testBit m = true then (if loF M p s l k m < atk M p l k + 1 then atk M p l k + 1 else loF M p s l k m) else loF M p s l k m := rfl
theorem win_k (hs : SmO (smN N xs)) (hn : n8 ≠ n9) (h48 : n4 ≠ n8) (h49 : n4 ≠ n9) (h : HB Mw) (T : TolS (smN N xs) Mw) (B : Box (smN N xs) l) (A4 : LateA Mw n4 l) (hp : p < Cn Mw 4) (hs16 : s < 16) {k : Nat} (hk : k < Fn Mw p) (hk4 : k < 4) {a : Mem} (W : Win Mw n8 n9 (loF Mw p s (lI l) k) (hiF Mw p s (lI l) k) a) {x5 x6 x7 x10 : Int32}
    (rec41 : Int32 → Int32 → Nat → Int32 → Int32 → Int32 → Mem → Option (Int32 × Mem)) (f : Int32 → Int32 → Nat → Int32 → Int32 → Int32 → Nat → Nat → Int32 → Int32 → Mem → Option (Int32 × Mem)) :
    ∃ a', Win Mw n8 n9 (loF Mw p s (lI l) (k + 1)) (hiF Mw p s (lI l) (k + 1)) a' ∧ f_L_verdict_b118_s N xs rec41 f (nI p) (nI s) n4 x5 x6 x7 n8 n9 x10 (nI k) a = f (nI p) (nI s) n4 x5 x6 x7 n8 n9 x10 (nI (k + 1)) a' := by
  obtain ⟨c, tk, A, B', c3, htk, hA, hB, hlc, e1, e2, e3, e4, e5, e6, ea, ta, tb⟩ := frm_d hs T B hp hk
  have L := W.lt
  have dt := L.dat
  have ha := h.lt L
  have hpa : p < Cn a 4 := by rw [Cn_dat dt]; exact hp
  have hka : k < Fn a p := by rw [Fn_dat dt]; exact hk
  obtain ⟨f0, f1, -, -⟩ := an_frame ha hpa hka
  have f10 := (h.1.2.1.2.2.2.2.2.2.1 p hp).2.2.2.2.2.1.2
  unfold f_L_verdict_b118_s
  rw [an_play5 ha hpa, cl_s, if_neg (nge (by omega) (by rw [Fn_dat dt]; omega) hka)]
  by_cases cb : s.testBit k = true
  · rw [if_neg (fun z => by rw [(bitw0 hs16 hk4).mp z] at cb; cases cb), f1, cl_s, f0, cl_s, L.2.1 336 (by omega), L.2.1 337 (by omega), e1, e2]
    have A4a : LateA a n4 l := A4.oth L.1 (W.2.2.2 n4 h48 h49)
    rw [gd_t A4a.1, gd_t (inb_nI (by rw [A4a.2.1]; exact c3) (by rw [A4a.2.1]; decide)), bnd_e, nI_clamp (by omega), A4a.2.2.1 c c3]
    have et : (nI tk - nI (l c)).toInt = atk Mw p (lI l) k := by rw [subN_toInt (by omega) (by omega), ea]
    generalize nI tk - nI (l c) = at_ at et ⊢
    refine lp_inv (s := f_L_verdict_b166_s N xs rec41 f) (fun m a g => g (nI p) (nI s) n4 x5 x6 x7 n8 n9 x10 (nI k) at_ (nI m) a) (fun m a => Win Mw n8 n9 (fun j => if j < m then loF Mw p s (lI l) (k + 1) j else loF Mw p s (lI l) k j) (fun j => if j < m then hiF Mw p s (lI l) (k + 1) j else hiF Mw p s (lI l) k j) a) (fun r => ∃ a', Win Mw n8 n9 (loF Mw p s (lI l) (k + 1)) (hiF Mw p s (lI l) (k + 1)) a' ∧ r = f (nI p) (nI s) n4 x5 x6 x7 n8 n9 x10 (nI (k + 1)) a') 4 (fun m hm a P g => Or.inr ?_) (fun a P g => ?_) fuel (by decide) a ⟨W.1.cong (fun j _ => (if_neg (Nat.not_lt_zero j)).symm), W.2.1.cong (fun j _ => (if_neg (Nat.not_lt_zero j)).symm), W.2.2⟩
    · obtain ⟨a', W', e⟩ := win_1 (p := p) (k := k) hn P h hp hk hm e3 e4 hA hB (x3 := nI s) (x5 := x5) (x6 := x6) (x7 := x7) (x10 := x10) (n4 := n4) et (by omega) rec41 f g
      refine ⟨a', ⟨W'.1.cong (fun j _ => ?_), W'.2.1.cong (fun j _ => ?_), W'.2.2⟩, e⟩
      · unfold lo1
        dsimp only
        by_cases z : j = m
        · subst z
          rw [if_pos rfl]
          simp only [Nat.lt_irrefl, if_false, Nat.lt_succ_self, if_true]
          rw [loF_s, e6]
          by_cases y : B'.testBit j = true
          · rw [if_pos y, if_pos (show s.testBit k = true ∧ B'.testBit j = true from ⟨cb, y⟩)]
          · rw [if_neg y, if_neg (fun q => y q.2)]
        · rw [if_neg z]
          by_cases y : j < m
          · rw [if_pos y, if_pos (by omega)]
          · rw [if_neg y, if_neg (by omega)]
      · unfold hi1
        dsimp only
        by_cases z : j = m
        · subst z
          rw [if_pos rfl]
          simp only [Nat.lt_irrefl, if_false, Nat.lt_succ_self, if_true]
          rw [hiF_s, e5]
          by_cases y : A.testBit j = true
          · rw [if_pos y, if_pos (show s.testBit k = true ∧ A.testBit j = true from ⟨cb, y⟩)]
          · rw [if_neg y, if_neg (fun q => y q.2)]
        · rw [if_neg z]
          by_cases y : j < m
          · rw [if_pos y, if_pos (by omega)]
          · rw [if_neg y, if_neg (by omega)]
    · show ∃ a', _ ∧ f_L_verdict_b166_s N xs rec41 f g (nI p) (nI s) n4 x5 x6 x7 n8 n9 x10 (nI k) at_ (nI 4) a = _
      unfold f_L_verdict_b166_s
      rw [if_pos (show (4 : Int32) ≤ nI 4 from Int32.le_refl _), bnd_e, nI_1]
      exact ⟨a, ⟨P.1.cong (fun j hj => if_pos hj), P.2.1.cong (fun j hj => if_pos hj), P.2.2⟩, rfl⟩
  · rw [if_pos ((bitw0 hs16 hk4).mpr (by simpa using cb)), bnd_e, nI_1]
    refine ⟨a, ⟨W.1.cong (fun j _ => ?_), W.2.1.cong (fun j _ => ?_), W.2.2⟩, rfl⟩
    · rw [loF_s, if_neg (fun q => cb q.1)]
    · rw [hiF_s, if_neg (fun q => cb q.1)]
theorem win_bd (hs : SmO (smN N xs)) (T : TolS (smN N xs) Mw) (B : Box (smN N xs) l) (hp : p < Cn Mw 4) : ∀ m, -1000 ≤ loF Mw p s (lI l) (Fn Mw p) m ∧ loF Mw p s (lI l) (Fn Mw p) m ≤ 17 ∧ 3 ≤ hiF Mw p s (lI l) (Fn Mw p) m := fun m => by
  have h1 := (loF_is (M := Mw) (p := p) (s := s) (l := lI l) m).1
  refine ⟨h1, ?_, ?_⟩
  · rcases (loF_is (M := Mw) (p := p) (s := s) (l := lI l) m).2.2 with e | ⟨k, hk, -, -, e⟩
    · omega
    · obtain ⟨_, _, _, _, _, _, _, _, _, _, _, _, _, _, _, -, -, tb⟩ := frm_d hs T B hp hk
      omega
  · rcases (hiF_is (M := Mw) (p := p) (s := s) (l := lI l) m).2.2 with e | ⟨k, hk, -, -, e⟩
    · omega
    · obtain ⟨_, _, _, _, _, _, _, _, _, _, _, _, _, _, _, -, ta, -⟩ := frm_d hs T B hp hk
      omega
end WINF
