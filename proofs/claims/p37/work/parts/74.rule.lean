/-! a rule -/
theorem LPt.sets {n : Nat} {B : Nat → Nat} {st : Nat} {Mc Mr Mc' Mr' : Mem} (h : LPt n B st Mc Mr) (e1 : ∀ a k, a = 65 ∨ (a = 208 ∧ k ≤ 6) → Mc'.1 a k = Mc.1 a k) (e2 : Mc'.2 = Mc.2) (e3 : ∀ a k, a = 312 ∨ (a = 311 ∧ 3 ≤ k ∧ k ≤ 9) → Mr'.1 a k = Mr.1 a k) (e4 : Mr'.2 = Mr.2) : LPt n B st Mc' Mr' :=
  h.cong (fun j _ => e1 _ _ (by omega)) (by rw [e2]) (funext (fun j => e1 _ _ (by omega))) (fun j _ _ => e3 _ _ (by omega)) (by rw [e4]) (funext (fun j => e3 _ _ (by omega)))
theorem bit_or {m x : Nat} (hm : m < 16) (hx : x < 4) : (m ||| 2 ^ x) < 16 ∧ ∀ k, k < 4 → (m ||| 2 ^ x).testBit k = (m.testBit k || decide (k = x)) := by
  have key : ∀ m, m < 16 → ∀ x, x < 4 → (m ||| 2 ^ x) < 16 ∧ ∀ k, k < 4 → (m ||| 2 ^ x).testBit k = (m.testBit k || decide (k = x)) := by decide +kernel
  exact key m hm x hx
def hiR (x : Nat) : Nat := if x = 0 then 999 else if x = 2 then 999 else 9
theorem swm_k : ∀ j, j < 25 → swm j = if j < 9 then 0 else if j < 19 then nI (j - 8) else 0 := by decide +kernel
theorem room_set {M : Mem} {m x : Nat} (hx : x < 4) (hm : m < 16) (h : M.1 208 13 = nI m) : f_X7_roomFor (16 + x) M = some (if m.testBit x then 0 else 1, M) := by
  have rs : f_X7_roomForSetting (nI x) M = some (if m.testBit x then 0 else 1, M) := by
    unfold f_X7_roomForSetting
    rw [h, bit_nI (by omega) (by omega)]
    by_cases c : m.testBit x = true
    · rw [if_pos c, if_pos c]; rfl
    · rw [if_neg c, if_neg c]; rfl
  have e : x = 0 ∨ x = 1 ∨ x = 2 ∨ x = 3 := by omega
  unfold f_X7_roomFor
  rcases e with rfl | rfl | rfl | rfl
  · have r0 : f_X7_roomForSetting 0 M = _ := rs
    rw [gd_t (by decide), gd_t (by decide), if_neg (by decide), if_neg (by decide), if_neg (by decide), if_neg (by decide), if_neg (by decide), if_neg (by decide), if_pos (by decide), r0, cl_s]
  · have r0 : f_X7_roomForSetting 1 M = _ := rs
    rw [gd_t (by decide), gd_t (by decide), if_neg (by decide), if_neg (by decide), if_neg (by decide), if_neg (by decide), if_neg (by decide), if_neg (by decide), if_neg (by decide), if_pos (by decide), r0, cl_s]
  · have r0 : f_X7_roomForSetting 2 M = _ := rs
    rw [gd_t (by decide), gd_t (by decide), if_neg (by decide), if_neg (by decide), if_neg (by decide), if_neg (by decide), if_neg (by decide), if_neg (by decide), if_neg (by decide), if_neg (by decide), if_pos (by decide), r0, cl_s]
  · have r0 : f_X7_roomForSetting 3 M = _ := rs
    rw [gd_t (by decide), gd_t (by decide), if_neg (by decide), if_neg (by decide), if_neg (by decide), if_neg (by decide), if_neg (by decide), if_neg (by decide), if_neg (by decide), if_neg (by decide), if_neg (by decide), if_pos (by decide), r0, cl_s]
theorem rule_num {Mr : Mem} {x : Nat} (hx : x < 4) : (if nI x = 0 then f_X11_ruleLine_b52 (4 + nI x) 0 Mr else if nI x = 2 then f_X11_ruleLine_b52 (4 + nI x) 0 Mr else f_X11_ruleLine_b60 (4 + nI x) 0 9 Mr) = cl (f_X11_number 0 (nI (hiR x)) Mr) (fun r M1 => some (setI M1 314 (4 + x) r)) := by
  have e : x = 0 ∨ x = 1 ∨ x = 2 ∨ x = 3 := by omega
  rcases e with rfl | rfl | rfl | rfl <;> rfl
theorem rule_ls {n : Nat} {B : Nat → Nat} {T st : Nat} {Mc Mr : Mem} (h : PP n B T st Mc Mr) {x : Nat} (hx : x < 4) (hst : st < n) : LR n B T (cl (f_X7_startLine (16 + x) Mc) (fun r1 M1m => if r1 = 0 then some (0, M1m) else f_X7_tellSetting (nI x) (nI (hiR x)) M1m)) (f_X11_ruleLine (nI x) Mr) Mc Mr st := by
  have hT := h.tt
  have tc := tt_208 hT
  have t8 := tt_0 hT
  obtain ⟨-, -, -, -, -, -, -, -, tr13⟩ := tt_r hT
  obtain ⟨hl, eT, N, I, U⟩ := h
  obtain ⟨m, u1, u2, u3⟩ := id U
  have h9 := hl.2.2.2
  have hr9 : hiR x ≤ 999 := by unfold hiR; split <;> (try split) <;> omega
  unfold f_X7_startLine f_X11_ruleLine f_X11_ruleLine_b15 f_X7_startLine_b21
  have e315 : Mr.1 315 (nI x).toNatClampNeg = b10 (m.testBit x) := by rw [nI_clamp (show x < 2 ^ 31 by omega)]; exact u3 x hx
  rw [room_set hx u1 u2, cl_s, gd_t (inb_nI (by omega) (by omega)), e315]
  by_cases c : m.testBit x = true
  · obtain ⟨Mc', Mr', f1, f2, f3, f4, f5⟩ := fault hl (k := 5) (by decide)
    rw [if_pos c, c, show b10 true = 1 from rfl, if_neg (show ¬ (1 : Int32) = 0 by decide), if_neg (show ¬ (0 : Int32) < 0 by decide), if_neg (show ¬ (0 : Int32) = -1 by decide), f1, cl_s, gd_t nar_b.1, cl_s, if_pos rfl, f2, cl_s, if_pos rfl]
    exact Or.inr ⟨Mc', Mr', rfl, rfl, f3, f4.p T, f5.p⟩
  · have cf := Bool.eq_false_iff.mpr c
    obtain ⟨Mr1, g1⟩ : ∃ X, X = setI Mr 315 x 1 := ⟨_, rfl⟩
    have hl1 : LPt n B st Mc Mr1 := hl.sets (fun _ _ _ => rfl) rfl (fun a k q => by rw [g1, setI_n (by omega)]) (by rw [g1]; rfl)
    obtain ⟨Mc2, Mr2, a1, a2, h2, a4, a5⟩ := hl1.adv
    have b2 := (nx_le (B := B) hl.1).2 hst
    have or1 : FPR Mr Mr1 := by rw [g1]; exact fpr_I _ (by show 313 ≤ 315 ∧ 315 ≤ 339 ∧ 0 ≤ x; omega)
    rw [if_neg c, cf, show b10 false = 0 from rfl, if_pos rfl, if_pos (show (0 : Int32) < 1 by decide), a1, clv_s, cl_s, if_neg (show ¬ (1 : Int32) = 0 by decide), must_t h9 (by decide), cl_s, if_neg (show ¬ (1 : Int32) = 0 by decide), gd_t (inb_nI (by omega) (by omega)), nI_clamp (show x < 2 ^ 31 by omega), nar_b.2, bnd_e, ← g1, a2, clv_s, rule_num hx]
    unfold f_X7_tellSetting
    rcases num_ls h2 (lo := 0) (hi := hiR x) (by omega) (by omega) with ⟨v, Mc3, Mr3, v1, v2, l2, e3, q7, e4, h3, oc3, or3⟩ | ⟨Mc3, Mr3, e3, e4, f2, oc3, or3⟩
    · have e3' : f_X7_takeNumber 0 (nI (hiR x)) Mc2 = some (1, Mc3) := e3
      have e4' : f_X11_number 0 (nI (hiR x)) Mr2 = some (nI v, Mr3) := e4
      have b3 := (nx_le (B := B) h2.1).2 l2
      have oc := a4.g.tr oc3
      have or := a5.g.tr or3
      have T3 : Mc3.2.2.1 208 1 = T := by rw [oc.2.2.1 _ _ (by omega), eT]
      have m13 : Mc3.1 208 13 = nI m := by rw [oc.2.2.2 _ _ (by omega), u2]
      obtain ⟨Mc4, d4⟩ : ∃ X, X = setI (setI Mc3 (T + 9) x (nI v)) 208 13 (nI (m ||| 2 ^ x)) := ⟨_, rfl⟩
      obtain ⟨Mr4, g4⟩ : ∃ X, X = setI Mr3 314 (4 + x) (nI v) := ⟨_, rfl⟩
      have rc : ∀ a j, ¬ (a = 208 ∧ j = 13) → ¬ (a = T + 9 ∧ j = x) → Mc4.1 a j = Mc3.1 a j := fun a j q y => by rw [d4, setI_n (by omega), setI_n (by omega)]
      have rr : ∀ a j, ¬ (a = 314 ∧ j = 4 + x) → Mr4.1 a j = Mr3.1 a j := fun a j y => by rw [g4, setI_n (by omega)]
      have rr1 : ∀ a j, ¬ (a = 315 ∧ j = x) → Mr1.1 a j = Mr.1 a j := fun a j y => by rw [g1, setI_n (by omega)]
      have hc : Mc4.2 = Mc3.2 := by rw [d4]; rfl
      have hr : Mr4.2 = Mr3.2 := by rw [g4]; rfl
      have hr1 : Mr1.2 = Mr.2 := by rw [g1]; rfl
      obtain ⟨MM, dM⟩ : ∃ X, X = mixM Mc Mr := ⟨_, rfl⟩
      obtain ⟨MN, dN⟩ : ∃ X, X = mixM Mc4 Mr4 := ⟨_, rfl⟩
      rw [← dM] at I
      have rw1 : ∀ a, ¬ (Jk a ∨ a = 314 ∨ a = T + 9) → MN.1 a = MM.1 a := fun a ha => by
        rw [dM, dN]
        unfold Jk at ha
        exact mix_row (fun z => funext (fun j => by rw [rc a j (by omega) (by omega), oc.2.2.2 a j (by omega)])) (fun z1 z2 j => by rw [rr a _ (by omega), or.2.2 a _ (by omega), rr1 a _ (by omega)]) (by omega)
      have mT : ∀ a j, a < 208 → MN.1 a j = Mc4.1 a j ∧ MM.1 a j = Mc.1 a j := fun a j ha => by
        rw [dM, dN, mix_c _ _ (by omega), mix_c _ _ (by omega)]
        exact ⟨rfl, rfl⟩
      have m314 : ∀ j, MN.1 314 j = Mr4.1 314 (4 + j) ∧ MM.1 314 j = Mr.1 314 (4 + j) := fun j => by
        rw [dM, dN, mix_r _ _ (by omega) (by omega), mix_r _ _ (by omega) (by omega)]
        exact ⟨rfl, rfl⟩
      have e313 : MN.1 313 = MM.1 313 := rw1 313 (by unfold Jk; omega)
      have eTT : MN.1 T = MM.1 T := rw1 T (by unfold Jk; omega)
      have cs' : ∀ s, Cn MN s = Cn MM s := fun s => by
        have z : Cn MN s = (MN.1 313 s).toNatClampNeg := rfl
        rw [z, e313]
        rfl
      have iN' : iN MN T := fun s hs => by rw [cs', e313, eTT]; exact I.2.1 s hs
      obtain ⟨R0, R5, R1, R2, R3, R4, -, R7⟩ := I.rest 6 (fun s _ _ => cs' s) (by rw [cs']; exact Nat.le_refl _) _ rw1
      have v314 : ∀ j, j < 4 → MN.1 314 j = if j = x then nI v else MM.1 314 j := fun j hj => by
        by_cases z : j = x
        · rw [if_pos z, z, (m314 x).1, g4, setI_s]
        · rw [if_neg z, (m314 j).1, (m314 j).2, rr _ _ (by omega), or.2.2 _ _ (by omega), rr1 _ _ (by omega)]
      have vT : ∀ j, MN.1 (T + 9) j = if j = x then nI v else MM.1 (T + 9) j := fun j => by
        by_cases z : j = x
        · rw [if_pos z, z, (mT (T + 9) x (by omega)).1, d4, setI_n (by omega), setI_s]
        · rw [if_neg z, (mT (T + 9) j (by omega)).1, (mT (T + 9) j (by omega)).2, rc _ _ (by omega) (by omega), oc.2.2.2 _ _ (by omega)]
      have bv : (0 : Int) ≤ (nI v).toInt ∧ (nI v).toInt ≤ (hiR x : Nat) := i32_09 (lo := 0) ⟨v1, v2⟩ (by omega)
      have I' : ITS MN T := by
        refine ⟨hT, iN', R0 (by omega) (fun a q => by unfold Jk at q; omega), R5 (by omega) (fun a q => by unfold Jk at q; omega), R1 (by omega) (fun a q => by unfold Jk at q; omega), R2 (by omega) (fun a q => by unfold Jk at q; omega), R3 (by omega) (fun a q => by unfold Jk at q; omega), (R4 (by omega) (fun a q => by unfold Jk at q; omega)).1, (R4 (by omega) (fun a q => by unfold Jk at q; omega)).2, ?_, R7 (by omega) (by omega) (fun a q => by unfold Jk at q; omega)⟩
        obtain ⟨⟨s0, s1, s2, s3⟩, s4⟩ := I.2.2.2.2.2.2.2.2.2.1
        refine ⟨?_, fun j hj => by rw [v314 j hj, vT j, s4 j hj]⟩
        rw [v314 0 (by omega), v314 1 (by omega), v314 2 (by omega), v314 3 (by omega)]
        have e : x = 0 ∨ x = 1 ∨ x = 2 ∨ x = 3 := by omega
        rcases e with rfl | rfl | rfl | rfl
        · have hb : hiR 0 = 999 := rfl
          rw [if_pos rfl, if_neg (by omega), if_neg (by omega), if_neg (by omega)]
          exact ⟨by omega, s1, s2, s3⟩
        · have hb : hiR 1 = 9 := rfl
          rw [if_neg (by omega), if_pos rfl, if_neg (by omega), if_neg (by omega)]
          exact ⟨s0, by omega, s2, s3⟩
        · have hb : hiR 2 = 999 := rfl
          rw [if_neg (by omega), if_neg (by omega), if_pos rfl, if_neg (by omega)]
          exact ⟨s0, s1, by omega, s3⟩
        · have hb : hiR 3 = 9 := rfl
          rw [if_neg (by omega), if_neg (by omega), if_neg (by omega), if_pos rfl]
          exact ⟨s0, s1, s2, by omega⟩
      rw [dN] at I'
      obtain ⟨o16, ob⟩ := bit_or u1 hx
      refine Or.inl ⟨nx n B (nx n B st), Mc4, Mr4, by omega, ?_, ?_, ⟨h3.sets (fun a k q => rc _ _ (by omega) (by omega)) hc (fun a k q => rr _ _ (by omega)) hr, by rw [hc]; exact T3, ?_, I', ?_⟩, ?_, ?_⟩
      · have v13 : (setI Mc3 (T + 9) x (nI v)).1 208 13 = nI m := by rw [setI_n (by omega), m13]
        rw [e3', cl_s, if_neg (show ¬ (1 : Int32) = 0 by decide), T3, gd_t t8, gd_t (inb_nI (by omega) (by omega)), nI_clamp (show x < 2 ^ 31 by omega), tr13, q7, bnd_e, v13, or_nI (by omega), bnd_e, ← d4]
      · rw [e4', cl_s, ← g4]
      · exact N.cong (by rw [rc _ _ (by omega) (by omega), oc.2.2.2 _ _ (by omega)]) (funext (fun j => by rw [rc _ _ (by omega) (by omega), oc.2.2.2 _ _ (by omega)])) (funext (fun j => by rw [rc _ _ (by omega) (by omega), oc.2.2.2 _ _ (by omega)])) (by rw [hc]; exact oc.rrow (by omega)) (by rw [hr, or.lrow (by omega), hr1]) (fun s hs => by rw [rr _ _ (by omega), or.2.2 _ _ (by omega), rr1 _ _ (by omega)])
      · refine ⟨m ||| 2 ^ x, o16, by rw [d4, setI_s], fun j hj => ?_⟩
        rw [rr _ _ (by omega), or.2.2 _ _ (by omega), ob j hj]
        by_cases z : j = x
        · rw [z, g1, setI_s, decide_eq_true rfl, Bool.or_true]; rfl
        · rw [rr1 _ _ (by omega), u3 j hj, decide_eq_false z, Bool.or_false]
      · rw [d4]
        exact (oc.p T).tr ((fpc_T T _ (by omega)).tr (fpc_8 T _ (by omega)))
      · rw [g4]
        exact or1.tr (or.p.tr (fpr_I _ (by show 313 ≤ 314 ∧ 314 ≤ 339 ∧ 4 ≤ 4 + x; omega)))
    · have e3' : f_X7_takeNumber 0 (nI (hiR x)) Mc2 = some (0, Mc3) := e3
      have e4' : f_X11_number 0 (nI (hiR x)) Mr2 = some (0, Mr3) := e4
      refine Or.inr ⟨Mc3, setI Mr3 314 (4 + x) 0, by rw [e3', cl_s, if_pos rfl], by rw [e4', cl_s], ?_, (a4.g.tr oc3).p T, or1.tr ((a5.g.tr or3).p.tr (fpr_I _ (by show 313 ≤ 314 ∧ 314 ≤ 339 ∧ 4 ≤ 4 + x; omega)))⟩
      unfold FL
      rw [setI_n (by omega), setI_n (by omega)]
      exact f2
