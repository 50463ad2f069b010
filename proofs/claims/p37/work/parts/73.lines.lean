/-! LINES, read by both -/
theorem cn_mix (Mc Mr : Mem) (s : Nat) : Cn (mixM Mc Mr) s = rdN Mr s := by
  unfold Cn rdN
  rw [mix_r Mc Mr (by omega) (by omega)]
  rfl
/-- what was told once of the four -/
def RUL (Mc Mr : Mem) : Prop := ∃ m, m < 16 ∧ Mc.1 208 13 = nI m ∧ ∀ k, k < 4 → Mr.1 315 k = b10 (m.testBit k)
/-- between lines -/
def PP (n : Nat) (B : Nat → Nat) (T st : Nat) (Mc Mr : Mem) : Prop := LPt n B st Mc Mr ∧ Mc.2.2.1 208 1 = T ∧ NmR 6 Mc Mr ∧ ITS (mixM Mc Mr) T ∧ RUL Mc Mr
def FPC (T : Nat) (M M' : Mem) : Prop := M'.2.1 = M.2.1 ∧ M'.2.2.2 = M.2.2.2 ∧ (∀ a k, ¬ (a = 208 ∧ k = 4) → a ≠ 210 → M'.2.2.1 a k = M.2.2.1 a k) ∧ ∀ a k, ¬ (a = 208 ∧ 3 ≤ k) → a ≠ 209 → a ≠ 211 → ¬ (T ≤ a ∧ a ≤ T + 70) → M'.1 a k = M.1 a k
def FPR (M M' : Mem) : Prop := M'.2.2 = M.2.2 ∧ (∀ a k, ¬ (a = 311 ∧ k = 8) → a ≠ 316 → M'.2.1 a k = M.2.1 a k) ∧ ∀ a k, ¬ (a = 311 ∧ (4 ≤ k ∧ k ≤ 10)) → ¬ (313 ≤ a ∧ a ≤ 339 ∧ hf a ≤ k) → M'.1 a k = M.1 a k
theorem FPC.refl (T : Nat) (M : Mem) : FPC T M M := ⟨rfl, rfl, fun _ _ _ _ => rfl, fun _ _ _ _ _ _ => rfl⟩
theorem FPR.refl (M : Mem) : FPR M M := ⟨rfl, fun _ _ _ _ => rfl, fun _ _ _ _ => rfl⟩
theorem FPC.tr {T : Nat} {M M' M'' : Mem} (h : FPC T M M') (h' : FPC T M' M'') : FPC T M M'' := ⟨h'.1.trans h.1, h'.2.1.trans h.2.1, fun a k x y => (h'.2.2.1 a k x y).trans (h.2.2.1 a k x y), fun a k x y z w => (h'.2.2.2 a k x y z w).trans (h.2.2.2 a k x y z w)⟩
theorem FPR.tr {M M' M'' : Mem} (h : FPR M M') (h' : FPR M' M'') : FPR M M'' := ⟨h'.1.trans h.1, fun a k x y => (h'.2.1 a k x y).trans (h.2.1 a k x y), fun a k x y => (h'.2.2 a k x y).trans (h.2.2 a k x y)⟩
theorem NaC.p {M M' : Mem} (T : Nat) (h : NaC M M') : FPC T M M' := ⟨h.1, h.2.1, h.2.2.1, fun a k x y z _ => h.2.2.2 a k (by omega) y z⟩
theorem NaR.p {M M' : Mem} (h : NaR M M') : FPR M M' := ⟨h.1, h.2.1, fun a k x _ => h.2.2 a k x⟩
theorem GC.p {M M' : Mem} (T : Nat) (h : GC M M') : FPC T M M' := h.n.p T
theorem GR.p {M M' : Mem} (h : GR M M') : FPR M M' := h.n.p
theorem fpc_T (T : Nat) (M : Mem) {a k : Nat} {x : Int32} (h : T ≤ a ∧ a ≤ T + 70) : FPC T M (setI M a k x) := ⟨rfl, rfl, fun _ _ _ _ => rfl, fun b j _ _ _ q => setI_n (by omega)⟩
theorem fpc_8 (T : Nat) (M : Mem) {k : Nat} {x : Int32} (h : 3 ≤ k) : FPC T M (setI M 208 k x) := ⟨rfl, rfl, fun _ _ _ _ => rfl, fun b j q _ _ _ => setI_n (by omega)⟩
theorem fpr_I (M : Mem) {a k : Nat} {x : Int32} (h : 313 ≤ a ∧ a ≤ 339 ∧ hf a ≤ k) : FPR M (setI M a k x) := ⟨rfl, fun _ _ _ _ => rfl, fun b j _ q => setI_n (by
  by_cases z : b = a
  · by_cases z2 : j = k
    · rw [z, z2] at q; exact absurd h q
    · exact Or.inr z2
  · exact Or.inl z)⟩
/-- a line's part: both go on, or both have a fault -/
def LR (n : Nat) (B : Nat → Nat) (T : Nat) (rc : Option (Int32 × Mem)) (rr : Option Mem) (Mc Mr : Mem) (st : Nat) : Prop :=
  (∃ st' Mc' Mr', st ≤ st' ∧ rc = some (1, Mc') ∧ rr = some Mr' ∧ PP n B T st' Mc' Mr' ∧ FPC T Mc Mc' ∧ FPR Mr Mr') ∨
  (∃ Mc' Mr', rc = some (0, Mc') ∧ rr = some Mr' ∧ FL Mc' Mr' ∧ FPC T Mc Mc' ∧ FPR Mr Mr')
theorem sl_inj : ∀ s, s < 6 → ∀ t, t < 6 → sl s = sl t → s = t := by decide
theorem iN.add {M M' : Mem} {T s0 : Nat} (hs : s0 < 6) (h : iN M T) (lt : Cn M s0 < mxS s0) (e1 : M'.1 313 s0 = nI (Cn M s0 + 1)) (e2 : ∀ s, s < 6 → s ≠ s0 → M'.1 313 s = M.1 313 s) (e3 : M'.1 T (sl s0) = nI (Cn M s0 + 1)) (e4 : ∀ s, s < 6 → s ≠ s0 → M'.1 T (sl s) = M.1 T (sl s)) : iN M' T ∧ Cn M' s0 = Cn M s0 + 1 ∧ ∀ s, s < 6 → s ≠ s0 → Cn M' s = Cn M s := by
  have m8 := mxS_8 s0 hs
  have c0 : Cn M' s0 = Cn M s0 + 1 := by
    have z : Cn M' s0 = (M'.1 313 s0).toNatClampNeg := rfl
    rw [z, e1, nI_clamp (by omega)]
  have cs : ∀ s, s < 6 → s ≠ s0 → Cn M' s = Cn M s := fun s h1 h2 => by
    have z : Cn M' s = (M'.1 313 s).toNatClampNeg := rfl
    rw [z, e2 s h1 h2]
    rfl
  refine ⟨fun s h1 => ?_, c0, cs⟩
  by_cases z : s = s0
  · rw [z, c0, e3, e1]
    exact ⟨rfl, by omega, rfl⟩
  · rw [cs s h1 z, e2 s h1 z, e4 s h1 z]
    exact h s h1
/-- counts in both -/
theorem PP.cnt {n : Nat} {B : Nat → Nat} {T st : Nat} {Mc Mr : Mem} (h : PP n B T st Mc Mr) {s : Nat} (hs : s < 6) : Mr.1 313 (6 + s) = nI (rdN Mr s) ∧ rdN Mr s ≤ mxS s ∧ Mc.1 T (sl s) = nI (rdN Mr s) ∧ mxS s ≤ 8 := by
  obtain ⟨-, -, -, I, -⟩ := h
  obtain ⟨a, b, c⟩ := I.2.1 s hs
  have tc := (tt_c I.1).2.1
  rw [cn_mix] at a b
  have c1 : Mc.1 T (sl s) = (mixM Mc Mr).1 313 s := by
    rw [← c, mix_c Mc Mr (by omega)]
  exact ⟨(mix_r Mc Mr (a := 313) (by omega) (by omega) s).symm.trans a, b, c1.trans a, mxS_8 s hs⟩
theorem PP.tt {n : Nat} {B : Nat → Nat} {T st : Nat} {Mc Mr : Mem} (h : PP n B T st Mc Mr) : TT T := h.2.2.2.1.1
theorem read_f {Mr : Mem} {s k : Nat} (h : Mr.1 313 (6 + s) = nI k) (hs : s < 6) : f_X11_read (nI s) Mr = some (nI k, Mr) := by
  have i6 : 6 + nI s = nI (6 + s) := nI_add _ _
  unfold f_X11_read
  rw [i6, gd_t (inb_nI (by omega) (by omega)), nI_clamp (by omega), h]
theorem i32_09 {v : Nat} {lo hi : Nat} (h : lo ≤ v ∧ v ≤ hi) (hh : hi < 2 ^ 31) : (lo : Int) ≤ (nI v).toInt ∧ (nI v).toInt ≤ (hi : Int) := by
  rw [nI_toInt (by omega)]
  omega
/-- all but one sort's rows are as before: the rest of what is told stands -/
theorem ITS.rest {M M' : Mem} {T : Nat} (h : ITS M T) (s0 : Nat) (cs : ∀ s, s < 6 → s ≠ s0 → Cn M' s = Cn M s) (c0 : Cn M s0 ≤ Cn M' s0) (X : Nat → Prop) (e : ∀ a, ¬ X a → M'.1 a = M.1 a) :
    (s0 ≠ 0 → (∀ a, X a → a ≠ 317 ∧ a ≠ 318 ∧ a ≠ T + 1 ∧ a ≠ T + 2) → ∀ c, c < Cn M' 0 → iC M' T c) ∧
    (s0 ≠ 5 → (∀ a, X a → a ≠ 319) → ∀ f, f < Cn M' 5 → iF M' (Cn M' 0) f) ∧
    (s0 ≠ 1 → (∀ a, X a → a ≠ 320 ∧ a ≠ T + 5) → ∀ k, k < Cn M' 1 → iS M' T k) ∧
    (s0 ≠ 2 → (∀ a, X a → ¬ (321 ≤ a ∧ a ≤ 326) ∧ ¬ (T + 10 ≤ a ∧ a ≤ T + 24)) → ∀ k, k < Cn M' 2 → iK M' T k) ∧
    (s0 ≠ 3 → (∀ a, X a → ¬ (327 ≤ a ∧ a ≤ 329) ∧ ¬ (T + 25 ≤ a ∧ a ≤ T + 30)) → ∀ b, b < Cn M' 3 → iB M' T (Cn M' 0) b) ∧
    (s0 ≠ 4 → (∀ a, X a → ¬ (330 ≤ a ∧ a ≤ 339) ∧ ¬ (T + 31 ≤ a ∧ a ≤ T + 70)) → (∀ p, p < Cn M' 4 → iP M' T (Cn M' 0) (Cn M' 1) (Cn M' 2) p) ∧ ∀ p, p + 1 < Cn M' 4 → (M'.1 330 p).toInt ≤ (M'.1 330 (p + 1)).toInt) ∧
    ((∀ a, X a → a ≠ 314 ∧ a ≠ T + 9) → iR M' T) ∧
    (s0 ≠ 0 → s0 ≠ 5 → (∀ a, X a → ¬ (317 ≤ a ∧ a ≤ 319) ∧ a ≠ T + 3 ∧ a ≠ T + 4) → BB (CC M') M' (T + 3)) := by
  obtain ⟨hT, hN, hC, hF, hS, hK, hB, hP, hm, hR, hBB⟩ := h
  have mono : ∀ s, s < 6 → Cn M s ≤ Cn M' s := fun s hs => by
    by_cases z : s = s0
    · rw [z]; exact c0
    · rw [cs s hs z]; exact Nat.le_refl _
  have n2 := (hN 2 (by omega)).2.1
  have n3 := (hN 3 (by omega)).2.1
  have n4 := (hN 4 (by omega)).2.1
  have mm : mxS 2 = 5 ∧ mxS 3 = 3 ∧ mxS 4 = 8 := by decide
  refine ⟨fun z x c hc => ?_, fun z x f hf => ?_, fun z x k hk => ?_, fun z x k hk => ?_, fun z x b hb => ?_, fun z x => ⟨fun p hp => ?_, fun p hp => ?_⟩, fun x => ?_, fun z z5 x => ?_⟩
  · rw [cs 0 (by omega) (fun q => z q.symm)] at hc
    exact (hC c hc).cong ⟨by rw [e 317 (fun q => (x _ q).1 rfl)], by rw [e 318 (fun q => (x _ q).2.1 rfl)], by rw [e (T + 1) (fun q => (x _ q).2.2.1 rfl)], by rw [e (T + 2) (fun q => (x _ q).2.2.2 rfl)]⟩
  · rw [cs 5 (by omega) (fun q => z q.symm)] at hf
    exact (hF f hf).cong (mono 0 (by omega)) (fun j _ => by rw [e 319 (fun q => (x _ q) rfl)])
  · rw [cs 1 (by omega) (fun q => z q.symm)] at hk
    exact (hS k hk).cong ⟨by rw [e 320 (fun q => (x _ q).1 rfl)], by rw [e (T + 5) (fun q => (x _ q).2 rfl)]⟩
  · rw [cs 2 (by omega) (fun q => z q.symm)] at hk
    have g : ∀ a, (321 ≤ a ∧ a ≤ 326) ∨ (T + 10 ≤ a ∧ a ≤ T + 24) → M'.1 a = M.1 a := fun a ha => e a (fun q => by have := x a q; omega)
    exact (hK k hk).cong (fun a h1 h2 => by rw [g a (by omega)]) (fun i _ => ⟨by rw [g 325 (by omega)], by rw [g 326 (by omega)], by rw [g _ (by omega)], by rw [g _ (by omega)]⟩) (fun j _ => by rw [g _ (by omega)])
  · rw [cs 3 (by omega) (fun q => z q.symm)] at hb
    have g : ∀ a, (327 ≤ a ∧ a ≤ 329) ∨ (T + 25 ≤ a ∧ a ≤ T + 30) → M'.1 a = M.1 a := fun a ha => e a (fun q => by have := x a q; omega)
    exact (hB b hb).cong (mono 0 (by omega)) ⟨by rw [g 327 (by omega)], by rw [g 328 (by omega)]⟩ (fun i _ => ⟨by rw [g 329 (by omega)], by rw [g _ (by omega)]⟩) (fun j _ => by rw [g _ (by omega)])
  · rw [cs 4 (by omega) (fun q => z q.symm)] at hp
    have g : ∀ a, (330 ≤ a ∧ a ≤ 339) ∨ (T + 31 ≤ a ∧ a ≤ T + 70) → M'.1 a = M.1 a := fun a ha => e a (fun q => by have := x a q; omega)
    exact (hP p hp).cong (mono 0 (by omega)) (mono 1 (by omega)) (mono 2 (by omega)) (fun a h1 h2 => by rw [g a (by omega)]) (fun k _ => ⟨fun a h1 h2 => by rw [g a (by omega)], fun a h1 h2 => by rw [g a (by omega)]⟩) (fun j _ => by rw [g _ (by omega)])
  · rw [cs 4 (by omega) (fun q => z q.symm)] at hp
    rw [e 330 (fun q => by have := x _ q; omega)]
    exact hm p hp
  · exact hR.cong (fun k _ => ⟨by rw [e 314 (fun q => (x _ q).1 rfl)], by rw [e (T + 9) (fun q => (x _ q).2 rfl)]⟩)
  · obtain ⟨-, -, -, tr2, -⟩ := tt_r hT
    have g : ∀ a, (317 ≤ a ∧ a ≤ 319) ∨ a = T + 3 ∨ a = T + 4 → M'.1 a = M.1 a := fun a ha => e a (fun q => by have := x a q; omega)
    refine hBB.cong (fun a b v => (CC_cong (cs 0 (by omega) (fun q => z q.symm)) (cs 5 (by omega) (fun q => z5 q.symm)) (fun c _ => ⟨by rw [g 317 (by omega)], by rw [g 318 (by omega)]⟩) (fun f _ j _ => by rw [g 319 (by omega)]) a b v).symm) (by rw [g (T + 3) (by omega)]) (by rw [tr2, g (T + 4) (by omega)])
/-- mixed memories alike, row by row -/
theorem mix_row {Mc Mr Mc' Mr' : Mem} {a : Nat} (h1 : a < 313 → Mc'.1 a = Mc.1 a) (h2 : 313 ≤ a → a ≤ 339 → ∀ k, Mr'.1 a (hf a + k) = Mr.1 a (hf a + k)) (h3 : a ≤ 339) : (mixM Mc' Mr').1 a = (mixM Mc Mr).1 a := by
  rcases Nat.lt_or_ge a 313 with z | z
  · rw [mix_c _ _ z, mix_c _ _ z]
    exact h1 z
  · exact funext (fun k => by rw [mix_r _ _ z h3, mix_r _ _ z h3]; exact h2 z h3 k)
theorem tt_208 {T : Nat} (h : TT T) : T + 70 < 208 ∧ 66 ≤ T := by rcases h with rfl | rfl <;> omega
/-- rows that tell nothing of what was told -/
def Jk (a : Nat) : Prop := a < 66 ∨ (208 ≤ a ∧ a ≤ 312) ∨ a = 315 ∨ a = 316 ∨ 339 < a
theorem NmR.done {s : Nat} {Mc Mr Mc' Mr' : Mem} (hs : s < 6) (h : NmR s Mc Mr) (e1 : Mc'.1 208 9 = Mc.1 208 9) (e2 : Mc'.1 209 = Mc.1 209) (e3 : Mc'.1 211 = Mc.1 211) (e4 : Mc'.2.2.1 210 = Mc.2.2.1 210) (e5 : Mr'.2.1 316 = Mr.2.1 316) (e6 : ∀ t, t < 6 → t ≠ s → Mr'.1 313 (6 + t) = Mr.1 313 (6 + t)) (e7 : Mr'.1 313 (6 + s) = nI (rdN Mr s + 1)) : NmR 6 Mc' Mr' := by
  obtain ⟨h1, m, h2, h3, h4, h5, h6⟩ := h
  have b := (h1 s hs).2
  have m8 := mxS_8 s hs
  have rs : rq s Mr s = rdN Mr s + 1 := by unfold rq; rw [if_pos rfl]
  have er : ∀ t, t < 6 → rq 6 Mr' t = rq s Mr t := fun t ht => by
    by_cases z : t = s
    · rw [z, rs]
      unfold rq rdN
      rw [e7, if_neg (by omega), nI_clamp (by omega)]
      rfl
    · unfold rq rdN
      rw [e6 t ht z, if_neg (by omega), if_neg z]
  have ee : ∀ i s k w, Ent Mc' Mr' i s k w ↔ Ent Mc Mr i s k w := fun i s k w => by unfold Ent; rw [e2, e3, e4, e5]
  refine ⟨fun t ht => ?_, m, by rw [e1, h2], by rw [er 0 (by omega), er 1 (by omega), er 2 (by omega), er 3 (by omega), er 4 (by omega)]; exact h3, fun i hi => ?_, fun t k ht hk => ?_, fun i j hi hj e => ?_⟩
  · refine ⟨?_, by rw [er t ht]; exact (h1 t ht).2⟩
    by_cases z : t = s
    · rw [z]
      have q : rdN Mr' s = rdN Mr s + 1 := by
        unfold rdN
        rw [e7, nI_clamp (by omega)]
        rfl
      rw [q, e7]
    · have q : rdN Mr' t = rdN Mr t := by unfold rdN; rw [e6 t ht z]
      rw [q, e6 t ht z]
      exact (h1 t ht).1
  · obtain ⟨t, k, w, a, b, c⟩ := h4 i hi
    exact ⟨t, k, w, a, by rw [er t (by omega)]; exact b, (ee i t k w).mpr c⟩
  · rw [er t (by omega)] at hk
    obtain ⟨i, w, a, b⟩ := h5 t k ht hk
    exact ⟨i, w, a, (ee i t k w).mpr b⟩
  · rw [e2] at e
    exact h6 i j hi hj e
/-! a side -/
theorem side_tail {Mr : Mem} {k : Nat} (hk : k < 4) (h : Mr.1 313 7 = nI k) (h9 : Mr.1 311 9 ≠ 0) (x : Int32) : cl (f_X11_read 1 Mr) (fun r1 M2m => cl (f_X11_number 0 9 M2m) (fun r2 M3m => gd (inb (4 + r1) 8) (bnd (setI M3m 320 ((4 + r1).toNatClampNeg) r2) (fun M4m => if (M4m.1 311 9) = 0 then bnd (setI M4m 313 7 ((M4m.1 313 7) + 1)) (fun M5m => some M5m) else some M4m)))) = some (setI Mr 320 (4 + k) 0) := by
  have rd : f_X11_read 1 Mr = some (nI k, Mr) := read_f (s := 1) h (by omega)
  have i4 : 4 + nI k = nI (4 + k) := nI_add _ _
  rw [rd, cl_s, number_d h9, cl_s, i4, gd_t (inb_nI (by omega) (by omega)), nI_clamp (by omega), bnd_e, setI_n (by omega), if_neg h9]
theorem side_ls {n : Nat} {B : Nat → Nat} {T st : Nat} {Mc Mr : Mem} (h : PP n B T st Mc Mr) (lt : rdN Mr 1 < 4) : LR n B T (f_X7_tellSide Mc) (f_X11_sideLine Mr) Mc Mr st := by
  have hT := h.tt
  have tc := tt_208 hT
  have t8 := tt_0 hT
  obtain ⟨-, -, -, -, tr6, -⟩ := tt_r hT
  obtain ⟨n1, n2, n3, -⟩ := h.cnt (s := 1) (by omega)
  have n3' : Mc.1 T 5 = nI (rdN Mr 1) := n3
  obtain ⟨hl, eT, N, I, U⟩ := h
  have hst := hl.1
  obtain ⟨k, hk⟩ : ∃ k, k = rdN Mr 1 := ⟨_, rfl⟩
  rw [← hk] at n1 n3' lt
  have n1' : Mr.1 313 7 = nI k := n1
  unfold f_X7_tellSide f_X11_sideLine
  rw [eT, gd_t t8, n3']
  rcases name_ls hl N (s := 1) (by omega) (by rw [← hk]; exact lt) with ⟨Mc1, Mr1, l1, e1, e2, h1, N1, oc1, or1⟩ | ⟨Mc1, Mr1, e1, e2, f1, oc1, or1⟩
  · have e1' : f_X7_giveName 12 (nI k) Mc = some (1, Mc1) := by rw [hk]; exact e1
    have e2' : f_X11_newName 1 Mr = some Mr1 := e2
    have c7 : Mr1.1 313 7 = nI k := by rw [or1.2.2 _ _ (by omega), n1']
    have rd : f_X11_read 1 Mr1 = some (nI k, Mr1) := read_f (s := 1) c7 (by omega)
    have i4 : 4 + nI k = nI (4 + k) := nI_add _ _
    have b1 := (nx_le (B := B) hst).2 l1
    rw [e1', cl_s, if_neg (show ¬ (1 : Int32) = 0 by decide), e2', clv_s]
    rcases num_ls h1 (lo := 0) (hi := 9) (by omega) (by omega) with ⟨v, Mc2, Mr2, v1, v2, l2, e3, q7, e4, h2, oc2, or2⟩ | ⟨Mc2, Mr2, e3, e4, f2, oc2, or2⟩
    · have e3' : f_X7_takeNumber 0 9 Mc1 = some (1, Mc2) := e3
      have e4' : f_X11_number 0 9 Mr1 = some (nI v, Mr2) := e4
      have b2 := (nx_le (B := B) h1.1).2 l2
      have oc := oc1.tr oc2.n
      have or := or1.tr or2.n
      have T2 : Mc2.2.2.1 208 1 = T := by rw [oc.2.2.1 _ _ (by omega) (by omega), eT]
      have T5 : Mc2.1 T 5 = nI k := by rw [oc.2.2.2 _ _ (by omega) (by omega) (by omega)]; exact n3'
      have T3 : (setI Mc2 (T + 5) k (nI v)).2.2.1 208 1 = T := T2
      have T35 : (setI Mc2 (T + 5) k (nI v)).1 T 5 = nI k := by rw [setI_n (by omega), T5]
      obtain ⟨Mc3, d3⟩ : ∃ X, X = setI (setI Mc2 (T + 5) k (nI v)) T 5 (nI (k + 1)) := ⟨_, rfl⟩
      obtain ⟨Mr3, g3⟩ : ∃ X, X = setI (setI Mr2 320 (4 + k) (nI v)) 313 7 (nI (k + 1)) := ⟨_, rfl⟩
      have c72 : (setI Mr2 320 (4 + k) (nI v)).1 313 7 = nI k := by rw [setI_n (by omega), or2.2.2 _ _ (by omega), c7]
      have z9 : (setI Mr2 320 (4 + k) (nI v)).1 311 9 = 0 := by rw [setI_n (by omega)]; exact h2.2.2.2
      have rc : ∀ a j, ¬ (a = T ∧ j = 5) → ¬ (a = T + 5 ∧ j = k) → Mc3.1 a j = Mc2.1 a j := fun a j x y => by rw [d3, setI_n (by omega), setI_n (by omega)]
      have rr : ∀ a j, ¬ (a = 313 ∧ j = 7) → ¬ (a = 320 ∧ j = 4 + k) → Mr3.1 a j = Mr2.1 a j := fun a j x y => by rw [g3, setI_n (by omega), setI_n (by omega)]
      have hc : Mc3.2 = Mc2.2 := by rw [d3]; rfl
      have hr : Mr3.2 = Mr2.2 := by rw [g3]; rfl
      have N2 := N1.g oc2 or2
      have er2 : rdN Mr2 1 = k := by
        have z : rdN Mr2 1 = (Mr2.1 313 7).toNatClampNeg := rfl
        rw [z, or2.2.2 _ _ (by omega), c7, nI_clamp (by omega)]
      -- what is told
      obtain ⟨MM, dM⟩ : ∃ X, X = mixM Mc Mr := ⟨_, rfl⟩
      obtain ⟨MN, dN⟩ : ∃ X, X = mixM Mc3 Mr3 := ⟨_, rfl⟩
      rw [← dM] at I
      have cM : ∀ s, Cn MM s = rdN Mr s := fun s => by rw [dM, cn_mix]
      have rw1 : ∀ a, ¬ (Jk a ∨ a = 313 ∨ a = 320 ∨ a = T ∨ a = T + 5) → MN.1 a = MM.1 a := fun a ha => by
        rw [dM, dN]
        unfold Jk at ha
        exact mix_row (fun z => funext (fun j => by rw [rc a j (by omega) (by omega), oc.2.2.2 a j (by omega) (by omega) (by omega)])) (fun z1 z2 j => by rw [rr a _ (by omega) (by omega), or.2.2 a _ (by omega)]) (by omega)
      have m313 : ∀ s, MN.1 313 s = Mr3.1 313 (6 + s) ∧ MM.1 313 s = Mr.1 313 (6 + s) := fun s => by
        rw [dM, dN, mix_r _ _ (by omega) (by omega), mix_r _ _ (by omega) (by omega)]
        exact ⟨rfl, rfl⟩
      have mT : ∀ a j, a < 208 → MN.1 a j = Mc3.1 a j ∧ MM.1 a j = Mc.1 a j := fun a j ha => by
        rw [dM, dN, mix_c _ _ (by omega), mix_c _ _ (by omega)]
        exact ⟨rfl, rfl⟩
      have m320 : ∀ j, MN.1 320 j = Mr3.1 320 (4 + j) ∧ MM.1 320 j = Mr.1 320 (4 + j) := fun j => by
        rw [dM, dN, mix_r _ _ (by omega) (by omega), mix_r _ _ (by omega) (by omega)]
        exact ⟨rfl, rfl⟩
      have k1 : Cn MM 1 = k := by rw [cM, ← hk]
      have ad := I.2.1.add (M' := MN) (s0 := 1) (by omega) (by rw [k1]; exact lt) (by rw [(m313 1).1, k1, g3]; exact setI_s) (fun s h1 h2 => by rw [(m313 s).1, (m313 s).2, rr _ _ (by omega) (by omega), or.2.2 _ _ (by omega)]) (by rw [(mT T _ (by omega)).1, k1, d3]; exact setI_s) (fun s h1 h2 => by
        have ns : sl s ≠ 5 := fun q => h2 (sl_inj s h1 1 (by omega) q)
        rw [(mT T _ (by omega)).1, (mT T _ (by omega)).2, rc _ _ (by omega) (by omega), oc.2.2.2 _ _ (by omega) (by omega) (by omega)])
      obtain ⟨iN', c1', cs'⟩ := ad
      obtain ⟨R0, R5, R1, R2, R3, R4, R6, R7⟩ := I.rest 1 cs' (by rw [c1']; omega) _ rw1
      have I' : ITS MN T := by
        refine ⟨hT, iN', R0 (by omega) (fun a x => by unfold Jk at x; omega), R5 (by omega) (fun a x => by unfold Jk at x; omega), fun j hj => ?_, R2 (by omega) (fun a x => by unfold Jk at x; omega), R3 (by omega) (fun a x => by unfold Jk at x; omega), (R4 (by omega) (fun a x => by unfold Jk at x; omega)).1, (R4 (by omega) (fun a x => by unfold Jk at x; omega)).2, R6 (fun a x => by unfold Jk at x; omega), R7 (by omega) (by omega) (fun a x => by unfold Jk at x; omega)⟩
        rw [c1', k1] at hj
        by_cases z : j = k
        · rw [z]
          have v320 : MN.1 320 k = nI v := by rw [(m320 k).1, g3, setI_n (by omega), setI_s]
          have vT : MN.1 (T + 5) k = nI v := by rw [(mT (T + 5) k (by omega)).1, d3, setI_n (by omega), setI_s]
          unfold iS
          rw [v320, vT]
          exact ⟨i32_09 (lo := 0) (hi := 9) ⟨v1, v2⟩ (by omega), rfl⟩
        · exact (I.2.2.2.2.1 j (by rw [k1]; omega)).cong ⟨by rw [(m320 j).1, (m320 j).2, rr _ _ (by omega) (by omega), or.2.2 _ _ (by omega)], by rw [(mT (T + 5) j (by omega)).1, (mT (T + 5) j (by omega)).2, rc _ _ (by omega) (by omega), oc.2.2.2 _ _ (by omega) (by omega) (by omega)]⟩
      rw [dN] at I'
      refine Or.inl ⟨nx n B (nx n B st), Mc3, Mr3, by omega, ?_, ?_, ⟨h2.cong (fun j _ => rc _ _ (by omega) (by omega)) (by rw [hc]) (funext (fun j => rc _ _ (by omega) (by omega))) (fun j _ _ => rr _ _ (by omega) (by omega)) (by rw [hr]) (funext (fun j => rr _ _ (by omega) (by omega))), by rw [hc]; exact T2, N2.done (by omega) (rc _ _ (by omega) (by omega)) (funext (fun j => rc _ _ (by omega) (by omega))) (funext (fun j => rc _ _ (by omega) (by omega))) (by rw [hc]) (by rw [hr]) (fun t h1 h2 => rr _ _ (by omega) (by omega)) (by rw [er2, g3]; exact setI_s), I', ?_⟩, ?_, ?_⟩
      · rw [e3', cl_s, if_neg (show ¬ (1 : Int32) = 0 by decide), T2, gd_t t8, T5, gd_t (inb_nI (by omega) (by omega)), nI_clamp (show k < 2 ^ 31 by omega), tr6, q7, bnd_e, T3, gd_t t8, T35, nI_1, bnd_e, ← d3]
      · rw [rd, cl_s, e4', cl_s, i4, gd_t (inb_nI (by omega) (by omega)), nI_clamp (show 4 + k < 2 ^ 31 by omega), bnd_e, z9, if_pos rfl, c72, nI_1, bnd_e, ← g3]
      · obtain ⟨m, u1, u2, u3⟩ := U
        exact ⟨m, u1, by rw [rc _ _ (by omega) (by omega), oc.2.2.2 _ _ (by omega) (by omega) (by omega)]; exact u2, fun j hj => by rw [rr _ _ (by omega) (by omega), or.2.2 _ _ (by omega)]; exact u3 j hj⟩
      · rw [d3]
        exact (oc.p T).tr ((fpc_T T _ (by omega)).tr (fpc_T T _ (by omega)))
      · rw [g3]
        exact or.p.tr ((fpr_I _ (by show 313 ≤ 320 ∧ 320 ≤ 339 ∧ 4 ≤ 4 + k; omega)).tr (fpr_I _ (by show 313 ≤ 313 ∧ 313 ≤ 339 ∧ 6 ≤ 7; omega)))
    · have e3' : f_X7_takeNumber 0 9 Mc1 = some (0, Mc2) := e3
      have e4' : f_X11_number 0 9 Mr1 = some (0, Mr2) := e4
      refine Or.inr ⟨Mc2, setI Mr2 320 (4 + k) 0, by rw [e3', cl_s, if_pos rfl], ?_, ?_, (oc1.tr oc2.n).p T, (or1.tr or2.n).p.tr (fpr_I _ (by show 313 ≤ 320 ∧ 320 ≤ 339 ∧ 4 ≤ 4 + k; omega))⟩
      · rw [rd, cl_s, e4', cl_s, i4, gd_t (inb_nI (by omega) (by omega)), nI_clamp (show 4 + k < 2 ^ 31 by omega), bnd_e, setI_n (by omega), if_neg f2.1]
      · unfold FL
        rw [setI_n (by omega), setI_n (by omega)]
        exact f2
  · have e1' : f_X7_giveName 12 (nI k) Mc = some (0, Mc1) := by rw [hk]; exact e1
    have e2' : f_X11_newName 1 Mr = some Mr1 := e2
    have c7 : Mr1.1 313 7 = nI k := by rw [or1.2.2 _ _ (by omega), n1']
    refine Or.inr ⟨Mc1, setI Mr1 320 (4 + k) 0, by rw [e1', cl_s, if_pos rfl], ?_, ?_, oc1.p T, or1.p.tr (fpr_I _ (by show 313 ≤ 320 ∧ 320 ≤ 339 ∧ 4 ≤ 4 + k; omega))⟩
    · rw [e2', clv_s]
      exact side_tail lt c7 f1.1 0
    · unfold FL
      rw [setI_n (by omega), setI_n (by omega)]
      exact f1
