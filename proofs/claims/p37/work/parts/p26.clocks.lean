/-! THE LAW'S areClocks -/
section CLOCKS
variable {N : Nat} {xs : Nat → Int32} {n2 n3 n4 : Nat} {Mb : Mem}
def Three (M : Mem) (n : Nat) (v : Nat → Int) : Prop := dyo M n 20 ∧ dln M n = 3 ∧ ∀ c, c < 3 → (M.1 n c).toInt = v c
theorem Three.cong {M : Mem} {n : Nat} {v v' : Nat → Int} (h : Three M n v) (e : ∀ c, c < 3 → v c = v' c) : Three M n v' := ⟨h.1, h.2.1, fun c hc => (h.2.2 c hc).trans (e c hc)⟩
theorem Three.mem {M M' : Mem} {n : Nat} {v : Nat → Int} (h : Three M n v) (e : M'.2 = M.2) (e1 : M'.1 n = M.1 n) : Three M' n v := by
  have q : EQ M M' := ⟨by rw [e], by rw [e]⟩
  exact ⟨q.dyo h.1, by rw [q.dlq]; exact h.2.1, fun c hc => by rw [e1]; exact h.2.2 c hc⟩
theorem Three.set {M : Mem} {n c0 : Nat} {x : Int32} {t : Int} {v : Nat → Int} (h : Three M n v) (e : x.toInt = t) : Three (setI M n c0 x) n (fun c => if c = c0 then t else v c) := by
  refine ⟨h.1, h.2.1, fun c hc => ?_⟩
  show ((setI M n c0 x).1 n c).toInt = if c = c0 then t else v c
  by_cases z : c = c0
  · rw [if_pos z, z, setI_s]
    exact e
  · rw [if_neg z, setI_n (Or.inr z)]
    exact h.2.2 c hc
theorem Three.oth {M : Mem} {n m k : Nat} {x : Int32} {v : Nat → Int} (h : Three M n v) (hn : n ≠ m) : Three (setI M m k x) n v := ⟨h.1, h.2.1, fun c hc => by rw [setI_n (Or.inl hn)]; exact h.2.2 c hc⟩
def OkC (sm : Nat → Nat → Nat) (m : Nat → Nat) : Prop := ∀ f, f < snf sm → FlOk sm m f
def LeP (sm : Nat → Nat → Nat) (S : (Nat → Nat) → Prop) (c : Nat) (v : Int) : Prop := (v = 9999 ∧ ∀ m, S m → ¬ OkC sm m) ∨ ((∃ m, S m ∧ OkC sm m ∧ (m c : Int) = v) ∧ ∀ m, S m → OkC sm m → v ≤ (m c : Int))
def MoP (sm : Nat → Nat → Nat) (S : (Nat → Nat) → Prop) (c : Nat) (v : Int) : Prop := (v = -1 ∧ ∀ m, S m → ¬ OkC sm m) ∨ ((∃ m, S m ∧ OkC sm m ∧ (m c : Int) = v) ∧ ∀ m, S m → OkC sm m → (m c : Int) ≤ v)
/-- the state between two clocks -/
def Cst (sm : Nat → Nat → Nat) (Mb : Mem) (n2 n3 n4 : Nat) (l : Nat → Nat) (lv wv : Nat → Int) (M : Mem) : Prop := HB M ∧ Dat Mb M ∧ M.2 = Mb.2 ∧ LateA M n2 l ∧ Three M n3 lv ∧ Three M n4 wv ∧ ∀ q, 1000 ≤ q → q ≠ n2 → q ≠ n3 → q ≠ n4 → M.1 q = Mb.1 q
theorem okC_eq {sm : Nat → Nat → Nat} (hs : SmO sm) {m l : Nat → Nat} (e : EqO m l) : OkC sm m ↔ OkC sm l := by
  have e3 := eqo3 e
  have fl : ∀ f, f < snf sm → (FlOk sm m f ↔ FlOk sm l f) := fun f hf => by
    obtain ⟨a1, a2, -⟩ := s_c3 hs f hf
    unfold FlOk
    rw [e3 _ a1, e3 _ a2]
  exact ⟨fun z f hf => (fl f hf).mp (z f hf), fun z f hf => (fl f hf).mpr (z f hf)⟩
theorem LeP.skip {sm : Nat → Nat → Nat} (hs : SmO sm) {S : (Nat → Nat) → Prop} {l : Nat → Nat} {c : Nat} {v : Int} (no : ¬ OkC sm l) (h : LeP sm S c v) : LeP sm (fun m => S m ∨ (Box sm m ∧ EqO m l)) c v := by
  have nn : ∀ m, Box sm m ∧ EqO m l → ¬ OkC sm m := fun m z w => no ((okC_eq hs z.2).mp w)
  rcases h with ⟨a, b⟩ | ⟨⟨m, a1, a2, a3⟩, b⟩
  · exact Or.inl ⟨a, fun m z => z.elim (b m) (nn m)⟩
  · exact Or.inr ⟨⟨m, Or.inl a1, a2, a3⟩, fun m z w => z.elim (fun y => b m y w) (fun y => absurd w (nn m y))⟩
theorem MoP.skip {sm : Nat → Nat → Nat} (hs : SmO sm) {S : (Nat → Nat) → Prop} {l : Nat → Nat} {c : Nat} {v : Int} (no : ¬ OkC sm l) (h : MoP sm S c v) : MoP sm (fun m => S m ∨ (Box sm m ∧ EqO m l)) c v := by
  have nn : ∀ m, Box sm m ∧ EqO m l → ¬ OkC sm m := fun m z w => no ((okC_eq hs z.2).mp w)
  rcases h with ⟨a, b⟩ | ⟨⟨m, a1, a2, a3⟩, b⟩
  · exact Or.inl ⟨a, fun m z => z.elim (b m) (nn m)⟩
  · exact Or.inr ⟨⟨m, Or.inl a1, a2, a3⟩, fun m z w => z.elim (fun y => b m y w) (fun y => absurd w (nn m y))⟩
theorem LeP.put {sm : Nat → Nat → Nat} (hs : SmO sm) {S : (Nat → Nat) → Prop} {l : Nat → Nat} (hB : Box sm l) {c : Nat} (hc : c < 3) {v : Int} (ok : OkC sm l) (h : LeP sm S c v) : LeP sm (fun m => S m ∨ (Box sm m ∧ EqO m l)) c (if (l c : Int) < v then (l c : Int) else v) := by
  have ln : (l c : Int) < 9999 := by
    have := (hB c hc).2
    have := (s_c1 hs c hc).2
    omega
  have me : ∀ m, Box sm m ∧ EqO m l → (m c : Int) = (l c : Int) := fun m z => congrArg Int.ofNat (eqo3 z.2 c hc)
  rcases h with ⟨rfl, b⟩ | ⟨⟨m, a1, a2, a3⟩, b⟩
  · rw [if_pos ln]
    refine Or.inr ⟨⟨l, Or.inr ⟨hB, rfl, rfl, rfl⟩, ok, rfl⟩, fun m z w => z.elim (fun y => absurd w (b m y)) (fun y => by rw [me m y]; omega)⟩
  · by_cases z : (l c : Int) < v
    · rw [if_pos z]
      exact Or.inr ⟨⟨l, Or.inr ⟨hB, rfl, rfl, rfl⟩, ok, rfl⟩, fun m y w => y.elim (fun y => by have := b m y w; omega) (fun y => by rw [me m y]; omega)⟩
    · rw [if_neg z]
      exact Or.inr ⟨⟨m, Or.inl a1, a2, a3⟩, fun m y w => y.elim (fun y => b m y w) (fun y => by rw [me m y]; omega)⟩
theorem MoP.put {sm : Nat → Nat → Nat} {S : (Nat → Nat) → Prop} {l : Nat → Nat} (hB : Box sm l) {c : Nat} (hc : c < 3) {v : Int} (ok : OkC sm l) (h : MoP sm S c v) : MoP sm (fun m => S m ∨ (Box sm m ∧ EqO m l)) c (if v < (l c : Int) then (l c : Int) else v) := by
  have me : ∀ m, Box sm m ∧ EqO m l → (m c : Int) = (l c : Int) := fun m z => congrArg Int.ofNat (eqo3 z.2 c hc)
  rcases h with ⟨rfl, b⟩ | ⟨⟨m, a1, a2, a3⟩, b⟩
  · rw [if_pos (by omega)]
    refine Or.inr ⟨⟨l, Or.inr ⟨hB, rfl, rfl, rfl⟩, ok, rfl⟩, fun m z w => z.elim (fun y => absurd w (b m y)) (fun y => by rw [me m y]; omega)⟩
  · by_cases z : v < (l c : Int)
    · rw [if_pos z]
      exact Or.inr ⟨⟨l, Or.inr ⟨hB, rfl, rfl, rfl⟩, ok, rfl⟩, fun m y w => y.elim (fun y => by have := b m y w; omega) (fun y => by rw [me m y]; omega)⟩
    · rw [if_neg z]
      exact Or.inr ⟨⟨m, Or.inl a1, a2, a3⟩, fun m y w => y.elim (fun y => b m y w) (fun y => by rw [me m y]; omega)⟩
theorem LeP.cong {sm : Nat → Nat → Nat} {S S' : (Nat → Nat) → Prop} {c : Nat} {v : Int} (h : LeP sm S c v) (e : ∀ m, S m ↔ S' m) : LeP sm S' c v := by
  have : S = S' := funext (fun m => propext (e m))
  rw [← this]
  exact h
theorem MoP.cong {sm : Nat → Nat → Nat} {S S' : (Nat → Nat) → Prop} {c : Nat} {v : Int} (h : MoP sm S c v) (e : ∀ m, S m ↔ S' m) : MoP sm S' c v := by
  have : S = S' := funext (fun m => propext (e m))
  rw [← this]
  exact h
/-- one clock taken into least and most -/
theorem take_1 (h23 : n2 ≠ n3) (h24 : n2 ≠ n4) (h34 : n3 ≠ n4) {l : Nat → Nat} {lv wv : Nat → Int} {M : Mem} (C : Cst (smN N xs) Mb n2 n3 n4 l lv wv M) (hl : ∀ c, c < 3 → l c < 2 ^ 20) (rec70 : Nat → Nat → Nat → Mem → Option (Int32 × Mem)) :
    ∃ M', Cst (smN N xs) Mb n2 n3 n4 l (fun c => if (l c : Int) < lv c then (l c : Int) else lv c) (fun c => if wv c < (l c : Int) then (l c : Int) else wv c) M' ∧ f_L_areClocks_b85 N xs rec70 fuel n2 n3 n4 0 M = f_L_areClocks_b129 N xs rec70 n2 n3 n4 M' := by
  refine lp_inv (s := f_L_areClocks_b85_s N xs rec70) (fun i a f => f n2 n3 n4 (nI i) a) (fun i a => Cst (smN N xs) Mb n2 n3 n4 l (fun c => if c < i then (if (l c : Int) < lv c then (l c : Int) else lv c) else lv c) (fun c => if c < i then (if wv c < (l c : Int) then (l c : Int) else wv c) else wv c) a) (fun r => ∃ M', Cst (smN N xs) Mb n2 n3 n4 l (fun c => if (l c : Int) < lv c then (l c : Int) else lv c) (fun c => if wv c < (l c : Int) then (l c : Int) else wv c) M' ∧ r = f_L_areClocks_b129 N xs rec70 n2 n3 n4 M') 3 (fun i hi a P f => Or.inr ?_) (fun a P f => ?_) fuel (by decide) M (by
    obtain ⟨c1, c2, c3, c4, c5, c6, c7⟩ := C
    exact ⟨c1, c2, c3, c4, c5.cong (fun c _ => (if_neg (Nat.not_lt_zero c)).symm), c6.cong (fun c _ => (if_neg (Nat.not_lt_zero c)).symm), c7⟩)
  · obtain ⟨c1, c2, c3, c4, c5, c6, c7⟩ := P
    obtain ⟨d4, ln4, v4, -⟩ := c4
    have x3 : (a.1 n3 i).toInt = lv i := (c5.2.2 i hi).trans (if_neg (Nat.lt_irrefl i))
    have x4 : (a.1 n4 i).toInt = wv i := (c6.2.2 i hi).trans (if_neg (Nat.lt_irrefl i))
    have xl : (a.1 n2 i).toInt = (l i : Int) := by rw [v4 i hi, nI_toInt (by have := hl i hi; omega)]
    have n310 := c5.1.1
    have n410 := c6.1.1
    have c5' := c5.set (c0 := i) (x := min32 (a.1 n3 i) (a.1 n2 i)) (t := if (l i : Int) < lv i then (l i : Int) else lv i) (by
      unfold min32
      by_cases z : a.1 n2 i < a.1 n3 i
      · rw [if_pos z, xl]
        rw [Int32.lt_iff_toInt_lt, xl, x3] at z
        rw [if_pos z]
      · rw [if_neg z, x3]
        rw [Int32.lt_iff_toInt_lt, xl, x3] at z
        rw [if_neg z])
    obtain ⟨M1, m1⟩ : ∃ X, X = setI a n3 i (min32 (a.1 n3 i) (a.1 n2 i)) := ⟨_, rfl⟩
    rw [← m1] at c5'
    have r1 : ∀ q, q ≠ n3 → M1.1 q = a.1 q := fun q h => by rw [m1]; exact funext (fun j => setI_n (Or.inl h))
    have p1 : M1.2 = a.2 := by rw [m1]; rfl
    have c6' := (c6.mem p1 (r1 n4 h34.symm)).set (c0 := i) (x := max32 (M1.1 n4 i) (M1.1 n2 i)) (t := if wv i < (l i : Int) then (l i : Int) else wv i) (by
      rw [r1 n4 h34.symm, r1 n2 h23]
      unfold max32
      by_cases z : a.1 n4 i < a.1 n2 i
      · rw [if_pos z, xl]
        rw [Int32.lt_iff_toInt_lt, xl, x4] at z
        rw [if_pos z]
      · rw [if_neg z, x4]
        rw [Int32.lt_iff_toInt_lt, xl, x4] at z
        rw [if_neg z])
    obtain ⟨M2, m2⟩ : ∃ X, X = setI M1 n4 i (max32 (M1.1 n4 i) (M1.1 n2 i)) := ⟨_, rfl⟩
    rw [← m2] at c6'
    have r2 : ∀ q, q ≠ n4 → M2.1 q = M1.1 q := fun q h => by rw [m2]; exact funext (fun j => setI_n (Or.inl h))
    have p2 : M2.2 = a.2 := by rw [m2]; exact p1
    have h2 : HB M2 := by rw [m2, m1]; exact (c1.later n310).later n410
    refine ⟨M2, ⟨h2, c2.tr (fun b _ b2 _ => by rw [r2 b (by omega), r1 b (by omega)]), p2.trans c3, LateA.off ⟨d4, ln4, v4, hl⟩ p2 (by rw [r2 n2 h24, r1 n2 h23]), ((c5'.mem (by rw [m2]; rfl) (r2 n3 h34)).cong (fun c _ => ?_)), c6'.cong (fun c _ => ?_), fun q b1 b2 b3 b4 => by rw [r2 q b4, r1 q b3]; exact c7 q b1 b2 b3 b4⟩, ?_⟩
    · by_cases z : c = i
      · rw [if_pos z, z, if_pos (Nat.lt_succ_self i)]
      · rw [if_neg z]
        by_cases y : c < i
        · rw [if_pos y, if_pos (show c < i + 1 by omega)]
        · rw [if_neg y, if_neg (show ¬ c < i + 1 by omega)]
    · by_cases z : c = i
      · rw [if_pos z, z, if_pos (Nat.lt_succ_self i)]
      · rw [if_neg z]
        by_cases y : c < i
        · rw [if_pos y, if_pos (show c < i + 1 by omega)]
        · rw [if_neg y, if_neg (show ¬ c < i + 1 by omega)]
    · show f_L_areClocks_b85_s N xs rec70 f n2 n3 n4 (nI i) a = _
      have q1 : EQ a M1 := ⟨by rw [p1], by rw [p1]⟩
      have m1' : M1 = setI a n3 (nI i).toNatClampNeg (min32 (a.1 n3 (nI i).toNatClampNeg) (a.1 n2 (nI i).toNatClampNeg)) := by rw [nI_clamp (by omega)]; exact m1
      unfold f_L_areClocks_b85_s
      rw [if_neg (show ¬ (3 : Int32) ≤ nI i from nge (a := i) (b := 3) (by omega) (by omega) hi), gd_t (dq3 c5.1), gd_t (inb_nI (by rw [c5.2.1]; exact hi) (by rw [c5.2.1]; decide)), gd_t d4, gd_t (inb_nI (by rw [ln4]; exact hi) (by rw [ln4]; decide)), bnd_e, ← m1', gd_t (dq3 (q1.dyo c6.1)), gd_t (inb_nI (by rw [q1.dlq, c6.2.1]; exact hi) (by rw [q1.dlq, c6.2.1]; decide)), bnd_e, nI_clamp (by omega), ← m2, bnd_e, nI_1]
  · obtain ⟨c1, c2, c3, c4, c5, c6, c7⟩ := P
    show ∃ M', _ ∧ f_L_areClocks_b85_s N xs rec70 f n2 n3 n4 (nI 3) a = _
    unfold f_L_areClocks_b85_s
    rw [if_pos (show (3 : Int32) ≤ nI 3 from Int32.le_refl _)]
    exact ⟨a, ⟨c1, c2, c3, c4, c5.cong (fun c hc => if_pos hc), c6.cong (fun c hc => if_pos hc), c7⟩, rfl⟩
end CLOCKS
