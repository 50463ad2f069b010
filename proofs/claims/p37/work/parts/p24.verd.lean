/-! THE LAW'S VERDICT: all clocks -/
def Flg (x : Int32) (P : Prop) : Prop := (x = 1 ∧ P) ∨ (x = 0 ∧ ¬ P)
theorem Flg.cong {x : Int32} {P P' : Prop} (h : Flg x P) (e : P ↔ P') : Flg x P' := by
  rcases h with ⟨a, b⟩ | ⟨a, b⟩
  · exact Or.inl ⟨a, e.mp b⟩
  · exact Or.inr ⟨a, fun z => b (e.mpr z)⟩
theorem Flg.and {x y : Int32} {P P' : Prop} (h : Flg x P) (h' : Flg y P') : Flg (x &&& y) (P ∧ P') := by
  rcases h with ⟨rfl, b⟩ | ⟨rfl, b⟩ <;> rcases h' with ⟨rfl, b'⟩ | ⟨rfl, b'⟩
  · exact Or.inl ⟨by decide, b, b'⟩
  · exact Or.inr ⟨by decide, fun z => b' z.2⟩
  · exact Or.inr ⟨by decide, fun z => b z.1⟩
  · exact Or.inr ⟨by decide, fun z => b z.1⟩
section VERD
variable {N : Nat} {xs : Nat → Int32} {n4 p s : Nat}
/-- only the three clocks count -/
theorem atk3 {sm : Nat → Nat → Nat} {M : Mem} (hs : SmO sm) (T : TolS sm M) {p k : Nat} (hp : p < Cn M 4) (hk : k < Fn M p) {l l' : Nat → Int} (e : ∀ c, c < 3 → l c = l' c) : atk M p l k = atk M p l' k := by
  have hp' : p < snp sm := by rw [← (d_cn hs T).2.2.1]; exact hp
  have hF := (d_pl hs T hp').2.2.1
  have hk' : k < sfn sm p := by rw [← hF]; exact hk
  have eq := (d_fr hs T hp' hk').2.1
  unfold atk
  rw [eq, e _ (hs (sat p k + 1) 3 (by omega))]
theorem hi3 {sm : Nat → Nat → Nat} {M : Mem} (hs : SmO sm) (T : TolS sm M) {p s : Nat} (hp : p < Cn M 4) {l l' : Nat → Int} (e : ∀ c, c < 3 → l c = l' c) (m : Nat) : ∀ k, k ≤ Fn M p → hiF M p s l k m = hiF M p s l' k m
  | 0, _ => rfl
  | k + 1, h => by rw [hiF_s, hiF_s, hi3 hs T hp e m k (by omega), atk3 hs T hp (by omega) e]
theorem lo3 {sm : Nat → Nat → Nat} {M : Mem} (hs : SmO sm) (T : TolS sm M) {p s : Nat} (hp : p < Cn M 4) {l l' : Nat → Int} (e : ∀ c, c < 3 → l c = l' c) (m : Nat) : ∀ k, k ≤ Fn M p → loF M p s l k m = loF M p s l' k m
  | 0, _ => rfl
  | k + 1, h => by rw [loF_s, loF_s, lo3 hs T hp e m k (by omega), atk3 hs T hp (by omega) e]
theorem win3 {sm : Nat → Nat → Nat} {M : Mem} (hs : SmO sm) (T : TolS sm M) {p s : Nat} (hp : p < Cn M 4) {l l' : Nat → Int} (e : ∀ c, c < 3 → l c = l' c) : loF M p s l (Fn M p) = loF M p s l' (Fn M p) ∧ hiF M p s l (Fn M p) = hiF M p s l' (Fn M p) := ⟨funext (fun m => lo3 hs T hp e m _ (Nat.le_refl _)), funext (fun m => hi3 hs T hp e m _ (Nat.le_refl _))⟩
theorem eqo3 {m l : Nat → Nat} (e : EqO m l) : ∀ c, c < 3 → m c = l c := fun c hc => by
  rcases (show c = 0 ∨ c = 1 ∨ c = 2 by omega) with rfl | rfl | rfl
  · exact e.1
  · exact e.2.1
  · exact e.2.2
theorem good_eq {sm : Nat → Nat → Nat} {M : Mem} (hs : SmO sm) (T : TolS sm M) (hp : p < Cn M 4) {m l : Nat → Nat} (e : EqO m l) : (GoodL sm M p s m ↔ GoodL sm M p s l) ∧ (AllL sm M p s m ↔ AllL sm M p s l) ∧ (CanL sm M p s m ↔ CanL sm M p s l) := by
  have e3 := eqo3 e
  obtain ⟨w1, w2⟩ := win3 (s := s) hs T hp (l := lI m) (l' := lI l) (fun c hc => congrArg Int.ofNat (e3 c hc))
  refine ⟨?_, ?_, ?_⟩
  · unfold GoodL CanW
    rw [w1, w2]
    have fl : ∀ f, f < snf sm → (FlOk sm m f ↔ FlOk sm l f) := fun f hf => by
      obtain ⟨a1, a2, -⟩ := s_c3 hs f hf
      unfold FlOk
      rw [e3 _ a1, e3 _ a2]
    constructor
    · rintro ⟨z1, z2⟩
      exact ⟨fun f hf => (fl f hf).mp (z1 f hf), z2⟩
    · rintro ⟨z1, z2⟩
      exact ⟨fun f hf => (fl f hf).mpr (z1 f hf), z2⟩
  · unfold AllL
    rw [w1, w2]
  · unfold CanL
    rw [w1, w2]
/-- the law's flags over the clocks in S -/
def Fl3 (sm : Nat → Nat → Nat) (M : Mem) (p s : Nat) (S : (Nat → Nat) → Prop) (x5 x6 x7 : Int32) : Prop := Flg x5 (∃ m, S m ∧ GoodL sm M p s m) ∧ Flg x6 (∀ m, S m → GoodL sm M p s m → AllL sm M p s m) ∧ Flg x7 (∀ m, S m → GoodL sm M p s m → ¬ CanL sm M p s m)
theorem Fl3.cong {sm : Nat → Nat → Nat} {M : Mem} {S S' : (Nat → Nat) → Prop} {x5 x6 x7 : Int32} (h : Fl3 sm M p s S x5 x6 x7) (e : ∀ m, S m ↔ S' m) : Fl3 sm M p s S' x5 x6 x7 := by
  have : S = S' := funext (fun m => propext (e m))
  rw [← this]
  exact h
theorem Fl3.dat {sm : Nat → Nat → Nat} {M M' : Mem} (d : Dat M M') {S : (Nat → Nat) → Prop} {x5 x6 x7 : Int32} (h : Fl3 sm M p s S x5 x6 x7) : Fl3 sm M' p s S x5 x6 x7 := by
  obtain ⟨h1, h2, h3⟩ := h
  refine ⟨h1.cong ?_, h2.cong ?_, h3.cong ?_⟩
  · exact ⟨fun ⟨m, a, b⟩ => ⟨m, a, (GoodL.dat d p s m).mpr b⟩, fun ⟨m, a, b⟩ => ⟨m, a, (GoodL.dat d p s m).mp b⟩⟩
  · exact ⟨fun z m a b => (AllL.dat d p s m).mpr (z m a ((GoodL.dat d p s m).mp b)), fun z m a b => (AllL.dat d p s m).mp (z m a ((GoodL.dat d p s m).mpr b))⟩
  · exact ⟨fun z m a b c => z m a ((GoodL.dat d p s m).mp b) ((CanL.dat d p s m).mp c), fun z m a b c => z m a ((GoodL.dat d p s m).mpr b) ((CanL.dat d p s m).mpr c)⟩
theorem Fl3.step {sm : Nat → Nat → Nat} {M : Mem} (hs : SmO sm) (T : TolS sm M) (hp : p < Cn M 4) {l : Nat → Nat} {S : (Nat → Nat) → Prop} (hB : Box sm l) {x5 x6 x7 y5 y6 y7 : Int32} (h : Fl3 sm M p s S x5 x6 x7) (f : StepF (GoodL sm M p s l) (AllL sm M p s l) (CanL sm M p s l) x5 x6 x7 y5 y6 y7) : Fl3 sm M p s (fun m => S m ∨ (Box sm m ∧ EqO m l)) y5 y6 y7 := by
  have ge : ∀ m, EqO m l → _ := fun m e => good_eq (s := s) hs T hp e
  have el : EqO l l := ⟨rfl, rfl, rfl⟩
  obtain ⟨h1, h2, h3⟩ := h
  rcases f with ⟨n, rfl, rfl, rfl⟩ | ⟨g, rfl, ⟨r, rfl, hr⟩, r', rfl, hr'⟩
  · refine ⟨h1.cong ⟨fun ⟨m, a, b⟩ => ⟨m, Or.inl a, b⟩, ?_⟩, h2.cong ⟨fun z m a b => ?_, fun z m a b => z m (Or.inl a) b⟩, h3.cong ⟨fun z m a b => ?_, fun z m a b => z m (Or.inl a) b⟩⟩
    · rintro ⟨m, a | a, b⟩
      · exact ⟨m, a, b⟩
      · exact absurd ((ge m a.2).1.mp b) n
    · rcases a with a | a
      · exact z m a b
      · exact absurd ((ge m a.2).1.mp b) n
    · rcases a with a | a
      · exact z m a b
      · exact absurd ((ge m a.2).1.mp b) n
  · refine ⟨Or.inl ⟨rfl, l, Or.inr ⟨hB, el⟩, g⟩, ?_, ?_⟩
    · refine (h2.and (show Flg r (AllL sm M p s l) from hr)).cong ⟨fun z m a b => ?_, fun z => ⟨fun m a b => z m (Or.inl a) b, z l (Or.inr ⟨hB, el⟩) g⟩⟩
      rcases a with a | a
      · exact z.1 m a b
      · exact (ge m a.2).2.1.mpr z.2
    · refine (h3.and (show Flg r' (¬ CanL sm M p s l) from by
        rcases hr' with w | w
        · exact Or.inl w
        · exact Or.inr ⟨w.1, fun z => z w.2⟩)).cong ⟨fun z m a b c => ?_, fun z => ⟨fun m a b => z m (Or.inl a) b, z l (Or.inr ⟨hB, el⟩) g⟩⟩
      rcases a with a | a
      · exact z.1 m a b c
      · exact z.2 ((ge m a.2).2.2.mp c)
/-- the word by the flags -/
def wrd (x5 x6 x7 : Int32) : Int32 := if x5 = 0 then 3 else if x6 = 0 then (if x7 = 0 then 2 else 0) else 1
theorem loop_f (hN : N < 2 ^ 30) {Mb : Mem} (Tb : TolS (smN N xs) Mb) (hp : p < Cn Mb 4) (hs16 : s < 16) : ∀ k l M x5 x6 x7, far3 (scb (smN N xs)) l < k → Kp Mb M → 247 ≤ Mb.2.2.2 → Mk Mb M (1 + 3 * (63 - far3 (scb (smN N xs)) l)) (3 + 12 * (63 - far3 (scb (smN N xs)) l)) → LateA M n4 l → Mb.2.2.2 ≤ n4 - 753 → Box (smN N xs) l → Fl3 (smN N xs) Mb p s (fun m => Box (smN N xs) m ∧ LxO m l) x5 x6 x7 →
    ∃ y5 y6 y7 M', f_L_verdict_b41 N xs k (nI p) (nI s) n4 x5 x6 x7 M = some (wrd y5 y6 y7, M') ∧ Kp Mb M' ∧ Mk Mb M' 200 800 ∧ Fl3 (smN N xs) Mb p s (Box (smN N xs)) y5 y6 y7 := by
  have hs := smN_ok N xs
  intro k
  induction k with
  | zero => intro l M _ _ _ h; exact absurd h (Nat.not_lt_zero _)
  | succ k ih =>
    intro l M x5 x6 x7 hk KM hc mk A4 n4b B F
    have T := Tb.dat KM.2.1
    have hpM : p < Cn M 4 := by rw [Cn_dat KM.2.1]; exact hp
    have lef := odo_le (s_w hs) (show BxO (sca (smN N xs)) (scb (smN N xs)) l from B)
    obtain ⟨y5, y6, y7, M1, e1, K1, mk1, st⟩ := clock_1 (x5 := x5) (x6 := x6) (x7 := x7) hN KM.1 T (Nat.le_trans hc KM.2.2.1.1) B A4 hpM hs16 (f_L_verdict_b41 N xs k)
    have F1 := (Fl3.step hs T hpM B (F.dat KM.2.1) st)
    have K01 := KM.tr K1
    have T1 := T.dat K1.2.1
    have n4c := A4.1.2.2
    have A41 : LateA M1 n4 l := A4.oth K1.2.2.1 (K1.2.2.2 n4 A4.1.1 n4c)
    show ∃ z5 z6 z7 M', f_L_verdict_b41_s N xs (f_L_verdict_b41 N xs k) (nI p) (nI s) n4 x5 x6 x7 M = some (wrd z5 z6 z7, M') ∧ _
    rw [e1]
    obtain ⟨r, M2, l', e2, h2, T2, A42, B2, kl, v⟩ := goes_f hN A4.1.1 K1.1 T1 A41 B
    have q2 : EQ M1 M2 := ⟨by rw [kl.1], by rw [kl.1]⟩
    have K2 : Kp Mb M2 := by
      refine ⟨h2, K01.2.1.tr (fun a h1 _ _ => kl.2 a (by have := A4.1.1; omega) h1), K01.2.2.1.tr q2.gx, fun q h1 h3 => ?_⟩
      rw [kl.2 q (by omega) (by omega)]
      exact K01.2.2.2 q h1 h3
    have mk2 : Mk Mb M2 (1 + 3 * (63 - far3 (scb (smN N xs)) l) + 3) (3 + 12 * (63 - far3 (scb (smN N xs)) l) + 12) := ((mk.tr mk1).tr q2.mk).le (by omega) (by omega)
    have F2 : Fl3 (smN N xs) Mb p s (fun m => (Box (smN N xs) m ∧ LxO m l) ∨ (Box (smN N xs) m ∧ EqO m l)) y5 y6 y7 := F1.dat (M' := Mb) (fun a h1 h3 h4 => (KM.2.1 a h1 h3 h4).symm)
    unfold f_L_verdict_b345
    rw [e2, cl_s]
    rcases v with ⟨rfl, nx⟩ | ⟨rfl, la⟩
    · rw [if_neg (by decide)]
      have ff := odo_far (s_w hs) (show BxO (sca (smN N xs)) (scb (smN N xs)) l from B) nx
      refine ih l' M2 y5 y6 y7 (by omega) K2 hc (mk2.le (by omega) (by omega)) A42 n4b B2 (F2.cong (fun m => ?_))
      constructor
      · rintro (⟨a, b⟩ | ⟨a, b⟩)
        · exact ⟨a, (odo_next (show BxO _ _ m from a) (show BxO _ _ l from B) nx).mpr (Or.inl b)⟩
        · exact ⟨a, (odo_next (show BxO _ _ m from a) (show BxO _ _ l from B) nx).mpr (Or.inr b)⟩
      · rintro ⟨a, b⟩
        rcases (odo_next (show BxO _ _ m from a) (show BxO _ _ l from B) nx).mp b with b | b
        · exact Or.inl ⟨a, b⟩
        · exact Or.inr ⟨a, b⟩
    · rw [if_pos rfl]
      refine ⟨y5, y6, y7, M2, ?_, K2, mk2.le (by omega) (by omega), F2.cong (fun m => ?_)⟩
      · unfold wrd
        by_cases c5 : y5 = 0
        · rw [if_pos c5, if_pos c5]
        · rw [if_neg c5, if_neg c5]
          by_cases c6 : y6 = 0
          · rw [if_pos c6, if_pos c6]
            by_cases c7 : y7 = 0
            · rw [if_pos c7, if_pos c7]
            · rw [if_neg c7, if_neg c7]
          · rw [if_neg c6, if_neg c6]
      · constructor
        · rintro (⟨a, -⟩ | ⟨a, -⟩) <;> exact a
        · intro a
          rcases odo_last (show BxO (sca (smN N xs)) (scb (smN N xs)) m from a) la with b | b
          · exact Or.inl ⟨a, b⟩
          · exact Or.inr ⟨a, b⟩
end VERD
