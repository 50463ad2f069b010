/-! THE LAW'S WINDOWS, made by its loops -/
theorem bitw : ∀ w, w < 16 → ∀ m, m < 4 → (nI w >>> (nI m &&& 31)) &&& 1 = if w.testBit m then (1 : Int32) else 0 := by decide +kernel
theorem bitw1 {w m : Nat} (hw : w < 16) (hm : m < 4) : (nI w >>> (nI m &&& 31)) &&& 1 = 1 ↔ w.testBit m = true := by
  rw [bitw w hw m hm]
  cases w.testBit m <;> decide
theorem bitw0 {w m : Nat} (hw : w < 16) (hm : m < 4) : (nI w >>> (nI m &&& 31)) &&& 1 = 0 ↔ w.testBit m = false := by
  rw [bitw w hw m hm]
  cases w.testBit m <;> decide
theorem TolS.dat {sm : Nat → Nat → Nat} {M M' : Mem} (h : TolS sm M) (e : Dat M M') : TolS sm M' := by
  unfold TolS TolD FdC at h ⊢
  rw [e 313 (by omega) (by omega) (by omega), e 317 (by omega) (by omega) (by omega), e 318 (by omega) (by omega) (by omega), e 319 (by omega) (by omega) (by omega), e 324 (by omega) (by omega) (by omega), e 325 (by omega) (by omega) (by omega), e 326 (by omega) (by omega) (by omega), e 331 (by omega) (by omega) (by omega), e 335 (by omega) (by omega) (by omega), e 336 (by omega) (by omega) (by omega), e 337 (by omega) (by omega) (by omega), e 338 (by omega) (by omega) (by omega), e 339 (by omega) (by omega) (by omega)]
  exact h
theorem Lt.dat {M M' : Mem} (h : Lt M M') : Dat M M' := fun a _ h2 _ => h.2.1 a (by omega)
section WINS2
variable {N : Nat} {xs : Nat → Int32} {Mw : Mem} {n8 n9 : Nat}
/-- rows n8 and n9 hold lv and hv; all else is as in Mw -/
def Win (Mw : Mem) (n8 n9 : Nat) (lv hv : Nat → Int) (a : Mem) : Prop := FourA a n8 lv ∧ FourA a n9 hv ∧ a.2 = Mw.2 ∧ ∀ q, q ≠ n8 → q ≠ n9 → a.1 q = Mw.1 q
theorem Win.lt {lv hv : Nat → Int} {a : Mem} (W : Win Mw n8 n9 lv hv a) : Lt Mw a := by
  obtain ⟨w1, w2, w3, w4⟩ := W
  have q : EQ Mw a := ⟨by rw [w3], by rw [w3]⟩
  exact ⟨q.gx, fun c hc => w4 c (by have := w1.1.1; omega) (by have := w2.1.1; omega), fun c _ _ => by rw [w3]⟩
theorem FourA.cong {a : Mem} {n : Nat} {v v' : Nat → Int} (h : FourA a n v) (e : ∀ m, m < 4 → v m = v' m) : FourA a n v' := ⟨h.1, h.2.1, fun m hm => (h.2.2 m hm).trans (e m hm)⟩
theorem FourA.set {a : Mem} {n m : Nat} {x : Int32} {t : Int} {v : Nat → Int} (h : FourA a n v) (e : x.toInt = t) : FourA (setI a n m x) n (fun j => if j = m then t else v j) := by
  refine ⟨h.1, h.2.1, fun j hj => ?_⟩
  show ((setI a n m x).1 n j).toInt = if j = m then t else v j
  by_cases z : j = m
  · rw [if_pos z, z, setI_s]
    exact e
  · rw [if_neg z, setI_n (Or.inr z)]
    exact h.2.2 j hj
theorem FourA.oth {a : Mem} {n m k : Nat} {x : Int32} {v : Nat → Int} (h : FourA a n v) (hn : n ≠ m) : FourA (setI a m k x) n v := ⟨h.1, h.2.1, fun j hj => by rw [setI_n (Or.inl hn)]; exact h.2.2 j hj⟩
/-- high after one sign, low after one sign -/
def hi1 (b : Bool) (t : Int) (m : Nat) (hv : Nat → Int) : Nat → Int := fun j => if j = m then (if b = true then (if t < hv j then t else hv j) else hv j) else hv j
def lo1 (b : Bool) (t : Int) (m : Nat) (lv : Nat → Int) : Nat → Int := fun j => if j = m then (if b = true then (if lv j < t + 1 then t + 1 else lv j) else lv j) else lv j
theorem win_1 (hn : n8 ≠ n9) {a : Mem} {lv hv : Nat → Int} (W : Win Mw n8 n9 lv hv a) (h : HB Mw) {p k m A B : Nat} (hp : p < Cn Mw 4) (hk : k < Fn Mw p) (hm : m < 4) (eA : Mw.1 338 (10 * p + k) = nI A) (eB : Mw.1 339 (10 * p + k) = nI B) (hA : A < 16) (hB : B < 16) {x3 x5 x6 x7 x10 at_ : Int32} {n4 : Nat} {t : Int} (et : at_.toInt = t) (ht : -1000 ≤ t ∧ t ≤ 500)
    (rec41 : Int32 → Int32 → Nat → Int32 → Int32 → Int32 → Mem → Option (Int32 × Mem)) (rec118 : Int32 → Int32 → Nat → Int32 → Int32 → Int32 → Nat → Nat → Int32 → Int32 → Mem → Option (Int32 × Mem)) (f : Int32 → Int32 → Nat → Int32 → Int32 → Int32 → Nat → Nat → Int32 → Int32 → Int32 → Int32 → Mem → Option (Int32 × Mem)) :
    ∃ a', Win Mw n8 n9 (lo1 (B.testBit m) t m lv) (hi1 (A.testBit m) t m hv) a' ∧ f_L_verdict_b166_s N xs rec41 rec118 f (nI p) x3 n4 x5 x6 x7 n8 n9 x10 (nI k) at_ (nI m) a = f (nI p) x3 n4 x5 x6 x7 n8 n9 x10 (nI k) at_ (nI (m + 1)) a' := by
  have t1 : (at_ + 1).toInt = t + 1 := by rw [← et]; exact add1 (by rw [et]; omega)
  -- low
  have low : ∀ (b : Mem) (hv' : Nat → Int), Win Mw n8 n9 lv hv' b → ∃ a', Win Mw n8 n9 (lo1 (B.testBit m) t m lv) hv' a' ∧ f_L_verdict_b204 N xs rec41 rec118 f (nI p) x3 n4 x5 x6 x7 n8 n9 x10 (nI k) at_ (nI m) b = f (nI p) x3 n4 x5 x6 x7 n8 n9 x10 (nI k) at_ (nI (m + 1)) a' := by
    intro b hv' W'
    have L := W'.lt
    have dt := L.dat
    have fr := (an_frame (h.lt L) (p := p) (k := k) (by rw [Cn_dat dt]; exact hp) (by rw [Fn_dat dt]; exact hk)).2.2.2
    rw [L.2.1 339 (by omega), eB] at fr
    obtain ⟨w1, w2, w3, w4⟩ := W'
    unfold f_L_verdict_b204
    rw [fr, cl_s]
    by_cases c : B.testBit m = true
    · rw [if_pos ((bitw1 hB hm).mpr c), gd_t w1.1, gd_t (inb_nI (by rw [w1.2.1]; exact hm) (by rw [w1.2.1]; decide)), bnd_e, bnd_e, nI_1, nI_clamp (by omega)]
      have v1 := w1.2.2 m hm
      refine ⟨_, ⟨(w1.set (t := if lv m < t + 1 then t + 1 else lv m) ?_).cong (fun j hj => ?_), w2.oth hn.symm, w3, fun q h1 h2 => ?_⟩, rfl⟩
      · unfold max32
        by_cases y : b.1 n8 m < at_ + 1
        · rw [if_pos y, t1]
          rw [Int32.lt_iff_toInt_lt, t1, v1] at y
          rw [if_pos y]
        · rw [if_neg y, v1]
          rw [Int32.lt_iff_toInt_lt, t1, v1] at y
          rw [if_neg y]
      · unfold lo1
        by_cases z : j = m
        · rw [if_pos z, if_pos z, if_pos c, z]
        · rw [if_neg z, if_neg z]
      · rw [← w4 q h1 h2]
        exact funext (fun i => setI_n (Or.inl h1))
    · rw [if_neg (fun z => c ((bitw1 hB hm).mp z)), bnd_e, nI_1]
      refine ⟨b, ⟨w1.cong (fun j hj => ?_), w2, w3, w4⟩, rfl⟩
      unfold lo1
      rw [if_neg c]
      split <;> rfl
  have L := W.lt
  have dt := L.dat
  have fr := (an_frame (h.lt L) (p := p) (k := k) (by rw [Cn_dat dt]; exact hp) (by rw [Fn_dat dt]; exact hk)).2.2.1
  rw [L.2.1 338 (by omega), eA] at fr
  unfold f_L_verdict_b166_s
  rw [if_neg (show ¬ (4 : Int32) ≤ nI m from nge (a := m) (b := 4) (by omega) (by omega) hm), fr, cl_s]
  obtain ⟨w1, w2, w3, w4⟩ := W
  by_cases c : A.testBit m = true
  · rw [if_pos ((bitw1 hA hm).mpr c), gd_t w2.1, gd_t (inb_nI (by rw [w2.2.1]; exact hm) (by rw [w2.2.1]; decide)), bnd_e, nI_clamp (by omega)]
    have v1 := w2.2.2 m hm
    refine low _ _ ⟨w1.oth hn, (w2.set (t := if t < hv m then t else hv m) ?_).cong (fun j hj => ?_), w3, fun q h1 h2 => ?_⟩
    · unfold min32
      by_cases y : at_ < a.1 n9 m
      · rw [if_pos y, et]
        rw [Int32.lt_iff_toInt_lt, et, v1] at y
        rw [if_pos y]
      · rw [if_neg y, v1]
        rw [Int32.lt_iff_toInt_lt, et, v1] at y
        rw [if_neg y]
    · unfold hi1
      by_cases z : j = m
      · rw [if_pos z, if_pos z, if_pos c, z]
      · rw [if_neg z, if_neg z]
    · rw [← w4 q h1 h2]
      exact funext (fun i => setI_n (Or.inl h2))
  · rw [if_neg (fun z => c ((bitw1 hA hm).mp z))]
    refine low _ _ ⟨w1, w2.cong (fun j hj => ?_), w3, w4⟩
    unfold hi1
    rw [if_neg c]
    split <;> rfl
end WINS2
