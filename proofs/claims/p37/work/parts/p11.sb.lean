/-! THE STRING BUILDER: its bytes -/
theorem dq3 {M : Mem} {n c : Nat} (d : dyo M n c) : 1000 ≤ n ∧ dsc M n = c ∧ n - 753 < M.2.2.2 := d
theorem shr0 (x : Int32) : x >>> ((0 : Int32) &&& 31) = x := by
  rw [show (0 : Int32) &&& 31 = 0 by decide]
  exact Int32.shiftRight_zero
theorem shl0 (x : Int32) : x <<< ((0 : Int32) &&& 31) = x := by
  rw [show (0 : Int32) &&& 31 = 0 by decide]
  exact Int32.shiftLeft_zero
theorem ofN (k : Nat) : Int32.ofNat k = nI k := rfl
theorem cl0 : (0 : Int32).toNatClampNeg = 0 := by decide
theorem max_nI {a b : Nat} (ha : a < 2 ^ 31) (hb : b < 2 ^ 31) : max32 (nI a) (nI b) = nI (max a b) := by
  unfold max32
  by_cases h : a < b
  · rw [if_pos ((lt_nI ha hb).mpr h), show max a b = b by omega]
  · rw [if_neg (fun z => h ((lt_nI ha hb).mp z)), show max a b = a by omega]
theorem min_nI {a b : Nat} (ha : a < 2 ^ 31) (hb : b < 2 ^ 31) : min32 (nI a) (nI b) = nI (min a b) := by
  unfold min32
  by_cases h : b < a
  · rw [if_pos ((lt_nI hb ha).mpr h), show min a b = b by omega]
  · rw [if_neg (fun z => h ((lt_nI hb ha).mp z)), show min a b = a by omega]
theorem subN_le {x y : Nat} (hx : x < 2 ^ 29) (hy : y < 2 ^ 29) : nI x - nI y ≤ 0 ↔ x ≤ y := by
  rw [Int32.le_iff_toInt_le, subN_toInt hx hy, show (0 : Int32).toInt = 0 by decide]
  omega
/-- bytes fit -/
def FitR (M : Mem) (a : Nat) : Prop := ∀ k, (-128 : Int32) ≤ M.1 a k ∧ M.1 a k ≤ 127
/-- the string builder n holds the bytes l in the row a -/
def Sa (M : Mem) (n a : Nat) (l : List Nat) : Prop := dyo M n 11 ∧ M.1 n 1 = 0 ∧ M.1 n 3 = nI l.length ∧ l.length ≤ 600 ∧ (∀ b, b ∈ l → b < 128) ∧ M.2.2.1 n 0 = a ∧ a ≠ n ∧ dyo M a 22 ∧ l.length ≤ dln M a ∧ dln M a ≤ 1300 ∧ (∀ k, k < l.length → M.1 a k = nI (l.getD k 0)) ∧ FitR M a
def Sb (M : Mem) (n : Nat) (l : List Nat) : Prop := ∃ a, Sa M n a l
theorem copyB {M : Mem} {a b c w : Nat} (da : dyo M a 22) (db : dyo M b 22) (ec : dln M a = c) (ew : dln M b = w) (h : c ≤ w) (hw : w ≤ 100000) (f : FitR M a) : f_J7_copyOf_9075b_b17 a (nI w) b M = some (b, cpG M a b 0 0 c) := by
  unfold f_J7_copyOf_9075b_b17
  have em : min32 (Int32.ofNat (dln M a)) (nI w) = nI c := by
    rw [ofN, ec, min_nI (by omega) (by omega), show min c w = c by omega]
  rw [gd_t (dq3 da), gd_t (dq3 db), em, cl0]
  refine (gd_t (nI_pos (by omega))).trans ?_
  have ecl : (nI c).toNatClampNeg = c := nI_clamp (by omega)
  refine (gd_t (by rw [ecl, ec]; omega)).trans ?_
  refine (gd_t (by rw [ecl, ew]; omega)).trans ?_
  refine (gd_t (fun i _ => f _)).trans ?_
  rw [bnd_e, ecl]
theorem ncap {M : Mem} {n a c m : Nat} {l : List Nat} (S : Sa M n a l) (ec : dln M a = c) (hm : m ≤ 600) (h : c < m) : f_J5_newCapacity_0f7a4 n (nI m) M = some (nI (c + max (m - c) (c + 2)), M) := by
  obtain ⟨d, s1, s3, sl, sb, ea, an, da, la, lb, sv, sy⟩ := S
  unfold f_J5_newCapacity_0f7a4
  rw [ea, gd_t (dq3 d), gd_t (dq3 da), bnd_e, bnd_e, bnd_e, s1, shl0, shl0, ofN, ec, nI_sub (by omega), show nI c + 2 = nI (c + 2) from nI_add c 2]
  have z1 : ¬ nI (c + max (m - c) (c + 2)) ≤ 0 := by
    rw [Int32.le_iff_toInt_le, nI_toInt (by omega), show (0 : Int32).toInt = 0 by decide]
    omega
  have z2 : ¬ (2147483639 : Int32) < nI (c + max (m - c) (c + 2)) := by
    rw [Int32.lt_iff_toInt_lt, nI_toInt (by omega), show (2147483639 : Int32).toInt = 2147483639 by decide]
    omega
  have z3 : ¬ nI (c + max (m - c) (c + 2)) = 2147483647 := fun z => by
    have := congrArg Int32.toInt z
    rw [nI_toInt (by omega), show (2147483647 : Int32).toInt = 2147483647 by decide] at this
    omega
  have nl : f_J8_newLength_cabcc (nI c) (nI (m - c)) (nI (c + 2)) M = some (nI (c + max (m - c) (c + 2)), M) := by
    unfold f_J8_newLength_cabcc
    rw [max_nI (by omega) (by omega), nI_add, bnd_e, if_neg z1, if_neg z2]
  rw [nl, cl_s, if_neg z3, s1, shr0]
theorem ens_f {M : Mem} {n m : Nat} {l : List Nat} (hc : 247 ≤ M.2.2.2) (S : Sb M n l) (hm : m ≤ 600) : ∃ M', f_J5_ensureCapacityInternal_d00df n (nI m) M = some M' ∧ Lt M M' ∧ Mk M M' 1 1300 ∧ ∃ a, Sa M' n a l ∧ m ≤ dln M' a := by
  obtain ⟨a, S⟩ := S
  obtain ⟨c, ec⟩ : ∃ c, dln M a = c := ⟨_, rfl⟩
  have S0 := S
  obtain ⟨d, s1, s3, sl, sb, ea, an, da, la, lb, sv, sy⟩ := S
  unfold f_J5_ensureCapacityInternal_d00df
  rw [ea, gd_t (dq3 d), gd_t (dq3 da), bnd_e, s1, shr0, ofN, ec]
  rw [ec] at la lb
  by_cases h : m ≤ c
  · rw [if_pos ((subN_le (by omega) (by omega)).mpr h)]
    exact ⟨M, rfl, Lt.refl M, ⟨by omega, by omega⟩, a, S0, by rw [ec]; exact h⟩
  · rw [if_neg (fun z => h ((subN_le (by omega) (by omega)).mp z)), ncap S0 ec hm (by omega), cl_s, s1, shl0]
    obtain ⟨w, ew⟩ : ∃ w, c + max (m - c) (c + 2) = w := ⟨_, rfl⟩
    have w1 : c < w ∧ m ≤ w ∧ w ≤ 1300 := by omega
    rw [ew]
    obtain ⟨M2, e2⟩ : ∃ X, X = nwA 22 w w M := ⟨_, rfl⟩
    obtain ⟨d2, l2⟩ := dyo_nw (M := M) 22 w w hc
    have L2 : Lt M M2 := by rw [e2]; exact lt_nw hc
    have K2 : Mk M M2 1 w := by rw [e2]; exact mk_nw _ _ _ _
    have r2 : ∀ q, q ≠ nn M → M2.1 q = M.1 q := fun q h => by rw [e2]; exact nwA_I h
    have t2 : ∀ q, q ≠ nn M → q ≠ 0 → M2.2.2.1 q = M.2.2.1 q := fun q h h0 => by rw [e2]; exact nwA_R h h0
    have i2 : M2.1 (nn M) = fun _ => 0 := by rw [e2]; exact nwA_Is
    have na := da.ne
    have nd := d.ne
    rw [← e2] at d2 l2
    obtain ⟨b, eb⟩ : ∃ b, b = nn M := ⟨_, rfl⟩
    rw [← eb] at d2 l2 na nd r2 i2 t2
    have da2 : dyo M2 a 22 := L2.1.dyo da
    have dl2 : dln M2 a = c := L2.1.dl da ec
    have f2 : FitR M2 a := fun k => by rw [r2 a na]; exact sy k
    have cp : f_J7_copyOf_9075b a (nI w) M = some (b, cpG M2 a b 0 0 c) := by
      unfold f_J7_copyOf_9075b
      have q1 : ¬ nI w = Int32.ofNat (dln M a) := fun z => by
        rw [ofN, ec] at z
        have := inj_nI (by omega) (by omega) z
        omega
      have ecl : (nI w).toNatClampNeg = w := nI_clamp (by omega)
      rw [gd_t (dq3 da), if_neg q1]
      refine (gd_t ⟨nI_pos (by omega), by rw [ecl]; omega⟩).trans ?_
      rw [bnd_e, ecl, ← e2, ← eb]
      exact copyB da2 d2 dl2 l2 (by omega) (by omega) f2
    rw [cp, cl_s]
    obtain ⟨M3, e3⟩ : ∃ X, X = cpG M2 a b 0 0 c := ⟨_, rfl⟩
    have L3 : Lt M2 M3 := by rw [e3]; exact lt_cpG d2.1
    have K3 : Mk M2 M3 0 0 := by rw [e3]; exact (EQ_cpG _ _ _ _ _ _).mk
    have r3 : ∀ q, q ≠ b → M3.1 q = M2.1 q := fun q h => by rw [e3]; exact if_neg h
    have v3 : ∀ k, M3.1 b k = if k < c then M.1 a k else 0 := fun k => by
      have : M3.1 b k = va_cpy (M2.1 a) (M2.1 b) 0 0 c k := by
        rw [e3]
        show (if b = b then va_cpy (M2.1 a) (M2.1 b) 0 0 c else M2.1 b) k = _
        rw [if_pos rfl]
      rw [this, i2, r2 a na]
      show (if 0 ≤ k ∧ k < 0 + c then M.1 a (0 + (k - 0)) else 0) = _
      by_cases z : k < c
      · rw [if_pos ⟨Nat.zero_le _, by omega⟩, if_pos z]
        rw [Nat.zero_add, Nat.sub_zero]
      · rw [if_neg (by omega), if_neg z]
    have d3 : dyo M3 n 11 := L3.1.dyo (L2.1.dyo d)
    rw [← e3]
    unfold f_J5_ensureCapacityInternal_d00df_b35
    rw [gd_t (dq3 d3), bnd_e]
    have L4 : Lt M3 (setR M3 n 0 b) := lt_R d.1
    refine ⟨_, rfl, (L2.tr L3).tr L4, ((K2.tr K3).tr (EQ_R M3 0 b (by have := d.1; omega)).mk).le (by omega) (by omega), b, ?_, ?_⟩
    · have db4 : dyo (setR M3 n 0 b) b 22 := L4.1.dyo (L3.1.dyo d2)
      have dl4 : dln (setR M3 n 0 b) b = w := L4.1.dl (L3.1.dyo d2) (L3.1.dl d2 l2)
      have rn : M3.1 n = M.1 n := by rw [r3 n nd, r2 n nd]
      refine ⟨L4.1.dyo d3, ?_, ?_, sl, sb, ?_, fun z => nd z.symm, db4, by rw [dl4]; omega, by rw [dl4]; omega, fun k hk => ?_, fun k => ?_⟩
      · show M3.1 n 1 = 0
        rw [rn]; exact s1
      · show M3.1 n 3 = _
        rw [rn]; exact s3
      · show (if n = n ∧ 0 = 0 then b else M3.2.2.1 n 0) = b
        rw [if_pos ⟨rfl, rfl⟩]
      · show M3.1 b k = _
        rw [v3, if_pos (by omega)]
        exact sv k hk
      · show (-128 : Int32) ≤ M3.1 b k ∧ M3.1 b k ≤ 127
        rw [v3]
        split
        · exact sy k
        · decide
    · rw [L4.1.dl (L3.1.dyo d2) (L3.1.dl d2 l2)]
      omega
