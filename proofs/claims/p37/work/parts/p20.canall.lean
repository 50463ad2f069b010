/-! THE LAW'S canAll -/
section CANALL
variable {N : Nat} {xs : Nat → Int32} {kd n3 n4 : Nat} {M1 : Mem} {lo hi : Nat → Int}
def npK (sm : Nat → Nat → Nat) (kd : Nat) : Nat := if sm (27 + kd) 3 = 0 then 2 else 1
def fK (sm : Nat → Nat → Nat) (kd k : Nat) : Nat := if k = 0 then skf sm kd else 0
def gK (sm : Nat → Nat → Nat) (kd k : Nat) : Nat := if k = 0 then skg sm kd else 1 + sm (29 + kd) 2
theorem np_le (sm : Nat → Nat → Nat) (kd : Nat) : npK sm kd ≤ 2 ∧ 1 ≤ npK sm kd := by unfold npK; split <;> omega
theorem fg_ok {sm : Nat → Nat → Nat} (hs : SmO sm) (kd k : Nat) : fK sm kd k < 3 ∧ gK sm kd k < 3 ∧ fK sm kd k ≠ gK sm kd k := by
  obtain ⟨p1, p2, p3, p4⟩ := s_kpr hs (k := kd)
  unfold fK gK
  split
  · exact ⟨p1, p2, p3⟩
  · exact ⟨by omega, p4, by omega⟩
def Bdd (v : Nat → Int) (B : Int) : Prop := ∀ m, m < 4 → -1000 ≤ v m ∧ v m ≤ B
/-- the row n4 holds v; all else is as in M1 -/
def At4 (M1 : Mem) (n4 : Nat) (v : Nat → Int) (a : Mem) : Prop := FourA a n4 v ∧ a.2 = M1.2 ∧ ∀ q, q ≠ n4 → a.1 q = M1.1 q
theorem bdd_pu {v : Nat → Int} {B : Int} {f g : Nat} (hf : f < 4) (hb : Bdd v B) : Bdd (pu f g v) (B + 1) := fun m hm => by
  have h1 := hb m hm
  have h2 := hb f hf
  unfold pu
  split
  · rename_i e
    subst e
    split <;> omega
  · omega
theorem add1 {x : Int32} (h : -1000 ≤ x.toInt ∧ x.toInt ≤ 600) : (x + 1).toInt = x.toInt + 1 := by
  rw [Int32.toInt_add, show (1 : Int32).toInt = 1 by decide]
  exact Int.bmod_eq_of_le (by omega) (by omega)
theorem push_1 (hN : N < 2 ^ 30) (hk : kd < 2) {k : Nat} (hkn : k < npK (smN N xs) kd) {v : Nat → Int} {a : Mem} (P : At4 M1 n4 v a) (hb : Bdd v 600) {x5 : Int32} (rec12 : Int32 → Nat → Nat → Int32 → Mem → Option (Int32 × Mem)) (f : Int32 → Nat → Nat → Int32 → Int32 → Mem → Option (Int32 × Mem)) :
    ∃ a', At4 M1 n4 (pu (fK (smN N xs) kd k) (gK (smN N xs) kd k) v) a' ∧ f_L_canAll_b21_s N xs rec12 f (nI kd) n3 n4 x5 (nI k) a = f (nI kd) n3 n4 x5 (nI (k + 1)) a' := by
  have hs := smN_ok N xs
  obtain ⟨f3, g3, -⟩ := fg_ok hs kd k
  have n2 := np_le (smN N xs) kd
  obtain ⟨⟨d, l4, vv⟩, p2, p3⟩ := P
  obtain ⟨F, eF⟩ : ∃ F, F = fK (smN N xs) kd k := ⟨_, rfl⟩
  obtain ⟨G, eG⟩ : ∃ G, G = gK (smN N xs) kd k := ⟨_, rfl⟩
  rw [← eF] at f3
  rw [← eG] at g3
  rw [← eF, ← eG]
  have vF := vv F (by omega)
  have vG := vv G (by omega)
  have bF := hb F (by omega)
  have a1 := add1 (x := a.1 n4 F) (by rw [vF]; exact bF)
  refine ⟨setI a n4 G (max32 (a.1 n4 G) (a.1 n4 F + 1)), ⟨⟨d, l4, fun m hm => ?_⟩, p2, fun q hq => ?_⟩, ?_⟩
  · unfold pu
    by_cases z : m = G
    · rw [if_pos z, z, setI_s]
      unfold max32
      by_cases y : a.1 n4 G < a.1 n4 F + 1
      · rw [if_pos y, a1, vF]
        rw [Int32.lt_iff_toInt_lt, a1, vF, vG] at y
        rw [if_pos (by omega)]
      · rw [if_neg y, vG]
        rw [Int32.lt_iff_toInt_lt, a1, vF, vG] at y
        split <;> omega
    · rw [if_neg z, setI_n (Or.inr z)]
      exact vv m hm
  · rw [← p3 q hq]
    exact funext (fun j => setI_n (Or.inl hq))
  · have ep : f_L_pairs N xs (nI kd) a = some (nI (npK (smN N xs) kd), a) := pairs_f hN hk a
    have e2 : f_L_second N xs (nI kd) (nI k) a = some (nI G, a) := by rw [eG]; exact second_f hN hk (by omega) a
    have e1 : f_L_first N xs (nI kd) (nI k) a = some (nI F, a) := by rw [eF]; exact first_f hN hk (by omega) a
    have iG : inb (nI G) (dln a n4) := inb_nI (by rw [l4]; omega) (by rw [l4]; decide)
    have iF : inb (nI F) (dln a n4) := inb_nI (by rw [l4]; omega) (by rw [l4]; decide)
    unfold f_L_canAll_b21_s
    rw [ep, cl_s, if_neg (nge (by omega) (by omega) hkn), e2, cl_s, e2, cl_s, gd_t d, gd_t iG, e1, cl_s, gd_t iF, gd_t iG, bnd_e, nI_clamp (by omega), nI_clamp (by omega), bnd_e, nI_1]
theorem push_n (hN : N < 2 ^ 30) (hk : kd < 2) {v : Nat → Int} {a : Mem} {B : Int} (P : At4 M1 n4 v a) (hb : Bdd v B) (hB : B ≤ 590) {i : Nat} (hi : i < 5) (f : Int32 → Nat → Nat → Int32 → Mem → Option (Int32 × Mem)) :
    ∃ a', At4 M1 n4 (rdp (fK (smN N xs) kd) (gK (smN N xs) kd) (npK (smN N xs) kd) v) a' ∧ Bdd (rdp (fK (smN N xs) kd) (gK (smN N xs) kd) (npK (smN N xs) kd) v) (B + 2) ∧ f_L_canAll_b12_s N xs f (nI kd) n3 n4 (nI i) a = f (nI kd) n3 n4 (nI (i + 1)) a' := by
  have hs := smN_ok N xs
  have n2 := np_le (smN N xs) kd
  unfold f_L_canAll_b12_s
  rw [if_neg (show ¬ (5 : Int32) ≤ nI i from nge (a := i) (b := 5) (by omega) (by omega) hi)]
  refine lp_inv (s := f_L_canAll_b21_s N xs f) (fun k a g => g (nI kd) n3 n4 (nI i) (nI k) a) (fun k a => At4 M1 n4 (it (fun k a => pu (fK (smN N xs) kd k) (gK (smN N xs) kd k) a) k v) a ∧ Bdd (it (fun k a => pu (fK (smN N xs) kd k) (gK (smN N xs) kd k) a) k v) (B + k)) (fun r => ∃ a', At4 M1 n4 (rdp (fK (smN N xs) kd) (gK (smN N xs) kd) (npK (smN N xs) kd) v) a' ∧ Bdd (rdp (fK (smN N xs) kd) (gK (smN N xs) kd) (npK (smN N xs) kd) v) (B + 2) ∧ r = f (nI kd) n3 n4 (nI (i + 1)) a') (npK (smN N xs) kd) (fun k hkn a P g => Or.inr ?_) (fun a P g => ?_) fuel (show npK (smN N xs) kd < 5000 by omega) a ⟨P, fun m hm => ⟨(hb m hm).1, by have := (hb m hm).2; show v m ≤ B + ((0 : Nat) : Int); omega⟩⟩
  · obtain ⟨a', h1, h2⟩ := push_1 (n3 := n3) (x5 := nI i) hN hk hkn P.1 (fun m hm => ⟨(P.2 m hm).1, by have := (P.2 m hm).2; omega⟩) f g
    refine ⟨a', ⟨h1, fun m hm => ?_⟩, h2⟩
    have := bdd_pu (f := fK (smN N xs) kd k) (g := gK (smN N xs) kd k) (by have := (fg_ok hs kd k).1; omega) P.2 m hm
    exact ⟨this.1, by have := this.2; show pu _ _ _ m ≤ B + ((k + 1 : Nat) : Int); omega⟩
  · show ∃ a', _ ∧ _ ∧ f_L_canAll_b21_s N xs f g (nI kd) n3 n4 (nI i) (nI (npK (smN N xs) kd)) a = _
    have ep : f_L_pairs N xs (nI kd) a = some (nI (npK (smN N xs) kd), a) := pairs_f hN hk a
    unfold f_L_canAll_b21_s
    rw [ep, cl_s, if_pos (Int32.le_refl _), bnd_e, nI_1]
    exact ⟨a, P.1, fun m hm => ⟨(P.2 m hm).1, Int.le_trans (P.2 m hm).2 (by omega)⟩, rfl⟩
/-- what the law's canAll says -/
def CanA (sm : Nat → Nat → Nat) (kd : Nat) (lo hi : Nat → Int) : Prop := (∀ k, k < npK sm kd → rd5 (fK sm kd) (gK sm kd) (npK sm kd) lo (fK sm kd k) < rd5 (fK sm kd) (gK sm kd) (npK sm kd) lo (gK sm kd k)) ∧ ∀ m, m < 4 → rd5 (fK sm kd) (gK sm kd) (npK sm kd) lo m ≤ hi m
theorem can_end (hN : N < 2 ^ 30) (hk : kd < 2) {v : Nat → Int} {a : Mem} (A : FourA a n4 v) (B : FourA a n3 hi) (f : Int32 → Nat → Nat → Int32 → Mem → Option (Int32 × Mem)) :
    ∃ r, f_L_canAll_b12_s N xs f (nI kd) n3 n4 (nI 5) a = some (r, a) ∧ ((r = 1 ∧ (∀ k, k < npK (smN N xs) kd → v (fK (smN N xs) kd k) < v (gK (smN N xs) kd k)) ∧ ∀ m, m < 4 → v m ≤ hi m) ∨ (r = 0 ∧ ¬ ((∀ k, k < npK (smN N xs) kd → v (fK (smN N xs) kd k) < v (gK (smN N xs) kd k)) ∧ ∀ m, m < 4 → v m ≤ hi m))) := by
  have hs := smN_ok N xs
  have n2 := np_le (smN N xs) kd
  obtain ⟨d4, l4, v4⟩ := A
  obtain ⟨d3, l3, v3⟩ := B
  unfold f_L_canAll_b12_s
  rw [if_pos (show (5 : Int32) ≤ nI 5 from Int32.le_refl _)]
  refine lp_inv (s := f_L_canAll_b81_s N xs) (fun k (_ : Unit) g => g (nI kd) n3 n4 (nI k) a) (fun k _ => ∀ j, j < k → v (fK (smN N xs) kd j) < v (gK (smN N xs) kd j)) (fun o => ∃ r, o = some (r, a) ∧ ((r = 1 ∧ (∀ k, k < npK (smN N xs) kd → v (fK (smN N xs) kd k) < v (gK (smN N xs) kd k)) ∧ ∀ m, m < 4 → v m ≤ hi m) ∨ (r = 0 ∧ ¬ ((∀ k, k < npK (smN N xs) kd → v (fK (smN N xs) kd k) < v (gK (smN N xs) kd k)) ∧ ∀ m, m < 4 → v m ≤ hi m)))) (npK (smN N xs) kd) (fun k hkn _ P g => ?_) (fun _ P g => ?_) fuel (show npK (smN N xs) kd < 5000 by omega) () (fun j hj => absurd hj (Nat.not_lt_zero j))
  · obtain ⟨f3, g3, -⟩ := fg_ok hs kd k
    have ep : f_L_pairs N xs (nI kd) a = some (nI (npK (smN N xs) kd), a) := pairs_f hN hk a
    have e2 : f_L_second N xs (nI kd) (nI k) a = some (nI (gK (smN N xs) kd k), a) := second_f hN hk (by omega) a
    have e1 : f_L_first N xs (nI kd) (nI k) a = some (nI (fK (smN N xs) kd k), a) := first_f hN hk (by omega) a
    have iG : inb (nI (gK (smN N xs) kd k)) (dln a n4) := inb_nI (by rw [l4]; omega) (by rw [l4]; decide)
    have iF : inb (nI (fK (smN N xs) kd k)) (dln a n4) := inb_nI (by rw [l4]; omega) (by rw [l4]; decide)
    have u : f_L_canAll_b81_s N xs g (nI kd) n3 n4 (nI k) a = if a.1 n4 (fK (smN N xs) kd k) < a.1 n4 (gK (smN N xs) kd k) then g (nI kd) n3 n4 (nI (k + 1)) a else some (0, a) := by
      unfold f_L_canAll_b81_s
      rw [ep, cl_s, if_neg (nge (by omega) (by omega) hkn), e2, cl_s, gd_t d4, gd_t iG, e1, cl_s, gd_t iF, nI_clamp (by omega), nI_clamp (by omega), bnd_e, nI_1]
    rw [u]
    have cmp : a.1 n4 (fK (smN N xs) kd k) < a.1 n4 (gK (smN N xs) kd k) ↔ v (fK (smN N xs) kd k) < v (gK (smN N xs) kd k) := by
      rw [Int32.lt_iff_toInt_lt, v4 _ (by omega), v4 _ (by omega)]
    by_cases c : v (fK (smN N xs) kd k) < v (gK (smN N xs) kd k)
    · rw [if_pos (cmp.mpr c)]
      refine Or.inr ⟨(), fun j hj => ?_, rfl⟩
      rcases Nat.lt_or_ge j k with z | z
      · exact P j z
      · rw [show j = k by omega]; exact c
    · rw [if_neg (fun z => c (cmp.mp z))]
      exact Or.inl ⟨0, rfl, Or.inr ⟨rfl, fun z => c (z.1 k hkn)⟩⟩
  · have ep : f_L_pairs N xs (nI kd) a = some (nI (npK (smN N xs) kd), a) := pairs_f hN hk a
    show ∃ r, f_L_canAll_b81_s N xs g (nI kd) n3 n4 (nI (npK (smN N xs) kd)) a = some (r, a) ∧ _
    unfold f_L_canAll_b81_s
    rw [ep, cl_s, if_pos (Int32.le_refl _)]
    refine lp_inv (s := f_L_canAll_b125_s N xs) (fun k (_ : Unit) g => g n3 n4 (nI k) a) (fun k _ => ∀ j, j < k → v j ≤ hi j) (fun o => ∃ r, o = some (r, a) ∧ ((r = 1 ∧ (∀ k, k < npK (smN N xs) kd → v (fK (smN N xs) kd k) < v (gK (smN N xs) kd k)) ∧ ∀ m, m < 4 → v m ≤ hi m) ∨ (r = 0 ∧ ¬ ((∀ k, k < npK (smN N xs) kd → v (fK (smN N xs) kd k) < v (gK (smN N xs) kd k)) ∧ ∀ m, m < 4 → v m ≤ hi m)))) 4 (fun k hk4 _ P2 g => ?_) (fun _ P2 g => ?_) fuel (by decide) () (fun j hj => absurd hj (Nat.not_lt_zero j))
    · have u : f_L_canAll_b125_s N xs g n3 n4 (nI k) a = if a.1 n4 k ≤ a.1 n3 k then g n3 n4 (nI (k + 1)) a else some (0, a) := by
        unfold f_L_canAll_b125_s
        rw [if_neg (show ¬ (4 : Int32) ≤ nI k from nge (a := k) (b := 4) (by omega) (by omega) hk4), gd_t d4, gd_t (inb_nI (by rw [l4]; omega) (by rw [l4]; decide)), gd_t d3, gd_t (inb_nI (by rw [l3]; omega) (by rw [l3]; decide)), nI_clamp (by omega), bnd_e, nI_1]
      rw [u]
      have cmp : a.1 n4 k ≤ a.1 n3 k ↔ v k ≤ hi k := by rw [Int32.le_iff_toInt_le, v4 _ hk4, v3 _ hk4]
      by_cases c : v k ≤ hi k
      · rw [if_pos (cmp.mpr c)]
        refine Or.inr ⟨(), fun j hj => ?_, rfl⟩
        rcases Nat.lt_or_ge j k with z | z
        · exact P2 j z
        · rw [show j = k by omega]; exact c
      · rw [if_neg (fun z => c (cmp.mp z))]
        exact Or.inl ⟨0, rfl, Or.inr ⟨rfl, fun z => c (z.2 k hk4)⟩⟩
    · show ∃ r, f_L_canAll_b125_s N xs g n3 n4 (nI 4) a = some (r, a) ∧ _
      unfold f_L_canAll_b125_s
      rw [if_pos (show (4 : Int32) ≤ nI 4 from Int32.le_refl _)]
      exact ⟨1, rfl, Or.inl ⟨rfl, P, P2⟩⟩
theorem canAll_f (hN : N < 2 ^ 30) (hk : kd < 2) {n2 : Nat} {M : Mem} (hc : 247 ≤ M.2.2.2) (A : FourA M n2 lo) (B : FourA M n3 hi) (hb : Bdd lo 500) : ∃ r M', f_L_canAll N xs (nI kd) n2 n3 M = some (r, M') ∧ Lt M M' ∧ Mk M M' 1 4 ∧ (∀ q, q ≠ nn M → M'.1 q = M.1 q) ∧ ((r = 1 ∧ CanA (smN N xs) kd lo hi) ∨ (r = 0 ∧ ¬ CanA (smN N xs) kd lo hi)) := by
  obtain ⟨M1, e1⟩ : ∃ X, X = nwA 20 4 4 M := ⟨_, rfl⟩
  obtain ⟨b, eb⟩ : ∃ b, b = nn M := ⟨_, rfl⟩
  obtain ⟨d1, l1⟩ := dyo_nw (M := M) 20 4 4 hc
  have L1 : Lt M M1 := by rw [e1]; exact lt_nw hc
  have K1 : Mk M M1 1 4 := by rw [e1]; exact mk_nw _ _ _ _
  have r1 : ∀ q, q ≠ b → M1.1 q = M.1 q := fun q h => by rw [e1]; exact nwA_I (by rw [← eb]; exact h)
  rw [← e1, ← eb] at d1 l1
  obtain ⟨dA, lA, vA⟩ := A
  obtain ⟨dB, lB, vB⟩ := B
  have n2b : n2 ≠ b := by rw [eb]; exact (show dyo M n2 20 from dA).ne
  have n3b : n3 ≠ b := by rw [eb]; exact (show dyo M n3 20 from dB).ne
  obtain ⟨M2, e2⟩ : ∃ X, X = cpRow n2 b M1 := ⟨_, rfl⟩
  have L2 : Lt M1 M2 := by rw [e2]; exact lt_cpRow d1.1
  have K2 : Mk M1 M2 0 0 := by rw [e2]; exact (EQ_cpRow _ _ _).mk
  have d2 : dyo M2 b 20 := L2.1.dyo d1
  have P0 : At4 M2 b lo M2 := ⟨⟨d2, L2.1.dl d1 l1, fun m hm => by rw [e2, cpRow_s, r1 n2 n2b]; exact vA m hm⟩, rfl, fun _ _ => rfl⟩
  have r2 : ∀ q, q ≠ b → M2.1 q = M.1 q := fun q h => by rw [e2, cpRow_n h]; exact r1 q h
  have u : f_L_canAll N xs (nI kd) n2 n3 M = f_L_canAll_b12 N xs fuel (nI kd) n3 b 0 M2 := by
    unfold f_L_canAll
    rw [gd_t dA, bnd_e, lA, ← e1, ← eb, ← e2]
    unfold f_L_canAll_b4
    rw [gd_t (dq3 d2)]
  rw [u]
  have fin := lp_inv (z := fun _ _ _ _ _ => none) (s := f_L_canAll_b12_s N xs) (fun i a g => g (nI kd) n3 b (nI i) a) (fun i a => At4 M2 b (it (fun _ a => rdp (fK (smN N xs) kd) (gK (smN N xs) kd) (npK (smN N xs) kd) a) i lo) a ∧ Bdd (it (fun _ a => rdp (fK (smN N xs) kd) (gK (smN N xs) kd) (npK (smN N xs) kd) a) i lo) (500 + 2 * i)) (fun o => ∃ r a, o = some (r, a) ∧ a.2 = M2.2 ∧ (∀ q, q ≠ b → a.1 q = M2.1 q) ∧ ((r = 1 ∧ CanA (smN N xs) kd lo hi) ∨ (r = 0 ∧ ¬ CanA (smN N xs) kd lo hi))) 5 (fun i hi a P g => Or.inr (by
    obtain ⟨a', h1, h2, h3⟩ := push_n (n3 := n3) (xs := xs) hN hk P.1 P.2 (by omega) hi g
    refine ⟨a', ⟨h1, fun m hm => ?_⟩, h3⟩
    have := h2 m hm
    exact ⟨this.1, by have := this.2; show rdp _ _ _ _ m ≤ 500 + 2 * ((i + 1 : Nat) : Int); omega⟩)) (fun a P g => by
    obtain ⟨P1, P2, P3⟩ := P.1
    have q : EQ M2 a := ⟨by rw [P2], by rw [P2]⟩
    obtain ⟨r, h1, h2⟩ := can_end (n3 := n3) (hi := hi) (xs := xs) hN hk P1 ⟨q.dyo (L2.1.dyo (L1.1.dyo dB)), by rw [q.dlq]; exact L2.1.dl (L1.1.dyo dB) (L1.1.dl dB lB), fun m hm => by rw [P3 n3 n3b, r2 n3 n3b]; exact vB m hm⟩ g
    exact ⟨r, a, h1, P2, P3, h2⟩) fuel (by decide) M2 ⟨P0, fun m hm => ⟨(hb m hm).1, by have := (hb m hm).2; show lo m ≤ 500 + 2 * ((0 : Nat) : Int); omega⟩⟩
  obtain ⟨r, a, h1, h2, h3, h4⟩ := fin
  have q : EQ M2 a := ⟨by rw [h2], by rw [h2]⟩
  refine ⟨r, a, h1, (L1.tr L2).tr ⟨q.gx, fun c hc' => h3 c (by have := d1.1; omega), fun c _ _ => by rw [h2]⟩, ((K1.tr K2).tr q.mk).le (by omega) (by omega), fun c hcq => ?_, h4⟩
  rw [← eb] at hcq
  rw [h3 c hcq, r2 c hcq]
end CANALL
