/-! THE LAW'S SCRIPT: N ints at the constant 61 -/
def max32 (x y : Int32) : Int32 := if x < y then y else x
theorem q_maxc : Cond.code Lib.Math.max.name Lib.Math.max.code 2 (some .int) ∈ tblG := tblG_of 635 (by decide +kernel) rfl
theorem q_maxs : Cond.static Lib.Math.max.name ∈ tblG := tblG_of 634 (by decide +kernel) rfl
def KScr (K : Kt) (N : Nat) (xs : Nat → Int32) : Prop := va_X (kA K 61) N xs (kS K) (kS K).heap ∧ kA K 61 < kZ K
theorem val61 (K : Kt) : val K (vr 61) = .ref (kA K 61) := by
  show va_rf (rn K 61) = _
  unfold rn
  rw [if_neg (by decide), if_neg (by decide), if_pos (by decide)]
  rfl
section LROWS
variable {K : Kt} {X : Xt} {Q : State → Prop} {ce sl : Nat} {M M1 : Mem} {pc : Nat} {L L' : List (Nat × Lv)} {st : List Lv} {rm : Room} {cc : ByteArray} {nL : Nat} {own : String} {rt : Option FieldType}
theorem old_X {N : Nat} {xs : Nat → Int32} {U : State} (hA : Al K U) (h : KScr K N xs) : va_X (kA K 61) N xs U U.heap ∧ kA K 61 < U.heap.size ∧ kA K 61 < kZ K :=
  ⟨(h.1.moved hA.1.alike).kept (hA.2.2.2.2.1 (kA K 61) h.2), Nat.lt_of_lt_of_le h.2 hA.2.1, h.2⟩
theorem w_sld (hB : Bx K X rm cc nL own rt) {N : Nat} {xs : Nat → Int32} (hq : KScr K N xs) {i : Int32} (hin : inb i N) (d : decode cc pc = .ok (.iaload, 1)) (kk : Wt K X Q ce sl M (pc + 1) L (vi (xs i.toNatClampNeg) :: st)) : Wt K X Q ce sl M pc L (vi i :: vr 61 :: st) := by
  intro cp H locs ls a b z dd
  have hs := old_X hB.2.2.2.2.2.1 hq
  rw [List.map_cons, List.map_cons, val61]
  exact va_sld hB.1 hB.2.1 hs.1 hs.2.1 (fun h => absurd (show kZ K ≤ kA K 61 from h) (Nat.not_le.mpr hs.2.2)) b hin d (kk cp H locs ls a b z dd)
theorem w_slen (hB : Bx K X rm cc nL own rt) {N : Nat} {xs : Nat → Int32} (hq : KScr K N xs) (d : decode cc pc = .ok (.arraylength, 1)) (kk : Wt K X Q ce sl M (pc + 1) L (vi (nI N) :: st)) : Wt K X Q ce sl M pc L (vr 61 :: st) := by
  intro cp H locs ls a b z dd
  have hs := old_X hB.2.2.2.2.2.1 hq
  rw [List.map_cons, val61]
  exact va_slen hB.1 hB.2.1 hs.1 hs.2.1 (fun h => absurd (show kZ K ≤ kA K 61 from h) (Nat.not_le.mpr hs.2.2)) b d (kk cp H locs ls a b z dd)
theorem w_max (hB : Bx K X rm cc nL own rt) {x y : Int32} {idx : Nat} (hl : Cond.methodLink own idx Lib.Math.max.name ∈ tblG) (hfr : 1 ≤ rm.frames) (hlo : (st.map catL).sum + 13 ≤ rm.locals) (hf : ce ≤ rm.cells ∧ sl ≤ rm.slots) (d : decode cc pc = .ok (.invokestatic idx, 3)) (kk : Wt K X Q ce sl M (pc + 3) L (vi (max32 x y) :: st)) : Wt K X Q ce sl M pc L (vi y :: vi x :: st) := by
  intro cp H locs ls hP hS z dd
  have hts := hB.2.2.2.2.1
  have hRR : X.2.2.2.1 = rm := hB.2.2.2.2.2.2.2.2
  refine va_mmax hB.1 hB.2.1 (by rw [dd.1]) hB.2.2.2.1 (hts _ hl) (hts _ q_maxs) (hts _ q_mini) (hts _ q_maxc) (by rw [hRR]; exact hfr) ?_ (by rw [hRR]; exact hf.1) (by rw [hRR]; exact hf.2) d (kk cp H locs ls hP hS z dd)
  rw [List.map_map, show (fun v : Value => v.category) ∘ val K = catL from funext (fun v => val_cat K v), hRR]
  exact hlo
end LROWS
