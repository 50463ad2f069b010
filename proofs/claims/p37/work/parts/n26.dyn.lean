/-! CELLS MADE LATER: the rows that make them -/
theorem nn_r {M : Mem} (h : 247 ≤ M.2.2.2) : pa M.2.2.2 = nn M ∧ 1000 ≤ nn M := by
  unfold pa nn
  rw [if_neg (by omega)]
  exact ⟨rfl, by omega⟩
theorem ent_nwA {K : Kt} {M : Mem} {c len s q : Nat} (h1 : Rl q) (h : q ≠ nn M) : ent K (nwA c len s M) q = ent K M q := by
  have h0 : 0 < q := by unfold Rl at h1; omega
  obtain ⟨a, b⟩ := nwA_q (c := c) (len := len) (s := s) h h0
  exact ent_cg a b (nwA_I h) (nwA_L h) (nwA_R h (by omega))
theorem crT_ln : crT.length ≤ 247 := by decide +kernel
theorem cr_0s : cr 0 1 = 0 ∧ (crT.getD 0 []).length ≤ 100 := by decide +kernel
theorem cr_big {n k : Nat} (h : 1000 ≤ n) : cr n k = 0 := by
  unfold cr
  rw [List.getD_eq_getElem?_getD (l := crT), List.getElem?_eq_none (Nat.le_trans crT_ln (by omega))]
  rfl
theorem cr_0b {k : Nat} (h : 100 ≤ k) : cr 0 k = 0 := by
  unfold cr
  rw [List.getD_eq_getElem?_getD (l := crT.getD (0 - 64) []), List.getElem?_eq_none (Nat.le_trans cr_0s.2 h)]
  rfl
theorem cp_nwA {K : Kt} {M : Mem} {c len s : Nat} (cp : CRp K M) : CRp K (nwA c len s M) := by
  intro hp
  obtain ⟨h1, h2⟩ := cp hp
  obtain ⟨-, hn⟩ := nn_r h1
  refine ⟨by rw [nwA_cn]; omega, fun n k h => ?_⟩
  by_cases z : n = nn M
  · rw [z, cr_big hn] at h
    exact absurd rfl h
  · by_cases z0 : n = 0
    · subst z0
      rw [nwA_R0 (fun q => h (by rw [cr_0b (by omega)])) (fun q => h (by rw [cr_0b (by omega)])) (fun q => h (by rw [q, cr_0s.1]))]
      exact h2 0 k h
    · rw [nwA_R z z0]
      exact h2 n k h
theorem nwA_O {M : Mem} {c len s : Nat} (h : 247 ≤ M.2.2.2) : shq (nwA c len s M) (nn M) = c ∧ slq (nwA c len s M) (nn M) = len := by
  obtain ⟨-, hn⟩ := nn_r h
  unfold shq slq
  rw [if_neg (by omega), if_neg (by omega)]
  exact ⟨nwA_ds, nwA_dl⟩
section DYNW
variable {K : Kt} {X : Xt} {Q : State → Prop} {ce sl : Nat} {M : Mem} {pc : Nat} {L L' : List (Nat × Lv)} {st : List Lv} {rm : Room} {cc : ByteArray} {nL : Nat} {own : String} {ret : Option FieldType}
theorem w_nwa (hB : Bx K X rm cc nL own ret) (hp : kP K = false) {c N : Nat} {atype : ArrayType} {x : Int32} {M1 : Mem} (e : M1 = nwA (20 + c) N N M) (harr : Cond.arrayClass (newarray.typeOf atype) ∈ tblG) (hRA : (xS X).vm.findClass ("[" ++ (newarray.typeOf atype).toString) = some (kY K c)) (hc3 : c < 3) (ha : vp_cell (kY K c) (N, .inl (fun _ => 0)) = arrV (kY K c) N (fun _ => defaultValue (newarray.typeOf atype)))
    (hx : ¬ x < 0 ∧ x.toNatClampNeg = N) (hby : N * componentBytes (newarray.typeOf atype) ≤ 536870912) (hr : ce + 1 ≤ rm.cells ∧ sl + N ≤ rm.slots) (d : decode cc pc = .ok (.newarray atype, 2)) (kk : Wt K X Q (ce + 1) (sl + N) M1 (pc + 2) L (vr (nn M) :: st)) : Wt K X Q ce sl M pc L (vi x :: st) := by
  subst e
  intro cp H locs ls a b z dd
  refine w_sz hB a b z (fun zs => ?_)
  have hts := hB.2.2.2.2.1
  have hRR : X.2.2.2.1 = rm := hB.2.2.2.2.2.2.2.2
  obtain ⟨g1, g2⟩ := nn_r (cp hp).1
  obtain ⟨s1, s2⟩ := nwA_O (c := 20 + c) (len := N) (s := N) (M := M) (cp hp).1
  refine va_newaK hB.1 hB.2.1 (hts _ harr) rfl d rfl hx.1 hx.2 hby (by rw [hRR]; exact hr.1) (by rw [hRR]; exact hr.2) rfl fun H1 cA e1 z1 o1 _ hNm => ?_
  refine Wt.grow (M1 := nwA (20 + c) N N M) (n := nn M) g1 nwA_cn (fun q hq h => ent_nwA hq h) (cp_nwA cp) a b z zs dd ?_ z1 o1 kk
  have hcA : cA = kY K c := Option.some.inj (hNm.symm.trans hRA)
  subst hcA
  rw [ent_arr (M := nwA (20 + c) N N M) (c := c) s1 hc3, s2, nwA_Is, ← zs]
  show H1[H.size]? = some (vp_cell _ _)
  rw [ha]
  exact e1
theorem w_nwI (hB : Bx K X rm cc nL own ret) (hp : kP K = false) {N : Nat} {x : Int32} {M1 : Mem} (e : M1 = nwA 20 N N M) (hx : ¬ x < 0 ∧ x.toNatClampNeg = N) (hby : N ≤ 100000) (hr : ce + 1 ≤ rm.cells ∧ sl + N ≤ rm.slots) (d : decode cc pc = .ok (.newarray .int, 2)) (kk : Wt K X Q (ce + 1) (sl + N) M1 (pc + 2) L (vr (nn M) :: st)) : Wt K X Q ce sl M pc L (vi x :: st) :=
  w_nwa hB hp (c := 0) (atype := .int) e (tblG_of 67 (by decide +kernel) rfl) ((hB.2.2.2.2.2.1).K.2 0 _ rfl).2 (by decide) rfl hx (by show N * 4 ≤ _; omega) hr d kk
theorem w_nwY (hB : Bx K X rm cc nL own ret) (hp : kP K = false) {N : Nat} {x : Int32} {M1 : Mem} (e : M1 = nwA 22 N N M) (hx : ¬ x < 0 ∧ x.toNatClampNeg = N) (hby : N ≤ 100000) (hr : ce + 1 ≤ rm.cells ∧ sl + N ≤ rm.slots) (d : decode cc pc = .ok (.newarray .byte, 2)) (kk : Wt K X Q (ce + 1) (sl + N) M1 (pc + 2) L (vr (nn M) :: st)) : Wt K X Q ce sl M pc L (vi x :: st) :=
  w_nwa hB hp (c := 2) (atype := .byte) e (tblG_of 66 (by decide +kernel) rfl) ((hB.2.2.2.2.2.1).K.2 2 _ rfl).2 (by decide) rfl hx (by show N * 1 ≤ _; omega) hr d kk
/-- a new object -/
theorem w_nwo (hB : Bx K X rm cc nL own ret) (hp : kP K = false) {ci N idx : Nat} {C : String} {T : u_T} (ty : Nat → FieldType) {M1 : Mem} (e : M1 = nwA (ci + 1) 0 N M) (hc : vcl[ci]? = some (C, T, N)) (hin : ∀ w ∈ u_ws C T N, w ∈ tblG) (hty : ∀ k, k < N → parseFieldDescriptor (T k).2.2.1 = some (ty k)) (hfs : ∀ j, j < N → defaultValue (ty j) = vp_V ((kd ci).map dfv) j)
    (hcl : Cond.classLink own idx C ∈ tblG) (hins : Cond.instantiable C N ∈ tblG) (hini : Cond.initialized C ∈ tblG) (hci : ci < 19) (hr : ce + 1 ≤ rm.cells ∧ sl + N ≤ rm.slots) (d : decode cc pc = .ok (.new idx, 3)) (kk : Wt K X Q (ce + 1) (sl + N) M1 (pc + 3) L (vr (nn M) :: st)) : Wt K X Q ce sl M pc L st := by
  subst e
  intro cp H locs ls a b z dd
  refine w_sz hB a b z (fun zs => ?_)
  have hts := hB.2.2.2.2.1
  have hRR : X.2.2.2.1 = rm := hB.2.2.2.2.2.2.2.2
  have hKn := (hB.2.2.2.2.2.1).K.1 ci _ hc
  obtain ⟨g1, g2⟩ := nn_r (cp hp).1
  obtain ⟨s1, s2⟩ := nwA_O (c := ci + 1) (len := 0) (s := N) (M := M) (cp hp).1
  refine W.newcK hB.1 hB.2.1 hB.2.2.2.1 (hts _ hcl) (hts _ hins) (hts _ hini) rfl d (by rw [hRR]; exact hr.1) (by rw [hRR]; exact hr.2) hKn.2.1 rfl fun H1 kC hkC e1 z1 o1 => ?_
  refine Wt.grow (M1 := nwA (ci + 1) 0 N M) (n := nn M) g1 nwA_cn (fun q hq h => ent_nwA hq h) (cp_nwA cp) a b z zs dd ?_ z1 o1 kk
  rw [ent_obj s1 hci, flds_zr (fun k => ⟨by rw [nwA_Is], by rw [nwA_Ls], nwA_Rs k⟩), ← zs]
  exact ⟨_, hc, (u_born ty hts hin hKn hkC e1 hty).to hfs⟩
end DYNW
