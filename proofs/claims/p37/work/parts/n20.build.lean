/-! THE WORLD IN THE MAKING: rows of the constructors -/
def cntM (M : Mem) : Mem := (M.1, M.2.1, M.2.2.1, M.2.2.2 + 1)
/-- the cells that aren't made yet hold nothing -/
def Zr (M : Mem) : Prop := ∀ n, 64 + M.2.2.2 ≤ n → ∀ k, M.1 n k = 0 ∧ M.2.1 n k = 0 ∧ M.2.2.1 n k = 0
theorem Zr.cntM {M : Mem} (h : Zr M) : Zr (cntM M) := fun n hn k => h n (by
  have e : 64 + (M.2.2.2 + 1) ≤ n := hn
  omega) k
theorem Zr.I {M : Mem} (h : Zr M) {n k : Nat} {x : Int32} (hn : n < 64 + M.2.2.2) : Zr (setI M n k x) := by
  intro q hq j
  have hq1 : 64 + M.2.2.2 ≤ q := hq
  obtain ⟨h1, h2, h3⟩ := h q hq1 j
  refine ⟨?_, h2, h3⟩
  show (if q = n ∧ j = k then x else M.1 q j) = 0
  rw [if_neg (by omega)]
  exact h1
theorem Zr.R {M : Mem} (h : Zr M) {n k x : Nat} (hn : n < 64 + M.2.2.2) : Zr (setR M n k x) := by
  intro q hq j
  have hq1 : 64 + M.2.2.2 ≤ q := hq
  obtain ⟨h1, h2, h3⟩ := h q hq1 j
  refine ⟨h1, h2, ?_⟩
  show (if q = n ∧ j = k then x else M.2.2.1 q j) = 0
  rw [if_neg (by omega)]
  exact h3
def dfv (t : Nat) : Value := if t = 0 then .int 0 else if t = 1 then .long 0 else .null
theorem flds_zr {K : Kt} {M : Mem} {n c : Nat} (h : ∀ k, M.1 n k = 0 ∧ M.2.1 n k = 0 ∧ M.2.2.1 n k = 0) : flds K M n c = (kd c).map dfv := by
  apply List.ext_getElem?
  intro i
  unfold flds
  rw [List.getElem?_mapIdx, List.getElem?_map]
  cases (kd c)[i]? with
  | none => rfl
  | some t =>
    show some (fv K M n i t) = some (dfv t)
    unfold fv dfv
    rw [(h i).1, (h i).2.1, (h i).2.2]
    rfl
theorem shq_s {M : Mem} {n c : Nat} (h : shc n = c) (hc : 0 < c) : shq M n = c := by
  have h1 := shx_ge' h hc
  unfold shq
  rw [if_pos (by omega), h]
theorem wd_new {K : Kt} {M M1 : Mem} {n : Nat} {H H1 : Heap} (hn : pa M.2.2.2 = n) (hc : M1.2.2.2 = M.2.2.2 + 1) (he : ∀ q, Rl q → q ≠ n → ent K M1 q = ent K M q) (a : va_P (kD K) vcl (wd K M) H) (o1 : ∀ q : Nat, q < H.size → H1[q]? = H[q]?) (hat : va_at (kD K) vcl (kZ K + M.2.2.2, ent K M1 n) H1) : va_P (kD K) vcl (wd K M1) H1 := by
  intro k q hk
  have hl : k < M.2.2.2 + 1 := by
    have h := (List.getElem?_eq_some_iff.mp hk).1
    rw [wd_len, hc] at h
    exact h
  have e2 := wd_get (K := K) (M := M1) (n := pa k) (pa_r k) (by rw [ix_pa, hc]; exact hl)
  rw [ix_pa] at e2
  have hq : q = (kZ K + k, ent K M1 (pa k)) := Option.some.inj (hk.symm.trans e2)
  subst hq
  by_cases c : k < M.2.2.2
  · have e := wd_get (K := K) (M := M) (n := pa k) (pa_r k) (by rw [ix_pa]; exact c)
    rw [ix_pa] at e
    rw [he (pa k) (pa_r k) (fun z => by
      have z2 := congrArg ix (z.trans hn.symm)
      rw [ix_pa, ix_pa] at z2
      omega)]
    exact (a k _ e).kept (o1 _ ((a k _ e).lt))
  · rw [show k = M.2.2.2 by omega, hn]
    exact hat
theorem cp_mk {K : Kt} {M : Mem} (hb : kP K = true) : CRp K M := fun h => by rw [hb] at h; cases h
theorem pa_mk {M : Mem} {n c : Nat} (hn : 64 + M.2.2.2 = n) (hs : shc n = c) (hc : 0 < c) : pa M.2.2.2 = n := by
  have h1 := shx_ge' hs hc
  unfold pa
  rw [if_pos (by omega)]
  omega
theorem ix_mk {n c : Nat} (hs : shc n = c) (hc : 0 < c) : ix n = n - 64 := by
  have h1 := shx_ge' hs hc
  unfold ix
  rw [if_pos (by omega)]
section BUILD
variable {K : Kt} {X : Xt} {Q : State → Prop} {ce sl : Nat} {M : Mem} {pc : Nat} {L L' : List (Nat × Lv)} {st : List Lv} {rm : Room} {cc : ByteArray} {nL : Nat} {own : String} {ret : Option FieldType}
/-- behind the making of a cell -/
theorem Wt.grow {M1 : Mem} {n sl' pc' : Nat} {st' : List Lv} {H H1 : Heap} {locs : List Loc} {ls : Array Slot} (hn : pa M.2.2.2 = n) (hc : M1.2.2.2 = M.2.2.2 + 1) (he : ∀ q, Rl q → q ≠ n → ent K M1 q = ent K M q) (cp : CRp K M1) (a : va_P (kD K) vcl (wd K M) H) (b : va_S (kF K) (xS X).heap H locs) (z : (xS X).heap.size + ce = kZ K + M.2.2.2) (zs : H.size = kZ K + M.2.2.2) (dd : lv_has ls (xC X).maxLocals (lvs K L))
    (hat : va_at (kD K) vcl (kZ K + M.2.2.2, ent K M1 n) H1) (z1 : H1.size = H.size + 1) (o1 : ∀ q : Nat, q < H.size → H1[q]? = H[q]?) (kk : Wt K X Q (ce + 1) sl' M1 pc' L (vr n :: st')) : WX X H1 locs (ce + 1) sl' Q (F0 (xM X) pc' ls (.ref H.size :: st'.map (val K))) := by
  have k1 := kk cp H1 locs ls (wd_new hn hc he a o1 hat) ⟨Nat.le_trans b.1 (by omega), fun x h1 h2 => (o1 x (Nat.lt_of_lt_of_le h1 b.1)).trans (b.2.1 x h1 h2), b.2.2⟩ (by rw [hc]; omega) dd
  rw [List.map_cons, val_ref (by rw [← hn]; exact pa_r _), show kZ K + ix n = H.size by rw [zs, ← hn, ix_pa]] at k1
  exact k1
theorem w_newB (hB : Bx K X rm cc nL own ret) (hb : kP K = true) {ci N idx n : Nat} {C : String} {T : u_T} (ty : Nat → FieldType) (hc : vcl[ci]? = some (C, T, N)) (hin : ∀ w ∈ u_ws C T N, w ∈ tblG) (hty : ∀ k, k < N → parseFieldDescriptor (T k).2.2.1 = some (ty k)) (hfs : ∀ j, j < N → defaultValue (ty j) = vp_V ((kd ci).map dfv) j)
    (hcl : Cond.classLink own idx C ∈ tblG) (hins : Cond.instantiable C N ∈ tblG) (hini : Cond.initialized C ∈ tblG) (hn : 64 + M.2.2.2 = n) (hs : shc n = ci + 1) (hci : ci < 19) (hZ : Zr M) (hr : ce + 1 ≤ rm.cells ∧ sl + N ≤ rm.slots) (d : decode cc pc = .ok (.new idx, 3)) (kk : Wt K X Q (ce + 1) (sl + N) (cntM M) (pc + 3) L (vr n :: st)) : Wt K X Q ce sl M pc L st := by
  subst hn
  intro cp H locs ls a b z dd
  refine w_sz hB a b z (fun zs => ?_)
  have hts := hB.2.2.2.2.1
  have hRR : X.2.2.2.1 = rm := hB.2.2.2.2.2.2.2.2
  have hKn := (hB.2.2.2.2.2.1).K.1 ci _ hc
  refine W.newcK hB.1 hB.2.1 hB.2.2.2.1 (hts _ hcl) (hts _ hins) (hts _ hini) rfl d (by rw [hRR]; exact hr.1) (by rw [hRR]; exact hr.2) hKn.2.1 rfl fun H1 kC hkC e1 z1 o1 => ?_
  refine Wt.grow (M1 := cntM M) (pa_mk rfl hs (by omega)) rfl (fun _ _ _ => rfl) (cp_mk hb) a b z zs dd ?_ z1 o1 kk
  rw [show ent K (cntM M) (64 + M.2.2.2) = ent K M (64 + M.2.2.2) from rfl, ent_obj (shq_s hs (by omega)) hci, flds_zr (fun k => hZ _ (Nat.le_refl _) k), ← zs]
  exact ⟨_, hc, (u_born ty hts hin hKn hkC e1 hty).to hfs⟩
theorem w_newaB (hB : Bx K X rm cc nL own ret) (hb : kP K = true) {c n N : Nat} {atype : ArrayType} {x : Int32} {a0 : (Nat → Int32) ⊕ (Nat → Int64) ⊕ (Nat → UInt32) ⊕ (Nat → UInt64) ⊕ (Nat → Option Nat)} (harr : Cond.arrayClass (newarray.typeOf atype) ∈ tblG) (hRA : (xS X).vm.findClass ("[" ++ (newarray.typeOf atype).toString) = some (kY K c)) (he : ent K M n = .inl (kY K c, N, a0)) (ha : vp_cell (kY K c) (N, a0) = arrV (kY K c) N (fun _ => defaultValue (newarray.typeOf atype)))
    (hn : 64 + M.2.2.2 = n) (hpa : pa M.2.2.2 = n) (hx : ¬ x < 0 ∧ x.toNatClampNeg = N) (hby : N * componentBytes (newarray.typeOf atype) ≤ 536870912) (hr : ce + 1 ≤ rm.cells ∧ sl + N ≤ rm.slots) (d : decode cc pc = .ok (.newarray atype, 2)) (kk : Wt K X Q (ce + 1) (sl + N) (cntM M) (pc + 2) L (vr n :: st)) : Wt K X Q ce sl M pc L (vi x :: st) := by
  subst hn
  intro cp H locs ls a b z dd
  refine w_sz hB a b z (fun zs => ?_)
  have hts := hB.2.2.2.2.1
  have hRR : X.2.2.2.1 = rm := hB.2.2.2.2.2.2.2.2
  refine va_newaK hB.1 hB.2.1 (hts _ harr) rfl d rfl hx.1 hx.2 hby (by rw [hRR]; exact hr.1) (by rw [hRR]; exact hr.2) rfl fun H1 cA e1 z1 o1 _ hNm => ?_
  refine Wt.grow (M1 := cntM M) hpa rfl (fun _ _ _ => rfl) (cp_mk hb) a b z zs dd ?_ z1 o1 kk
  have hcA : cA = kY K c := Option.some.inj (hNm.symm.trans hRA)
  subst hcA
  rw [show ent K (cntM M) (64 + M.2.2.2) = ent K M (64 + M.2.2.2) from rfl, he, ← zs]
  show H1[H.size]? = some (vp_cell _ _)
  rw [ha]
  exact e1
theorem w_newI (hB : Bx K X rm cc nL own ret) (hb : kP K = true) {n N : Nat} {x : Int32} (hs : shc n = 20) (hl : shl n = N) (hZ : Zr M) (hn : 64 + M.2.2.2 = n) (hx : ¬ x < 0 ∧ x.toNatClampNeg = N) (hby : N ≤ 100000) (hr : ce + 1 ≤ rm.cells ∧ sl + N ≤ rm.slots) (d : decode cc pc = .ok (.newarray .int, 2)) (kk : Wt K X Q (ce + 1) (sl + N) (cntM M) (pc + 2) L (vr n :: st)) : Wt K X Q ce sl M pc L (vi x :: st) := by
  refine w_newaB hB hb (c := 0) (atype := .int) (a0 := .inl (M.1 n)) (tblG_of 67 (by decide +kernel) rfl) ((hB.2.2.2.2.2.1).K.2 0 _ rfl).2 (by rw [ent_arr (c := 0) (shq_s hs (by decide)) (by decide), show slq M n = shl n from sl_s hs (by decide) rfl, hl]) ?_ hn (pa_mk hn hs (by decide)) hx (by show N * 4 ≤ _; omega) hr d kk
  show arrV (kY K 0) N (fun j => Value.int (M.1 n j)) = _
  congr 1
  funext j
  rw [(hZ n (by omega) j).1]
  rfl
theorem w_newZ (hB : Bx K X rm cc nL own ret) (hb : kP K = true) {n N : Nat} {x : Int32} (hs : shc n = 21) (hl : shl n = N) (hZ : Zr M) (hn : 64 + M.2.2.2 = n) (hx : ¬ x < 0 ∧ x.toNatClampNeg = N) (hby : N ≤ 100000) (hr : ce + 1 ≤ rm.cells ∧ sl + N ≤ rm.slots) (d : decode cc pc = .ok (.newarray .boolean, 2)) (kk : Wt K X Q (ce + 1) (sl + N) (cntM M) (pc + 2) L (vr n :: st)) : Wt K X Q ce sl M pc L (vi x :: st) := by
  refine w_newaB hB hb (c := 1) (atype := .boolean) (a0 := .inl (M.1 n)) (tblG_of 425 (by decide +kernel) rfl) ((hB.2.2.2.2.2.1).K.2 1 _ rfl).2 (by rw [ent_arr (c := 1) (shq_s hs (by decide)) (by decide), show slq M n = shl n from sl_s hs (by decide) rfl, hl]) ?_ hn (pa_mk hn hs (by decide)) hx (by show N * 1 ≤ _; omega) hr d kk
  show arrV (kY K 1) N (fun j => Value.int (M.1 n j)) = _
  congr 1
  funext j
  rw [(hZ n (by omega) j).1]
  rfl
theorem w_newY (hB : Bx K X rm cc nL own ret) (hb : kP K = true) {n N : Nat} {x : Int32} (hs : shc n = 22) (hl : shl n = N) (hZ : Zr M) (hn : 64 + M.2.2.2 = n) (hx : ¬ x < 0 ∧ x.toNatClampNeg = N) (hby : N ≤ 100000) (hr : ce + 1 ≤ rm.cells ∧ sl + N ≤ rm.slots) (d : decode cc pc = .ok (.newarray .byte, 2)) (kk : Wt K X Q (ce + 1) (sl + N) (cntM M) (pc + 2) L (vr n :: st)) : Wt K X Q ce sl M pc L (vi x :: st) := by
  refine w_newaB hB hb (c := 2) (atype := .byte) (a0 := .inl (M.1 n)) (tblG_of 66 (by decide +kernel) rfl) ((hB.2.2.2.2.2.1).K.2 2 _ rfl).2 (by rw [ent_arr (c := 2) (shq_s hs (by decide)) (by decide), show slq M n = shl n from sl_s hs (by decide) rfl, hl]) ?_ hn (pa_mk hn hs (by decide)) hx (by show N * 1 ≤ _; omega) hr d kk
  show arrV (kY K 2) N (fun j => Value.int (M.1 n j)) = _
  congr 1
  funext j
  rw [(hZ n (by omega) j).1]
  rfl
theorem w_newqB (hB : Bx K X rm cc nL own ret) (hb : kP K = true) {c n N idx : Nat} {C : String} {x : Int32} (hcl : Cond.classLink own idx C ∈ tblG) (hao : va_AO C (kS K)) (ht : (tysK K)[c]? = some (kY K c, .object C)) (hs : shc n = 20 + c) (h4 : 4 ≤ c) (hl : shl n = N) (hZ : Zr M) (hn : 64 + M.2.2.2 = n) (hx : ¬ x < 0 ∧ x.toNatClampNeg = N) (hby : N ≤ 100000) (hr : ce + 1 ≤ rm.cells ∧ sl + N ≤ rm.slots) (d : decode cc pc = .ok (.anewarray idx, 3)) (kk : Wt K X Q (ce + 1) (sl + N) (cntM M) (pc + 3) L (vr n :: st)) : Wt K X Q ce sl M pc L (vi x :: st) := by
  subst hn
  obtain ⟨hx1, rfl⟩ := hx
  intro cp H locs ls a b z dd
  refine w_sz hB a b z (fun zs => ?_)
  have hts := hB.2.2.2.2.1
  have hA := hB.2.2.2.2.2.1
  have hRR : X.2.2.2.1 = rm := hB.2.2.2.2.2.2.2.2
  refine W.anew hB.1 hB.2.1 hB.2.2.2.1 (hts _ hcl) (va_AO.use (va_AO.moved hA.1.alike hao)) rfl d rfl hx1 (by omega) (by rw [hRR]; exact hr.1) (by rw [hRR]; exact hr.2) fun cA kA comp f1 f2 f3 f4 => ?_
  obtain ⟨kA2, comp2, k1, k2, k3, k4⟩ := (hA.K.2 c _ ht).2
  have hcA : cA = kY K c := Option.some.inj (f1.symm.trans k4)
  subst hcA
  generalize hH1 : H.push ({ cls := kY K c, slots := Array.replicate x.toNatClampNeg .null, vm := .none } : Cell) = H1
  have z1 : H1.size = H.size + 1 := by rw [← hH1, Array.size_push]
  have e1 : H1[H.size]? = some (arrV (kY K c) x.toNatClampNeg (fun _ => .null)) := by rw [← hH1, Array.getElem?_push_size, ← arrV_new]
  have o1 : ∀ q : Nat, q < H.size → H1[q]? = H[q]? := fun q hq => by rw [← hH1, Array.getElem?_push, if_neg (Nat.ne_of_lt hq)]
  refine Wt.grow (M1 := cntM M) (pa_mk rfl hs (by omega)) rfl (fun _ _ _ => rfl) (cp_mk hb) a b z zs dd ?_ z1 o1 kk
  rw [show ent K (cntM M) (64 + M.2.2.2) = ent K M (64 + M.2.2.2) from rfl, ent_rarr (shq_s hs (by omega)) h4, show slq M (64 + M.2.2.2) = shl (64 + M.2.2.2) from sl_s hs (by omega) rfl, hl, ← zs]
  show H1[H.size]? = some (vp_cell _ _)
  rw [vp_cell_q, e1]
  congr 2
  funext j
  rw [(hZ _ (Nat.le_refl _) j).2.2]
  rfl
/-- a field of references, of a final one too -/
theorem w_putRN (hB : Bx K X rm cc nL own ret) (hb : kP K = true) {ci k n idx x : Nat} {rf nm ds : String} {M1 : Mem} {ty : FieldType} (ff : FF ci k 2 rf nm ds false) (hs : shc n = ci + 1) (hm : n - 64 < M.2.2.2) (hl : Cond.fieldLink own idx rf nm ds ∈ tblG) (hd : parseFieldDescriptor ds = some ty) (hn : narrow ty (va_rf (rn K x)) = va_rf (rn K x)) (hf : fits ty (va_rf (rn K x)) = true) (e : M1 = setR M n k x) (d : decode cc pc = .ok (.putfield idx, 3)) (kk : Wt K X Q ce sl M1 (pc + 3) L st) : Wt K X Q ce sl M pc L (vr x :: vr n :: st) := by
  subst e
  exact w_putf (M1 := setR M n k x) hB ff (smM hs (by omega) hm) hl (ty := ty) hd hn hf rfl (shq_R (smM (K := K) hs (by omega) hm).1) flds_R (fun q h => ent_R (smM (K := K) hs (by omega) hm).1 h) (fun _ => cp_mk hb) d kk
theorem w_putRF (hB : Bx K X rm cc nL own ret) (hb : kP K = true) {ci k n idx x : Nat} {nm ds : String} {M1 : Mem} {ty : FieldType} (ff : FF ci k 2 own nm ds true) (hi : X.2.2.2.2.2.2.2.2.1.name = "<init>") (hs : shc n = ci + 1) (hm : n - 64 < M.2.2.2) (hl : Cond.fieldLink own idx own nm ds ∈ tblG) (hd : parseFieldDescriptor ds = some ty) (hn : narrow ty (va_rf (rn K x)) = va_rf (rn K x)) (hf : fits ty (va_rf (rn K x)) = true) (e : M1 = setR M n k x) (d : decode cc pc = .ok (.putfield idx, 3)) (kk : Wt K X Q ce sl M1 (pc + 3) L st) : Wt K X Q ce sl M pc L (vr x :: vr n :: st) := by
  subst e
  have hci := ff.lt
  obtain ⟨C, T, N, ty0, hc, hin, hk, hkt, hT, hty, hnm, hlen⟩ := ff
  intro cp H locs ls a b z dd
  have h3 := smM (K := K) (M := M) hs (by omega) hm
  rw [List.map_cons, List.map_cons, val_ref h3.1]
  have hts := hB.2.2.2.2.1
  have hap := va_apart (own := own) hts hin ty0 hty hnm (hB.2.2.2.2.2.1).K hc
  obtain ⟨r, h1, cell, q1, q2, q3, q4⟩ := a (ix n) _ (wd_obj h3 hci cp)
  have hr : r = (C, T, N) := Option.some.inj (h1.symm.trans hc)
  subst hr
  obtain ⟨hS, hfc, kC, hkC, hkind⟩ := (hB.2.2.2.2.2.1).K.1 ci _ hc
  obtain ⟨cf, kf, fi, f, hfi, hsl⟩ := hS k hk
  have hi2 : (xS X).fieldFound? (T k).1 (T k).2.1 (T k).2.2.1 = some (cf, kf, fi, f) := hfi
  rw [hT] at hi2
  have hlay := hts _ (hin _ (u_in_lay hk))
  unfold u_lay at hlay
  rw [if_pos (by rw [hT])] at hlay
  have hst := (u_facts hfc hkC (u_lays hts hin hk) hfi).1
  have hcf : (xM X).cls = cf := by
    obtain ⟨_, _, c', _, _, _, -, -, hf', -, -, -, hown2, -⟩ := Cond.laysFinal_spec hlay
    have e1 : c' = cf := by
      have h9 := hfi.symm.trans hf'
      simp at h9
      exact h9.1.symm
    rw [hT] at hown2
    rw [← e1]
    exact Option.some.inj (hB.2.2.2.1.symm.trans hown2)
  have h6 := u_fits hfc hkC hkind (Or.inr hlay) hfi (by rw [hT]; exact hd) hn hf
  refine W.putFinK (ref := own) (name := nm) (desc := ds) hB.1 hB.2.1 hB.2.2.2.1 (hts _ hl) hi2 hst hcf hi (by rw [q2]; exact h6) q1 q3 (by rw [hsl]; exact k2_hasslot (q4 k hk)) rfl rfl d fun H' e1 e2 e3 => ?_
  rw [hsl] at e1
  refine Wt.wr (M1 := setR M n k x) hB h3.1 (h3.2.2 cp) rfl (fun q h => ent_R h3.1 h) (cp_mk hb) a b z dd kk ?_ e2 e3
  rw [ent_obj (M := setR M n k x) ((shq_R h3.1).trans h3.2.1) hci, ← flds_R hkt]
  exact ⟨_, hc, t_OB.to (V := updV (vp_V (flds K M n ci)) k (va_rf (rn K x))) ⟨_, e1, q2, q3, t_set q4 hap hk (va_rf (rn K x))⟩ (fun j _ => vp_updV_set (by rw [flds_len, hlen]; exact hk) (va_rf (rn K x)) j)⟩
theorem nar_arr (t : FieldType) (o : Option Nat) : narrow (.array t) (va_rf o) = va_rf o := by cases o <;> rfl
theorem fit_arr (t : FieldType) (o : Option Nat) : fits (.array t) (va_rf o) = true := by cases o <;> rfl
theorem nar_obj (t : String) (o : Option Nat) : narrow (.object t) (va_rf o) = va_rf o := by cases o <;> rfl
theorem fit_obj (t : String) (o : Option Nat) : fits (.object t) (va_rf o) = true := by cases o <;> rfl
/-- a field of references, read while the world is made -/
theorem w_getRB (hB : Bx K X rm cc nL own ret) {ci k n idx v : Nat} {rf nm ds : String} {fin : Bool} (ff : FF ci k 2 rf nm ds fin) (hs : shc n = ci + 1) (hm : n - 64 < M.2.2.2) (hv : M.2.2.1 n k = v) (hl : Cond.fieldLink own idx rf nm ds ∈ tblG) (d : decode cc pc = .ok (.getfield idx, 3)) (kk : Wt K X Q ce sl M (pc + 3) L (vr v :: st)) : Wt K X Q ce sl M pc L (vr n :: st) := by
  subst hv
  exact w_getR hB ff (smM hs (by omega) hm) hl d kk
theorem w_aastB (hB : Bx K X rm cc nL own ret) (hb : kP K = true) {n c v ci len : Nat} {i : Int32} {r : vw_C} {M1 : Mem} (hs : shc n = 20 + c) (h4 : 4 ≤ c) (hm : n - 64 < M.2.2.2) (hv : shc v = ci + 1) (hvm : v - 64 < M.2.2.2) (hc : vcl[ci]? = some r) (hci : ci < 19) (ht : (tysK K)[c]? = some (kY K c, .object r.1)) (hl : shl n = len) (hin : inb i len) (e : M1 = setR M n i.toNatClampNeg v) (d : decode cc pc = .ok (.aastore, 1)) (kk : Wt K X Q ce sl M1 (pc + 1) L st) : Wt K X Q ce sl M pc L (vr v :: vi i :: vr n :: st) := by
  subst e
  intro cp H locs ls a b z dd
  have h3 := smM (K := K) (M := M) hs (by omega) hm
  have h3v := smM (K := K) (M := M) hv (by omega) hvm
  have hn := h3.1
  have hsl := sl_s (M := M) hs (by omega) hl
  have hK := (hB.2.2.2.2.2.1).K
  have ha := wd_get (K := K) (M := M) hn (h3.2.2 cp)
  rw [ent_rarr h3.2.1 h4] at ha
  have hvv := wd_obj (K := K) h3v hci cp
  rw [List.map_cons, List.map_cons, List.map_cons, val_ref h3v.1, val_ref hn]
  have hlt := inb_lt hin
  have h0 : ¬ i < 0 := fun q => hin (Or.inl q)
  obtain ⟨r', hr', cellV, g1, g2, g3, -⟩ := a (ix v) _ hvv
  have hcls := (hK.1 ci r hc).2
  obtain ⟨kA, comp, k1, k2, k3, -⟩ := (hK.2 c _ ht).2
  have hcomp : comp = (kD K).1 ci := Option.some.inj (k3.symm.trans hcls.1)
  subst hcomp
  obtain ⟨kC, hkC, -⟩ := hcls.2
  refine W.aast hB.1 hB.2.1 (a (ix n) _ ha) (fun q h => by cases h) (fun h => by cases h) k1 k2 rfl hkC ⟨h0, by show _ < (arrV _ _ _).slots.size; rw [arrV_size, hsl]; exact hlt⟩ g1 (fun q h => by rw [g3] at h; cases h) (by rw [g2]; exact hkC) (by rw [g2]; exact va_assign hcls) rfl rfl d fun H1 e z2 oq => ?_
  refine Wt.wr (M1 := setR M n i.toNatClampNeg v) hB hn (h3.2.2 cp) rfl (fun q h => ent_R hn h) (cp_mk hb) a b z dd kk ?_ z2 oq
  rw [ent_rarr (M := setR M n i.toNatClampNeg v) ((shq_R hn).trans h3.2.1) h4, slq_R hn]
  show H1[_]? = some (vp_cell _ _)
  rw [e]
  rw [vp_cell_q, vp_cell_q, arrV_store]
  congr 2
  funext q
  show (if q = i.toNatClampNeg then _ else _) = va_rf (rn K (if n = n ∧ q = i.toNatClampNeg then v else M.2.2.1 n q))
  by_cases hq : q = i.toNatClampNeg
  · rw [if_pos hq, if_pos ⟨rfl, hq⟩, rn_ref h3v.1]
    rfl
  · rw [if_neg hq, if_neg (fun w => hq w.2)]
theorem w_gettokB (hB : Bx K X rm cc nL own ret) (hk : KTok K) {idx : Nat} {nm : String} (n : Nat) (hn : (0 < n ∧ n < 26) ∧ tokNm.getD (n - 1) "" = nm) (hl : Cond.fieldLink own idx "ReplayBooth$Token" nm "LReplayBooth$Token;" ∈ tblG) (d : decode cc pc = .ok (.getstatic idx, 3)) (k : Wt K X Q ce sl M (pc + 3) L (vr n :: st)) : Wt K X Q ce sl M pc L st := by
  intro cp H locs ls a b z dd
  have hz := (hk.1 (n - 1) (by omega)).1
  rw [hn.2, show n - 1 + 1 = n by omega] at hz
  refine va_gets hB.1 hB.2.1 (old_Z hB.2.2.2.2.2.1 hz) b hB.2.2.2.1 (hB.2.2.2.2.1 _ hl) (fun _ h => h) d ?_
  have kk := k cp H locs ls a b z dd
  rw [List.map_cons, val_con (Or.inl ⟨hn.1.1, by omega⟩)] at kk
  exact kk
theorem w_objinit (hB : Bx K X rm cc nL own ret) {n idx : Nat} (hn : Rl n) (hl : Cond.methodLink own idx Lib.objectInit ∈ tblG) (hin : Cond.instanceMethod Lib.objectInit ∈ tblG) (hc : Cond.code Lib.objectInit ⟨#[0xb1]⟩ 1 none ∈ tblG) (hR : 1 ≤ rm.frames ∧ (st.map catL).sum + 12 ≤ rm.locals) (d : decode cc pc = .ok (.invokespecial idx, 3)) (kk : Wt K X Q ce sl M (pc + 3) L st) : Wt K X Q ce sl M pc L (vr n :: st) := by
  intro cp H locs ls a b z dd
  have hts := hB.2.2.2.2.1
  have hRR : X.2.2.2.1 = rm := hB.2.2.2.2.2.2.2.2
  rw [List.map_cons, val_ref hn]
  refine W.objInit hB.1 hB.2.1 hB.2.2.2.1 (hts _ hl) (hts _ hin) (hts _ hc) rfl dd.1 rfl d (by rw [hRR]; exact hR.1) ?_ (kk cp H locs ls a b z dd)
  show 2 * 0 + _ + 12 ≤ _
  rw [List.map_map, show (fun v : Value => v.category) ∘ val K = catL from funext (fun v => val_cat K v), hRR]
  omega
theorem w_callI (hB : Bx K X rm cc nL own ret) {M1 : Mem} {idx n na mc ms n1 : Nat} {C : String} {y : MethodName} {c1 : ByteArray} {r2 : Room} {As : List Lv} (hw : CWs own idx C y c1 n1 none na) (hy : y.name = "<init>") (hin : Cond.instanceMethod y ∈ tblG)
    (hn64 : Rl n) (hM : MT K X.2.1 y c1 n1 none r2 (vr n :: As) M none M1 mc ms) (hc : r2.cells = mc ∧ r2.slots = ms) (hR : r2.frames + 1 ≤ rm.frames ∧ 8 + (n1 + 11) + r2.locals ≤ rm.locals) (hf : ce + mc ≤ rm.cells ∧ sl + ms ≤ rm.slots) (hn : As.length = na) (hst : (st.map catL).sum ≤ 8) (d : decode cc pc = .ok (.invokespecial idx, 3))
    {sk : List Lv} (hsk : sk = As.reverse ++ vr n :: st) (kk : Wt K X Q (ce + mc) (sl + ms) M1 (pc + 3) L st) (hx : mc = 0 ∨ mc + M.2.2.2 = M1.2.2.2) : Wt K X Q ce sl M pc L sk := by
  subst hsk
  intro cp H locs ls a b z dd
  refine w_sz hB a b z (fun zs => ?_)
  have hts := hB.2.2.2.2.1
  obtain ⟨w1, w2, w3, w4, w5, w6⟩ := hw
  have hRR : X.2.2.2.1 = rm := hB.2.2.2.2.2.2.2.2
  refine w_back (r := none) (M1 := M1) (mc := mc) (ms := ms) (av := (Value.ref (kZ K + ix n) :: As.map (val K)).toArray) hB z zs hx b dd ?_ kk
  have hMM := hM
  unfold MT at hMM
  rw [List.map_cons, val_ref hn64] at hMM
  refine va_runI (As := As.map (val K)) (b := kZ K + ix n) (index := idx) (bytes := c1) (maxL := n1) (n := na) (Ts := tblG) ⟨hB.1, hB.2.1, hB.2.2.1, hB.2.2.2.1, hts⟩ hMM ⟨callB_of na hts (good_code w3) rfl hc.1 hc.2 (hts _ w2) (hts _ w1) ⟨w5.1, w5.2, w6⟩ (by rw [hRR]; exact hR), hy, hts _ hin⟩
    ⟨world_blind, world_pre hB cp a b zs⟩ rfl (by rw [List.length_map]; exact hn) (by rw [dd.1]; exact hB.2.2.1) ?_ (lv_room ?_) d (by rw [hRR]; exact hf)
  · show (As.reverse ++ vr n :: st).map (val K) = _
    rw [List.map_append, List.map_reverse, List.map_cons, val_ref hn64]
  · rw [List.map_map]
    rw [show (fun v : Value => v.category) ∘ val K = catL from funext (fun v => val_cat K v)]
    exact hst
theorem w_callIN (hB : Bx K X rm cc nL own ret) {M1 : Mem} {idx n na mc ms n1 : Nat} {host : String} {y : MethodName} {c1 : ByteArray} {r2 : Room} {As : List Lv} (hw : va_Nw (.methodLinkNest own idx y host) (kS K)) (w2 : Cond.initialized y.cls ∈ tblG) (w3 : Cond.code y c1 n1 none ∈ tblG) (w5 : (y.cls ≠ "java/lang/invoke/MethodHandle" ∧ y.cls ≠ "java/lang/invoke/VarHandle") ∧ (parseMethodDescriptor y.desc).map (fun d => d.parameters.length) = some na) (hy : y.name = "<init>") (hin : Cond.instanceMethod y ∈ tblG)
    (hn64 : Rl n) (hM : MT K X.2.1 y c1 n1 none r2 (vr n :: As) M none M1 mc ms) (hc : r2.cells = mc ∧ r2.slots = ms) (hR : r2.frames + 1 ≤ rm.frames ∧ 8 + (n1 + 11) + r2.locals ≤ rm.locals) (hf : ce + mc ≤ rm.cells ∧ sl + ms ≤ rm.slots) (hn : As.length = na) (hst : (st.map catL).sum ≤ 8) (d : decode cc pc = .ok (.invokespecial idx, 3))
    {sk : List Lv} (hsk : sk = As.reverse ++ vr n :: st) (kk : Wt K X Q (ce + mc) (sl + ms) M1 (pc + 3) L st) (hx : mc = 0 ∨ mc + M.2.2.2 = M1.2.2.2) : Wt K X Q ce sl M pc L sk := by
  subst hsk
  intro cp H locs ls a b z dd
  refine w_sz hB a b z (fun zs => ?_)
  have hts := hB.2.2.2.2.1
  have hRR : X.2.2.2.1 = rm := hB.2.2.2.2.2.2.2.2
  refine w_back (r := none) (M1 := M1) (mc := mc) (ms := ms) (av := (Value.ref (kZ K + ix n) :: As.map (val K)).toArray) hB z zs hx b dd ?_ kk
  have hMM := hM
  unfold MT at hMM
  rw [List.map_cons, val_ref hn64] at hMM
  refine va_runIN (As := As.map (val K)) (b := kZ K + ix n) (index := idx) (host := host) (bytes := c1) (maxL := n1) (n := na) (Ts := tblG) ⟨hB.1, hB.2.1, hB.2.2.1, hB.2.2.2.1, hts⟩ hMM ⟨va_cnB na hts (good_code w3) rfl hc.1 hc.2 (va_Nw.warmM hB.2.2.2.2.2.1.1 hw) (hts _ w2) ⟨w5.1.1, w5.1.2, w5.2⟩ (by rw [hRR]; exact hR), hy, hts _ hin⟩
    ⟨world_blind, world_pre hB cp a b zs⟩ rfl (by rw [List.length_map]; exact hn) (by rw [dd.1]; exact hB.2.2.1) ?_ (lv_room ?_) d (by rw [hRR]; exact hf)
  · show (As.reverse ++ vr n :: st).map (val K) = _
    rw [List.map_append, List.map_reverse, List.map_cons, val_ref hn64]
  · rw [List.map_map]
    rw [show (fun v : Value => v.category) ∘ val K = catL from funext (fun v => val_cat K v)]
    exact hst
end BUILD
/-! Arrays.fill while the world is made -/
def flM (M : Mem) (n len : Nat) (x : Int32) : Mem := (fun q k => if q = n ∧ k < len then x else M.1 q k, M.2.1, M.2.2.1, M.2.2.2)
theorem Zr.fl {M : Mem} (h : Zr M) {n len : Nat} {x : Int32} (hn : n < 64 + M.2.2.2) : Zr (flM M n len x) := by
  intro q hq j
  have hq1 : 64 + M.2.2.2 ≤ q := hq
  obtain ⟨h1, h2, h3⟩ := h q hq1 j
  refine ⟨?_, h2, h3⟩
  show (if q = n ∧ j < len then x else M.1 q j) = 0
  rw [if_neg (by omega)]
  exact h1
theorem flM_0 (M : Mem) (n : Nat) (x : Int32) : flM M n 0 x = M := by
  unfold flM
  have e : (fun q k => if q = n ∧ k < 0 then x else M.1 q k) = M.1 := funext (fun q => funext (fun k => if_neg (by omega)))
  rw [e]
theorem flM_s (M : Mem) (n j : Nat) (x : Int32) : flM M n (j + 1) x = setI (flM M n j x) n j x := by
  unfold flM setI
  congr 1
  funext q k
  show (if q = n ∧ k < j + 1 then x else M.1 q k) = if q = n ∧ k = j then x else if q = n ∧ k < j then x else M.1 q k
  by_cases c : q = n ∧ k = j
  · rw [if_pos c, if_pos ⟨c.1, by omega⟩]
  · rw [if_neg c]
    by_cases c2 : q = n ∧ k < j
    · rw [if_pos c2, if_pos ⟨c2.1, by omega⟩]
    · rw [if_neg c2, if_neg (fun z => c2 ⟨z.1, by omega⟩)]
set_option maxRecDepth 100000 in
set_option maxHeartbeats 4000000 in
theorem k_fill {K : Kt} {l : Launch} {n len : Nat} {x v : Int32} {M : Mem} (hs : shc n = 20) (hl : shl n = len) (hv : Int32.ofNat len = v) (hl2 : len < 5000) (hm : n - 64 < M.2.2.2) : MT K l yJ7_fill_53178 cJ7_fill_53178 4 none { frames := 0, cells := 0, slots := 0, locals := 0 } [vr n, vi x] M none (flM M n len x) 0 0 := by
  subst hv
  refine MT_of (by decide) rfl (Nat.le_of_ble_eq_true rfl) (fun X _ hB _ => ?_)
  have loop : ∀ f j, len - j = f → j ≤ len → Wt K X (QM K X none (flM M n len x) 0 0) 0 0 (flM M n j x) 5 [(3, vi (nI len)), (2, vi (nI j)), (0, vr n), (1, vi x)] [] := by
    intro f
    induction f with
    | zero =>
      intro j h1 h2
      have e : j = len := by omega
      subst e
      refine w_iload_n hB 1 dJ7_fill_53178_5 rfl rfl ?_
      refine w_iload_n hB 0 dJ7_fill_53178_6 rfl rfl ?_
      refine w_icmp_ge hB 20 dJ7_fill_53178_7 (by decide) (fun hc => ?_) (fun hc => absurd (Int32.le_refl _) hc)
      exact w_vret hB dJ7_fill_53178_20
    | succ f ih =>
      intro j h1 h2
      refine w_iload_n hB 1 dJ7_fill_53178_5 rfl rfl ?_
      refine w_iload_n hB 0 dJ7_fill_53178_6 rfl rfl ?_
      refine w_icmp_ge hB 20 dJ7_fill_53178_7 (by decide) (fun hc => absurd hc (nI_ge (by omega) (by omega))) (fun hc => ?_)
      refine w_aload_n hB 2 dJ7_fill_53178_10 rfl rfl ?_
      refine w_iload_n hB 1 dJ7_fill_53178_11 rfl rfl ?_
      refine w_iload_n hB 3 dJ7_fill_53178_12 rfl rfl ?_
      refine w_iast (M1 := flM M n (j + 1) x) hB (smM hs (by decide) hm) (sl_s hs (by decide) hl) (inb_nI (by omega) (by omega)) (by rw [nI_clamp (by omega)]; exact flM_s M n j x) dJ7_fill_53178_13 ?_
      refine w_iinc hB 1 (v := 1) (L' := [(2, vi (nI (j + 1))), (3, vi (nI len)), (0, vr n), (1, vi x)]) dJ7_fill_53178_14 rfl (by decide) (by decide) (nI_1 j).symm rfl ?_
      refine w_goto hB 5 dJ7_fill_53178_17 (by decide) ?_
      exact Wt.sub (L' := [(3, vi (nI len)), (2, vi (nI (j + 1))), (0, vr n), (1, vi x)]) [1, 0, 2, 3] rfl (ih (j + 1) (by omega) (by omega))
  refine w_iconst hB 0 (by decide) dJ7_fill_53178_0 ?_
  refine w_istore_n hB (L' := [(2, vi 0), (0, vr n), (1, vi x)]) dJ7_fill_53178_1 rfl (by decide) rfl rfl ?_
  refine w_aload_n hB 1 dJ7_fill_53178_2 rfl rfl ?_
  refine w_alen hB (v := nI len) (c := 0) (smM hs (by decide) hm) (by decide) (sl_s hs (by decide) hl) rfl dJ7_fill_53178_3 ?_
  refine w_istore_n hB (L' := [(3, vi (nI len)), (2, vi 0), (0, vr n), (1, vi x)]) dJ7_fill_53178_4 rfl (by decide) rfl rfl ?_
  have h := loop len 0 (by omega) (by omega)
  rw [flM_0] at h
  exact h
