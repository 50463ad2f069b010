/-! MORE ROWS: constants' bytes copied, rows of digits, final fields of later cells -/
/-- a stretch of a constant row into a cell -/
def cpK (f : Nat → Int32) (b sp dp n : Nat) (M : Mem) : Mem := (fun q => if q = b then va_cpy f (M.1 b) sp dp n else M.1 q, M.2.1, M.2.2.1, M.2.2.2)
theorem cpK_n {f : Nat → Int32} {b sp dp n q : Nat} {M : Mem} (h : q ≠ b) : (cpK f b sp dp n M).1 q = M.1 q := if_neg h
theorem cpK_s {f : Nat → Int32} {b sp dp n : Nat} {M : Mem} : (cpK f b sp dp n M).1 b = va_cpy f (M.1 b) sp dp n := if_pos rfl
section DYNS
variable {K : Kt} {X : Xt} {Q : State → Prop} {ce sl : Nat} {M : Mem} {pc : Nat} {L L' : List (Nat × Lv)} {st : List Lv} {rm : Room} {cc : ByteArray} {nL : Nat} {own : String} {ret : Option FieldType}
theorem w_cpk (hB : Bx K X rm cc nL own ret) {n0 b la lb : Nat} {f : Nat → Int32} {sp dp n : Int32} {idx : Nat} {M1 : Mem} (hc : Cc n0) (hT : va_T .byte (kA K n0) la (fun j => .int (f j)) (kF K) (kS K) (kS K).heap) (hb : O3 K M b 22) (hlb : slq M b = lb) (h1 : ¬ sp < 0) (h2 : ¬ dp < 0) (h3 : ¬ n < 0) (h4 : sp.toNatClampNeg + n.toNatClampNeg ≤ la) (h5 : dp.toNatClampNeg + n.toNatClampNeg ≤ lb) (hfit : ∀ i : Nat, i < n.toNatClampNeg → fits .byte (.int (f (sp.toNatClampNeg + i))) = true) (hl : Cond.methodLink own idx ⟨"java/lang/System", "arraycopy", "(Ljava/lang/Object;ILjava/lang/Object;II)V"⟩ ∈ tblG) (e : M1 = cpK f b sp.toNatClampNeg dp.toNatClampNeg n.toNatClampNeg M) (d : decode cc pc = .ok (.invokestatic idx, 3))
    (hfr : 1 ≤ rm.frames) (hlo : (st.map catL).sum + 18 ≤ rm.locals) (kk : Wt K X Q ce sl M1 (pc + 3) L st) : Wt K X Q ce sl M pc L (vi n :: vi dp :: vr b :: vi sp :: vr n0 :: st) := by
  subst e
  intro cp H locs ls hP hS z dd
  have hts := hB.2.2.2.2.1
  have hRR : X.2.2.2.1 = rm := hB.2.2.2.2.2.2.2.2
  have e1 := wd_get (K := K) (M := M) hb.1 (hb.2.2 cp)
  rw [ent_arr (c := 2) hb.2.1 (by decide)] at e1
  rw [List.map_cons, List.map_cons, List.map_cons, List.map_cons, List.map_cons, val_con hc, val_ref hb.1]
  refine vk_copyt (tys := tysK K) hB.1 hB.2.1 (by rw [dd.1]) hB.2.2.2.1 (hts _ hl) (hts _ q_natc) (hts _ q_stac) (hts _ q_inis) (hB.2.2.2.2.2.1).K hP (wd_D K M) hS (old_T hB.2.2.2.2.2.1 hT) (ix b) 2 e1 rfl h1 h2 h3 h4 (by rw [hlb]; exact h5) hfit (by rw [hRR]; exact hfr) ?_ d ?_
  · rw [List.map_map, show (fun v : Value => v.category) ∘ val K = catL from funext (fun v => val_cat K v), hRR]
    exact hlo
  · intro H1 locs1 p1 _ s1
    rw [wd_set (K := K) (M := M) (M1 := cpK f b sp.toNatClampNeg dp.toNatClampNeg n.toNatClampNeg M) rfl hb.1 (hb.2.2 cp) ?_ (fun q h => ent_cg rfl rfl (cpK_n h) rfl rfl)] at p1
    · exact kk cp H1 locs1 ls p1 s1 z dd
    · rw [ent_arr (M := cpK f b sp.toNatClampNeg dp.toNatClampNeg n.toNatClampNeg M) (c := 2) (show shq (cpK f b sp.toNatClampNeg dp.toNatClampNeg n.toNatClampNeg M) b = _ from hb.2.1) (by decide), cpK_s]
      rfl
theorem kd_row (hp : St K) {n : Nat} (hn : n = 480 ∨ n = 481) : va_Z "java/lang/Integer" (dgN n) "[B" (.ref (kA K n)) (kF K) (kS K) (kS K).heap ∧ va_T .byte (kA K n) 100 (fun j => .int (dgt n j)) (kF K) (kS K) (kS K).heap := hp.2.2.2.2.2.2.2.2.2.2 n hn
theorem w_getdg (hB : Bx K X rm cc nL own ret) (hp : St K) {idx : Nat} {nm : String} (n : Nat) (hn : (n = 480 ∨ n = 481) ∧ dgN n = nm) (hl : Cond.fieldLink own idx "java/lang/Integer" nm "[B" ∈ tblG) (d : decode cc pc = .ok (.getstatic idx, 3)) (k : Wt K X Q ce sl M (pc + 3) L (vr n :: st)) : Wt K X Q ce sl M pc L st := by
  intro cp H locs ls a b z dd
  have hz := (kd_row hp hn.1).1
  rw [hn.2] at hz
  refine va_gets hB.1 hB.2.1 (old_Z hB.2.2.2.2.2.1 hz) b hB.2.2.2.1 (hB.2.2.2.2.1 _ hl) (fun _ h => h) d ?_
  have kk := k cp H locs ls a b z dd
  have hc : Cc n := by unfold Cc; omega
  rw [List.map_cons, val_con hc] at kk
  exact kk
theorem w_dgbald (hB : Bx K X rm cc nL own ret) (hp : St K) {n : Nat} {i : Int32} (hn : n = 480 ∨ n = 481) (hin : inb i 100) (d : decode cc pc = .ok (.baload, 1)) (k : Wt K X Q ce sl M (pc + 1) L (vi (dgt n i.toNatClampNeg) :: st)) : Wt K X Q ce sl M pc L (vi i :: vr n :: st) := by
  intro cp H locs ls a b z dd
  have hc : Cc n := by unfold Cc; omega
  rw [List.map_cons, List.map_cons, val_con hc]
  exact va_tb hB.1 hB.2.1 (old_T hB.2.2.2.2.2.1 (kd_row hp hn).2) b hin rfl d (k cp H locs ls a b z dd)
/-- a final field, of a cell made later, in its constructor -/
theorem w_putFd (hB : Bx K X rm cc nL own ret) {ci k t n idx : Nat} {nm ds : String} {v : Lv} {M1 : Mem} {ty : FieldType} (ff : FF ci k t own nm ds true) (hi : X.2.2.2.2.2.2.2.2.1.name = "<init>") (hs : O3 K M n (ci + 1)) (hl : Cond.fieldLink own idx own nm ds ∈ tblG) (hd : parseFieldDescriptor ds = some ty) (hn : narrow ty (val K v) = val K v) (hf : fits ty (val K v) = true)
    (hM1 : M1.2.2.2 = M.2.2.2) (hq : shq M1 n = shq M n) (hset : (kd ci)[k]? = some t → (flds K M n ci).set k (val K v) = flds K M1 n ci) (ho : ∀ q, q ≠ n → ent K M1 q = ent K M q) (hcr : CRp K M → CRp K M1) (d : decode cc pc = .ok (.putfield idx, 3)) (kk : Wt K X Q ce sl M1 (pc + 3) L st) : Wt K X Q ce sl M pc L (v :: vr n :: st) := by
  have hci := ff.lt
  obtain ⟨C, T, N, ty0, hc, hin, hk, hkt, hT, hty, hnm, hlen⟩ := ff
  intro cp H locs ls a b z dd
  rw [List.map_cons, List.map_cons, val_ref hs.1]
  have hts := hB.2.2.2.2.1
  have hap := va_apart (own := own) hts hin ty0 hty hnm (hB.2.2.2.2.2.1).K hc
  obtain ⟨r, h1, cell, q1, q2, q3, q4⟩ := a (ix n) _ (wd_obj hs hci cp)
  have hr : r = (C, T, N) := Option.some.inj (h1.symm.trans hc)
  subst hr
  obtain ⟨hS, hfc, kC, hkC, hkind⟩ := (hB.2.2.2.2.2.1).K.1 ci _ hc
  obtain ⟨cf, kf, fi, f, hfi, hsl⟩ := hS k hk
  have hi2 : (xS X).fieldFound? (T k).1 (T k).2.1 (T k).2.2.1 = some (cf, kf, fi, f) := hfi
  rw [hT] at hi2
  have hlay := hts _ (hin _ (u_in_lay hk))
  unfold u_lay at hlay
  rw [if_pos (by rw [hT])] at hlay
  have hst := (u_facts hfc hkC (u_lays hts hin hk) hfi).1
  have hcf : (xM X).cls = cf := by
    obtain ⟨_, _, c', _, _, _, -, -, hf', -, -, -, hown2, -⟩ := Cond.laysFinal_spec hlay
    have e1 : c' = cf := by
      have h9 := hfi.symm.trans hf'
      simp at h9
      exact h9.1.symm
    rw [hT] at hown2
    rw [← e1]
    exact Option.some.inj (hB.2.2.2.1.symm.trans hown2)
  have h6 := u_fits hfc hkC hkind (Or.inr hlay) hfi (by rw [hT]; exact hd) hn hf
  refine W.putFinK (ref := own) (name := nm) (desc := ds) hB.1 hB.2.1 hB.2.2.2.1 (hts _ hl) hi2 hst hcf hi (by rw [q2]; exact h6) q1 q3 (by rw [hsl]; exact k2_hasslot (q4 k hk)) rfl rfl d fun H' e1 e2 e3 => ?_
  rw [hsl] at e1
  refine Wt.wr (M1 := M1) hB hs.1 (hs.2.2 cp) hM1 ho (hcr cp) a b z dd kk ?_ e2 e3
  rw [ent_obj (M := M1) (hq.trans hs.2.1) hci, ← hset hkt]
  exact ⟨_, hc, t_OB.to (V := updV (vp_V (flds K M n ci)) k (val K v)) ⟨_, e1, q2, q3, t_set q4 hap hk (val K v)⟩ (fun j _ => vp_updV_set (by rw [flds_len, hlen]; exact hk) (val K v) j)⟩
theorem w_putRFd (hB : Bx K X rm cc nL own ret) {ci k n idx x : Nat} {nm ds : String} {M1 : Mem} {ty : FieldType} (ff : FF ci k 2 own nm ds true) (hi : X.2.2.2.2.2.2.2.2.1.name = "<init>") (hs : O3 K M n (ci + 1)) (h1 : 1000 ≤ n) (hl : Cond.fieldLink own idx own nm ds ∈ tblG) (hd : parseFieldDescriptor ds = some ty) (hn : narrow ty (va_rf (rn K x)) = va_rf (rn K x)) (hf : fits ty (va_rf (rn K x)) = true) (e : M1 = setR M n k x) (d : decode cc pc = .ok (.putfield idx, 3)) (kk : Wt K X Q ce sl M1 (pc + 3) L st) : Wt K X Q ce sl M pc L (vr x :: vr n :: st) := by
  subst e
  exact w_putFd (M1 := setR M n k x) hB ff hi hs hl (ty := ty) hd hn hf rfl (shq_R hs.1) flds_R (fun q h => ent_R hs.1 h) (CRp_Rd h1) d kk
theorem w_putIFd (hB : Bx K X rm cc nL own ret) {ci k n idx : Nat} {x : Int32} {nm ds : String} {M1 : Mem} {ty : FieldType} (ff : FF ci k 0 own nm ds true) (hi : X.2.2.2.2.2.2.2.2.1.name = "<init>") (hs : O3 K M n (ci + 1)) (hl : Cond.fieldLink own idx own nm ds ∈ tblG) (hd : parseFieldDescriptor ds = some ty) (hn : narrow ty (.int x) = .int x) (hf : fits ty (.int x) = true) (e : M1 = setI M n k x) (d : decode cc pc = .ok (.putfield idx, 3)) (kk : Wt K X Q ce sl M1 (pc + 3) L st) : Wt K X Q ce sl M pc L (vi x :: vr n :: st) := by
  subst e
  exact w_putFd (M1 := setI M n k x) hB ff hi hs hl (ty := ty) hd hn hf rfl rfl flds_I (fun q h => ent_I h) (CRp_I) d kk
theorem w_putIN (hB : Bx K X rm cc nL own ret) {ci k n idx : Nat} {x : Int32} {rf nm ds : String} {M1 : Mem} {ty : FieldType} (ff : FF ci k 0 rf nm ds false) (hs : O3 K M n (ci + 1)) (hl : Cond.fieldLink own idx rf nm ds ∈ tblG) (hd : parseFieldDescriptor ds = some ty) (hn : narrow ty (.int x) = .int x) (hf : fits ty (.int x) = true) (e : M1 = setI M n k x) (d : decode cc pc = .ok (.putfield idx, 3)) (kk : Wt K X Q ce sl M1 (pc + 3) L st) : Wt K X Q ce sl M pc L (vi x :: vr n :: st) := by
  subst e
  exact w_putf (M1 := setI M n k x) hB ff hs hl (ty := ty) hd hn hf rfl rfl flds_I (fun q h => ent_I h) (CRp_I) d kk
end DYNS
