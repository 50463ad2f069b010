/-! MORE ROWS: what the string builder's and the law's code wants -/
/-- row n copied to row m -/
def cpRow (n m : Nat) (M : Mem) : Mem := (fun a => if a = m then M.1 n else M.1 a, M.2.1, M.2.2.1, M.2.2.2)
theorem cpRow_n {n m a : Nat} {M : Mem} (h : a ≠ m) : (cpRow n m M).1 a = M.1 a := if_neg h
theorem cpRow_s {n m : Nat} {M : Mem} : (cpRow n m M).1 m = M.1 n := if_pos rfl
theorem cpRow_q {n m a : Nat} {M : Mem} : shq (cpRow n m M) a = shq M a ∧ slq (cpRow n m M) a = slq M a := ⟨rfl, rfl⟩
theorem wd_app {K : Kt} {M M1 : Mem} {n : Nat} (hn : pa M.2.2.2 = n) (hc : M1.2.2.2 = M.2.2.2 + 1) (he : ∀ q, Rl q → q ≠ n → ent K M1 q = ent K M q) : wd K M1 = wd K M ++ [(kZ K + M.2.2.2, ent K M1 n)] := by
  unfold wd
  rw [hc, List.range_succ, List.map_append]
  congr 1
  · refine List.map_congr_left (fun k hk => ?_)
    have hk2 := List.mem_range.mp hk
    rw [he (pa k) (pa_r k) (fun z => by
      have z2 := congrArg ix (z.trans hn.symm)
      rw [ix_pa, ix_pa] at z2
      omega)]
  · rw [List.map_cons, List.map_nil, hn]
section DYNR
variable {K : Kt} {X : Xt} {Q : State → Prop} {ce sl : Nat} {M : Mem} {pc : Nat} {L L' : List (Nat × Lv)} {st : List Lv} {rm : Room} {cc : ByteArray} {nL : Nat} {own : String} {ret : Option FieldType}
theorem w_dupx1 (hB : Bx K X rm cc nL own ret) {u v : Lv} (hv : catL v = 1) (hu : catL u = 1) (d : decode cc pc = .ok (.dup_x1, 1)) (k : Wt K X Q ce sl M (pc + 1) L (v :: u :: v :: st)) : Wt K X Q ce sl M pc L (v :: u :: st) := Wt.lift (fun H locs ls _ => lv_dup_x1 hB.1 hB.2.1 d ((val_cat K v).trans hv) ((val_cat K u).trans hu)) k
theorem w_null (hB : Bx K X rm cc nL own ret) (d : decode cc pc = .ok (.aconst_null, 1)) (k : Wt K X Q ce sl M (pc + 1) L (vr 0 :: st)) : Wt K X Q ce sl M pc L st := Wt.lift (fun H locs ls _ => lv_null hB.1 hB.2.1 d) k
theorem w_ifnn (hB : Bx K X rm cc nL own ret) {n : Nat} {off : Int} (tgt : Nat) (hn : Rl n ∨ Cc n) (d : decode cc pc = .ok (.ifnonnull off, 3)) (ht : (pc : Int) + off = (tgt : Int)) (k : Wt K X Q ce sl M tgt L st) : Wt K X Q ce sl M pc L (vr n :: st) := by
  refine Wt.lift (fun H locs ls _ kk => ?_) k
  rw [List.map_cons]
  rcases hn with hn | hn
  · rw [val_ref hn]; exact lv_ifnonnull hB.1 hB.2.1 d ht kk
  · rw [val_con hn]; exact lv_ifnonnull hB.1 hB.2.1 d ht kk
theorem CRp_Rd {n k x : Nat} (h1 : 1000 ≤ n) (h : CRp K M) : CRp K (setR M n k x) := CRp_R (cr_big h1) h
/-- a field of references in a cell made later -/
theorem w_putRd (hB : Bx K X rm cc nL own ret) {ci k n idx x : Nat} {rf nm ds : String} {M1 : Mem} {ty : FieldType} (ff : FF ci k 2 rf nm ds false) (hs : O3 K M n (ci + 1)) (h1 : 1000 ≤ n) (hl : Cond.fieldLink own idx rf nm ds ∈ tblG) (hd : parseFieldDescriptor ds = some ty) (hn : narrow ty (va_rf (rn K x)) = va_rf (rn K x)) (hf : fits ty (va_rf (rn K x)) = true) (e : M1 = setR M n k x) (d : decode cc pc = .ok (.putfield idx, 3)) (kk : Wt K X Q ce sl M1 (pc + 3) L st) : Wt K X Q ce sl M pc L (vr x :: vr n :: st) := by
  subst e
  exact w_putf (M1 := setR M n k x) hB ff hs hl (ty := ty) hd hn hf rfl (shq_R hs.1) flds_R (fun q h => ent_R hs.1 h) (CRp_Rd h1) d kk
/-- a copy of an array -/
theorem w_clone (hB : Bx K X rm cc nL own ret) (hp : kP K = false) {c n len idx : Nat} {ad : String} {ty : FieldType} {M1 : Mem} (hc : c < 3) (hty : (tysK K)[c]? = some (kY K c, ty)) (hs : O3 K M n (20 + c)) (hl : slq M n = len) (e : M1 = cpRow n (nn M) (nwA (20 + c) len len M))
    (hfit : ∀ i : Nat, i < len → fits ty (.int (M.1 n i)) = true) (hnm : (xS X).vm.findClass ad = some (kY K c))
    (hlk : Cond.methodLink own idx ⟨ad, "clone", "()Ljava/lang/Object;"⟩ ∈ tblG) (hsame : Cond.sameMethod ad "java/lang/Object" "clone" "()Ljava/lang/Object;" ∈ tblG) (hnat : Cond.native ⟨"java/lang/Object", "clone", "()Ljava/lang/Object;"⟩ ∈ tblG) (hinst : Cond.instanceMethod ⟨"java/lang/Object", "clone", "()Ljava/lang/Object;"⟩ ∈ tblG) (hsel : Cond.selects ad ⟨ad, "clone", "()Ljava/lang/Object;"⟩ ⟨"java/lang/Object", "clone", "()Ljava/lang/Object;"⟩ ∈ tblG) (hcl : va_Nw (.castable ad "java/lang/Cloneable") (xS X))
    (hfr : 1 ≤ rm.frames) (hlo : (st.map catL).sum + 14 ≤ rm.locals) (hr : ce + 1 ≤ rm.cells ∧ sl + len ≤ rm.slots) (d : decode cc pc = .ok (.invokevirtual idx, 3)) (kk : Wt K X Q (ce + 1) (sl + len) M1 (pc + 3) L (vr (nn M) :: st)) : Wt K X Q ce sl M pc L (vr n :: st) := by
  subst hl
  intro cp H locs ls a b z dd
  refine w_sz hB a b z (fun zs => ?_)
  have hts := hB.2.2.2.2.1
  have hRR : X.2.2.2.1 = rm := hB.2.2.2.2.2.2.2.2
  obtain ⟨g1, g2⟩ := nn_r (cp hp).1
  have hix := hs.2.2 cp
  have e0 := wd_get (K := K) (M := M) hs.1 hix
  rw [ent_arr (c := c) hs.2.1 hc] at e0
  have hne : n ≠ nn M := fun h => by
    have : ix n = M.2.2.2 := by rw [h, ← g1, ix_pa]
    omega
  obtain ⟨N, hN⟩ : ∃ N, N = nwA (20 + c) (slq M n) (slq M n) M := ⟨_, rfl⟩
  obtain ⟨m, hm⟩ : ∃ m, m = nn M := ⟨_, rfl⟩
  obtain ⟨s1, s2⟩ := nwA_O (c := 20 + c) (len := slq M n) (s := slq M n) (M := M) (cp hp).1
  have c0 := cp_nwA (c := 20 + c) (len := slq M n) (s := slq M n) cp
  have i0 : (nwA (20 + c) (slq M n) (slq M n) M).1 n = M.1 n := nwA_I hne
  have en : ∀ q, Rl q → q ≠ nn M → ent K (nwA (20 + c) (slq M n) (slq M n) M) q = ent K M q := fun q hq h => ent_nwA hq h
  have cn0 : (nwA (20 + c) (slq M n) (slq M n) M).2.2.2 = M.2.2.2 + 1 := nwA_cn
  rw [← hN] at s1 s2 e c0 i0 en cn0
  rw [← hm] at s1 s2 e en g1 kk hne
  have eM : ent K M1 m = .inl (kY K c, slq M n, .inl (M.1 n)) := by
    rw [e, ent_arr (M := cpRow n m N) (c := c) (cpRow_q.1.trans s1) hc, cpRow_q.2, s2, cpRow_s, i0]
  have eo : ∀ q, Rl q → q ≠ m → ent K M1 q = ent K M q := fun q hq h => by
    rw [← en q hq h, e]
    exact ent_cg cpRow_q.1 cpRow_q.2 (cpRow_n h) rfl rfl
  have ecp : CRp K M1 := by
    rw [e]
    exact c0
  have ecn : M1.2.2.2 = M.2.2.2 + 1 := by rw [e]; exact cn0
  rw [List.map_cons, val_ref hs.1]
  refine va_clone (tys := tysK K) hB.1 hB.2.1 (by rw [dd.1]) hB.2.2.2.1 (hts _ hlk) (hts _ hsame) (hts _ hnat) (hts _ hinst) (hts _ hsel) hcl (hB.2.2.2.2.2.1).K a (wd_D K M) b (fun q hq => Nat.le_trans (hB.2.2.2.2.2.1).2.1 hq) (ix n) c (ty := ty) e0 hty hnm ?_ (by rw [hRR]; exact hfr) ?_ (by rw [hRR]; exact hr.1) (by rw [hRR]; exact hr.2) d ?_
  · intro i v hv
    have hv' : (arrV (kY K c) (slq M n) (fun j => Value.int (M.1 n j))).slots[i]? = some v := hv
    have hi : i < slq M n := by
      have h1 := (Array.getElem?_eq_some_iff.mp hv').1
      rw [arrV_size] at h1
      exact h1
    rw [arrV_read _ _ hi] at hv'
    rw [← Option.some.inj hv']
    exact hfit i hi
  · rw [List.map_map, show (fun v : Value => v.category) ∘ val K = catL from funext (fun v => val_cat K v), hRR]
    exact hlo
  · intro q H1 _ p1 d1 b1
    intro T hT X0
    have h1 := X0.heapSize
    rw [hT] at h1
    have h5 : H1.size ≤ (xS X).heap.size + (ce + 1) := h1
    have lq : (wd K M ++ [(q, (Sum.inl (kY K c, slq M n, .inl (M.1 n)) : va_E))])[M.2.2.2]? = some (q, .inl (kY K c, slq M n, .inl (M.1 n))) := by
      rw [List.getElem?_append_right (by rw [wd_len]; exact Nat.le_refl _), wd_len, Nat.sub_self]
      rfl
    have q1 : q < H1.size := (p1 _ _ lq).lt
    have q2 : kZ K ≤ q := d1.2 _ _ lq
    have q3 : q = kZ K + M.2.2.2 := by
      rcases Nat.lt_or_ge q (kZ K + M.2.2.2) with w | w
      · exfalso
        have e2 := wd_get (K := K) (M := M) (n := pa (q - kZ K)) (pa_r _) (by rw [ix_pa]; omega)
        rw [ix_pa] at e2
        have lt : q - kZ K < (wd K M).length := by rw [wd_len]; omega
        have e3 : (wd K M ++ [(q, (Sum.inl (kY K c, slq M n, .inl (M.1 n)) : va_E))])[q - kZ K]? = some (kZ K + (q - kZ K), ent K M (pa (q - kZ K))) := by
          rw [List.getElem?_append_left lt]; exact e2
        have := d1.1 _ _ _ _ e3 lq (by show kZ K + (q - kZ K) = q; omega)
        omega
      · omega
    subst q3
    rw [← eM, ← wd_app g1 ecn eo] at p1
    have k1 := kk ecp H1 locs ls p1 b1 (by rw [ecn]; omega) dd
    rw [List.map_cons, val_ref (by rw [← g1]; exact pa_r _), show kZ K + ix m = kZ K + M.2.2.2 by rw [← g1, ix_pa]] at k1
    exact k1 T hT X0
end DYNR
